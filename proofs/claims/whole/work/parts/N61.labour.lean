/-! labour, clear, trace -/
section LABOUR
variable {told lst off : Nat → Prop} {lim : Nat → Int} {nW : Nat} {V kd M' : Nat → Int} {us : Nat → Nat → Int} {wi : Int32} {it le gof li va kn mo wo : Nat → Int32} {u : Nat → Nat → Int32} {nG : Nat} {gl : Nat → Nat} {ga wi' : Int32} {lt ls ca go wr kn' mo' wf ue : Nat → Int32}
noncomputable def usN (us : Nat → Nat → Int) (w : Nat) : Int := ssum (fun l => ind (0 < us w l)) 5
noncomputable def narN (us : Nat → Nat → Int) (nW : Nat) : Int := ssum (fun w => ind (¬ 1 < usN us w)) nW
noncomputable def unpN (kd : Nat → Int) (nW : Nat) : Int := ssum (fun w => ind (kd w ≠ 0)) nW
theorem ind_sum_b (p : Nat → Prop) (n : Nat) : 0 ≤ ssum (fun l => ind (p l)) n ∧ ssum (fun l => ind (p l)) n ≤ n := by
  have := ssum_nn (f := fun l => ind (p l)) (B := 1) n (fun j _ => ind_b _)
  omega
theorem le0_iI {x : Int} (h : rI x) : iI x ≤ (0 : Int32) ↔ ¬ 0 < x := by
  rw [iI_0, iI_le h (by unfold rI; omega)]
  omega
theorem sp_narrow (C : TC told lst off lim nW V kd M' us wi it le gof li va kn mo wo u) {post : Int32 → Prop} (h : post (iI (narN us nW))) : wp_X4_narrowWishes wi u post := by
  obtain ⟨c1, c2, c3, c4, c5⟩ := C
  subst c1
  unfold wp_X4_narrowWishes
  refine pk_loop (σ := Int32) (fun n i s => wl_X4_narrowWishes_4 (nI nW) u _ post n s (nI i)) (fun i s => s = iI (ssum (fun w => ind (¬ 1 < usN us w)) i)) nW 0 0 (by omega) rfl (fun n s hs => ?_) (fun n i s hi hs kk => ?_)
  · show ws_X4_narrowWishes_4 _ _ _ _ _ _ _
    unfold ws_X4_narrowWishes_4
    subst hs
    exact br_t (nI_le (Nat.le_refl _) (by omega)) h
  · show ws_X4_narrowWishes_4 _ _ _ _ _ _ _
    unfold ws_X4_narrowWishes_4
    subst hs
    have ci : (nI i).toNatClampNeg = i := nI_clamp (by omega)
    refine br_f (nI_ge hi (by omega)) ?_
    refine pk_loop (σ := Int32) (fun n k s => wl_X4_narrowWishes_17 _ (nI i) (nI nW) u _ post n s (nI k)) (fun k s => s = iI (ssum (fun l => ind (0 < us i l)) k)) 5 0 0 (by omega) rfl (fun n2 s hs => ?_) (fun n2 k s hk hs kk2 => ?_)
    · show ws_X4_narrowWishes_17 _ _ _ _ _ _ _ _ _
      unfold ws_X4_narrowWishes_17
      subst hs
      have ib := ind_sum_b (fun l => 0 < us i l) 5
      refine br_t (by decide) ?_
      (try dsimp only)
      unfold wj_X4_narrowWishes_63
      have e1 : (1 : Int32) < iI (ssum (fun l => ind (0 < us i l)) 5) ↔ 1 < usN us i := by
        rw [show (1 : Int32) = iI 1 from rfl, iI_lt (by unfold rI; omega) (by unfold rI; omega)]
        exact Iff.rfl
      rw [e1, nI_1 i]
      refine br_c (fun z => sp_bit (fun r r0 r1 => ?_)) (fun z => sp_bit (fun r r0 r1 => ?_))
      · rw [i01 (p := ¬ 1 < usN us i) (Or.inl ⟨r0 rfl, fun y => y z⟩)]
        exact kk _ rfl
      · rw [i01 (p := ¬ 1 < usN us i) (Or.inr ⟨r1 (by decide), z⟩)]
        exact kk _ rfl
    · show ws_X4_narrowWishes_17 _ _ _ _ _ _ _ _ _
      unfold ws_X4_narrowWishes_17
      subst hs
      have ck : (nI k).toNatClampNeg = k := nI_clamp (by omega)
      have b1 := (c4 i (by omega)).2.2.2.2.2.2.2.2.2.2 k hk
      refine br_f (nI_ge (b := 5) hk (by omega)) ⟨vp_in_nI (by omega) (by omega), vp_in_nI (by omega) (by omega), ?_⟩
      unfold wj_X4_narrowWishes_41
      rw [ci, ck, b1.1, le0_iI (by unfold rI; omega), nI_1 k]
      refine br_c (fun z => sp_bit (fun r r0 r1 => ?_)) (fun z => sp_bit (fun r r0 r1 => ?_))
      · rw [i01 (p := 0 < us i k) (Or.inl ⟨r0 rfl, z⟩)]
        exact kk2 _ rfl
      · rw [i01 (p := 0 < us i k) (Or.inr ⟨r1 (by decide), Classical.byContradiction z⟩)]
        exact kk2 _ rfl
theorem sp_unparted (C : TC told lst off lim nW V kd M' us wi it le gof li va kn mo wo u) {post : Int32 → Prop} (h : post (iI (unpN kd nW))) : wp_X4_unpartedWishes wi kn post := by
  obtain ⟨c1, c2, c3, c4, c5⟩ := C
  subst c1
  unfold wp_X4_unpartedWishes
  refine pk_loop (σ := Int32) (fun n i s => wl_X4_unpartedWishes_4 (nI nW) kn _ post n s (nI i)) (fun i s => s = iI (ssum (fun w => ind (kd w ≠ 0)) i)) nW 0 0 (by omega) rfl (fun n s hs => ?_) (fun n i s hi hs kk => ?_)
  · show ws_X4_unpartedWishes_4 _ _ _ _ _ _ _
    unfold ws_X4_unpartedWishes_4
    subst hs
    exact br_t (nI_le (Nat.le_refl _) (by omega)) h
  · show ws_X4_unpartedWishes_4 _ _ _ _ _ _ _
    unfold ws_X4_unpartedWishes_4
    subst hs
    have ci : (nI i).toNatClampNeg = i := nI_clamp (by omega)
    obtain ⟨_, _, _, _, k1, k2, k3, _⟩ := c4 i (by omega)
    refine br_f (nI_ge hi (by omega)) ⟨vp_in_nI (by omega) (by omega), ?_⟩
    unfold wj_X4_unpartedWishes_27
    rw [ci, k1, iI_0, iI_eq (by unfold rI; omega) (by unfold rI; omega), nI_1 i]
    refine br_c (fun z => sp_bit (fun r r0 r1 => ?_)) (fun z => sp_bit (fun r r0 r1 => ?_))
    · rw [i01 (p := kd i ≠ 0) (Or.inl ⟨r0 rfl, fun y => y z⟩)]
      exact kk _ rfl
    · rw [i01 (p := kd i ≠ 0) (Or.inr ⟨r1 (by decide), z⟩)]
      exact kk _ rfl
/-- the answer of labour, and what is traced -/
noncomputable def LBr (told off : Nat → Prop) (nW nG : Nat) (kd : Nat → Int) (us : Nat → Nat → Int) (wo : Nat → Int32) (x1 : Int32) : Int32 :=
  if x1 = 0 then nI nG + nI nW + 1
  else if x1 = 1 then nI nG + nI nW + 1 - iI (narN us nW)
  else if x1 = 2 then nI nG + nI nW + 1 + 2 * iI (unpN kd nW)
  else if x1 = 3 then (nI nG + nI nW + 1 + 2 * iI (unpN kd nW)) * (nI nG + nI nW + 1 + 2 * iI (unpN kd nW)) - (nI nG + nI nW + 1 + 2 * iI (unpN kd nW)) * (nI nG + nI nW + 1 + 2 * iI (unpN kd nW)) / 97 * 97
  else if x1 = 4 then nI nG + nI nW + 1 + iI (ssum (fun l => ind (told l ∧ off l)) 5) + iI (ssum (fun w => ind (wo w ≠ 0)) nW)
  else -1
def LBt (tr : Int64) (x1 : Int32) : Int64 := if x1 = 0 then tr + 1 else if x1 = 1 then tr + 11 else if x1 = 2 then tr + 101 else if x1 = 3 then tr + 1101 else if x1 = 4 then tr + 10001 else tr
theorem eq_labourC (C : TC told lst off lim nW V kd M' us wi it le gof li va kn mo wo u) (E : EnumN told 5 nG gl) (tr : Int64) (x1 : Int32) : wp_X6_labour tr wi it gof kn wo u x1 (fun y t => y = LBr told off nW nG kd us wo x1 ∧ t = LBt tr x1) := by
  have ewi := C.1
  have hW := C.2.1
  have st : ∀ (tr : Int64) (post : Int32 → Int64 → Prop), post (nI nG + nI nW + 1) (tr + 1) → wp_X6_sumOfTable tr wi it post := fun tr post h => by
    unfold wp_X6_sumOfTable
    rw [ewi]
    exact sp_gates C E h
  have sw : ∀ (tr : Int64) (post : Int32 → Int64 → Prop), post (nI nG + nI nW + 1 + 2 * iI (unpN kd nW)) (tr + 101) → wp_X6_sumOfWhole tr wi it kn post := fun tr post h => by
    unfold wp_X6_sumOfWhole
    refine st _ _ (sp_unparted C ?_)
    rw [Int64.add_assoc]
    exact h
  unfold wp_X6_labour LBr LBt
  refine br_c (fun z => st _ _ ?_) (fun z => br_c (fun y => ?_) (fun y => br_c (fun q => sw _ _ ?_) (fun q => br_c (fun t => ?_) (fun t => br_c (fun v => ?_) (fun v => ?_)))))
  · rw [if_pos z, if_pos z]
    exact ⟨rfl, rfl⟩
  · unfold wp_X6_sumOfNet
    refine st _ _ (sp_narrow C ?_)
    rw [if_neg z, if_pos y, if_neg z, if_pos y, Int64.add_assoc]
    exact ⟨rfl, rfl⟩
  · rw [if_neg z, if_neg y, if_pos q, if_neg z, if_neg y, if_pos q]
    exact ⟨rfl, rfl⟩
  · unfold wp_X6_sumOfCut
    refine sw _ _ ?_
    rw [if_neg z, if_neg y, if_neg q, if_pos t, if_neg z, if_neg y, if_neg q, if_pos t, Int64.add_assoc]
    exact ⟨rfl, rfl⟩
  · unfold wp_X6_sumOfChanged
    refine st _ _ (sp_gatesOff C ?_)
    rw [ewi]
    refine sp_wishesOff hW ?_
    rw [if_neg z, if_neg y, if_neg q, if_neg t, if_pos v, if_neg z, if_neg y, if_neg q, if_neg t, if_pos v, Int64.add_assoc]
    exact ⟨rfl, rfl⟩
  · rw [if_neg z, if_neg y, if_neg q, if_neg t, if_neg v, if_neg z, if_neg y, if_neg q, if_neg t, if_neg v]
    exact ⟨rfl, rfl⟩
theorem eq_labourM (C : TC told lst off lim nW V kd M' us wi it le gof li va kn mo wo u) (D : TM told lst off lim nW V kd M' us nG gl wo ga wi' lt ls ca go wr kn' mo' wf ue) (tr : Int64) (x1 : Int32) : wp_X7_labour tr ga wi' go kn' wf ue x1 (fun y t => y = LBr told off nW nG kd us wo x1 ∧ t = LBt tr x1) := by
  have E := D.1
  have E5 := E.1
  have hW := C.2.1
  have d3 := D.2.2.2.1
  have d4 := D.2.2.2.2
  have c4 := C.2.2.2.1
  have D' := D
  obtain ⟨_, ega, ewi', _⟩ := D
  subst ega
  subst ewi'
  unfold wp_X7_labour
  rw [lI_0, show (4 : Int64) = lI 4 from rfl]
  refine sp_inX ⟨by omega, by omega⟩ ⟨by omega, by omega⟩ (fun x0 x4 => br_f (by decide) ?_) (fun n => br_t rfl ?_)
  · refine pk_loop (σ := Int32 × Int32) (fun n i s => wl_X7_labour_34 x1 (nI nG + nI nW + 1) tr (nI nG) (nI nW) go kn' wf ue _ _ n s.1 s.2 (nI i)) (fun i s => s.1 = iI (ssum (fun w => ind (¬ 1 < usN us w)) i) ∧ s.2 = iI (ssum (fun w => ind (kd w ≠ 0)) i)) nW 0 (0, 0) (by omega) ⟨rfl, rfl⟩ (fun n s hs => ?_) (fun n i s hi hs kk => ?_)
    · show ws_X7_labour_34 _ _ _ _ _ _ _ _ _ _ _ _ _ _ _
      unfold ws_X7_labour_34
      obtain ⟨s1, s2⟩ := s
      obtain ⟨e1, e2⟩ := hs
      (try dsimp only at e1 e2)
      subst e1
      subst e2
      refine br_t (nI_le (Nat.le_refl _) (by omega)) ?_
      intro v hv
      subst hv
      unfold wj_X7_labour_186 LBr LBt
      refine br_c (fun z => br_t z (by rw [if_pos z, if_pos z]; exact ⟨rfl, rfl⟩)) (fun z => br_c (fun y => br_f z (br_t y (by rw [if_neg z, if_pos y, if_neg z, if_pos y]; exact ⟨rfl, rfl⟩))) (fun y => br_c (fun q => br_f z (br_f y (br_t q (by rw [if_neg z, if_neg y, if_pos q, if_neg z, if_neg y, if_pos q]; exact ⟨rfl, rfl⟩)))) (fun q => br_c (fun t => br_f z (br_f y (br_f q (br_t t (by rw [if_neg z, if_neg y, if_neg q, if_pos t, if_neg z, if_neg y, if_neg q, if_pos t]; exact ⟨rfl, rfl⟩))))) (fun t => br_f z (br_f y (br_f q (br_f t ?_)))))))
      have x14 : x1 = 4 := by
        obtain ⟨j, hj, ej⟩ := toInt_nI (n := 5) x0 (by omega) (by omega)
        rcases (by omega : j = 0 ∨ j = 1 ∨ j = 2 ∨ j = 3 ∨ j = 4) with w | w | w | w | w <;> subst w
        · exact absurd ej z
        · exact absurd ej y
        · exact absurd ej q
        · exact absurd ej t
        · exact ej
      refine sp_offs D' (sp_wishOffs hW (fun w hw => (d4 w hw).2.2.2) ?_)
      rw [if_neg z, if_neg y, if_neg q, if_neg t, if_pos x14, if_neg z, if_neg y, if_neg q, if_neg t, if_pos x14]
      exact ⟨rfl, rfl⟩
    · show ws_X7_labour_34 _ _ _ _ _ _ _ _ _ _ _ _ _ _ _
      unfold ws_X7_labour_34
      obtain ⟨s1, s2⟩ := s
      obtain ⟨e1, e2⟩ := hs
      (try dsimp only at e1 e2)
      subst e1
      subst e2
      have ci : (nI i).toNatClampNeg = i := nI_clamp (by omega)
      obtain ⟨_, _, _, _, k1, k2, k3, _⟩ := c4 i (by omega)
      have kn := (d4 i hi).2.1
      refine br_f (nI_ge hi (by omega)) ?_
      refine pk_loop (σ := Int32) (fun n k s => wl_X7_labour_49 x1 (nI nG + nI nW + 1) _ _ (nI i) tr (nI nG) (nI nW) go kn' wf ue _ _ n s (nI k)) (fun k s => s = iI (ssum (fun g => ind (0 < us i (gl g))) k)) nG 0 0 (by omega) rfl (fun n2 s hs => ?_) (fun n2 k s hk hs kk2 => ?_)
      · show ws_X7_labour_49 _ _ _ _ _ _ _ _ _ _ _ _ _ _ _ _ _
        unfold ws_X7_labour_49
        subst hs
        have e1 : ssum (fun g => ind (0 < us i (gl g))) nG = usN us i := letter_sum E (f := fun l => ind (0 < us i l)) (fun l hl n => ind_0 (by rw [C.2.2.2.2 i hi l hl n]; omega))
        have ib := ind_sum_b (fun l => 0 < us i l) 5
        have ib' : 0 ≤ usN us i ∧ usN us i ≤ 5 := ib
        refine br_t (nI_le (Nat.le_refl _) (by omega)) ?_
        (try dsimp only)
        have e2 : (2 : Int32) ≤ iI (ssum (fun g => ind (0 < us i (gl g))) nG) ↔ 1 < usN us i := by
          rw [e1, show (2 : Int32) = iI 2 from rfl, iI_le (by unfold rI; omega) (by unfold rI; omega)]
          omega
        rw [e2]
        unfold wj_X7_labour_101 wj_X7_labour_120
        rw [ci, kn, iI_0, iI_eq (by unfold rI; omega) (by unfold rI; omega), ← iI_0, nI_1 i]
        refine br_c (fun z => ⟨vp_in_nI (by omega) (by omega), br_c (fun y => ?_) (fun y => ?_)⟩) (fun z => ⟨vp_in_nI (by omega) (by omega), br_c (fun y => ?_) (fun y => ?_)⟩)
        · rw [i01 (p := ¬ 1 < usN us i) (Or.inl ⟨rfl, fun q => q z⟩), i01 (p := kd i ≠ 0) (Or.inl ⟨rfl, fun q => q y⟩)]
          exact kk (_, _) ⟨rfl, rfl⟩
        · rw [i01 (p := ¬ 1 < usN us i) (Or.inl ⟨rfl, fun q => q z⟩), i01 (p := kd i ≠ 0) (Or.inr ⟨rfl, y⟩)]
          exact kk (_, _) ⟨rfl, rfl⟩
        · rw [i01 (p := ¬ 1 < usN us i) (Or.inr ⟨rfl, z⟩), i01 (p := kd i ≠ 0) (Or.inl ⟨rfl, fun q => q y⟩)]
          exact kk (_, _) ⟨rfl, rfl⟩
        · rw [i01 (p := ¬ 1 < usN us i) (Or.inr ⟨rfl, z⟩), i01 (p := kd i ≠ 0) (Or.inr ⟨rfl, y⟩)]
          exact kk (_, _) ⟨rfl, rfl⟩
      · show ws_X7_labour_49 _ _ _ _ _ _ _ _ _ _ _ _ _ _ _ _ _
        unfold ws_X7_labour_49
        subst hs
        have c5 : (nI (5 * i + k)).toNatClampNeg = 5 * i + k := nI_clamp (by omega)
        have l5 := (E.2.1 k hk).1
        have b1 := ((c4 i (by omega)).2.2.2.2.2.2.2.2.2.2 (gl k) l5).2
        have uk := (d3 k hk).2.2.2.2.2.2 i hi
        refine br_f (nI_ge hk (by omega)) ?_
        unfold wj_X7_labour_80
        rw [ix5 i k, c5, uk, le0_iI (by unfold rI; omega), nI_1 k]
        refine ⟨vp_in_nI (by omega) (by omega), br_c (fun z => ?_) (fun z => ?_)⟩
        · rw [i01 (p := 0 < us i (gl k)) (Or.inl ⟨rfl, z⟩)]
          exact kk2 _ rfl
        · rw [i01 (p := 0 < us i (gl k)) (Or.inr ⟨rfl, Classical.byContradiction z⟩)]
          exact kk2 _ rfl
  · have ne : ∀ k : Nat, k < 5 → x1 ≠ nI k := fun k hk e => n (by rw [e, nI_toInt (by omega)]; omega)
    have n0 : ¬ x1 = (0 : Int32) := ne 0 (by omega)
    have n1 : ¬ x1 = (1 : Int32) := ne 1 (by omega)
    have n2 : ¬ x1 = (2 : Int32) := ne 2 (by omega)
    have n3 : ¬ x1 = (3 : Int32) := ne 3 (by omega)
    have n4 : ¬ x1 = (4 : Int32) := ne 4 (by omega)
    unfold LBr LBt
    rw [if_neg n0, if_neg n1, if_neg n2, if_neg n3, if_neg n4, if_neg n0, if_neg n1, if_neg n2, if_neg n3, if_neg n4]
    exact ⟨rfl, rfl⟩
theorem eq_clear (len : Int32) : wp_X6_clear len (fun y l => y = len ∧ l = 0) ∧ wp_X7_clear len (fun y l => y = len ∧ l = 0) := by
  unfold wp_X6_clear wp_X7_clear
  exact ⟨⟨rfl, rfl⟩, ⟨rfl, rfl⟩⟩
end LABOUR
