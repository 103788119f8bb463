/-! count, labour -/
noncomputable def ind (p : Prop) : Int := @ite _ p (Classical.propDecidable _) 1 0
theorem ind_1 {p : Prop} (h : p) : ind p = 1 := by unfold ind; rw [if_pos h]
theorem ind_0 {p : Prop} (h : ¬ p) : ind p = 0 := by unfold ind; rw [if_neg h]
theorem ind_eq {p q : Prop} (h : p ↔ q) : ind p = ind q := by rw [propext h]
theorem ind_b (p : Prop) : 0 ≤ ind p ∧ ind p ≤ 1 := by unfold ind; split <;> omega
theorem i01 {x : Int32} {n : Int} {p : Prop} (h : x = 0 ∧ ¬ p ∨ x = 1 ∧ p) : iI n + x = iI (n + ind p) := by
  rcases h with ⟨e, y⟩ | ⟨e, y⟩
  · rw [e, ind_0 y, iI_0, iI_add]
  · rw [e, ind_1 y, show (1 : Int32) = iI 1 from rfl, iI_add]
section COUNT
variable {told lst off : Nat → Prop} {lim : Nat → Int} {nW : Nat} {V kd M' : Nat → Int} {us : Nat → Nat → Int} {wi : Int32} {it le gof li va kn mo wo : Nat → Int32} {u : Nat → Nat → Int32} {nG : Nat} {gl : Nat → Nat} {ga wi' : Int32} {lt ls ca go wr kn' mo' wf ue : Nat → Int32}
theorem sp_bit {x : Int32} {post : Int32 → Prop} (h : ∀ r : Int32, (x = 0 → r = 0) → (¬ x = 0 → r = 1) → post r) : wp_X6_bit x post := by
  unfold wp_X6_bit
  exact br_c (fun z => h 0 (fun _ => rfl) (fun n => absurd z n)) (fun z => h 1 (fun n => absurd n z) (fun _ => rfl))
theorem sp_gates (C : TC told lst off lim nW V kd M' us wi it le gof li va kn mo wo u) (E : EnumN told 5 nG gl) {post : Int32 → Prop} (h : post (nI nG)) : wp_X4_gates it post := by
  have c3 := C.2.2.1
  unfold wp_X4_gates
  refine pk_loop (σ := Int32) (fun n i s => wl_X4_gates_4 it _ post n s (nI i)) (fun i s => s = iI (ssum (fun l => ind (told l)) i)) 5 0 0 (by omega) rfl (fun n s hs => ?_) (fun n i s hi hs kk => ?_)
  · show ws_X4_gates_4 _ _ _ _ _ _
    unfold ws_X4_gates_4
    subst hs
    have e1 := letter_sum E (f := fun l => ind (told l)) (fun l hl n => ind_0 n)
    have e2 : ssum (fun g => ind (told (gl g))) nG = ssum (fun _ => 1) nG := ssum_eq nG (fun g hg => ind_1 (E.2.1 g hg).2)
    rw [ssum_1] at e2
    refine br_t (by decide) ?_
    (try dsimp only)
    rw [← e1, e2, ← nI_iI]
    exact h
  · show ws_X4_gates_4 _ _ _ _ _ _
    unfold ws_X4_gates_4
    subst hs
    have ci : (nI i).toNatClampNeg = i := nI_clamp (by omega)
    obtain ⟨a1, a2, _⟩ := c3 i hi
    refine br_f (nI_ge (b := 5) hi (by omega)) ⟨vp_in_nI (by omega) (by omega), ?_⟩
    rw [ci, nI_1 i]
    refine sp_bit (fun r r0 r1 => ?_)
    rw [i01 (p := told i) (by
      rcases a1 with z | z
      · exact Or.inl ⟨r0 z, fun t => by have := a2.mpr t; rw [z] at this; exact absurd this (by decide)⟩
      · exact Or.inr ⟨r1 (by rw [z]; decide), a2.mp z⟩)]
    exact kk _ rfl
theorem sp_gatesOff (C : TC told lst off lim nW V kd M' us wi it le gof li va kn mo wo u) {post : Int32 → Prop} (h : post (iI (ssum (fun l => ind (told l ∧ off l)) 5))) : wp_X4_gatesOff it gof post := by
  have c3 := C.2.2.1
  unfold wp_X4_gatesOff
  refine pk_loop (σ := Int32) (fun n i s => wl_X4_gatesOff_4 it gof _ post n s (nI i)) (fun i s => s = iI (ssum (fun l => ind (told l ∧ off l)) i)) 5 0 0 (by omega) rfl (fun n s hs => ?_) (fun n i s hi hs kk => ?_)
  · show ws_X4_gatesOff_4 _ _ _ _ _ _ _
    unfold ws_X4_gatesOff_4
    subst hs
    exact br_t (by decide) h
  · show ws_X4_gatesOff_4 _ _ _ _ _ _ _
    unfold ws_X4_gatesOff_4
    subst hs
    have ci : (nI i).toNatClampNeg = i := nI_clamp (by omega)
    obtain ⟨a1, a2, _, _, a5, a6, _⟩ := c3 i hi
    refine br_f (nI_ge (b := 5) hi (by omega)) ⟨vp_in_nI (by omega) (by omega), ?_⟩
    unfold wj_X4_gatesOff_33
    rw [ci, nI_1 i]
    refine br_c (fun z => sp_bit (fun r r0 r1 => ?_)) (fun z => br_c (fun y => sp_bit (fun r r0 r1 => ?_)) (fun y => sp_bit (fun r r0 r1 => ?_)))
    · rw [i01 (p := told i ∧ off i) (Or.inl ⟨r0 rfl, fun t => by have := a2.mpr t.1; rw [z] at this; exact absurd this (by decide)⟩)]
      exact kk _ rfl
    · rw [i01 (p := told i ∧ off i) (Or.inl ⟨r0 rfl, fun t => by have := a6.mpr t.2; rw [y] at this; exact absurd this (by decide)⟩)]
      exact kk _ rfl
    · rw [i01 (p := told i ∧ off i) (Or.inr ⟨r1 (by decide), a2.mp (by rcases a1 with q | q; exact absurd q z; exact q), a6.mp (by rcases a5 with q | q; exact absurd q y; exact q)⟩)]
      exact kk _ rfl
theorem sp_offs (D : TM told lst off lim nW V kd M' us nG gl wo ga wi' lt ls ca go wr kn' mo' wf ue) {post : Int32 → Prop} (h : post (iI (ssum (fun l => ind (told l ∧ off l)) 5))) : wp_X7_offs ga go post := by
  have E := D.1
  have E5 := E.1
  have d3 := D.2.2.2.1
  have ega := D.2.1
  subst ega
  unfold wp_X7_offs
  refine pk_loop (σ := Int32) (fun n i s => wl_X7_offs_4 (nI nG) go _ post n s (nI i)) (fun i s => s = iI (ssum (fun g => ind (told (gl g) ∧ off (gl g))) i)) nG 0 0 (by omega) rfl (fun n s hs => ?_) (fun n i s hi hs kk => ?_)
  · show ws_X7_offs_4 _ _ _ _ _ _ _
    unfold ws_X7_offs_4
    subst hs
    have e1 := letter_sum E (f := fun l => ind (told l ∧ off l)) (fun l hl n => ind_0 (fun y => n y.1))
    refine br_t (nI_le (Nat.le_refl _) (by omega)) ?_
    (try dsimp only)
    rw [e1]
    exact h
  · show ws_X7_offs_4 _ _ _ _ _ _ _
    unfold ws_X7_offs_4
    subst hs
    have ci : (nI i).toNatClampNeg = i := nI_clamp (by omega)
    obtain ⟨_, _, _, _, a5, a6, _⟩ := d3 i hi
    refine br_f (nI_ge hi (by omega)) ⟨vp_in_nI (by omega) (by omega), ?_⟩
    unfold wj_X7_offs_27
    rw [ci, nI_1 i]
    refine br_c (fun z => ?_) (fun z => ?_)
    · rw [i01 (p := told (gl i) ∧ off (gl i)) (Or.inl ⟨rfl, fun t => by have := a6.mpr t.2; rw [z] at this; exact absurd this (by decide)⟩)]
      exact kk _ rfl
    · rw [i01 (p := told (gl i) ∧ off (gl i)) (Or.inr ⟨rfl, (E.2.1 i hi).2, a6.mp (by rcases a5 with q | q; exact absurd q z; exact q)⟩)]
      exact kk _ rfl
theorem sp_wishesOff (hW : nW ≤ 4) {post : Int32 → Prop} (h : post (iI (ssum (fun w => ind (wo w ≠ 0)) nW))) : wp_X4_wishesOff (nI nW) wo post := by
  unfold wp_X4_wishesOff
  refine pk_loop (σ := Int32) (fun n i s => wl_X4_wishesOff_4 (nI nW) wo _ post n s (nI i)) (fun i s => s = iI (ssum (fun w => ind (wo w ≠ 0)) i)) nW 0 0 (by omega) rfl (fun n s hs => ?_) (fun n i s hi hs kk => ?_)
  · show ws_X4_wishesOff_4 _ _ _ _ _ _ _
    unfold ws_X4_wishesOff_4
    subst hs
    exact br_t (nI_le (Nat.le_refl _) (by omega)) h
  · show ws_X4_wishesOff_4 _ _ _ _ _ _ _
    unfold ws_X4_wishesOff_4
    subst hs
    have ci : (nI i).toNatClampNeg = i := nI_clamp (by omega)
    refine br_f (nI_ge hi (by omega)) ⟨vp_in_nI (by omega) (by omega), ?_⟩
    rw [ci, nI_1 i]
    refine sp_bit (fun r r0 r1 => ?_)
    rw [i01 (p := wo i ≠ 0) (by
      by_cases z : wo i = 0
      · exact Or.inl ⟨r0 z, fun y => y z⟩
      · exact Or.inr ⟨r1 z, z⟩)]
    exact kk _ rfl
theorem sp_wishOffs (hW : nW ≤ 4) (hf : ∀ w, w < nW → wf w = wo w) {post : Int32 → Prop} (h : post (iI (ssum (fun w => ind (wo w ≠ 0)) nW))) : wp_X7_wishOffs (nI nW) wf post := by
  unfold wp_X7_wishOffs
  refine pk_loop (σ := Int32) (fun n i s => wl_X7_wishOffs_4 (nI nW) wf _ post n s (nI i)) (fun i s => s = iI (ssum (fun w => ind (wo w ≠ 0)) i)) nW 0 0 (by omega) rfl (fun n s hs => ?_) (fun n i s hi hs kk => ?_)
  · show ws_X7_wishOffs_4 _ _ _ _ _ _ _
    unfold ws_X7_wishOffs_4
    subst hs
    exact br_t (nI_le (Nat.le_refl _) (by omega)) h
  · show ws_X7_wishOffs_4 _ _ _ _ _ _ _
    unfold ws_X7_wishOffs_4
    subst hs
    have ci : (nI i).toNatClampNeg = i := nI_clamp (by omega)
    refine br_f (nI_ge hi (by omega)) ⟨vp_in_nI (by omega) (by omega), ?_⟩
    unfold wj_X7_wishOffs_27
    rw [ci, nI_1 i, hf i hi]
    refine br_c (fun z => ?_) (fun z => ?_)
    · rw [i01 (p := wo i ≠ 0) (Or.inl ⟨rfl, fun y => y z⟩)]
      exact kk _ rfl
    · rw [i01 (p := wo i ≠ 0) (Or.inr ⟨rfl, z⟩)]
      exact kk _ rfl
theorem eq_count (C : TC told lst off lim nW V kd M' us wi it le gof li va kn mo wo u) (D : TM told lst off lim nW V kd M' us nG gl wo ga wi' lt ls ca go wr kn' mo' wf ue) {len : Int32} (x1 : Int32) : ∃ r : Int32, wp_X6_count len wi it gof wo x1 (fun y => y = r) ∧ wp_X7_count len ga wi' go wf x1 (fun y => y = r) := by
  have ewi := C.1
  have hW := C.2.1
  have ega := D.2.1
  have ewi' := D.2.2.1
  have d4 := D.2.2.2.2
  refine ⟨if x1 = 0 then nI nG else if x1 = 1 then nI nW else if x1 = 2 then iI (ssum (fun l => ind (told l ∧ off l)) 5) else if x1 = 3 then iI (ssum (fun w => ind (wo w ≠ 0)) nW) else if x1 = 4 then len else -1, ?_, ?_⟩
  · unfold wp_X6_count
    refine br_c (fun z => sp_gates C D.1 (by rw [if_pos z])) (fun z => br_c (fun y => by rw [if_neg z, if_pos y]; exact ewi) (fun y => br_c (fun q => sp_gatesOff C (by rw [if_neg z, if_neg y, if_pos q])) (fun q => br_c (fun t => ?_) (fun t => br_c (fun v => by rw [if_neg z, if_neg y, if_neg q, if_neg t, if_pos v]) (fun v => by rw [if_neg z, if_neg y, if_neg q, if_neg t, if_neg v])))))
    rw [ewi]
    exact sp_wishesOff hW (by rw [if_neg z, if_neg y, if_neg q, if_pos t])
  · unfold wp_X7_count
    refine br_c (fun z => by rw [if_pos z]; exact ega) (fun z => br_c (fun y => by rw [if_neg z, if_pos y]; exact ewi') (fun y => br_c (fun q => sp_offs D (by rw [if_neg z, if_neg y, if_pos q])) (fun q => br_c (fun t => ?_) (fun t => br_c (fun v => by rw [if_neg z, if_neg y, if_neg q, if_neg t, if_pos v]) (fun v => by rw [if_neg z, if_neg y, if_neg q, if_neg t, if_neg v])))))
    rw [ewi']
    exact sp_wishOffs hW (fun w hw => (d4 w hw).2.2.2) (by rw [if_neg z, if_neg y, if_neg q, if_pos t])
end COUNT
