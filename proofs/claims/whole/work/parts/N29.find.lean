/-! find: the best clearing of a table -/
def aM (nW : Nat) (wo : Nat → Int32) (M' : Nat → Int) (w : Nat) : Int := if w < nW ∧ wo w = 0 then M' w else 0
def f0 (nW : Nat) (wo : Nat → Int32) (w : Nat) : Int := if w < nW ∧ wo w = 0 then -1 else 0
section FIND
variable {V kd M' lim : Nat → Int} {us : Nat → Nat → Int} {lst hb : Nat → Prop} {nW : Nat} {held : Int32} {le li va kn mo wo : Nat → Int32} {u : Nat → Nat → Int32}
theorem sp_searchL {M : Nat → Int} (gr : GatR us lim lst u li le) (hh : ∀ l, l < 5 → (((held >>> (nI l &&& 31)) &&& (1 : Int32)) = 1 ↔ hb l)) (tv : ∀ w, w < 4 → va w = iI (V w) ∧ 0 ≤ V w ∧ V w ≤ 198 ∧ 0 ≤ M w ∧ M w ≤ 12) (d : Nat) : RecOK (wp_X1_search (d + 1)) V M (fun _ => 0) lim us lst hb nW held le li va kn mo u 0 1 := by
  intro f h q g ops hei lw T fi opn ph pv pl px fh fv fl fx post cn fxr fo fr fd hpost
  have hV : ∀ w, w < 4 → 0 ≤ V w ∧ V w ≤ 198 := fun w hw => ⟨(tv w hw).2.1, (tv w hw).2.2.1⟩
  show wb_X1_search (wp_X1_search d) _ _ _ _ _ _ _ _ _ _ _ _ _ _ _ _ _ _ _ _ _ _ _ _ _
  unfold wb_X1_search
  refine br_t (by decide) ?_
  refine sp_findParts (Fok_TabR fo tv) gr fxr hh (fun w hw z => ⟨((fo w hw).2 z).1, ((fo w hw).2 z).2.1⟩) (fun o1 o2 o3 o4 o5 nl => ?_) (fun o1 o2 o3 o4 o5 X c y isl c1 hy => ?_)
  · exact sp_beats0 (br_t rfl (hpost _ _ _ _ _ _ _ _ _ _ _ _ _ _ _ h q g fxr fr (SP_none fd nl _)))
  · have c0 := isl.1.1
    have hX : ∀ w, w < 4 → 0 ≤ X w ∧ X w ≤ 12 * c := fun w hw => by
      have a := isl.1.2.1 w hw
      have b := Int.mul_le_mul_of_nonneg_right (tv w hw).2.2.2.2 (Int.le_of_lt c0)
      exact ⟨a.1, by omega⟩
    have kx : Kd M (fun _ => 0) X c := fun w hw => ⟨fun z => absurd (show (0 : Int) = 1 from z) (by decide), fun z => absurd (show (0 : Int) = 2 from z) (by decide)⟩
    have go : (h → Bt V X c q g) → (( (1 : Int32) = 0 → (wp_X1_firstSplit (lI c) y (nI nW) kn mo (fun (r14 : Int32) => wj_X1_search_39 (wp_X1_search d) (nI 0) r14 o1 o2 o3 held o4 fi o5 1 (lI (dot V X)) (lI c) y (nI nW) le li va kn mo u fh fv fl fx post))) ∧
        (¬ (1 : Int32) = 0 → wj_X1_search_39 (wp_X1_search d) (nI 0) (-1 : Int32) o1 o2 o3 held o4 fi o5 1 (lI (dot V X)) (lI c) y (nI nW) le li va kn mo u fh fv fl fx post)) := by
      intro hB
      refine br_f (by decide) ?_
      unfold wj_X1_search_39
      refine br_f (by decide) (sp_copyOf (Or.inr rfl) (fun z hz => ?_))
      refine hpost _ _ _ _ _ _ _ _ _ _ _ _ _ _ _ True X c fxr (Or.inr ⟨trivial, rfl, rfl, rfl, c1, fun w hw => by rw [hz w hw]; exact hy w hw⟩) ?_
      have s := SP_take (kd := fun _ => 0) isl kx hB
      exact ⟨s.1, s.2.1, s.2.2.1, fun z => absurd (by decide) z⟩
    rcases fr with ⟨n, e⟩ | ⟨n, e1, e2, e3, e4, e5⟩
    · subst e
      unfold wp_X2_beats
      refine br_t rfl ⟨by decide, br_f (by decide) (go (fun z => absurd z n))⟩
    · subst e1
      subst e2
      subst e3
      have q1 := (fd n).1
      refine sp_beats2 hV c0 c1 q1.1 e4 hX (fun w hw => ?_) hy e5 (fun b => br_f (by decide) (go (fun _ => b))) (fun b => br_t rfl ?_)
      · have a := q1.2.1 w hw
        have b := Int.mul_le_mul_of_nonneg_right (tv w hw).2.2.2.2 (Int.le_of_lt q1.1)
        exact ⟨a.1, by omega⟩
      · exact hpost _ _ _ _ _ _ _ _ _ _ _ _ _ _ _ h q g fxr (Or.inr ⟨n, rfl, rfl, rfl, e4, e5⟩) (SP_beaten fd isl n b _)
theorem sp_find (gr : GatR us lim lst u li le) (hh : ∀ l, l < 5 → (((held >>> (nI l &&& 31)) &&& (1 : Int32)) = 1 ↔ hb l)) (tv : ∀ w, w < 4 → va w = iI (V w) ∧ 0 ≤ V w ∧ V w ≤ 198) (hW : nW ≤ 4)
    (hk : ∀ w, w < nW → kn w = iI (kd w) ∧ 0 ≤ kd w ∧ kd w ≤ 2 ∧ mo w = iI (M' w) ∧ 0 ≤ M' w ∧ M' w ≤ 12) {x2 : Int32} (hx2 : x2 = 0 ∨ x2 = 1)
    {ops hei held0 ph fh : Int32} {lw pv pl fv fl : Int64} {T : Nat → Nat → Int64} {fi opn : Nat → Int32} {px fx : Nat → Int64}
    {post : Int32 → Int32 → Int64 → Int32 → (Nat → Nat → Int64) → (Nat → Int32) → (Nat → Int32) → Int32 → Int64 → Int64 → (Nat → Int64) → Int32 → Int64 → Int64 → (Nat → Int64) → Prop}
    (hpost : ∀ (ops hei : Int32) (lw : Int64) (T : Nat → Nat → Int64) (fi opn : Nat → Int32) (ph : Int32) (pv pl : Int64) (px : Nat → Int64) (fh : Int32) (fv fl : Int64) (fx : Nat → Int64) (h : Prop) (q : Nat → Int) (g : Int), FR V q g fh fv fl fx h → (h → IsB V (aM nW wo M') (if x2 = 0 then kd else fun _ => 0) (GH us lim lst hb) q g) → (¬ h → NoB (aM nW wo M') (if x2 = 0 then kd else fun _ => 0) (GH us lim lst hb)) → post ops hei lw held T fi opn ph pv pl px fh fv fl fx) :
    wp_X1_find ops hei lw held0 T fi opn ph pv pl px (nI nW) le li va kn mo wo u fh fv fl fx x2 held post := by
  have tv2 : ∀ w, w < 4 → va w = iI (V w) ∧ 0 ≤ V w ∧ V w ≤ 198 ∧ 0 ≤ aM nW wo M' w ∧ aM nW wo M' w ≤ 12 := fun w hw => by
    obtain ⟨a, b, c⟩ := tv w hw
    refine ⟨a, b, c, ?_⟩
    unfold aM
    by_cases z : w < nW ∧ wo w = 0
    · rw [if_pos z]
      exact (hk w z.1).2.2.2.2
    · rw [if_neg z]
      omega
  have fo : ∀ kd : Nat → Int, Fok (aM nW wo M') kd nW mo (f0 nW wo) := fun kd w hw => by
    unfold f0 aM
    by_cases z : w < nW ∧ wo w = 0
    · rw [if_pos z, if_pos z]
      exact ⟨fun _ => ⟨z.1, (hk w z.1).2.2.2.1⟩, fun n => absurd rfl n⟩
    · rw [if_neg z, if_neg z]
      exact ⟨fun n => absurd n (by decide), fun _ => ⟨by omega, by omega, fun _ => Or.inl rfl⟩⟩
  have cn : cno (f0 nW wo) + 0 ≤ 4 := by
    unfold cno
    split <;> split <;> split <;> split <;> omega
  unfold wp_X1_find
  refine pk_loop (σ := Nat → Int32) (fun n i s => wl_X1_find_8 x2 ops hei lw held T opn ph pv pl px (nI nW) le li va kn mo wo u fh fv fl fx _ post n (nI i) s) (fun i s => ∀ v, v < i → s v = iI (f0 nW wo v) ∧ -1 ≤ f0 nW wo v ∧ f0 nW wo v ≤ 12) 4 0 fi (by omega) (fun v hv => by omega) (fun n s hs => ?_) (fun n i s hi hs kk => ?_)
  · show ws_X1_find_8 _ _ _ _ _ _ _ _ _ _ _ _ _ _ _ _ _ _ _ _ _ _ _ _ _ _ _ _
    unfold ws_X1_find_8
    refine br_t (by decide) ?_
    have fin : ∀ (kd' : Nat → Int), (if x2 = 0 then kd else fun _ => 0) = kd' → RecOK (wp_X1_search 6) V (aM nW wo M') kd' lim us lst hb nW held le li va kn mo u 0 x2 → wp_X1_search 6 ops hei lw held T s opn ph pv pl px (nI nW) le li va kn mo u (0 : Int32) fv fl fx x2 (0 : Int32) (fun (r21 : Int32) (u7 : Int32) (u8 : Int32) (u9 : Int64) (u10 : Nat → Nat → Int64) (u11 : Nat → Int32) (u12 : Nat → Int32) (u13 : Int32) (u14 : Int64) (u15 : Int64) (u16 : Nat → Int64) (u17 : Int32) (u18 : Int64) (u19 : Int64) (u20 : Nat → Int64) => post u7 u8 u9 held u10 u11 u12 u13 u14 u15 u16 u17 u18 u19 u20) := by
      intro kd' e R
      rw [e] at hpost
      refine R (f0 nW wo) False (fun _ => 0) 1 _ _ _ _ _ _ _ _ _ _ _ _ _ _ _ cn hs (fo kd') (Or.inl ⟨fun z => z, rfl⟩) (fun z => z.elim) (fun r ops hei lw T fi opn ph pv pl px fh fv fl fx h' q' g' a1 a2 a3 => ?_)
      obtain ⟨s1, s2, s3, s4⟩ := a3
      have fxa : ∀ y e, Pf (aM nW wo M') (GH us lim lst hb) y e → Fx (f0 nW wo) y e := fun y e py w hw n => by
        have b := py.2.1 w hw
        unfold aM at b
        unfold f0 at n ⊢
        by_cases z : w < nW ∧ wo w = 0
        · rw [if_pos z] at n
          exact absurd rfl n
        · rw [if_neg z] at b ⊢
          omega
      refine hpost _ _ _ _ _ _ _ _ _ _ _ _ _ _ h' q' g' a2 (fun z => ⟨(s1 z).1, (s1 z).2, fun y e py ky => (s3 y e py ky (fxa y e py)).2⟩) (fun z y e py ky => z (s3 y e py ky (fxa y e py)).1)
    rcases hx2 with e | e
    · subst e
      exact fin kd (if_pos rfl) (sp_search gr hh tv2 hW hk (fun w hw => by
        unfold aM
        by_cases z : w < nW ∧ wo w = 0
        · rw [if_pos z]; exact Or.inl rfl
        · rw [if_neg z]; exact Or.inr rfl) (fun w _ hw => by unfold aM; rw [if_neg (by omega)]) 6 0 (by omega) (by omega))
    · subst e
      exact fin (fun _ => 0) (if_neg (by decide)) (sp_searchL gr hh tv2 5)
  · show ws_X1_find_8 _ _ _ _ _ _ _ _ _ _ _ _ _ _ _ _ _ _ _ _ _ _ _ _ _ _ _ _
    unfold ws_X1_find_8
    have ci : (nI i).toNatClampNeg = i := nI_clamp (by omega)
    have nxt : ∀ (kb : Int32 → (Nat → Int32) → Prop) (kx : (Nat → Int32) → Prop) (z : Int32), z = iI (f0 nW wo i) → (∀ s' : Nat → Int32, (∀ v, v < i + 1 → s' v = iI (f0 nW wo v) ∧ -1 ≤ f0 nW wo v ∧ f0 nW wo v ≤ 12) → kb (nI (i + 1)) s') → wj_X1_find_44 x2 (nI i) (nI i) z ops hei lw held T s opn ph pv pl px (nI nW) le li va kn mo wo u fh fv fl fx kb kx post := by
      intro kb kx z hz kk
      unfold wj_X1_find_44
      refine ⟨vp_in_nI hi (by omega), ?_⟩
      rw [ci, nI_1 i]
      refine kk _ (fun v hv => ?_)
      by_cases e : v = i
      · subst e
        rw [pk_us, hz]
        refine ⟨rfl, ?_⟩
        unfold f0
        split <;> omega
      · rw [pk_un e]
        exact hs v (by omega)
    refine br_f (nI_ge (b := 4) hi (by omega)) (br_c (fun z => ?_) (fun z => ⟨vp_in_nI hi (by omega), ?_⟩))
    · have z2 : nW ≤ i := (nI_leI (by omega) (by omega)).mp z
      exact nxt _ _ 0 (by unfold f0; rw [if_neg (by omega)]; rfl) kk
    · have z2 : ¬ nW ≤ i := fun y => z ((nI_leI (by omega) (by omega)).mpr y)
      rw [ci]
      refine br_c (fun y => ?_) (fun y => ?_)
      · exact nxt _ _ (-1) (by unfold f0; rw [if_pos ⟨by omega, y⟩]; rfl) kk
      · exact nxt _ _ 0 (by unfold f0; rw [if_neg (fun t => y t.2)]; rfl) kk
end FIND
