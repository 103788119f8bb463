/-! check: the class -/
def WB (M' X : Nat → Int) (wo : Nat → Int32) (w : Nat) : Prop := 0 ≤ X w ∧ X w ≤ (if wo w = 0 then M' w * 27720 else 0)
def HG (lst : Nat → Prop) (lim : Nat → Int) (nW : Nat) (us : Nat → Nat → Int) (X : Nat → Int) (l : Nat) : Prop :=
  (lst l → lim l * 27720 ≤ ssum (fun w => us w l * X w) nW) ∧ (¬ lst l → ssum (fun w => us w l * X w) nW ≤ lim l * 27720)
def PF (lst off : Nat → Prop) (P : Nat → Int) (l : Nat) : Prop := (off l → P l = 0) ∧ (lst l → P l ≤ 0) ∧ (¬ lst l → 0 ≤ P l)
def rest (V : Nat → Int) (us : Nat → Nat → Int) (P : Nat → Int) (w : Nat) : Int := V w * 27720 - ssum (fun l => us w l * P l) 5
def mrest (V M' : Nat → Int) (us : Nat → Nat → Int) (P : Nat → Int) (wo : Nat → Int32) (w : Nat) : Int := if wo w = 0 then M' w * (if 0 < rest V us P w then rest V us P w else 0) else 0
noncomputable def plim (told : Nat → Prop) (lim P : Nat → Int) (l : Nat) : Int := @ite _ (told l) (Classical.propDecidable _) (lim l * P l) 0
noncomputable def SUM (told : Nat → Prop) (lim : Nat → Int) (nW : Nat) (V M' : Nat → Int) (us : Nat → Nat → Int) (X P : Nat → Int) (wo : Nat → Int32) : Int := ssum (fun w => mrest V M' us P wo w - V w * X w) nW + ssum (plim told lim P) 5
theorem and1 (x : Int32) : x &&& 1 = 0 ∨ x &&& 1 = 1 := by
  have h := BitVec.and_one_eq_setWidth_ofBool_getLsbD (x := x.toBitVec)
  cases e : x.toBitVec.getLsbD 0 <;> rw [e] at h
  · exact Or.inl (Int32.toBitVec_inj.mp h)
  · exact Or.inr (Int32.toBitVec_inj.mp h)
section CHECK
variable {told lst off : Nat → Prop} {lim : Nat → Int} {nW : Nat} {V kd M' : Nat → Int} {us : Nat → Nat → Int} {wi : Int32} {it le gof li va kn mo wo : Nat → Int32} {u : Nat → Nat → Int32} {nG : Nat} {gl : Nat → Nat} {ga wi' : Int32} {lt ls ca go wr kn' mo' wf ue : Nat → Int32}
variable {X P : Nat → Int} {tx tp : Nat → Int64} {tu td pu pd : Nat → Int32}
theorem l27720 : (27720 : Int64) = lI 27720 := rfl
theorem sp_withinBounds (C : TC told lst off lim nW V kd M' us wi it le gof li va kn mo wo u) (A : TLC X P tx tp) {post : Int32 → Prop} (h1 : (∀ w, w < nW → WB M' X wo w) → post 1) (h0 : ¬ (∀ w, w < nW → WB M' X wo w) → post 0) : wp_X5_withinBounds tx wi mo wo post := by
  obtain ⟨c1, c2, c3, c4, c5⟩ := C
  subst c1
  unfold wp_X5_withinBounds
  refine pk_loop (σ := Unit) (fun n i _ => wl_X5_withinBounds_2 tx (nI nW) mo wo _ _ post n (nI i)) (fun i _ => ∀ w, w < i → WB M' X wo w) nW 0 () (by omega) (fun w hw => by omega) (fun n s hs => ?_) (fun n i s hi hs kk => ?_)
  · show ws_X5_withinBounds_2 _ _ _ _ _ _ _ _ _
    unfold ws_X5_withinBounds_2
    exact br_t (nI_le (Nat.le_refl _) (by omega)) (h1 hs)
  · show ws_X5_withinBounds_2 _ _ _ _ _ _ _ _ _
    unfold ws_X5_withinBounds_2
    have ci : (nI i).toNatClampNeg = i := nI_clamp (by omega)
    obtain ⟨_, _, _, _, _, _, _, m1, m2, m3, _⟩ := c4 i (by omega)
    obtain ⟨x1, x2, x3⟩ := A.1 i (by omega)
    refine br_f (nI_ge hi (by omega)) ⟨vp_in_nI (by omega) (by omega), ?_⟩
    have go : ∀ v : Int, 0 ≤ v → v ≤ 400000 → (v = if wo i = 0 then M' i * 27720 else 0) → wj_X5_withinBounds_34 (nI i) (lI v) tx (nI nW) mo wo (wl_X5_withinBounds_2 tx (nI nW) mo wo (post 1) (post 0) post n) (post 1) (post 0) post := fun v v0 v1 v2 => by
      unfold wj_X5_withinBounds_34
      rw [ci, nI_1 i, x1, lI_0, lI_lt ⟨by omega, by omega⟩ ⟨by omega, by omega⟩, lI_le ⟨by omega, by omega⟩ ⟨by omega, by omega⟩]
      refine ⟨vp_in_nI (by omega) (by omega), br_c (fun z => h0 (fun y => ?_)) (fun z => br_c (fun y => kk () (fun w hw => ?_)) (fun y => h0 (fun q => ?_)))⟩
      · have := (y i hi).1
        omega
      · by_cases e : w = i
        · subst e
          unfold WB
          rw [← v2]
          exact ⟨by omega, y⟩
        · exact hs w (by omega)
      · have := (q i hi).2
        rw [← v2] at this
        exact y this
    rw [ci, m1, iI_l (by unfold rI; omega), l27720, lI_mul]
    refine br_c (fun z => go _ (by omega) (by omega) (by rw [if_pos z])) (fun z => ?_)
    have := go 0 (by omega) (by omega) (by rw [if_neg z])
    rw [← lI_0] at this
    exact this
theorem sp_gatesHold (C : TC told lst off lim nW V kd M' us wi it le gof li va kn mo wo u) (A : TLC X P tx tp) {post : Int32 → Prop} (h1 : (∀ l, l < 5 → told l ∧ ¬ off l → HG lst lim nW us X l) → post 1) (h0 : ¬ (∀ l, l < 5 → told l ∧ ¬ off l → HG lst lim nW us X l) → post 0) : wp_X5_gatesHold tx wi it le gof li u post := by
  obtain ⟨c1, c2, c3, c4, c5⟩ := C
  subst c1
  unfold wp_X5_gatesHold
  refine sp_heldGates (told := told) (off := off) (fun l hl => ⟨(c3 l hl).1, (c3 l hl).2.1⟩) (fun l hl => ⟨(c3 l hl).2.2.2.2.1, (c3 l hl).2.2.2.2.2.1⟩) (fun m hm => ?_)
  refine pk_loop (σ := Unit) (fun n i _ => wl_X5_gatesHold_7 (nI m) tx (nI nW) it le gof li u _ _ post n (nI i)) (fun i _ => ∀ l, l < i → told l ∧ ¬ off l → HG lst lim nW us X l) 5 0 () (by omega) (fun w hw => by omega) (fun n s hs => ?_) (fun n i s hi hs kk => ?_)
  · show ws_X5_gatesHold_7 _ _ _ _ _ _ _ _ _ _ _ _ _
    unfold ws_X5_gatesHold_7
    exact br_t (by decide) (h1 hs)
  · show ws_X5_gatesHold_7 _ _ _ _ _ _ _ _ _ _ _ _ _
    unfold ws_X5_gatesHold_7
    have ci : (nI i).toNatClampNeg = i := nI_clamp (by omega)
    obtain ⟨_, _, a3, a4, _, _, a7, a8, a9⟩ := c3 i hi
    refine br_f (nI_ge (b := 5) hi (by omega)) ?_
    have nxt : (told i ∧ ¬ off i → HG lst lim nW us X i) → ∀ l, l < i + 1 → told l ∧ ¬ off l → HG lst lim nW us X l := fun y l hl => by
      by_cases e : l = i
      · subst e; exact y
      · exact hs l (by omega)
    have bits : ((nI m >>> (nI i &&& 31)) &&& (1 : Int32)) = 0 → ¬ (told i ∧ ¬ off i) := fun z y => by
      have := (hm i hi).mpr y
      rw [z] at this
      exact absurd this (by decide)
    rw [ci, nI_1 i]
    refine br_c (fun z => kk () (nxt (fun y => absurd y (bits z)))) (fun z => ⟨vp_in_nI (by omega) (by omega), ?_⟩)
    intro v hv
    have hv' : v = lI (-(lim i * 27720)) := by
      rw [hv, a7, iI_l (by unfold rI; omega), l27720, lI_neg, lI_mul, Int.neg_mul]
    have hel : told i ∧ ¬ off i := (hm i hi).mp (by rcases and1 (nI m >>> (nI i &&& 31)) with q | q; exact absurd q z; exact q)
    have uX : ∀ w, w < nW → (-250000000 ≤ us w i * X w ∧ us w i * X w ≤ 250000000) := fun w hw => by
      have b1 := ((c4 w (by omega)).2.2.2.2.2.2.2.2.2.2 i hi).2
      have b2 := (A.1 w (by omega)).2
      have := ab_mul (x := us w i) (X := 9) (y := X w) (Y := 27692280) (by omega) (by omega) (by omega) (by omega)
      omega
    have sb := ssum_le (f := fun w => us w i * X w) (B := 250000000) (by omega) nW uX
    refine pk_loop (σ := Int64) (fun n k s => wl_X5_gatesHold_40 (nI m) (nI i) tx (nI nW) it le gof li u _ post n s (nI k)) (fun k s => s = lI (-(lim i * 27720) + ssum (fun w => us w i * X w) k)) nW 0 v (by omega) (by rw [hv']; exact congrArg lI (by simp only [ssum]; omega)) (fun n2 s hs2 => ?_) (fun n2 k s hk hs2 kk2 => ?_)
    · show ws_X5_gatesHold_40 _ _ _ _ _ _ _ _ _ _ _ _ _ _
      unfold ws_X5_gatesHold_40
      subst hs2
      refine br_t (nI_le (Nat.le_refl _) (by omega)) ⟨vp_in_nI (by omega) (by omega), ?_⟩
      rw [lI_0, lI_le ⟨by omega, by omega⟩ ⟨by omega, by omega⟩, lI_le ⟨by omega, by omega⟩ ⟨by omega, by omega⟩]
      have kc : ((∀ l, l < i + 1 → told l ∧ ¬ off l → HG lst lim nW us X l) → wl_X5_gatesHold_7 (nI m) tx (nI nW) it le gof li u (post 1) (post 0) post n (nI (i + 1))) := fun y => kk () y
      refine br_c (fun y => ?_) (fun y => ?_)
      · have nl : ¬ lst i := fun q => by
          have := a4.mpr q
          rw [y] at this
          exact absurd this (by decide)
        exact br_c (fun q => kc (nxt (fun _ => ⟨fun r => absurd r nl, fun _ => by omega⟩))) (fun q => h0 (fun r => q (by have := (r i hi hel).2 nl; omega)))
      · have nl : lst i := a4.mp (by rcases a3 with q | q; exact absurd q y; exact q)
        exact br_c (fun q => kc (nxt (fun _ => ⟨fun _ => by omega, fun r => absurd nl r⟩))) (fun q => h0 (fun r => q (by have := (r i hi hel).1 nl; omega)))
    · show ws_X5_gatesHold_40 _ _ _ _ _ _ _ _ _ _ _ _ _ _
      unfold ws_X5_gatesHold_40
      subst hs2
      have ck : (nI k).toNatClampNeg = k := nI_clamp (by omega)
      have b1 := (c4 k (by omega)).2.2.2.2.2.2.2.2.2.2 i hi
      refine br_f (nI_ge hk (by omega)) ⟨vp_in_nI (by omega) (by omega), vp_in_nI (by omega) (by omega), ?_⟩
      intro v2 hv2
      rw [ck, ci, b1.1, iI_l (by unfold rI; omega), (A.1 k (by omega)).1, lI_mul, lI_add] at hv2
      rw [nI_1 k]
      refine kk2 v2 ?_
      rw [hv2]
      exact congrArg lI (by simp only [ssum]; omega)
theorem sp_pricesFit (C : TC told lst off lim nW V kd M' us wi it le gof li va kn mo wo u) (A : TLC X P tx tp) {post : Int32 → Prop} (h1 : (∀ l, l < 5 → told l → PF lst off P l) → post 1) (h0 : ¬ (∀ l, l < 5 → told l → PF lst off P l) → post 0) : wp_X5_pricesFit tp it le gof post := by
  obtain ⟨c1, c2, c3, c4, c5⟩ := C
  unfold wp_X5_pricesFit
  refine pk_loop (σ := Unit) (fun n i _ => wl_X5_pricesFit_2 tp it le gof _ _ _ post n (nI i)) (fun i _ => ∀ l, l < i → told l → PF lst off P l) 5 0 () (by omega) (fun w hw => by omega) (fun n s hs => ?_) (fun n i s hi hs kk => ?_)
  · show ws_X5_pricesFit_2 _ _ _ _ _ _ _ _ _ _
    unfold ws_X5_pricesFit_2
    exact br_t (by decide) (h1 hs)
  · show ws_X5_pricesFit_2 _ _ _ _ _ _ _ _ _ _
    unfold ws_X5_pricesFit_2
    have ci : (nI i).toNatClampNeg = i := nI_clamp (by omega)
    obtain ⟨a1, a2, a3, a4, a5, a6, a7, a8, a9⟩ := c3 i hi
    obtain ⟨p1, p2, p3⟩ := A.2 i hi
    have nxt : (told i → PF lst off P i) → ∀ l, l < i + 1 → told l → PF lst off P l := fun y l hl => by
      by_cases e : l = i
      · subst e; exact y
      · exact hs l (by omega)
    have kc : (told i → PF lst off P i) → wl_X5_pricesFit_2 tp it le gof (post 1) (post 0) (post 0) post n (nI (i + 1)) := fun y => kk () (nxt y)
    refine br_f (nI_ge (b := 5) hi (by omega)) ⟨vp_in_nI (by omega) (by omega), ?_⟩
    rw [ci]
    refine br_c (fun z => ?_) (fun z => ?_)
    · rw [nI_1 i]
      exact kc (fun t => by have := a2.mpr t; rw [z] at this; exact absurd this (by decide))
    · have t : told i := a2.mp (by rcases a1 with q | q; exact absurd q z; exact q)
      have fin : (off i → P i = 0) → wj_X5_pricesFit_43 (nI i) (tp i) tp it le gof (wl_X5_pricesFit_2 tp it le gof (post 1) (post 0) (post 0) post n) (post 1) (post 0) (post 0) post := fun po => by
        unfold wj_X5_pricesFit_43
        rw [ci, nI_1 i, p1, lI_0, lI_le ⟨by omega, by omega⟩ ⟨by omega, by omega⟩, lI_le ⟨by omega, by omega⟩ ⟨by omega, by omega⟩]
        refine ⟨vp_in_nI (by omega) (by omega), br_c (fun y => ?_) (fun y => ?_)⟩
        · have nl : ¬ lst i := fun q => by
            have := a4.mpr q
            rw [y] at this
            exact absurd this (by decide)
          exact br_c (fun q => kc (fun _ => ⟨po, fun r => absurd r nl, fun _ => q⟩)) (fun q => h0 (fun r => q ((r i hi t).2.2 nl)))
        · have nl : lst i := a4.mp (by rcases a3 with q | q; exact absurd q y; exact q)
          exact br_c (fun q => kc (fun _ => ⟨po, fun _ => q, fun r => absurd nl r⟩)) (fun q => h0 (fun r => q ((r i hi t).2.1 nl)))
      refine br_c (fun y => fin (fun o => ?_)) (fun y => br_c (fun q => fin (fun _ => ?_)) (fun q => h0 (fun r => q ?_)))
      · have := a6.mpr o
        rw [y] at this
        exact absurd this (by decide)
      · rw [p1, lI_0, lI_eq ⟨by omega, by omega⟩ ⟨by omega, by omega⟩] at q
        exact q
      · have o : off i := a6.mp (by rcases a5 with v | v; exact absurd v y; exact v)
        rw [p1, (r i hi t).1 o]
        rfl
theorem rest_b (C : TC told lst off lim nW V kd M' us wi it le gof li va kn mo wo u) (A : TLC X P tx tp) {w : Nat} (hw : w < 4) : (∀ l, l < 5 → (-250000000 ≤ us w l * P l ∧ us w l * P l ≤ 250000000)) ∧ -1300000000 ≤ rest V us P w ∧ rest V us P w ≤ 1300000000 := by
  obtain ⟨c1, c2, c3, c4, c5⟩ := C
  have uP : ∀ l, l < 5 → (-250000000 ≤ us w l * P l ∧ us w l * P l ≤ 250000000) := fun l hl => by
    have b1 := ((c4 w hw).2.2.2.2.2.2.2.2.2.2 l hl).2
    have b2 := (A.2 l hl).2
    have := ab_mul (x := us w l) (X := 9) (y := P l) (Y := 27692280) (by omega) (by omega) (by omega) (by omega)
    omega
  have sb := ssum_le (f := fun l => us w l * P l) (B := 250000000) (by omega) 5 uP
  have v := (c4 w hw).2
  refine ⟨uP, ?_⟩
  unfold rest
  omega
theorem sp_rest (C : TC told lst off lim nW V kd M' us wi it le gof li va kn mo wo u) (A : TLC X P tx tp) {w : Nat} (hw : w < 4) {post : Int64 → Prop} (h : post (lI (if 0 < rest V us P w then rest V us P w else 0))) : wp_X5_rest tp va u (nI w) post := by
  have rb := (rest_b C A hw).2
  obtain ⟨c1, c2, c3, c4, c5⟩ := C
  have cw : (nI w).toNatClampNeg = w := nI_clamp (by omega)
  have v := c4 w hw
  unfold wp_X5_rest
  rw [cw, v.1, iI_l (by unfold rI; omega), l27720, lI_mul]
  refine ⟨vp_in_nI (by omega) (by omega), ?_⟩
  refine pk_loop (σ := Int64) (fun n i s => wl_X5_rest_15 (nI w) tp va u _ post n s (nI i)) (fun i s => s = lI (V w * 27720 - ssum (fun l => us w l * P l) i)) 5 0 _ (by omega) (congrArg lI (by simp only [ssum]; omega)) (fun n s hs => ?_) (fun n i s hi hs kk => ?_)
  · show ws_X5_rest_15 _ _ _ _ _ _ _ _ _
    unfold ws_X5_rest_15
    subst hs
    refine br_t (by decide) ?_
    have e : (if (0 : Int64) < lI (V w * 27720 - ssum (fun l => us w l * P l) 5) then lI (V w * 27720 - ssum (fun l => us w l * P l) 5) else 0) = lI (if 0 < rest V us P w then rest V us P w else 0) := by
      show (if (0 : Int64) < lI (rest V us P w) then lI (rest V us P w) else 0) = _
      rw [lI_0]
      by_cases z : 0 < rest V us P w
      · rw [if_pos z, if_pos ((lI_lt ⟨by omega, by omega⟩ ⟨by omega, by omega⟩).mpr z)]
      · rw [if_neg z, if_neg (fun y => z ((lI_lt ⟨by omega, by omega⟩ ⟨by omega, by omega⟩).mp y))]
    show post (if (0 : Int64) < lI (V w * 27720 - ssum (fun l => us w l * P l) 5) then lI (V w * 27720 - ssum (fun l => us w l * P l) 5) else 0)
    rw [e]
    exact h
  · show ws_X5_rest_15 _ _ _ _ _ _ _ _ _
    unfold ws_X5_rest_15
    subst hs
    have ci : (nI i).toNatClampNeg = i := nI_clamp (by omega)
    have b1 := v.2.2.2.2.2.2.2.2.2.2 i hi
    refine br_f (nI_ge (b := 5) hi (by omega)) ⟨vp_in_nI (by omega) (by omega), vp_in_nI (by omega) (by omega), ?_⟩
    intro v2 hv2
    rw [cw, ci, b1.1, iI_l (by unfold rI; omega), (A.2 i hi).1, lI_mul, lI_sub] at hv2
    rw [nI_1 i]
    refine kk v2 ?_
    rw [hv2]
    exact congrArg lI (by simp only [ssum]; omega)
theorem SUM_b (C : TC told lst off lim nW V kd M' us wi it le gof li va kn mo wo u) (A : TLC X P tx tp) : -100000000000000 ≤ SUM told lim nW V M' us X P wo ∧ SUM told lim nW V M' us X P wo ≤ 100000000000000 := by
  have hW := C.2.1
  have b1 : ∀ w, w < nW → -20000000000 ≤ (fun w => mrest V M' us P wo w - V w * X w) w ∧ (fun w => mrest V M' us P wo w - V w * X w) w ≤ 20000000000 := fun w hw => by
    have rb := (rest_b C A (w := w) (by omega)).2
    have c4 := C.2.2.2.1 w (by omega)
    have x := (A.1 w (by omega)).2
    have m1 := ab_mul (x := V w) (X := 99) (y := X w) (Y := 27692280) (by omega) (by omega) (by omega) (by omega)
    (try dsimp only)
    unfold mrest
    split
    · split
      · have m2 := ab_mul (x := M' w) (X := 12) (y := rest V us P w) (Y := 1300000000) (by omega) (by omega) (by omega) (by omega)
        omega
      · omega
    · omega
  have b2 : ∀ l, l < 5 → -20000000000 ≤ plim told lim P l ∧ plim told lim P l ≤ 20000000000 := fun l hl => by
    have c3 := C.2.2.1 l hl
    have x := (A.2 l hl).2
    have m1 := ab_mul (x := lim l) (X := 99) (y := P l) (Y := 27692280) (by omega) (by omega) (by omega) (by omega)
    unfold plim
    split <;> omega
  have s1 := ssum_le (B := 20000000000) (by omega) nW b1
  have s2 := ssum_le (B := 20000000000) (by omega) 5 b2
  unfold SUM
  omega
theorem sp_sumsMeet (C : TC told lst off lim nW V kd M' us wi it le gof li va kn mo wo u) (A : TLC X P tx tp) {post : Int32 → Prop} (h1 : SUM told lim nW V M' us X P wo = 0 → post 1) (h0 : ¬ SUM told lim nW V M' us X P wo = 0 → post 0) : wp_X5_sumsMeet tx tp wi it li va mo wo u post := by
  have sb := SUM_b C A
  have C' := C
  obtain ⟨c1, c2, c3, c4, c5⟩ := C
  subst c1
  unfold wp_X5_sumsMeet
  refine pk_loop (σ := Int64) (fun n i s => wl_X5_sumsMeet_5 tx tp (nI nW) it li va mo wo u _ post n s (nI i)) (fun i s => s = lI (ssum (fun w => mrest V M' us P wo w - V w * X w) i)) nW 0 0 (by omega) rfl (fun n s hs => ?_) (fun n i s hi hs kk => ?_)
  · show ws_X5_sumsMeet_5 _ _ _ _ _ _ _ _ _ _ _ _ _ _
    unfold ws_X5_sumsMeet_5
    subst hs
    refine br_t (nI_le (Nat.le_refl _) (by omega)) ?_
    refine pk_loop (σ := Int64) (fun n i s => wl_X5_sumsMeet_71 tx tp (nI nW) it li va mo wo u _ post n s (nI i)) (fun i s => s = lI (ssum (fun w => mrest V M' us P wo w - V w * X w) nW + ssum (plim told lim P) i)) 5 0 _ (by omega) (congrArg lI (by simp only [ssum]; omega)) (fun n s hs => ?_) (fun n i s hi hs kk => ?_)
    · show ws_X5_sumsMeet_71 _ _ _ _ _ _ _ _ _ _ _ _ _ _
      unfold ws_X5_sumsMeet_71
      subst hs
      refine br_t (by decide) ?_
      show ((lI (SUM told lim nW V M' us X P wo) = 0 → post 1) ∧ (¬ lI (SUM told lim nW V M' us X P wo) = 0 → post 0))
      rw [lI_0, lI_eq ⟨by omega, by omega⟩ ⟨by omega, by omega⟩]
      exact ⟨h1, h0⟩
    · show ws_X5_sumsMeet_71 _ _ _ _ _ _ _ _ _ _ _ _ _ _
      unfold ws_X5_sumsMeet_71
      subst hs
      have ci : (nI i).toNatClampNeg = i := nI_clamp (by omega)
      obtain ⟨a1, a2, _, _, _, _, a7, a8, a9⟩ := c3 i hi
      refine br_f (nI_ge (b := 5) hi (by omega)) ⟨vp_in_nI (by omega) (by omega), ?_⟩
      rw [ci, nI_1 i]
      refine br_c (fun z => kk _ (congrArg lI ?_)) (fun z => ?_)
      · have nt : ¬ told i := fun t => by have := a2.mpr t; rw [z] at this; exact absurd this (by decide)
        have : plim told lim P i = 0 := by unfold plim; rw [if_neg nt]
        simp only [ssum, this]
        omega
      · have t : told i := a2.mp (by rcases a1 with q | q; exact absurd q z; exact q)
        intro v hv
        rw [a7, iI_l (by unfold rI; omega), (A.2 i hi).1, lI_mul, lI_add] at hv
        refine kk v ?_
        rw [hv]
        have : plim told lim P i = lim i * P i := by unfold plim; rw [if_pos t]
        exact congrArg lI (by simp only [ssum, this]; omega)
  · show ws_X5_sumsMeet_5 _ _ _ _ _ _ _ _ _ _ _ _ _ _
    unfold ws_X5_sumsMeet_5
    subst hs
    have ci : (nI i).toNatClampNeg = i := nI_clamp (by omega)
    obtain ⟨v1, v2, v3, _, _, _, _, m1, m2, m3, _⟩ := c4 i (by omega)
    refine br_f (nI_ge hi (by omega)) ⟨vp_in_nI (by omega) (by omega), ?_⟩
    intro v hv
    rw [ci, v1, iI_l (by unfold rI; omega), (A.1 i (by omega)).1, lI_mul, lI_sub] at hv
    rw [ci, nI_1 i]
    refine br_c (fun z => sp_rest C' A (by omega) (kk _ ?_)) (fun z => kk v ?_)
    · rw [hv, m1, iI_l (by unfold rI; omega), lI_mul, lI_add]
      have : mrest V M' us P wo i = M' i * (if 0 < rest V us P i then rest V us P i else 0) := by unfold mrest; rw [if_pos z]
      exact congrArg lI (by simp only [ssum, this]; omega)
    · rw [hv]
      have : mrest V M' us P wo i = 0 := by unfold mrest; rw [if_neg z]
      exact congrArg lI (by simp only [ssum, this]; omega)
end CHECK
