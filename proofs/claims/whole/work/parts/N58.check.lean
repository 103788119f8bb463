/-! check: the reference -/
section CHECKM
variable {told lst off : Nat → Prop} {lim : Nat → Int} {nW : Nat} {V kd M' : Nat → Int} {us : Nat → Nat → Int} {wi : Int32} {it le gof li va kn mo wo : Nat → Int32} {u : Nat → Nat → Int32} {nG : Nat} {gl : Nat → Nat} {ga wi' : Int32} {lt ls ca go wr kn' mo' wf ue : Nat → Int32}
variable {X P : Nat → Int} {tx tp : Nat → Int64} {tu td pu pd : Nat → Int32}
theorem letter_sum (E : EnumN told 5 nG gl) {f : Nat → Int} (h0 : ∀ l, l < 5 → ¬ told l → f l = 0) : ssum (fun g => f (gl g)) nG = ssum f 5 := by
  have key : ∀ i, i ≤ 5 → ∃ k, Cut gl nG i k ∧ ssum (fun g => f (gl g)) k = ssum f i := by
    intro i
    induction i with
    | zero => exact fun _ => ⟨0, Cut_0 gl nG, rfl⟩
    | succ i ih =>
      intro hi
      obtain ⟨k, k1, k2⟩ := ih (by omega)
      by_cases t : told i
      · obtain ⟨y1, y2, y3⟩ := Cut_yes E k1 (by omega) t
        refine ⟨k + 1, y3, ?_⟩
        simp only [ssum, y2]
        omega
      · refine ⟨k, Cut_no E k1 t, ?_⟩
        simp only [ssum, h0 i (by omega) t]
        omega
  obtain ⟨k, k1, k2⟩ := key 5 (by omega)
  have := Cut_end E k1
  subst this
  exact k2
theorem sp_toldX (hW : nW ≤ 4) (B : TLM nW nG gl X P tu td pu pd) {w : Nat} (hw : w < nW) {post : Int64 → Prop} (h : post (lI (X w))) : wp_X7_toldX tu td (nI w) post := by
  unfold wp_X7_toldX
  have cw : (nI w).toNatClampNeg = w := nI_clamp (by omega)
  obtain ⟨e1, e2⟩ := Sc_l (B.1 w hw)
  rw [cw, e2]
  exact ⟨vp_in_nI (by omega) (by omega), e1, h⟩
theorem sp_priceM (hG : nG ≤ 5) (B : TLM nW nG gl X P tu td pu pd) {g : Nat} (hg : g < nG) {post : Int64 → Prop} (h : post (lI (P (gl g)))) : wp_X7_price pu pd (nI g) post := by
  unfold wp_X7_price
  have cw : (nI g).toNatClampNeg = g := nI_clamp (by omega)
  obtain ⟨e1, e2⟩ := Sc_l (B.2 g hg)
  rw [cw, e2]
  exact ⟨vp_in_nI (by omega) (by omega), e1, h⟩
theorem sp_isWithin (C : TC told lst off lim nW V kd M' us wi it le gof li va kn mo wo u) (D : TM told lst off lim nW V kd M' us nG gl wo ga wi' lt ls ca go wr kn' mo' wf ue) (B : TLM nW nG gl X P tu td pu pd) {w : Nat} (hw : w < nW) {post : Int32 → Prop} (h1 : WB M' X wo w → post 1) (h0 : ¬ WB M' X wo w → post 0) : wp_X7_isWithin mo' wf tu td (nI w) post := by
  have hW := C.2.1
  have cw : (nI w).toNatClampNeg = w := nI_clamp (by omega)
  obtain ⟨_, _, m1, m2⟩ := D.2.2.2.2 w hw
  have c4 := C.2.2.2.1 w (by omega)
  have xb := Sc_b (B.1 w hw)
  unfold wp_X7_isWithin
  rw [cw, m2]
  unfold WB at h1 h0
  refine ⟨vp_in_nI (by omega) (by omega), br_c (fun z => ?_) (fun z => ?_)⟩
  · rw [if_pos z] at h1 h0
    refine sp_toldX hW B hw ?_
    rw [m1, iI_l (by unfold rI; omega), l27720, lI_mul, lI_0]
    exact sp_in ⟨by omega, by omega⟩ ⟨by omega, by omega⟩ ⟨by omega, by omega⟩ (fun y => ⟨rfl, h1 y⟩) (fun y => ⟨rfl, h0 y⟩)
  · rw [if_neg z] at h1 h0
    have s := (Sc_0 (B.1 w hw)).1
    rw [s]
    exact br_c (fun y => h1 (by omega)) (fun y => h0 (by omega))
theorem sp_isPriceM (D : TM told lst off lim nW V kd M' us nG gl wo ga wi' lt ls ca go wr kn' mo' wf ue) (B : TLM nW nG gl X P tu td pu pd) {g : Nat} (hg : g < nG) {post : Int32 → Prop} (h1 : PF lst off P (gl g) → post 1) (h0 : ¬ PF lst off P (gl g) → post 0) : wp_X7_isPrice ls go pu (nI g) post := by
  have E := D.1
  have E5 := E.1
  have cg : (nI g).toNatClampNeg = g := nI_clamp (by omega)
  obtain ⟨a1, a2, a3, a4, a5, a6, a7⟩ := D.2.2.2.1 g hg
  obtain ⟨s0, s1, s2⟩ := Sc_0 (B.2 g hg)
  unfold wp_X7_isPrice
  rw [cg, s0, s1, s2]
  unfold PF at h1 h0
  refine ⟨vp_in_nI (by omega) (by omega), br_c (fun z => ?_) (fun z => ?_)⟩
  · have no : ¬ off (gl g) := fun o => by have := a6.mpr o; rw [z] at this; exact absurd this (by decide)
    refine br_c (fun y => ?_) (fun y => ?_)
    · have l := a3.mp y
      exact br_c (fun q => h0 (fun r => by have := r.2.1 l; omega)) (fun q => h1 ⟨fun o => absurd o no, fun _ => by omega, fun n => absurd l n⟩)
    · have l : ¬ lst (gl g) := fun n => y (a3.mpr n)
      exact br_c (fun q => h0 (fun r => by have := r.2.2 l; omega)) (fun q => h1 ⟨fun o => absurd o no, fun n => absurd n l, fun _ => by omega⟩)
  · have o : off (gl g) := a6.mp (by rcases a5 with q | q; exact absurd q z; exact q)
    exact br_c (fun q => h1 ⟨fun _ => q, fun _ => by omega, fun _ => by omega⟩) (fun q => h0 (fun r => q (r.1 o)))
/-- what the wishes that are not off carry -/
def onX (X : Nat → Int) (wo : Nat → Int32) (w : Nat) : Int := if wo w = 0 then X w else 0
theorem sp_isHeldM (C : TC told lst off lim nW V kd M' us wi it le gof li va kn mo wo u) (D : TM told lst off lim nW V kd M' us nG gl wo ga wi' lt ls ca go wr kn' mo' wf ue) (B : TLM nW nG gl X P tu td pu pd) {g : Nat} (hg : g < nG) {post : Int32 → Prop} (h1 : (¬ off (gl g) → HG lst lim nW us (onX X wo) (gl g)) → post 1) (h0 : ¬ (¬ off (gl g) → HG lst lim nW us (onX X wo) (gl g)) → post 0) : wp_X7_isHeld wi' ls ca go wf ue tu td (nI g) post := by
  have E := D.1
  have E5 := E.1
  have hW := C.2.1
  have ewi' := D.2.2.1
  subst ewi'
  have cg : (nI g).toNatClampNeg = g := nI_clamp (by omega)
  obtain ⟨a1, a2, a3, a4, a5, a6, a7⟩ := D.2.2.2.1 g hg
  have l5 := (E.2.1 g hg).1
  have c3 := C.2.2.1 (gl g) l5
  have uX : ∀ w, w < nW → (-250000000 ≤ us w (gl g) * onX X wo w ∧ us w (gl g) * onX X wo w ≤ 250000000) := fun w hw => by
    have b1 := ((C.2.2.2.1 w (by omega)).2.2.2.2.2.2.2.2.2.2 (gl g) l5).2
    have b2 := Sc_b (B.1 w hw)
    have b3 : -27692280 ≤ onX X wo w ∧ onX X wo w ≤ 27692280 := by unfold onX; split <;> omega
    have := ab_mul (x := us w (gl g)) (X := 9) (y := onX X wo w) (Y := 27692280) (by omega) (by omega) (by omega) (by omega)
    omega
  have sb := ssum_le (f := fun w => us w (gl g) * onX X wo w) (B := 250000000) (by omega) nW uX
  unfold wp_X7_isHeld
  refine pk_loop (σ := Int64) (fun n i s => wl_X7_isHeld_5 (nI g) (nI nW) ls ca go wf ue tu td _ post n s (nI i)) (fun i s => s = lI (ssum (fun w => us w (gl g) * onX X wo w) i)) nW 0 0 (by omega) rfl (fun n s hs => ?_) (fun n i s hi hs kk => ?_)
  · show ws_X7_isHeld_5 _ _ _ _ _ _ _ _ _ _ _ _ _ _
    unfold ws_X7_isHeld_5
    subst hs
    refine br_t (nI_le (Nat.le_refl _) (by omega)) ⟨vp_in_nI (by omega) (by omega), ?_⟩
    rw [cg, a4, iI_l (by unfold rI; omega), l27720, lI_mul, lI_lt ⟨by omega, by omega⟩ ⟨by omega, by omega⟩, lI_lt ⟨by omega, by omega⟩ ⟨by omega, by omega⟩]
    unfold HG at h1 h0
    refine br_c (fun z => ?_) (fun z => ?_)
    · have no : ¬ off (gl g) := fun o => by have := a6.mpr o; rw [z] at this; exact absurd this (by decide)
      refine br_c (fun y => ?_) (fun y => ?_)
      · have l := a3.mp y
        exact br_c (fun q => h0 (fun r => by have := (r no).1 l; omega)) (fun q => h1 (fun _ => ⟨fun _ => by omega, fun n => absurd l n⟩))
      · have l : ¬ lst (gl g) := fun n => y (a3.mpr n)
        exact br_c (fun q => h0 (fun r => by have := (r no).2 l; omega)) (fun q => h1 (fun _ => ⟨fun n => absurd n l, fun _ => by omega⟩))
    · have o : off (gl g) := a6.mp (by rcases a5 with q | q; exact absurd q z; exact q)
      exact h1 (fun n => absurd o n)
  · show ws_X7_isHeld_5 _ _ _ _ _ _ _ _ _ _ _ _ _ _
    unfold ws_X7_isHeld_5
    subst hs
    have ci : (nI i).toNatClampNeg = i := nI_clamp (by omega)
    have c5 : (nI (5 * i + g)).toNatClampNeg = 5 * i + g := nI_clamp (by omega)
    have ew := (D.2.2.2.2 i hi).2.2.2
    have b1 := ((C.2.2.2.1 i (by omega)).2.2.2.2.2.2.2.2.2.2 (gl g) l5).2
    refine br_f (nI_ge hi (by omega)) ⟨vp_in_nI (by omega) (by omega), ?_⟩
    rw [ci, ix5 i g, c5, ew, a7 i hi, iI_l (by unfold rI; omega)]
    refine br_c (fun z => ⟨vp_in_nI (by omega) (by omega), sp_toldX hW B hi ?_⟩) (fun z => ?_)
    · unfold wj_X7_isHeld_48
      rw [lI_mul, lI_add, nI_1 i]
      refine kk _ (congrArg lI ?_)
      have : onX X wo i = X i := by unfold onX; rw [if_pos z]
      simp only [ssum, this]
    · unfold wj_X7_isHeld_48
      rw [lI_0, lI_add, nI_1 i]
      refine kk _ (congrArg lI ?_)
      have : onX X wo i = 0 := by unfold onX; rw [if_neg z]
      simp only [ssum, this, Int.mul_zero]
/-- the answer of check -/
def CK (told lst off : Nat → Prop) (lim : Nat → Int) (nW : Nat) (V M' : Nat → Int) (us : Nat → Nat → Int) (X P : Nat → Int) (wo : Nat → Int32) (r : Int32) : Prop :=
  (¬ (∀ w, w < nW → WB M' X wo w) → r = 1) ∧ ((∀ w, w < nW → WB M' X wo w) → (¬ (∀ l, l < 5 → told l ∧ ¬ off l → HG lst lim nW us X l) → r = 2) ∧ ((∀ l, l < 5 → told l ∧ ¬ off l → HG lst lim nW us X l) → (¬ (∀ l, l < 5 → told l → PF lst off P l) → r = 3) ∧ ((∀ l, l < 5 → told l → PF lst off P l) → (SUM told lim nW V M' us X P wo = 0 → r = 0) ∧ (¬ SUM told lim nW V M' us X P wo = 0 → r = 4))))
theorem CK_one {r r' : Int32} (a : CK told lst off lim nW V M' us X P wo r) (b : CK told lst off lim nW V M' us X P wo r') : r = r' := by
  by_cases z1 : ∀ w, w < nW → WB M' X wo w
  · by_cases z2 : ∀ l, l < 5 → told l ∧ ¬ off l → HG lst lim nW us X l
    · by_cases z3 : ∀ l, l < 5 → told l → PF lst off P l
      · by_cases z4 : SUM told lim nW V M' us X P wo = 0
        · rw [(((a.2 z1).2 z2).2 z3).1 z4, (((b.2 z1).2 z2).2 z3).1 z4]
        · rw [(((a.2 z1).2 z2).2 z3).2 z4, (((b.2 z1).2 z2).2 z3).2 z4]
      · rw [((a.2 z1).2 z2).1 z3, ((b.2 z1).2 z2).1 z3]
    · rw [(a.2 z1).1 z2, (b.2 z1).1 z2]
  · rw [a.1 z1, b.1 z1]
theorem eq_checkC (C : TC told lst off lim nW V kd M' us wi it le gof li va kn mo wo u) (A : TLC X P tx tp) : wp_X6_check tx tp wi it le gof li va mo wo u (CK told lst off lim nW V M' us X P wo) := by
  unfold wp_X6_check
  refine sp_withinBounds C A (fun z1 => br_f (by decide) (sp_gatesHold C A (fun z2 => br_f (by decide) (sp_pricesFit C A (fun z3 => br_f (by decide) (sp_sumsMeet C A (fun z4 => br_f (by decide) ?_) (fun z4 => br_t rfl ?_))) (fun z3 => br_t rfl ?_))) (fun z2 => br_t rfl ?_))) (fun z1 => br_t rfl ?_)
  · exact ⟨fun n => absurd z1 n, fun _ => ⟨fun n => absurd z2 n, fun _ => ⟨fun n => absurd z3 n, fun _ => ⟨fun _ => rfl, fun n => absurd z4 n⟩⟩⟩⟩
  · exact ⟨fun n => absurd z1 n, fun _ => ⟨fun n => absurd z2 n, fun _ => ⟨fun n => absurd z3 n, fun _ => ⟨fun n => absurd n z4, fun _ => rfl⟩⟩⟩⟩
  · exact ⟨fun n => absurd z1 n, fun _ => ⟨fun n => absurd z2 n, fun _ => ⟨fun _ => rfl, fun n => absurd n z3⟩⟩⟩
  · exact ⟨fun n => absurd z1 n, fun _ => ⟨fun _ => rfl, fun n => absurd n z2⟩⟩
  · exact ⟨fun _ => rfl, fun n => absurd n z1⟩
end CHECKM
