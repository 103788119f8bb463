/-! the reference's corners -/
theorem ssum_lin {f g : Nat → Int} {a b : Int} : ∀ n : Nat, (∀ j, j < n → f j * a = g j * b) → ssum f n * a = ssum g n * b
  | 0, _ => by simp [ssum]
  | n + 1, h => by
    have i := ssum_lin n (fun j hj => h j (by omega))
    have j := h n (by omega)
    simp only [ssum]
    rw [Int.add_mul, Int.add_mul, i, j]
theorem le_scale {a b c d k l : Int} (hk : 0 < k) (hl : 0 < l) (e1 : a * k = c * l) (e2 : b * k = d * l) (h : c ≤ d) : a ≤ b := by
  have h2 := Int.mul_le_mul_of_nonneg_right h (Int.le_of_lt hl)
  rw [← e1, ← e2] at h2
  exact Int.le_of_mul_le_mul_right h2 hk
theorem GM_scale {nG nW : Nat} {U : Nat → Nat → Int} {lim : Nat → Int} {lst : Nat → Prop} {go : Nat → Int32} {X z : Nat → Int} {b ε : Int} (hb : 0 < b) (he : 0 < ε) (h : ∀ w, w < nW → X w * ε = z w * b) (g : GM nG nW U lim lst go z ε) : GM nG nW U lim lst go X b := by
  intro q hq oq
  have s := ssum_lin (f := fun w => U w q * X w) (g := fun w => U w q * z w) (a := ε) (b := b) nW (fun j hj => by
    (try dsimp only)
    rw [Int.mul_assoc, h j hj, Int.mul_assoc])
  have l : lim q * b * ε = lim q * ε * b := by grind
  obtain ⟨g1, g2⟩ := g q hq oq
  exact ⟨fun y => le_scale he hb l s (g1 y), fun y => le_scale he hb s l (g2 y)⟩
theorem Ge_scale {V q X z : Nat → Int} {g b ε : Int} (hb : 0 < b) (he : 0 < ε) (h : ∀ w, w < 4 → X w * ε = z w * b) (k : Ge V q g X b) : Ge V q g z ε := by
  have c : ∀ i, co V i X * ε = co V i z * b := fun i => by
    simp only [co, dot]
    have h0 := h 0 (by omega)
    have h1 := h 1 (by omega)
    have h2 := h 2 (by omega)
    have h3 := h 3 (by omega)
    grind
  have a := (LXZ_smul (w := fun i => ε * (co V i X * g - co V i q * b)) he (fun i _ => rfl)).mpr k
  refine (LXZ_smul (w := fun i => b * (co V i z * g - co V i q * ε)) hb (fun i _ => rfl)).mp (LXZ_eqv a (fun i _ => ?_))
  have := c i
  (try dsimp only)
  grind
theorem D4_tr (a b c d : Nat → Int) : D4 a b c d = D4 (fun r => if r = 0 then a 0 else if r = 1 then b 0 else if r = 2 then c 0 else d 0) (fun r => if r = 0 then a 1 else if r = 1 then b 1 else if r = 2 then c 1 else d 1) (fun r => if r = 0 then a 2 else if r = 1 then b 2 else if r = 2 then c 2 else d 2) (fun r => if r = 0 then a 3 else if r = 1 then b 3 else if r = 2 then c 3 else d 3) := by
  simp [D4]
  grind
/-- one column up to 540, the others up to 9 -/
theorem DET_le {p : Nat} {A : Nat → Nat → Int} {c0 : Nat} (h : ∀ r, r < p → ∀ c, c < p → -(if c = c0 then 540 else 9 : Int) ≤ A r c ∧ A r c ≤ (if c = c0 then 540 else 9 : Int)) : -9447840 ≤ DET p A ∧ DET p A ≤ 9447840 := by
  have e : ∀ r c, -(if c = c0 then 540 else 9 : Int) ≤ PA p A r c ∧ PA p A r c ≤ (if c = c0 then 540 else 9 : Int) := fun r c => by
    unfold PA
    by_cases q : r < p ∧ c < p
    · rw [if_pos q]; exact h r q.1 c q.2
    · rw [if_neg q]
      split <;> split <;> omega
  unfold DET dt
  rw [D4_tr]
  have cb : ∀ c, ∀ r, r < 4 → -(if c = c0 then 540 else 9 : Int) ≤ (if r = 0 then PA p A 0 c else if r = 1 then PA p A 1 c else if r = 2 then PA p A 2 c else PA p A 3 c) ∧ (if r = 0 then PA p A 0 c else if r = 1 then PA p A 1 c else if r = 2 then PA p A 2 c else PA p A 3 c) ≤ (if c = c0 then 540 else 9 : Int) := fun c r hr => by
    rcases (by omega : r = 0 ∨ r = 1 ∨ r = 2 ∨ r = 3) with f | f | f | f <;> subst f
    · exact e 0 c
    · exact e 1 c
    · exact e 2 c
    · exact e 3 c
  have k := D4_le (cb 0) (cb 1) (cb 2) (cb 3)
  rcases (by omega : c0 = 0 ∨ c0 = 1 ∨ c0 = 2 ∨ c0 = 3 ∨ 4 ≤ c0) with f | f | f | f | f
  · subst f
    rw [if_pos rfl, if_neg (by omega), if_neg (by omega), if_neg (by omega)] at k
    omega
  · subst f
    rw [if_neg (by omega), if_pos rfl, if_neg (by omega), if_neg (by omega)] at k
    omega
  · subst f
    rw [if_neg (by omega), if_neg (by omega), if_pos rfl, if_neg (by omega)] at k
    omega
  · subst f
    rw [if_neg (by omega), if_neg (by omega), if_neg (by omega), if_pos rfl] at k
    omega
  · rw [if_neg (by omega), if_neg (by omega), if_neg (by omega), if_neg (by omega)] at k
    omega
theorem DET_le9 {p : Nat} {A : Nat → Nat → Int} (h : ∀ r, r < p → ∀ c, c < p → -9 ≤ A r c ∧ A r c ≤ 9) : -157464 ≤ DET p A ∧ DET p A ≤ 157464 := by
  have e : ∀ r c, -9 ≤ PA p A r c ∧ PA p A r c ≤ 9 := fun r c => by
    unfold PA
    by_cases q : r < p ∧ c < p
    · rw [if_pos q]; exact h r q.1 c q.2
    · rw [if_neg q]
      split <;> omega
  have k := D4_le (A := 9) (B := 9) (C := 9) (E := 9) (fun i _ => e 0 i) (fun i _ => e 1 i) (fun i _ => e 2 i) (fun i _ => e 3 i)
  unfold DET dt
  omega
theorem ssum_nn {f : Nat → Int} {B : Int} : ∀ n : Nat, (∀ j, j < n → 0 ≤ f j ∧ f j ≤ B) → 0 ≤ ssum f n ∧ ssum f n ≤ n * B
  | 0, _ => by simp [ssum]
  | n + 1, h => by
    have a := ssum_nn n (fun j hj => h j (by omega))
    have b := h n (by omega)
    have e : ((n + 1 : Nat) : Int) * B = n * B + B := by push_cast; grind
    simp only [ssum]
    rw [e]
    omega
/-- all that a call of corners needs of the table, the parts, the given x -/
def CH (nG nW p : Nat) (pm : Nat → Nat) (P : Nat → Prop) (U : Nat → Nat → Int) (lim gv M' M V kd : Nat → Int) (lst : Nat → Prop) (ls ca mo us part va : Nat → Int32) (given : Nat → Int64) : Prop :=
  nG ≤ 5 ∧ nW ≤ 4 ∧ p ≤ 4 ∧ (∀ w, w < 4 → P w → w < nW ∧ gv w = 0 ∧ kd w = 0 ∧ M w = M' w) ∧ (∀ c, c < 4 → pm c < 4) ∧ (∀ w, w < 4 → ∃ c, c < 4 ∧ pm c = w) ∧ (∀ i j, i < 4 → j < 4 → pm i = pm j → i = j) ∧ (∀ c, c < p → P (pm c) ∧ part c = nI (pm c)) ∧ (∀ c, p ≤ c → c < 4 → ¬ P (pm c)) ∧ ModG nG nW U lim lst ls ca us ∧ (∀ w, w < nW → mo w = iI (M' w) ∧ 0 ≤ M' w ∧ M' w ≤ 12) ∧ (∀ w, w < nW → given w = lI (gv w)) ∧ (∀ w, w < 4 → 0 ≤ gv w ∧ gv w ≤ 12 ∧ (nW ≤ w → gv w = 0)) ∧ (∀ w, w < 4 → ¬ P w → gv w ≤ M w ∧ (kd w = 2 → gv w = 0 ∨ gv w = M w)) ∧ (∀ w, w < 4 → 0 ≤ V w ∧ V w ≤ 198) ∧ (∀ w, w < nW → va w = iI (V w)) ∧ (∀ w, w < 4 → 0 ≤ M w ∧ M w ≤ 12) ∧ (∀ w, w < nW → M w ≤ M' w)
/-- the corner of set S is met -/
def Cvd (nG nW p : Nat) (pm : Nat → Nat) (P : Nat → Prop) (U : Nat → Nat → Int) (lim gv M' V : Nat → Int) (lst : Nat → Prop) (go : Nat → Int32) (S : Nat) (h : Prop) (q : Nat → Int) (g : Int) : Prop :=
  (∀ e, e < nG + 2 * p → S.testBit e = true → onw nG go e) → nb S (nG + 2 * p) = p → ∀ er : Nat → Nat, (∀ r, r < p → er r < nG + 2 * p ∧ S.testBit (er r) = true ∧ nb S (er r) = r) → DET p (fun r c => cR nG pm U (er r) c) ≠ 0 → ∀ (z : Nat → Int) (ε : Int), 0 < ε → (∀ w, w < 4 → ¬ P w → z w = gv w * ε) → (∀ w, w < 4 → P w → 0 ≤ z w ∧ z w ≤ M' w * ε) → GM nG nW U lim lst go z ε → (∀ r, r < p → ssum (fun c => cR nG pm U (er r) c * z (pm c)) p = rtw nG nW p pm U lim gv M' (er r) * ε) → h ∧ Ge V q g z ε
section COR
variable {nG nW p : Nat} {pm : Nat → Nat} {P : Nat → Prop} {U : Nat → Nat → Int} {lim gv M' M V kd : Nat → Int} {lst : Nat → Prop} {ls ca go mo us part va : Nat → Int32} {given : Nat → Int64}
theorem CH_pm (H : CH nG nW p pm P U lim gv M' M V kd lst ls ca mo us part va given) : ∀ c, c < p → pm c < nW ∧ part c = nI (pm c) := fun c hc => by
  obtain ⟨h1, h2, h3, h4, h5, h6, h7, h8, _⟩ := H
  exact ⟨(h4 (pm c) (h5 c (by omega)) (h8 c hc).1).1, (h8 c hc).2⟩
theorem cR_le (H : CH nG nW p pm P U lim gv M' M V kd lst ls ca mo us part va given) {e c : Nat} (hc : c < p) : -9 ≤ cR nG pm U e c ∧ cR nG pm U e c ≤ 9 := by
  have hp := CH_pm H c hc
  have mg := H.2.2.2.2.2.2.2.2.2.1
  unfold cR
  by_cases q : e < nG
  · rw [if_pos q]
    have := (mg e q).2.2.2.2 (pm c) hp.1
    omega
  · rw [if_neg q]
    split <;> omega
theorem rtw_le (H : CH nG nW p pm P U lim gv M' M V kd lst ls ca mo us part va given) {e : Nat} (he : e < nG + 2 * p) : -540 ≤ rtw nG nW p pm U lim gv M' e ∧ rtw nG nW p pm U lim gv M' e ≤ 540 := by
  have hpm := CH_pm H
  obtain ⟨h1, h2, h3, h4, h5, h6, h7, h8, h9, mg, hm, hgi, hg, _⟩ := H
  unfold rtw
  by_cases q : e < nG
  · rw [if_pos q]
    have a := mg e q
    have s := ssum_nn (f := fun w => U w e * gv w) (B := 108) nW (fun j hj => by
      have u := (a.2.2.2.2 j hj).2
      have y := hg j (by omega)
      have b := Int.mul_nonneg u.1 y.1
      have c := Int.mul_le_mul u.2 y.2.1 y.1 (by omega)
      exact ⟨b, by omega⟩)
    omega
  · have il : (e - nG) / 2 < p := by omega
    rw [if_neg q, if_pos il]
    have := hm _ (hpm _ il).1
    split <;> omega
theorem sp_rows (H : CH nG nW p pm P U lim gv M' M V kd lst ls ca mo us part va given) {S : Nat} (hS : S < 2 ^ (nG + 2 * p)) {by_ bb bw : Int64} {ib : Int32} {x bx m : Nat → Int64} {kx : Int32 → Int32 → (Nat → Int64) → (Nat → Int64) → Prop} {post : Int64 → Int64 → Int64 → Int32 → (Nat → Int64) → (Nat → Int64) → (Nat → Int64) → (Nat → Int64) → (Nat → Int64) → Prop}
    (h1 : ∀ row right : Nat → Int64, (∀ e, e < nG + 2 * p → S.testBit e = true → onw nG go e ∧ nb S e < p ∧ right (nb S e) = lI (rtw nG nW p pm U lim gv M' e) ∧ ∀ c, c < p → row (4 * nb S e + c) = lI (cR nG pm U e c)) → kx (nI (nb S (nG + 2 * p))) 1 row right)
    (h0 : (¬ ∀ e, e < nG + 2 * p → S.testBit e = true → onw nG go e ∧ nb S e < p) → ∀ (n : Int32) (row right : Nat → Int64), kx n 0 row right) (row right : Nat → Int64) :
    ∃ n, wl_X7_corners_81 (nI (nG + 2 * p)) (nI S) (nI nG) (nI nW) by_ bb bw ib (nI p) ls ca go va mo us x bx part m given kx post n (0 : Int32) (1 : Int32) (0 : Int32) row right := by
  have hpm := CH_pm H
  obtain ⟨g1, g2, g3, _, _, _, _, _, _, mg, hm, hgi, hg, _⟩ := H
  have S31 : S < 2 ^ 31 := Nat.lt_of_lt_of_le hS (Nat.pow_le_pow_right (by omega) (by omega))
  have hgv : ∀ w, w < nW → given w = lI (gv w) ∧ 0 ≤ gv w ∧ gv w ≤ 12 := fun w hw => ⟨hgi w hw, (hg w (by omega)).1, (hg w (by omega)).2.1⟩
  refine pk_loop (σ := Int32 × Int32 × (Nat → Int64) × (Nat → Int64)) (fun n i s => wl_X7_corners_81 (nI (nG + 2 * p)) (nI S) (nI nG) (nI nW) by_ bb bw ib (nI p) ls ca go va mo us x bx part m given kx post n s.1 s.2.1 (nI i) s.2.2.1 s.2.2.2)
    (fun i s => (s.2.1 = 1 ∧ s.1 = nI (nb S i) ∧ nb S i ≤ p ∧ ∀ e, e < i → S.testBit e = true → onw nG go e ∧ nb S e < p ∧ s.2.2.2 (nb S e) = lI (rtw nG nW p pm U lim gv M' e) ∧ ∀ c, c < p → s.2.2.1 (4 * nb S e + c) = lI (cR nG pm U e c)) ∨ (s.2.1 = 0 ∧ ¬ ∀ e, e < nG + 2 * p → S.testBit e = true → onw nG go e ∧ nb S e < p)) (nG + 2 * p) 0 (0, 1, row, right) (Nat.zero_le _) (Or.inl ⟨rfl, rfl, Nat.zero_le _, fun e he => by omega⟩) (fun n s hs => ?_) (fun n i s hi hs kk => ?_)
  · show ws_X7_corners_81 _ _ _ _ _ _ _ _ _ _ _ _ _ _ _ _ _ _ _ _ _ _ _ _ _ _ _ _
    unfold ws_X7_corners_81
    refine br_t (nI_le (Nat.le_refl _) (by omega)) ?_
    rcases hs with ⟨a, b, c, d⟩ | ⟨a, b⟩
    · rw [a, b]; exact h1 _ _ d
    · rw [a]; exact h0 b _ _ _
  · show ws_X7_corners_81 _ _ _ _ _ _ _ _ _ _ _ _ _ _ _ _ _ _ _ _ _ _ _ _ _ _ _ _
    unfold ws_X7_corners_81
    refine br_f (nI_ge hi (by omega)) ?_
    rcases hs with ⟨a, b, c, d⟩ | ⟨a, b⟩
    · rw [a, b]
      refine br_f (by decide) ?_
      have bi := bit_iff S31 (by omega : i < 31)
      have bad : (¬ (onw nG go i ∧ nb S i < p)) → S.testBit i = true → ¬ ∀ e, e < nG + 2 * p → S.testBit e = true → onw nG go e ∧ nb S e < p := fun z t y => z (y i hi t)
      refine br_c (fun t => ?_) (fun t => ?_)
      · have t2 := bi.mp t
        have stop : (¬ (onw nG go i ∧ nb S i < p)) → wj_X7_corners_134 (nI (nG + 2 * p)) (nI S) (nI (nb S i)) (nI i) (0 : Int32) (nI nG) (nI nW) by_ bb bw ib (nI p) ls ca go va mo us x bx part s.2.2.1 s.2.2.2 m given (wl_X7_corners_81 (nI (nG + 2 * p)) (nI S) (nI nG) (nI nW) by_ bb bw ib (nI p) ls ca go va mo us x bx part m given kx post n) kx post := by
          intro z
          unfold wj_X7_corners_134
          refine br_t rfl ?_
          rw [nI_1 i]
          exact kk (_, 0, s.2.2.1, s.2.2.2) (Or.inr ⟨rfl, bad z t2⟩)
        have go1 : onw nG go i → nb S i < p → wj_X7_corners_134 (nI (nG + 2 * p)) (nI S) (nI (nb S i)) (nI i) (1 : Int32) (nI nG) (nI nW) by_ bb bw ib (nI p) ls ca go va mo us x bx part s.2.2.1 s.2.2.2 m given (wl_X7_corners_81 (nI (nG + 2 * p)) (nI S) (nI nG) (nI nW) by_ bb bw ib (nI p) ls ca go va mo us x bx part m given kx post n) kx post := by
          intro z1 z2
          unfold wj_X7_corners_134
          refine br_f (by decide) ?_
          refine sp_put (M' := M') g1 g2 g3 (by omega) hi hpm mg hm hgv (fun row' right' r1 r2 r3 r4 => ?_)
          rw [nI_1 i, nI_1 (nb S i)]
          refine kk (_, 1, row', right') (Or.inl ⟨rfl, ?_, ?_, fun e he te => ?_⟩)
          · show nI (nb S i + 1) = _
            rw [nb_s1 t2]
          · rw [nb_s1 t2]; omega
          · show onw nG go e ∧ nb S e < p ∧ right' (nb S e) = _ ∧ ∀ c, c < p → row' (4 * nb S e + c) = _
            by_cases y : e = i
            · subst y
              exact ⟨z1, z2, r3, r1⟩
            · have d1 := d e (by omega) te
              have lt := nb_lt (by omega : e < i) te
              refine ⟨d1.1, d1.2.1, ?_, fun c hc => ?_⟩
              · rw [r4 _ (by omega)]; exact d1.2.2.1
              · rw [r2 _ _ (by omega) (by omega)]; exact d1.2.2.2 c hc
        refine br_c (fun y => ?_) (fun y => ?_)
        · rw [nI_leI (by omega) (by omega)] at y
          exact stop (by omega)
        · rw [nI_leI (by omega) (by omega)] at y
          refine br_c (fun z => ?_) (fun z => ⟨vp_in_nI (by rw [nI_leI (by omega) (by omega)] at z; omega) (by omega), ?_⟩)
          · rw [nI_leI (by omega) (by omega)] at z
            exact go1 (fun u => by omega) (by omega)
          · rw [nI_leI (by omega) (by omega)] at z
            have ci : (nI i).toNatClampNeg = i := nI_clamp (by omega)
            rw [ci]
            refine br_c (fun u => go1 (fun _ => u) (by omega)) (fun u => stop (fun v => u (v.1 (by omega))))
      · rw [nI_1 i]
        have t2 : ¬ S.testBit i = true := fun z => t (bi.mpr z)
        refine kk (_, 1, s.2.2.1, s.2.2.2) (Or.inl ⟨rfl, ?_, ?_, fun e he te => ?_⟩)
        · show nI (nb S i) = _
          rw [nb_s0 t2]
        · rw [nb_s0 t2]; exact c
        · refine d e ?_ te
          rcases Nat.lt_or_ge e i with z | z
          · exact z
          · have : e = i := by omega
            subst this
            exact absurd te t2
    · rw [a]
      exact br_t rfl (h0 b _ _ _)
/-- the point of a set whose determinant is d -/
theorem sp_point (H : CH nG nW p pm P U lim gv M' M V kd lst ls ca mo us part va given) {er : Nat → Nat} (her : ∀ r, r < p → er r < nG + 2 * p) {d b : Int} (hd : d = DET p (fun r c => cR nG pm U (er r) c)) (hdb : (0 ≤ d ∧ b = d) ∨ (d < 0 ∧ b = -d)) (hb : 0 < b)
    {row right m x bx : Nat → Int64} (hrow : ∀ r, r < p → (∀ c, c < p → row (4 * r + c) = lI (cR nG pm U (er r) c)) ∧ right r = lI (rtw nG nW p pm U lim gv M' (er r))) {bb bw : Int64} {ib x1 x2 : Int32} {h : Prop} {q : Nat → Int} {g : Int} (fm : FM nW V q g bb bw ib bx h) (fd : Fnd M kd (GM nG nW U lim lst go) h q g)
    {kb : Int32 → Int64 → Int64 → Int64 → Int32 → (Nat → Int64) → (Nat → Int64) → (Nat → Int64) → (Nat → Int64) → (Nat → Int64) → Prop} {post : Int64 → Int64 → Int64 → Int32 → (Nat → Int64) → (Nat → Int64) → (Nat → Int64) → (Nat → Int64) → (Nat → Int64) → Prop}
    (hkb : ∀ (bb bw : Int64) (ib : Int32) (x bx m : Nat → Int64) (h' : Prop) (q' : Nat → Int) (g' : Int), FM nW V q' g' bb bw ib bx h' → Fnd M kd (GM nG nW U lim lst go) h' q' g' → Up V h q g h' q' g' → (∀ (z : Nat → Int) (ε : Int), 0 < ε → (∀ w, w < 4 → ¬ P w → z w = gv w * ε) → (∀ w, w < 4 → P w → 0 ≤ z w ∧ z w ≤ M' w * ε) → GM nG nW U lim lst go z ε → (∀ r, r < p → ssum (fun c => cR nG pm U (er r) c * z (pm c)) p = rtw nG nW p pm U lim gv M' (er r) * ε) → h' ∧ Ge V q' g' z ε) → kb (x2 + (1 : Int32)) (lI b) bb bw ib x bx row right m) :
    ∃ n40, wl_X7_corners_211 x1 x2 (lI d) (nI nG) (nI nW) (lI b) bb bw ib (nI p) ls ca go va mo us bx part row right m given (fun (o_x_22 : Nat → Int64) => ∃ n39, wl_X7_corners_248 x1 x2 (lI d) (nI nG) (nI nW) (lI b) bb bw ib (nI p) ls ca go va mo us bx part row right given (fun (o_x_31 : Nat → Int64) (o_m_32 : Nat → Int64) => (wp_X7_holds (nI nG) (nI nW) (lI b) ls ca go mo us o_x_31 (fun (r33 : Int32) => ((r33 = 0 → kb (x2 + (1 : Int32)) (lI b) bb bw ib o_x_31 bx row right o_m_32) ∧
   (¬ r33 = 0 → (wp_X7_compare (nI nW) (lI b) bb bw ib va o_x_31 bx (fun (u35 : Int64) (u36 : Int64) (u37 : Int32) (u38 : Nat → Int64) => kb (x2 + (1 : Int32)) (lI b) u35 u36 u37 o_x_31 u38 row right o_m_32))))))) post n39 (0 : Int32) o_x_22 m) post n40 (0 : Int32) x := by
  have HH := H
  have hpm := CH_pm H
  have crl := fun {e c : Nat} (hc : c < p) => cR_le H (e := e) hc
  have rtl := fun {e : Nat} (he : e < nG + 2 * p) => rtw_le H he
  obtain ⟨g1, g2, g3, hP, hp4, hsur, hinj, hpP, hpN, mg, hm, hgi, hg, hgM, hV, hva, hM, hMM⟩ := H
  have dl := DET_le9 (p := p) (A := fun r c => cR nG pm U (er r) c) (fun r _ c hc => crl hc)
  rw [← hd] at dl
  have b1 : b ≤ 157464 := by omega
  have rd : rL d := ⟨by omega, by omega⟩
  have r0 : rL 0 := ⟨by omega, by omega⟩
  -- the columns' determinants
  have Dl : ∀ c, c < p → -9447840 ≤ DET p (fun r c' => if (c' : Int) = (c : Int) then rtw nG nW p pm U lim gv M' (er r) else cR nG pm U (er r) c') ∧ DET p (fun r c' => if (c' : Int) = (c : Int) then rtw nG nW p pm U lim gv M' (er r) else cR nG pm U (er r) c') ≤ 9447840 := fun c hc => DET_le (c0 := c) (fun r hr c' hc' => by
    (try dsimp only)
    by_cases y : c' = c
    · subst y
      rw [if_pos rfl, if_pos rfl]
      exact rtl (her r hr)
    · rw [if_neg y, if_neg (by omega : ¬ (c' : Int) = (c : Int))]
      exact crl hc')
  obtain ⟨sg, hsg, hsd⟩ : ∃ sg : Int, (sg = 1 ∨ sg = -1) ∧ b = sg * d ∧ (0 ≤ d → sg = 1) ∧ (¬ 0 ≤ d → sg = -1) := by
    rcases hdb with ⟨z1, z2⟩ | ⟨z1, z2⟩
    · exact ⟨1, Or.inl rfl, by omega, fun _ => rfl, fun n => absurd z1 n⟩
    · exact ⟨-1, Or.inr rfl, by omega, fun n => by omega, fun _ => rfl⟩
  have iex : ∃ inv : Nat → Nat, ∀ w, w < 4 → inv w < 4 ∧ pm (inv w) = w :=
    ⟨fun w => if hw : w < 4 then (hsur w hw).choose else 0, fun w hw => by
      simp only [hw, dif_pos]
      exact (hsur w hw).choose_spec⟩
  obtain ⟨inv, hinv⟩ := iex
  obtain ⟨X, hXd⟩ : ∃ X : Nat → Int, ∀ w, X w = @ite _ (P w) (Classical.propDecidable _) (sg * DET p (fun r c' => if (c' : Int) = ((inv w : Nat) : Int) then rtw nG nW p pm U lim gv M' (er r) else cR nG pm U (er r) c')) (gv w * b) := ⟨_, fun w => rfl⟩
  have Xn : ∀ w, ¬ P w → X w = gv w * b := fun w n => by rw [hXd w, if_neg n]
  have Xp : ∀ c, c < p → X (pm c) = sg * DET p (fun r c' => if (c' : Int) = (c : Int) then rtw nG nW p pm U lim gv M' (er r) else cR nG pm U (er r) c') := fun c hc => by
    have e : inv (pm c) = c := by
      have a := hinv (pm c) (hp4 c (by omega))
      exact hinj _ _ a.1 (by omega) a.2
    rw [hXd (pm c), if_pos (hpP c hc).1, e]
  have Xb : ∀ w, w < 4 → -20000000 ≤ X w ∧ X w ≤ 20000000 := fun w hw => by
    by_cases z : P w
    · obtain ⟨c, hc, ec⟩ : ∃ c, c < p ∧ pm c = w := by
        obtain ⟨c, hc, ec⟩ := hsur w hw
        rcases Nat.lt_or_ge c p with y | y
        · exact ⟨c, y, ec⟩
        · exact absurd (ec ▸ z) (ec ▸ hpN c y hc)
      have := Xp c hc
      rw [ec] at this
      rw [this]
      have := Dl c hc
      rcases hsg with e | e <;> rw [e] <;> omega
    · rw [Xn w z]
      have a := hg w hw
      have := ab_mul (x := gv w) (X := 12) (y := b) (Y := 157464) (by omega) (by omega) (by omega) (by omega)
      omega
  have same : ∀ (z : Nat → Int) (ε : Int), 0 < ε → (∀ w, w < 4 → ¬ P w → z w = gv w * ε) → (∀ r, r < p → ssum (fun c => cR nG pm U (er r) c * z (pm c)) p = rtw nG nW p pm U lim gv M' (er r) * ε) → ∀ w, w < 4 → X w * ε = z w * b := by
    intro z ε he hz ht w hw
    by_cases y : P w
    · obtain ⟨c, hc, ec⟩ : ∃ c, c < p ∧ pm c = w := by
        obtain ⟨c, hc, ec⟩ := hsur w hw
        rcases Nat.lt_or_ge c p with t | t
        · exact ⟨c, t, ec⟩
        · exact absurd (ec ▸ y) (ec ▸ hpN c t hc)
      have cd := cramerD (p := p) g3 (A := fun r c => cR nG pm U (er r) c) (rg := fun r => rtw nG nW p pm U lim gv M' (er r)) (y := fun c => if c < p then z (pm c) else 0) (ε := ε) (fun c h1 _ => if_neg (by omega)) (fun r hr => by
        rw [← ht r hr]
        refine ssum_eq p (fun c hc => ?_)
        (try dsimp only)
        rw [if_pos hc]) hc
      have e1 : (fun (r c' : Nat) => if c' = c then rtw nG nW p pm U lim gv M' (er r) else cR nG pm U (er r) c') = (fun (r c' : Nat) => if (c' : Int) = (c : Int) then rtw nG nW p pm U lim gv M' (er r) else cR nG pm U (er r) c') := by
        funext r c'
        by_cases t : c' = c
        · rw [if_pos t, if_pos (by omega)]
        · rw [if_neg t, if_neg (by omega)]
      (try dsimp only at cd)
      rw [e1, if_pos hc, ← hd] at cd
      rw [← ec, Xp c hc, hsd.1]
      grind
    · rw [Xn w y, hz w hw y]
      grind
  refine pk_loop (σ := Nat → Int64) (fun n i s => wl_X7_corners_211 x1 x2 (lI d) (nI nG) (nI nW) (lI b) bb bw ib (nI p) ls ca go va mo us bx part row right m given _ post n (nI i) s) (fun i s => ∀ w, w < i → s w = lI (gv w * b)) nW 0 x (Nat.zero_le _) (fun w hw => by omega) (fun n s hs => ?_) (fun n i s hi hs kk => ?_)
  · show ws_X7_corners_211 _ _ _ _ _ _ _ _ _ _ _ _ _ _ _ _ _ _ _ _ _ _ _ _ _ _ _
    unfold ws_X7_corners_211
    refine br_t (nI_le (Nat.le_refl _) (by omega)) ?_
    refine pk_loop (σ := (Nat → Int64) × (Nat → Int64)) (fun n i s => wl_X7_corners_248 x1 x2 (lI d) (nI nG) (nI nW) (lI b) bb bw ib (nI p) ls ca go va mo us bx part row right given _ post n (nI i) s.1 s.2) (fun i s => (∀ w, w < nW → ¬ P w → s.1 w = lI (X w)) ∧ ∀ c, c < i → s.1 (pm c) = lI (X (pm c))) p 0 (s, m) (Nat.zero_le _) ⟨fun w hw n => by rw [Xn w n]; exact hs w hw, fun c hc => by omega⟩ (fun n s hs => ?_) (fun n i s hi hs kk => ?_)
    · show ws_X7_corners_248 _ _ _ _ _ _ _ _ _ _ _ _ _ _ _ _ _ _ _ _ _ _ _ _ _ _ _
      unfold ws_X7_corners_248
      refine br_t (nI_le (Nat.le_refl _) (by omega)) ?_
      have sx : ∀ w, w < nW → s.1 w = lI (X w) := fun w hw => by
        by_cases z : P w
        · obtain ⟨c, hc, ec⟩ := hsur w (by omega)
          rcases Nat.lt_or_ge c p with y | y
          · have := hs.2 c y
            rw [ec] at this
            exact this
          · exact absurd (ec ▸ z) (ec ▸ hpN c y hc)
        · exact hs.1 w hw z
      refine sp_holdsM (X := X) (M' := M') (go := go) g2 g1 hb b1 (fun w hw => ⟨sx w hw, Xb w (by omega)⟩) hm mg (fun hold => br_f (by decide) ?_) (fun hold => br_t rfl ?_)
      · have XW : ∀ w, w < 4 → 0 ≤ X w ∧ X w ≤ 12 * b ∧ (nW ≤ w → X w = 0) := fun w hw => by
          rcases Nat.lt_or_ge w nW with y | y
          · have a := hold.1 w y
            have c := Int.mul_le_mul_of_nonneg_right (hm w y).2.2 (Int.le_of_lt hb)
            exact ⟨a.1, by omega, fun n => by omega⟩
          · have np : ¬ P w := fun z => by have := (hP w hw z).1; omega
            have e : X w = 0 := by
              rw [Xn w np, (hg w hw).2.2 y]
              omega
            exact ⟨by omega, by omega, fun _ => e⟩
        have pfX : Pf M (GM nG nW U lim lst go) X b := ⟨hb, fun w hw => by
          refine ⟨(XW w hw).1, ?_⟩
          by_cases z : P w
          · have a := hold.1 w (hP w hw z).1
            rw [(hP w hw z).2.2.2]
            exact a.2
          · rw [Xn w z]
            exact Int.mul_le_mul_of_nonneg_right (hgM w hw z).1 (Int.le_of_lt hb), hold.2⟩
        have kdX : Kd M kd X b := fun w hw => by
          by_cases z : P w
          · have k0 := (hP w hw z).2.2.1
            exact ⟨fun y => by omega, fun y => by omega⟩
          · refine ⟨fun _ => ⟨gv w, Xn w z⟩, fun y => ?_⟩
            rcases (hgM w hw z).2 y with t | t
            · refine Or.inl ?_
              rw [Xn w z, t]
              omega
            · refine Or.inr ?_
              rw [Xn w z, t]
        refine sp_compareM g2 hV hva hb b1 XW sx fm (fun hB bx' fm' => ?_) (fun hh hnB => ?_)
        · refine hkb _ _ _ _ _ _ True X b fm' (fun _ => ⟨pfX, kdX⟩) (fun z => ⟨trivial, Bt_Ge (hB z)⟩) (fun z ε he hz _ _ ht => ⟨trivial, ?_⟩)
          exact Ge_scale hb he (same z ε he hz ht) (Ge_refl V X b)
        · refine hkb _ _ _ _ _ _ h q g fm fd (Up_refl V h q g) (fun z ε he hz _ _ ht => ⟨hh, ?_⟩)
          exact Ge_scale hb he (same z ε he hz ht) (Ge_of hnB)
      · refine hkb _ _ _ _ _ _ h q g fm fd (Up_refl V h q g) (fun z ε he hz hbx hgz ht => (hold ⟨fun w hw => ?_, ?_⟩).elim)
        · have sm := same z ε he hz ht w (by omega)
          by_cases y : P w
          · have a := hbx w (by omega) y
            have l1 : (0 : Int) * ε = 0 * b := by omega
            have l2 : M' w * b * ε = M' w * ε * b := by grind
            exact ⟨le_scale he hb l1 sm a.1, le_scale he hb sm l2 a.2⟩
          · rw [Xn w y]
            have a := hg w (by omega)
            have c := Int.mul_nonneg a.1 (Int.le_of_lt hb)
            refine ⟨c, Int.mul_le_mul_of_nonneg_right ?_ (Int.le_of_lt hb)⟩
            have e := hgM w (by omega) y
            have f := hMM w hw
            omega
        · exact GM_scale hb he (fun w hw => same z ε he hz ht w (by omega)) hgz
    · show ws_X7_corners_248 _ _ _ _ _ _ _ _ _ _ _ _ _ _ _ _ _ _ _ _ _ _ _ _ _ _ _
      unfold ws_X7_corners_248
      have ci : (nI i).toNatClampNeg = i := nI_clamp (by omega)
      have cp : (nI (pm i)).toNatClampNeg = pm i := nI_clamp (by have := hp4 i (by omega); omega)
      obtain ⟨q1, q2⟩ := hpm i hi
      refine br_f (nI_ge hi (by omega)) ⟨vp_in_nI (by omega) (by omega), ?_⟩
      rw [ci, q2, lI_0]
      have nxt : ∀ (kb : Int32 → (Nat → Int64) → (Nat → Int64) → Prop) (kx : (Nat → Int64) → (Nat → Int64) → Prop) (v : Int64) (m' : Nat → Int64), v = lI (X (pm i)) → (∀ x' : Nat → Int64, (∀ w, w < nW → ¬ P w → x' w = lI (X w)) ∧ (∀ c, c < i + 1 → x' (pm c) = lI (X (pm c))) → kb (nI (i + 1)) x' m') → wj_X7_corners_299 x1 x2 (lI d) (nI i) (nI (pm i)) v (nI nG) (nI nW) (lI b) bb bw ib (nI p) ls ca go va mo us s.1 bx part row right m' given kb kx post := by
        intro kb kx v m' hv kk
        unfold wj_X7_corners_299
        have pl := hp4 i (by omega)
        refine ⟨vp_in_nI pl (by omega), ?_⟩
        rw [cp, nI_1 i]
        refine kk _ ⟨fun w hw n => ?_, fun c hc => ?_⟩
        · have : w ≠ pm i := fun e => n (e ▸ (hpP i hi).1)
          rw [pk_uLn this]
          exact hs.1 w hw n
        · by_cases e : c = i
          · subst e; rw [pk_uLs]; exact hv
          · have : pm c ≠ pm i := fun z => e (hinj _ _ (by omega) (by omega) z)
            rw [pk_uLn this]
            exact hs.2 c (by omega)
      have sol : ∀ (post' : Int64 → (Nat → Int64) → Prop), (∀ u, post' (lI (DET p (fun r c' => if (c' : Int) = (i : Int) then rtw nG nW p pm U lim gv M' (er r) else cR nG pm U (er r) c'))) u) → wp_X7_solved row right s.2 (nI p) (nI i) post' := fun post' hp' => by
        rw [nI_iI i]
        exact sp_solved (A := fun r c => cR nG pm U (er r) c) (rg := fun r => rtw nG nW p pm U lim gv M' (er r)) g3 (Or.inr ⟨by omega, by omega⟩) (fun r hr c hc => ⟨(hrow r hr).1 c hc, by have := crl (e := er r) hc; omega, by have := crl (e := er r) hc; omega⟩) (fun r hr => ⟨(hrow r hr).2, rtl (her r hr)⟩) hp'
      refine br_c (fun z => sol _ (fun u => ?_)) (fun z => sol _ (fun u => ?_))
      · rw [lI_le r0 rd] at z
        refine nxt _ _ _ u ?_ (fun x' hx' => kk (x', u) hx')
        rw [Xp i hi, hsd.2.1 z, Int.one_mul]
      · rw [lI_le r0 rd] at z
        refine nxt _ _ _ u ?_ (fun x' hx' => kk (x', u) hx')
        rw [Xp i hi, hsd.2.2 z, lI_neg]
        exact congrArg lI (by omega)
  · show ws_X7_corners_211 _ _ _ _ _ _ _ _ _ _ _ _ _ _ _ _ _ _ _ _ _ _ _ _ _ _ _
    unfold ws_X7_corners_211
    have ci : (nI i).toNatClampNeg = i := nI_clamp (by omega)
    refine br_f (nI_ge hi (by omega)) ⟨vp_in_nI (by omega) (by omega), ?_⟩
    rw [ci, hgi i hi, lI_mul, nI_1 i]
    refine kk _ (fun w hw => ?_)
    by_cases e : w = i
    · subst e; rw [pk_uLs]
    · rw [pk_uLn e]; exact hs w (by omega)
end COR
