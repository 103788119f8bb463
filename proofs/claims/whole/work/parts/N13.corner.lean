/-! rows with no four apart have a way that none of them sees -/
theorem D4_l1 (a c d y : Nat → Int) : D4 a y c d = dot y (fun q => D4 a (ev q) c d) := by
  simp only [dot, D4, ev]
  grind
theorem D4_l2 (a b d y : Nat → Int) : D4 a b y d = dot y (fun q => D4 a b (ev q) d) := by
  simp only [dot, D4, ev]
  grind
theorem D4_l3 (a b c y : Nat → Int) : D4 a b c y = dot y (fun q => D4 a b c (ev q)) := by
  simp only [dot, D4, ev]
  grind
theorem D4_l0d (b c d y : Nat → Int) : D4 y b c d = dot y (fun q => D4 (ev q) b c d) := D4_l0 b c d y
def q4 (R : Nat → Nat → Int) (T : Nat → Prop) (i j k l : Nat) : Prop := T i ∧ T j ∧ T k ∧ T l ∧ D4 (R i) (R j) (R k) (R l) ≠ 0
theorem q4_01 {R : Nat → Nat → Int} {T : Nat → Prop} {i j k l : Nat} (h : q4 R T i j k l) : q4 R T j i k l :=
  ⟨h.2.1, h.1, h.2.2.1, h.2.2.2.1, fun e => h.2.2.2.2 (by have := D4_s01 (R j) (R i) (R k) (R l); omega)⟩
theorem q4_12 {R : Nat → Nat → Int} {T : Nat → Prop} {i j k l : Nat} (h : q4 R T i j k l) : q4 R T i k j l :=
  ⟨h.1, h.2.2.1, h.2.1, h.2.2.2.1, fun e => h.2.2.2.2 (by have := D4_s12 (R i) (R k) (R j) (R l); omega)⟩
theorem q4_23 {R : Nat → Nat → Int} {T : Nat → Prop} {i j k l : Nat} (h : q4 R T i j k l) : q4 R T i j l k :=
  ⟨h.1, h.2.1, h.2.2.2.1, h.2.2.1, fun e => h.2.2.2.2 (by have := D4_s23 (R i) (R j) (R l) (R k); omega)⟩
theorem q4_n01 {R : Nat → Nat → Int} {T : Nat → Prop} {i j k l : Nat} (h : q4 R T i j k l) : i ≠ j := fun e => h.2.2.2.2 (by rw [e]; exact D4_e01 _ _ _)
theorem q4_n12 {R : Nat → Nat → Int} {T : Nat → Prop} {i j k l : Nat} (h : q4 R T i j k l) : j ≠ k := fun e => h.2.2.2.2 (by rw [e]; exact D4_e12 _ _ _)
theorem q4_n23 {R : Nat → Nat → Int} {T : Nat → Prop} {i j k l : Nat} (h : q4 R T i j k l) : k ≠ l := fun e => h.2.2.2.2 (by rw [e]; exact D4_e23 _ _ _)
theorem q4_sort2 {R : Nat → Nat → Int} {T : Nat → Prop} {i j k l : Nat} (h : q4 R T i j k l) : ∃ i j, i < j ∧ q4 R T i j k l := by
  have n := q4_n01 h
  rcases Nat.lt_or_ge i j with q | q
  · exact ⟨i, j, q, h⟩
  · exact ⟨j, i, by omega, q4_01 h⟩
theorem q4_sort3 {R : Nat → Nat → Int} {T : Nat → Prop} {i j k l : Nat} (hij : i < j) (h : q4 R T i j k l) : ∃ i j k, i < j ∧ j < k ∧ q4 R T i j k l := by
  have n := q4_n12 h
  rcases Nat.lt_or_ge j k with q | q
  · exact ⟨i, j, k, hij, q, h⟩
  · have h2 := q4_12 h
    have n2 := q4_n01 h2
    rcases Nat.lt_or_ge i k with q2 | q2
    · exact ⟨i, k, j, q2, by omega, h2⟩
    · exact ⟨k, i, j, by omega, hij, q4_01 h2⟩
theorem q4_sort4 {R : Nat → Nat → Int} {T : Nat → Prop} {i j k l : Nat} (hij : i < j) (hjk : j < k) (h : q4 R T i j k l) : ∃ i j k l, i < j ∧ j < k ∧ k < l ∧ q4 R T i j k l := by
  have n := q4_n23 h
  rcases Nat.lt_or_ge k l with q | q
  · exact ⟨i, j, k, l, hij, hjk, q, h⟩
  · have h2 := q4_23 h
    have n2 := q4_n12 h2
    rcases Nat.lt_or_ge j l with q2 | q2
    · exact ⟨i, j, l, k, hij, q2, by omega, h2⟩
    · have h3 := q4_12 h2
      have n3 := q4_n01 h3
      rcases Nat.lt_or_ge i l with q3 | q3
      · exact ⟨i, l, j, k, q3, by omega, hjk, h3⟩
      · exact ⟨l, i, j, k, by omega, hij, hjk, q4_01 h3⟩
theorem q4_sort {R : Nat → Nat → Int} {T : Nat → Prop} (h : ∃ i j k l, q4 R T i j k l) : ∃ i j k l, i < j ∧ j < k ∧ k < l ∧ q4 R T i j k l := by
  obtain ⟨i, j, k, l, h⟩ := h
  obtain ⟨i, j, h1, h⟩ := q4_sort2 h
  obtain ⟨i, j, k, h1, h2, h⟩ := q4_sort3 h1 h
  exact q4_sort4 h1 h2 h
theorem kern (R : Nat → Nat → Int) (T : Nat → Prop) : (∃ i j k l, i < j ∧ j < k ∧ k < l ∧ q4 R T i j k l) ∨ ∃ v : Nat → Int, (∃ w, w < 4 ∧ v w ≠ 0) ∧ ∀ i, T i → dot (R i) v = 0 := by
  by_cases h4 : ∃ i j k l, q4 R T i j k l
  · exact Or.inl (q4_sort h4)
  refine Or.inr ?_
  have z4 : ∀ i j k l, T i → T j → T k → T l → D4 (R i) (R j) (R k) (R l) = 0 := fun i j k l a b c d => by
    by_cases e : D4 (R i) (R j) (R k) (R l) = 0
    · exact e
    · exact absurd ⟨i, j, k, l, a, b, c, d, e⟩ h4
  by_cases h3 : ∃ i j k w, w < 4 ∧ T i ∧ T j ∧ T k ∧ D4 (ev w) (R i) (R j) (R k) ≠ 0
  · obtain ⟨i, j, k, w, hw, a, b, c, e⟩ := h3
    exact ⟨fun q => D4 (ev q) (R i) (R j) (R k), ⟨w, hw, e⟩, fun r hr => by rw [← D4_l0d]; exact z4 r i j k hr a b c⟩
  have z3 : ∀ i j k w, w < 4 → T i → T j → T k → D4 (ev w) (R i) (R j) (R k) = 0 := fun i j k w hw a b c => by
    by_cases e : D4 (ev w) (R i) (R j) (R k) = 0
    · exact e
    · exact absurd ⟨i, j, k, w, hw, a, b, c, e⟩ h3
  by_cases h2 : ∃ i j u w, u < 4 ∧ w < 4 ∧ T i ∧ T j ∧ D4 (ev u) (ev w) (R i) (R j) ≠ 0
  · obtain ⟨i, j, u, w, hu, hw, a, b, e⟩ := h2
    exact ⟨fun q => D4 (ev u) (ev q) (R i) (R j), ⟨w, hw, e⟩, fun r hr => by rw [← D4_l1]; exact z3 r i j u hu hr a b⟩
  have z2 : ∀ i j u w, u < 4 → w < 4 → T i → T j → D4 (ev u) (ev w) (R i) (R j) = 0 := fun i j u w hu hw a b => by
    by_cases e : D4 (ev u) (ev w) (R i) (R j) = 0
    · exact e
    · exact absurd ⟨i, j, u, w, hu, hw, a, b, e⟩ h2
  by_cases h1 : ∃ i u w q, u < 4 ∧ w < 4 ∧ q < 4 ∧ T i ∧ D4 (ev u) (ev w) (ev q) (R i) ≠ 0
  · obtain ⟨i, u, w, q, hu, hw, hq, a, e⟩ := h1
    exact ⟨fun q => D4 (ev u) (ev w) (ev q) (R i), ⟨q, hq, e⟩, fun r hr => by rw [← D4_l2]; exact z2 r i u w hu hw hr a⟩
  · refine ⟨fun q => D4 (ev 0) (ev 1) (ev 2) (ev q), ⟨3, by omega, by decide⟩, fun r hr => ?_⟩
    rw [← D4_l3]
    by_cases e : D4 (ev 0) (ev 1) (ev 2) (R r) = 0
    · exact e
    · exact absurd ⟨r, 0, 1, 2, by omega, by omega, by omega, hr, e⟩ h1
/-! of ratios one is the least -/
theorem ratio_trans {a b c d e f : Int} (hd : 0 < d) (hb : 0 ≤ b) (hf : 0 ≤ f) (h1 : a * d ≤ c * b) (h2 : c * f ≤ e * d) : a * f ≤ e * b := by
  have g1 := Int.mul_le_mul_of_nonneg_right h1 hf
  have g2 := Int.mul_le_mul_of_nonneg_right h2 hb
  have g3 : d * (a * f) ≤ d * (e * b) := by
    have e1 : d * (a * f) = a * d * f := by grind
    have e2 : d * (e * b) = e * d * b := by grind
    have e3 : c * b * f = c * f * b := by grind
    omega
  exact Int.le_of_mul_le_mul_left g3 hd
theorem minratio (s r : Nat → Int) (act : Nat → Prop) : ∀ K : Nat, (∃ i, i < K ∧ act i ∧ r i < 0) → ∃ m, m < K ∧ act m ∧ r m < 0 ∧ ∀ i, i < K → act i → r i < 0 → s m * (- r i) ≤ s i * (- r m) := by
  intro K
  induction K with
  | zero => intro ⟨i, hi, _⟩; omega
  | succ K ih =>
    intro h
    by_cases g : ∃ i, i < K ∧ act i ∧ r i < 0
    · obtain ⟨m, hm, am, rm, le⟩ := ih g
      by_cases t : act K ∧ r K < 0 ∧ s K * (- r m) < s m * (- r K)
      · refine ⟨K, by omega, t.1, t.2.1, fun i hi ai ri => ?_⟩
        rcases Nat.lt_or_ge i K with q | q
        · exact ratio_trans (c := s m) (d := - r m) (by omega) (by omega) (by omega) (Int.le_of_lt t.2.2) (le i q ai ri)
        · have : i = K := by omega
          subst this
          exact Int.le_refl _
      · refine ⟨m, by omega, am, rm, fun i hi ai ri => ?_⟩
        rcases Nat.lt_or_ge i K with q | q
        · exact le i q ai ri
        · have e : i = K := by omega
          subst e
          exact Int.not_lt.mp (fun z => t ⟨ai, ri, z⟩)
    · obtain ⟨i, hi, ai, ri⟩ := h
      have e : i = K := by
        rcases Nat.lt_or_ge i K with q | q
        · exact absurd ⟨i, q, ai, ri⟩ g
        · omega
      subst e
      refine ⟨i, by omega, ai, ri, fun j hj aj rj => ?_⟩
      rcases Nat.lt_or_ge j i with q | q
      · exact absurd ⟨j, q, aj, rj⟩ g
      · have : j = i := by omega
        subst this
        exact Int.le_refl _
/-! every point is no better than a corner -/
def sl (R : Nat → Nat → Int) (rt sg : Nat → Int) (i : Nat) (x : Nat → Int) (d : Int) : Int := sg i * (dot (R i) x - rt i * d)
def Fe (K : Nat) (R : Nat → Nat → Int) (rt sg : Nat → Int) (on : Nat → Prop) (x : Nat → Int) (d : Int) : Prop := 0 < d ∧ ∀ i, i < K → on i → 0 ≤ sl R rt sg i x d
def Tg (K : Nat) (R : Nat → Nat → Int) (rt sg : Nat → Int) (on : Nat → Prop) (x : Nat → Int) (d : Int) (i : Nat) : Prop := i < K ∧ on i ∧ sl R rt sg i x d = 0
theorem sl_move (R : Nat → Nat → Int) (rt sg : Nat → Int) (i : Nat) (x v : Nat → Int) (d k s : Int) : sl R rt sg i (fun w => k * x w + s * v w) (k * d) = k * sl R rt sg i x d + s * (sg i * dot (R i) v) := by
  unfold sl
  rw [dot_lin]
  grind
theorem co_move (V : Nat → Int) (i : Nat) (x v : Nat → Int) (k s : Int) : co V i (fun w => k * x w + s * v w) = k * co V i x + s * co V i v := by
  unfold co
  rw [dot_lin]
theorem corner_step {K : Nat} {R : Nat → Nat → Int} {rt sg : Nat → Int} {on : Nat → Prop} (V : Nat → Int)
    (lo : ∀ w, w < 4 → ∃ i, i < K ∧ on i ∧ ∀ v : Nat → Int, sg i * dot (R i) v = v w)
    (hi : ∀ w, w < 4 → ∃ i, i < K ∧ on i ∧ ∀ v : Nat → Int, sg i * dot (R i) v = - v w)
    {x : Nat → Int} {d : Int} (h : Fe K R rt sg on x d) (v : Nat → Int) (hv : LXP (fun i => - co V i v)) (ht : ∀ i, Tg K R rt sg on x d i → dot (R i) v = 0) (nz : ∃ w, w < 4 ∧ v w ≠ 0) :
    ∃ z e, Fe K R rt sg on z e ∧ Ge V z e x d ∧ (∀ i, i < K → Tg K R rt sg on x d i → Tg K R rt sg on z e i) ∧ ∃ i, i < K ∧ on i ∧ sl R rt sg i x d ≠ 0 ∧ sl R rt sg i z e = 0 := by
  have ex : ∃ i, i < K ∧ on i ∧ sg i * dot (R i) v < 0 := by
    obtain ⟨w, hw, hn⟩ := nz
    rcases Int.lt_or_le (v w) 0 with q | q
    · obtain ⟨i, h1, h2, h3⟩ := lo w hw
      exact ⟨i, h1, h2, by rw [h3]; exact q⟩
    · obtain ⟨i, h1, h2, h3⟩ := hi w hw
      exact ⟨i, h1, h2, by rw [h3]; omega⟩
  obtain ⟨m, hm, om, rm, le⟩ := minratio (fun i => sl R rt sg i x d) (fun i => sg i * dot (R i) v) on K ex
  have sm : 0 < sl R rt sg m x d := by
    have h1 := h.2 m hm om
    rcases Int.lt_or_eq_of_le h1 with q | q
    · exact q
    · have := ht m ⟨hm, om, q.symm⟩
      rw [this, Int.mul_zero] at rm
      omega
  have kp : 0 < - (sg m * dot (R m) v) := by omega
  refine ⟨fun w => - (sg m * dot (R m) v) * x w + sl R rt sg m x d * v w, - (sg m * dot (R m) v) * d, ⟨Int.mul_pos kp h.1, fun i hi oi => ?_⟩, ?_, fun i hi ti => ?_, m, hm, om, by omega, ?_⟩
  · rw [sl_move]
    have h1 := h.2 i hi oi
    have h2 := Int.mul_nonneg (Int.le_of_lt kp) h1
    rcases Int.lt_or_le (sg i * dot (R i) v) 0 with q | q
    · have h3 := le i hi oi q
      (try dsimp only at h3)
      have e1 : sl R rt sg i x d * (- (sg m * dot (R m) v)) = - (sg m * dot (R m) v) * sl R rt sg i x d := Int.mul_comm _ _
      have e2 : sl R rt sg m x d * (- (sg i * dot (R i) v)) = - (sl R rt sg m x d * (sg i * dot (R i) v)) := Int.mul_neg _ _
      omega
    · have h3 := Int.mul_nonneg (Int.le_of_lt sm) q
      omega
  · refine Or.inl ((LXP_smul (k := sl R rt sg m x d * d) (Int.mul_pos sm h.1) (fun i _ => ?_)).mpr hv)
    (try dsimp only)
    rw [co_move]
    grind
  · refine ⟨hi, ti.2.1, ?_⟩
    rw [sl_move, ti.2.2, ht i ti]
    simp
  · rw [sl_move]
    grind
theorem corner {K : Nat} {R : Nat → Nat → Int} {rt sg : Nat → Int} {on : Nat → Prop} (V : Nat → Int)
    (lo : ∀ w, w < 4 → ∃ i, i < K ∧ on i ∧ ∀ v : Nat → Int, sg i * dot (R i) v = v w)
    (hi : ∀ w, w < 4 → ∃ i, i < K ∧ on i ∧ ∀ v : Nat → Int, sg i * dot (R i) v = - v w) :
    ∀ (n : Nat) (x : Nat → Int) (d : Int), cntL (fun i => on i ∧ sl R rt sg i x d ≠ 0) (List.range K) ≤ n → Fe K R rt sg on x d → ∃ z e, Fe K R rt sg on z e ∧ Ge V z e x d ∧ ∃ i j k l, i < j ∧ j < k ∧ k < l ∧ q4 R (Tg K R rt sg on z e) i j k l := by
  intro n
  induction n with
  | zero =>
    intro x d hc h
    rcases kern R (Tg K R rt sg on x d) with q | ⟨v, nz, q⟩
    · exact ⟨x, d, h, Ge_refl V x d, q⟩
    · exfalso
      obtain ⟨w, hw, hn⟩ := nz
      have all : ∀ i, i < K → on i → dot (R i) v = 0 := fun i hi oi => q i ⟨hi, oi, by
        by_cases e : sl R rt sg i x d = 0
        · exact e
        · have := cntL_lt (p := fun _ => False) (q := fun i => on i ∧ sl R rt sg i x d ≠ 0) (List.range K) (fun _ _ z => z.elim) i (List.mem_range.mpr hi) ⟨oi, e⟩ (fun z => z)
          omega⟩
      obtain ⟨i, h1, h2, h3⟩ := lo w hw
      have := h3 v
      rw [all i h1 h2, Int.mul_zero] at this
      omega
  | succ n ih =>
    intro x d hc h
    rcases kern R (Tg K R rt sg on x d) with q | ⟨v, nz, q⟩
    · exact ⟨x, d, h, Ge_refl V x d, q⟩
    · have go : ∀ u : Nat → Int, LXP (fun i => - co V i u) → (∀ i, Tg K R rt sg on x d i → dot (R i) u = 0) → (∃ w, w < 4 ∧ u w ≠ 0) → ∃ z e, Fe K R rt sg on z e ∧ Ge V z e x d ∧ ∃ i j k l, i < j ∧ j < k ∧ k < l ∧ q4 R (Tg K R rt sg on z e) i j k l := by
        intro u hu qu nu
        obtain ⟨z, e, f1, f2, f3, m, hm, om, m1, m2⟩ := corner_step V lo hi h u hu qu nu
        have lt : cntL (fun i => on i ∧ sl R rt sg i z e ≠ 0) (List.range K) < cntL (fun i => on i ∧ sl R rt sg i x d ≠ 0) (List.range K) := by
          refine cntL_lt (List.range K) (fun i hi pi => ?_) m (List.mem_range.mpr hm) ⟨om, m1⟩ (fun pm => pm.2 m2)
          refine ⟨pi.1, fun e0 => pi.2 ?_⟩
          exact (f3 i (List.mem_range.mp hi) ⟨List.mem_range.mp hi, pi.1, e0⟩).2.2
        obtain ⟨z2, e2, g1, g2, g3⟩ := ih z e (by omega) f1
        exact ⟨z2, e2, g1, Ge_trans g1.1 f1.1 h.1 g2 f2, g3⟩
      rcases LXP_tri (fun i => - co V i v) with t | t | t
      · exact go v t q nz
      · exfalso
        obtain ⟨w, hw, hn⟩ := nz
        have := t (w + 1) (by omega)
        rw [co_s V v hw] at this
        omega
      · refine go (fun i => - v i) (LXP_eqv t (fun i _ => ?_)) (fun i ti => ?_) ?_
        · unfold co
          rw [dot_neg]
        · rw [dot_neg, q i ti]
          rfl
        · obtain ⟨w, hw, hn⟩ := nz
          exact ⟨w, hw, by omega⟩
theorem corner_of {K : Nat} {R : Nat → Nat → Int} {rt sg : Nat → Int} {on : Nat → Prop} (V : Nat → Int)
    (lo : ∀ w, w < 4 → ∃ i, i < K ∧ on i ∧ ∀ v : Nat → Int, sg i * dot (R i) v = v w)
    (hi : ∀ w, w < 4 → ∃ i, i < K ∧ on i ∧ ∀ v : Nat → Int, sg i * dot (R i) v = - v w)
    {x : Nat → Int} {d : Int} (h : Fe K R rt sg on x d) : ∃ z e, Fe K R rt sg on z e ∧ Ge V z e x d ∧ ∃ i j k l, i < j ∧ j < k ∧ k < l ∧ q4 R (Tg K R rt sg on z e) i j k l :=
  corner V lo hi _ x d (Nat.le_refl _) h
