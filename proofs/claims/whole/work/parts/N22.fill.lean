/-! a sheet begins -/
def ssum (g : Nat → Int) : Nat → Int
  | 0 => 0
  | n + 1 => ssum g n + g n
theorem ssum_4 (g : Nat → Int) : ssum g 4 = g 0 + g 1 + g 2 + g 3 := by
  simp only [ssum]
  omega
theorem ssum_eq {g h : Nat → Int} : ∀ n : Nat, (∀ j, j < n → g j = h j) → ssum g n = ssum h n
  | 0, _ => rfl
  | n + 1, e => by
    simp only [ssum]
    rw [ssum_eq n (fun j hj => e j (by omega)), e n (by omega)]
def EnumN (p : Nat → Prop) (n k : Nat) (o : Nat → Nat) : Prop := k ≤ n ∧ (∀ j, j < k → o j < n ∧ p (o j)) ∧ (∀ i j, i < j → j < k → o i < o j) ∧ (∀ w, w < n → p w → ∃ j, j < k ∧ o j = w)
theorem EnumN_0 (p : Nat → Prop) (o : Nat → Nat) : EnumN p 0 0 o := ⟨Nat.le_refl 0, fun j hj => by omega, fun i j _ hj => by omega, fun w hw => by omega⟩
theorem EnumN_yes {p : Nat → Prop} {n k : Nat} {o : Nat → Nat} (h : EnumN p n k o) (hp : p n) : EnumN p (n + 1) (k + 1) (fun j => if j = k then n else o j) := by
  obtain ⟨h0, h1, h2, h3⟩ := h
  refine ⟨by omega, fun j hj => ?_, fun i j hij hj => ?_, fun w hw pw => ?_⟩
  · by_cases e : j = k
    · simp only [if_pos e]; exact ⟨by omega, hp⟩
    · simp only [if_neg e]
      have := h1 j (by omega)
      exact ⟨by omega, this.2⟩
  · have : i ≠ k := by omega
    simp only [if_neg this]
    by_cases e : j = k
    · simp only [if_pos e]; exact (h1 i (by omega)).1
    · simp only [if_neg e]; exact h2 i j hij (by omega)
  · by_cases e : w = n
    · exact ⟨k, by omega, by simp [e]⟩
    · obtain ⟨j, hj, ej⟩ := h3 w (by omega) pw
      exact ⟨j, by omega, by simp only [if_neg (by omega : j ≠ k)]; exact ej⟩
theorem EnumN_no {p : Nat → Prop} {n k : Nat} {o : Nat → Nat} (h : EnumN p n k o) (hp : ¬ p n) : EnumN p (n + 1) k o := by
  obtain ⟨h0, h1, h2, h3⟩ := h
  refine ⟨by omega, fun j hj => ?_, h2, fun w hw pw => ?_⟩
  · have := h1 j hj
    exact ⟨by omega, this.2⟩
  · have : w ≠ n := fun e => hp (e ▸ pw)
    exact h3 w (by omega) pw
theorem enum_sum {p : Nat → Prop} (g : Nat → Int) (hp : Nat → Int) (q1 : ∀ w, p w → hp w = g w) (q0 : ∀ w, ¬ p w → hp w = 0) : ∀ (n k : Nat) (o : Nat → Nat), EnumN p n k o → ssum (fun j => g (o j)) k = ssum hp n := by
  intro n
  induction n with
  | zero =>
    intro k o h
    have : k = 0 := by have := h.1; omega
    subst this
    rfl
  | succ n ih =>
    intro k o h
    obtain ⟨h0, h1, h2, h3⟩ := h
    by_cases c : p n
    · obtain ⟨j, hj, ej⟩ := h3 n (by omega) c
      have ek : j = k - 1 := by
        rcases Nat.lt_or_ge j (k - 1) with z | z
        · have a1 := h2 j (k - 1) z (by omega)
          have a2 := (h1 (k - 1) (by omega)).1
          omega
        · omega
      obtain ⟨m, rfl⟩ : ∃ m, k = m + 1 := ⟨k - 1, by omega⟩
      have em : j = m := by omega
      subst em
      simp only [ssum]
      rw [ej, q1 n c]
      have := ih j o ⟨?_, fun i hi => ?_, fun a b hab hb => h2 a b hab (by omega), fun w hw pw => ?_⟩
      · rw [this]
      · have hh : ∀ i, i ≤ j → i ≤ o i := by
          intro i
          induction i with
          | zero => intro _; omega
          | succ i ihi =>
            intro hi
            have := ihi (by omega)
            have := h2 i (i + 1) (by omega) (by omega)
            omega
        have := hh j (Nat.le_refl j)
        omega
      · have a1 := h2 i j hi (by omega)
        exact ⟨by omega, (h1 i (by omega)).2⟩
      · obtain ⟨i, hi, ei⟩ := h3 w (by omega) pw
        refine ⟨i, ?_, ei⟩
        rcases Nat.lt_or_ge i j with z | z
        · exact z
        · have : i = j := by omega
          subst this
          omega
    · simp only [ssum]
      rw [q0 n c]
      have := ih k o ⟨?_, fun i hi => ?_, h2, fun w hw pw => h3 w (by omega) pw⟩
      · rw [this]; omega
      · rcases Nat.eq_zero_or_pos k with z | z
        · omega
        · have hh : ∀ i, i < k → i ≤ o i := by
            intro i
            induction i with
            | zero => intro _; omega
            | succ i ihi =>
              intro hi
              have := ihi (by omega)
              have := h2 i (i + 1) (by omega) (by omega)
              omega
          have a1 := hh (k - 1) (by omega)
          have a2 := h1 (k - 1) (by omega)
          have a3 : o (k - 1) ≠ n := fun e => c (e ▸ a2.2)
          omega
      · have a2 := h1 i hi
        have a3 : o i ≠ n := fun e => c (e ▸ a2.2)
        exact ⟨by omega, a2.2⟩
theorem Enum_of {f : Nat → Int} {k : Nat} {o : Nat → Nat} (h : EnumN (fun w => f w = -1) 4 k o) : Enum f k o := h
def sgn (f V : Nat → Int) (w : Nat) : Int := if f w = -1 ∧ 0 < V w then -1 else 1
def xb (f V M : Nat → Int) (w : Nat) : Int := if f w = -1 then (if 0 < V w then M w else 0) else f w
theorem sgn_1 (f V : Nat → Int) (w : Nat) : sgn f V w = 1 ∨ sgn f V w = -1 := by
  unfold sgn
  split
  · exact Or.inr rfl
  · exact Or.inl rfl
/-- what rows 0 .. 2k of the sheet hold -/
def gv (f V M : Nat → Int) (k : Nat) (o : Nat → Nat) (i j : Nat) : Int :=
  if i = 0 then V (o j) * sgn f V (o j) else if i ≤ k then (if j = 4 then xb f V M (o (i - 1)) else if j = i - 1 then sgn f V (o (i - 1)) else 0)
  else (if j = 4 then M (o (i - 1 - k)) - xb f V M (o (i - 1 - k)) else if j = i - 1 - k then - sgn f V (o (i - 1 - k)) else 0)
def TabR (f V M : Nat → Int) (va mo : Nat → Int32) : Prop := ∀ w, w < 4 → va w = iI (V w) ∧ 0 ≤ V w ∧ V w ≤ 198 ∧ (f w = -1 → mo w = iI (M w)) ∧ 0 ≤ M w ∧ M w ≤ 12
theorem sp_fillWish {f V M : Nat → Int} {k j : Nat} {o : Nat → Nat} {va mo opn : Nat → Int32} {T : Nat → Nat → Int64} (hk : k ≤ 4) (hj : j < k) (ho : o j < 4) (fo : f (o j) = -1) (hop : opn j = nI (o j)) (tr : TabR f V M va mo) {post : (Nat → Nat → Int64) → Prop}
    (hpost : ∀ T' : Nat → Nat → Int64, T' = msetJ (msetJ (msetJ (msetJ (msetJ (msetJ T 0 4 (T 0 4 + lI (V (o j) * xb f V M (o j)))) 0 j (lI (V (o j) * sgn f V (o j)))) (1 + j) 4 (lI (xb f V M (o j)))) (1 + j) j (lI (sgn f V (o j)))) (1 + k + j) 4 (lI (M (o j) - xb f V M (o j)))) (1 + k + j) j (lI (- sgn f V (o j))) → post T') :
    wp_X1_fillWish (nI k) T opn va mo (nI j) post := by
  obtain ⟨v1, v2, v3, m1, m2, m3⟩ := tr (o j) ho
  have m1 := m1 fo
  have c4 : ((4 : Int32)).toNatClampNeg = 4 := rfl
  have c0 : ((0 : Int32)).toNatClampNeg = 0 := rfl
  have one : (1 : Int32) = nI 1 := rfl
  have i1 : (1 : Int32) = iI 1 := rfl
  have im : (-1 : Int32) = iI (-1) := rfl
  have ri : ∀ z : Int, -3000 ≤ z → z ≤ 3000 → rI z := fun z a b => ⟨by omega, by omega⟩
  unfold wp_X1_fillWish
  rw [nI_clamp (by omega), hop, nI_clamp (by omega), v1, m1, iI_0]
  refine ⟨vp_in_nI (by omega) (by omega), vp_in_nI (by omega) (by omega), ?_⟩
  refine br_c (fun q => ?_) (fun q => ?_)
  · rw [iI_le (ri _ (by omega) (by omega)) (ri _ (by omega) (by omega))] at q
    have es : sgn f V (o j) = 1 := by unfold sgn; rw [if_neg (by omega)]
    have ex : xb f V M (o j) = 0 := by unfold xb; rw [if_pos fo, if_neg (by omega)]
    unfold wj_X1_fillWish_26
    rw [nI_clamp (by omega), v1, iI_0]
    refine ⟨vp_in_nI (by omega) (by omega), br_t (by rw [iI_le (ri _ (by omega) (by omega)) (ri _ (by omega) (by omega))]; exact q) ?_⟩
    unfold wj_X1_fillWish_42
    rw [nI_clamp (by omega), nI_clamp (by omega), v1, m1, ← iI_0, c4, c0]
    refine ⟨vp_in_nI (by omega) (by omega), fun a ha => ⟨vp_in_nI (by omega) (by omega), fun b hb => ?_⟩⟩
    rw [one, nI_add, nI_add, nI_add, nI_clamp (by omega), nI_clamp (by omega)]
    refine ⟨vp_in_nI (by omega) (by omega), fun d hd => ⟨vp_in_nI (by omega) (by omega), fun e he => ?_⟩⟩
    intro g hg
    refine hpost g ?_
    rw [hg, he, hd, hb, ha, es, ex]
    rw [iI_0, ← one, i1, iI_mul, iI_mul, iI_sub, iI_neg, iI_l (ri _ (by omega) (by omega)), iI_l (ri _ (by omega) (by omega)), iI_l (ri _ (by omega) (by omega)), iI_l (ri _ (by omega) (by omega)), iI_l (ri _ (by omega) (by omega)), iI_l (ri _ (by omega) (by omega))]
  · rw [iI_le (ri _ (by omega) (by omega)) (ri _ (by omega) (by omega))] at q
    have es : sgn f V (o j) = -1 := by unfold sgn; rw [if_pos ⟨fo, by omega⟩]
    have ex : xb f V M (o j) = M (o j) := by unfold xb; rw [if_pos fo, if_pos (by omega)]
    unfold wj_X1_fillWish_26
    rw [nI_clamp (by omega), v1, iI_0]
    refine ⟨vp_in_nI (by omega) (by omega), br_f (by rw [iI_le (ri _ (by omega) (by omega)) (ri _ (by omega) (by omega))]; exact q) ?_⟩
    unfold wj_X1_fillWish_42
    rw [nI_clamp (by omega), nI_clamp (by omega), v1, m1, c4, c0]
    refine ⟨vp_in_nI (by omega) (by omega), fun a ha => ⟨vp_in_nI (by omega) (by omega), fun b hb => ?_⟩⟩
    rw [one, nI_add, nI_add, nI_add, nI_clamp (by omega), nI_clamp (by omega)]
    refine ⟨vp_in_nI (by omega) (by omega), fun d hd => ⟨vp_in_nI (by omega) (by omega), fun e he => ?_⟩⟩
    intro g hg
    refine hpost g ?_
    have b1 := ab_mul (x := V (o j)) (X := 198) (y := M (o j)) (Y := 12) (by omega) (by omega) (by omega) (by omega)
    rw [hg, he, hd, hb, ha, es, ex]
    have n1 : nI 1 = iI 1 := rfl
    have nn : - iI 1 = iI (-1) := iI_neg 1
    rw [n1, nn, im, iI_mul, iI_mul, iI_sub, iI_neg, iI_l (ri _ (by omega) (by omega)), iI_l (ri _ (by omega) (by omega)), iI_l (ri _ (by omega) (by omega)), iI_l (ri _ (by omega) (by omega)), iI_l (ri _ (by omega) (by omega)), iI_l (ri _ (by omega) (by omega))]
