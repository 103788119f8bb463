def lI (z : Int) : Int64 := Int64.ofInt z
def iI (z : Int) : Int32 := Int32.ofInt z
def rL (z : Int) : Prop := -(2 ^ 62) ≤ z ∧ z ≤ 2 ^ 62
def rI (z : Int) : Prop := -(2 ^ 30) ≤ z ∧ z ≤ 2 ^ 30
theorem lI_add (a b : Int) : lI a + lI b = lI (a + b) := (Int64.ofInt_add a b).symm
theorem lI_sub (a b : Int) : lI a - lI b = lI (a - b) := (Int64.ofInt_sub a b).symm
theorem lI_mul (a b : Int) : lI a * lI b = lI (a * b) := (Int64.ofInt_mul a b).symm
theorem lI_neg (a : Int) : - lI a = lI (-a) := (Int64.ofInt_neg a).symm
theorem iI_add (a b : Int) : iI a + iI b = iI (a + b) := (Int32.ofInt_add a b).symm
theorem iI_sub (a b : Int) : iI a - iI b = iI (a - b) := (Int32.ofInt_sub a b).symm
theorem iI_mul (a b : Int) : iI a * iI b = iI (a * b) := (Int32.ofInt_mul a b).symm
theorem iI_neg (a : Int) : - iI a = iI (-a) := (Int32.ofInt_neg a).symm
theorem lI_of (x : Int64) : lI x.toInt = x := Int64.ofInt_toInt x
theorem iI_of (x : Int32) : iI x.toInt = x := Int32.ofInt_toInt x
theorem lI_toInt {a : Int} (h : rL a) : (lI a).toInt = a := Int64.toInt_ofInt_of_le (by have := h.1; omega) (by have := h.2; omega)
theorem iI_toInt {a : Int} (h : rI a) : (iI a).toInt = a := Int32.toInt_ofInt_of_le (by have := h.1; omega) (by have := h.2; omega)
theorem lI_lt {a b : Int} (ha : rL a) (hb : rL b) : lI a < lI b ↔ a < b := by
  rw [Int64.lt_iff_toInt_lt, lI_toInt ha, lI_toInt hb]
theorem lI_le {a b : Int} (ha : rL a) (hb : rL b) : lI a ≤ lI b ↔ a ≤ b := by
  rw [Int64.le_iff_toInt_le, lI_toInt ha, lI_toInt hb]
theorem lI_eq {a b : Int} (ha : rL a) (hb : rL b) : lI a = lI b ↔ a = b := by
  rw [← Int64.toInt_inj, lI_toInt ha, lI_toInt hb]
theorem iI_lt {a b : Int} (ha : rI a) (hb : rI b) : iI a < iI b ↔ a < b := by
  rw [Int32.lt_iff_toInt_lt, iI_toInt ha, iI_toInt hb]
theorem iI_le {a b : Int} (ha : rI a) (hb : rI b) : iI a ≤ iI b ↔ a ≤ b := by
  rw [Int32.le_iff_toInt_le, iI_toInt ha, iI_toInt hb]
theorem iI_eq {a b : Int} (ha : rI a) (hb : rI b) : iI a = iI b ↔ a = b := by
  rw [← Int32.toInt_inj, iI_toInt ha, iI_toInt hb]
theorem lI_div {a b : Int} (ha : rL a) (hb : rL b) : lI a / lI b = lI (a.tdiv b) := by
  have h1 := ha.1
  have h2 := ha.2
  have h3 := hb.1
  have h4 := hb.2
  have m1 : Int64.minValue.toInt = -2 ^ 63 := by decide
  have m2 : Int64.maxValue.toInt = 2 ^ 63 - 1 := by decide
  exact (Int64.ofInt_tdiv (by omega) (by omega) (by omega) (by omega)).symm
theorem iI_div {a b : Int} (ha : rI a) (hb : rI b) : iI a / iI b = iI (a.tdiv b) := by
  have h1 := ha.1
  have h2 := ha.2
  have h3 := hb.1
  have h4 := hb.2
  have m1 : Int32.minValue.toInt = -2 ^ 31 := by decide
  have m2 : Int32.maxValue.toInt = 2 ^ 31 - 1 := by decide
  exact (Int32.ofInt_tdiv (by omega) (by omega) (by omega) (by omega)).symm
theorem lI_exact {k q : Int} (hk : k ≠ 0) (h1 : rL (k * q)) (h2 : rL k) : lI (k * q) / lI k = lI q := by
  rw [lI_div h1 h2, Int.mul_tdiv_cancel_left q hk]
theorem iI_l {a : Int} (h : rI a) : (iI a).toInt64 = lI a := Int64.toInt_inj.mp (by
  have h1 := h.1
  have h2 := h.2
  rw [Int32.toInt_toInt64, iI_toInt h, lI_toInt ⟨by omega, by omega⟩])
theorem lI_i (a : Int) : (lI a).toInt32 = iI a := Int64.toInt32_ofInt
theorem nI_iI (n : Nat) : nI n = iI n := (Int32.ofInt_eq_ofNat).symm
theorem iI_clamp {a : Int} (h : rI a) : (iI a).toNatClampNeg = a.toNat := by
  show (iI a).toInt.toNat = a.toNat
  rw [iI_toInt h]
theorem rI_of {a : Int} (h1 : -1073741824 ≤ a) (h2 : a ≤ 1073741824) : rI a := ⟨by omega, by omega⟩
theorem rL_of {a : Int} (h1 : -4611686018427387904 ≤ a) (h2 : a ≤ 4611686018427387904) : rL a := ⟨by omega, by omega⟩
theorem lI_0 : (0 : Int64) = lI 0 := by decide
theorem lI_1 : (1 : Int64) = lI 1 := by decide
theorem iI_0 : (0 : Int32) = iI 0 := by decide
theorem iI_1 : (1 : Int32) = iI 1 := by decide
theorem in_of {x : Int} {n : Nat} (h0 : 0 ≤ x) (h : x < n) (hn : n ≤ 1000000) : vp_in (iI x) n := by
  rw [vp_in_iff, iI_toInt ⟨by omega, by omega⟩]
  exact ⟨h0, h⟩
/-- products keep within bounds -/
theorem ab_mul {x y X Y : Int} (h1 : -X ≤ x) (h2 : x ≤ X) (h3 : -Y ≤ y) (h4 : y ≤ Y) : -(X * Y) ≤ x * y ∧ x * y ≤ X * Y := by
  have hX : 0 ≤ X := by omega
  have hY : 0 ≤ Y := by omega
  have e1 : (x.natAbs : Int) ≤ X := by omega
  have e2 : (y.natAbs : Int) ≤ Y := by omega
  have e3 : ((x * y).natAbs : Int) ≤ X * Y := by
    rw [Int.natAbs_mul]
    push_cast
    exact Int.mul_le_mul e1 e2 (by omega) hX
  omega
theorem mul_pos_i {k a : Int} (hk : 0 < k) : 0 < k * a ↔ 0 < a := by
  constructor
  · intro h
    rcases Int.lt_or_le 0 a with q | q
    · exact q
    · have := Int.mul_le_mul_of_nonneg_left q (Int.le_of_lt hk)
      rw [Int.mul_zero] at this
      omega
  · intro h
    exact Int.mul_pos hk h
theorem mul_zero_i {k a : Int} (hk : 0 < k) : k * a = 0 ↔ a = 0 := by
  rw [Int.mul_eq_zero]
  constructor
  · intro h
    rcases h with h | h
    · omega
    · exact h
  · intro h
    exact Or.inr h
theorem mul_nn_i {k a : Int} (hk : 0 < k) : 0 ≤ k * a ↔ 0 ≤ a := by
  have h1 := mul_pos_i (a := a) hk
  have h2 := mul_zero_i (a := a) hk
  omega
