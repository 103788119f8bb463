/-! the determinant, as the reference finds it -/
def PA (n : Nat) (A : Nat → Nat → Int) (r c : Nat) : Int := if r < n ∧ c < n then A r c else if r = c then 1 else 0
def DET (n : Nat) (A : Nat → Nat → Int) : Int := dt (PA n A)
def mn (k : Nat) (A : Nat → Nat → Int) (r c : Nat) : Int :=
  if k = 0 then A r c else if k = 1 then A 0 0 * A r c - A r 0 * A 0 c
  else if k = 2 then A 0 0 * (A 1 1 * A r c - A r 1 * A 1 c) - A 0 1 * (A 1 0 * A r c - A r 0 * A 1 c) + A 0 c * (A 1 0 * A r 1 - A r 0 * A 1 1)
  else A 0 0 * (A 1 1 * (A 2 2 * A r c - A r 2 * A 2 c) - A 1 2 * (A 2 1 * A r c - A r 1 * A 2 c) + A 1 c * (A 2 1 * A r 2 - A r 1 * A 2 2))
    - A 0 1 * (A 1 0 * (A 2 2 * A r c - A r 2 * A 2 c) - A 1 2 * (A 2 0 * A r c - A r 0 * A 2 c) + A 1 c * (A 2 0 * A r 2 - A r 0 * A 2 2))
    + A 0 2 * (A 1 0 * (A 2 1 * A r c - A r 1 * A 2 c) - A 1 1 * (A 2 0 * A r c - A r 0 * A 2 c) + A 1 c * (A 2 0 * A r 1 - A r 0 * A 2 1))
    - A 0 c * (A 1 0 * (A 2 1 * A r 2 - A r 1 * A 2 2) - A 1 1 * (A 2 0 * A r 2 - A r 0 * A 2 2) + A 1 2 * (A 2 0 * A r 1 - A r 0 * A 2 1))
def lst_ (k : Nat) (A : Nat → Nat → Int) : Int := if k = 0 then 1 else mn (k - 1) A (k - 1) (k - 1)
theorem mn_0 (A : Nat → Nat → Int) (r c : Nat) : mn 0 A r c = A r c := rfl
theorem mn_1 (A : Nat → Nat → Int) (r c : Nat) : mn 1 A r c = A 0 0 * A r c - A r 0 * A 0 c := rfl
theorem mn_2 (A : Nat → Nat → Int) (r c : Nat) : mn 2 A r c = A 0 0 * (A 1 1 * A r c - A r 1 * A 1 c) - A 0 1 * (A 1 0 * A r c - A r 0 * A 1 c) + A 0 c * (A 1 0 * A r 1 - A r 0 * A 1 1) := rfl
theorem DET_mn {n : Nat} (h1 : 1 ≤ n) (h4 : n ≤ 4) (A : Nat → Nat → Int) : DET n A = mn (n - 1) A (n - 1) (n - 1) := by
  rcases (by omega : n = 1 ∨ n = 2 ∨ n = 3 ∨ n = 4) with e | e | e | e <;> subst e <;> simp [DET, dt, D4, PA, mn] <;> grind
theorem bareiss {k : Nat} (hk : k < 3) (A : Nat → Nat → Int) (r c : Nat) : lst_ k A * mn (k + 1) A r c = mn k A r c * mn k A k k - mn k A r k * mn k A k c := by
  rcases (by omega : k = 0 ∨ k = 1 ∨ k = 2) with e | e | e <;> subst e <;> simp [lst_, mn] <;> grind
def swp (A : Nat → Nat → Int) (k p : Nat) : Nat → Nat → Int := fun r c => if r = k then A p c else if r = p then A k c else A r c
theorem swp_lt (A : Nat → Nat → Int) {k p r : Nat} (h1 : r < k) (h2 : k < p) (c : Nat) : swp A k p r c = A r c := by
  unfold swp
  rw [if_neg (by omega), if_neg (by omega)]
theorem mn_eq {k : Nat} (hk : k ≤ 3) {A B : Nat → Nat → Int} {r s : Nat} (c : Nat) (h : ∀ i, i < k → ∀ j, A i j = B i j) (hr : ∀ j, A r j = B s j) : mn k A r c = mn k B s c := by
  rcases (by omega : k = 0 ∨ k = 1 ∨ k = 2 ∨ k = 3) with e | e | e | e
  · subst e
    rw [mn_0, mn_0]
    exact hr c
  · subst e
    have a0 := h 0 (by omega)
    rw [mn_1, mn_1, a0, a0, hr, hr]
  · subst e
    have a0 := h 0 (by omega)
    have a1 := h 1 (by omega)
    rw [mn_2, mn_2, a0, a0, a0, a1, a1, a1, hr, hr, hr]
  · subst e
    have a0 := h 0 (by omega)
    have a1 := h 1 (by omega)
    have a2 := h 2 (by omega)
    simp only [mn]
    rw [a0, a0, a0, a0, a1, a1, a1, a1, a2, a2, a2, a2, hr, hr, hr, hr]
theorem mn_swp {k p : Nat} (hk : k ≤ 3) (hp : k < p) (A : Nat → Nat → Int) {r : Nat} (c : Nat) : mn k (swp A k p) r c = mn k A (if r = k then p else if r = p then k else r) c := by
  refine mn_eq hk c (fun i hi j => swp_lt A hi hp j) (fun j => ?_)
  unfold swp
  by_cases e : r = k
  · rw [if_pos e, if_pos e]
  · rw [if_neg e, if_neg e]
    by_cases f : r = p
    · rw [if_pos f, if_pos f]
    · rw [if_neg f, if_neg f]
theorem lst_swp {k p : Nat} (hk : k ≤ 3) (hp : k < p) (A : Nat → Nat → Int) : lst_ k (swp A k p) = lst_ k A := by
  unfold lst_
  by_cases e : k = 0
  · rw [if_pos e, if_pos e]
  · rw [if_neg e, if_neg e]
    exact mn_eq (by omega) _ (fun i hi j => swp_lt A (by omega) hp j) (fun j => swp_lt A (by omega) hp j)
theorem PA_swp {n k p : Nat} (hk : k < p) (hp : p < n) (A : Nat → Nat → Int) (r : Nat) : PA n (swp A k p) r = if r = k then PA n A p else if r = p then PA n A k else PA n A r := by
  funext c
  by_cases e : r = k
  · rw [if_pos e]
    subst e
    unfold PA swp
    by_cases q : c < n
    · rw [if_pos ⟨by omega, q⟩, if_pos rfl, if_pos ⟨by omega, q⟩]
    · rw [if_neg (by omega), if_neg (by omega), if_neg (by omega), if_neg (by omega)]
  · rw [if_neg e]
    by_cases f : r = p
    · rw [if_pos f]
      subst f
      unfold PA swp
      by_cases q : c < n
      · rw [if_pos ⟨by omega, q⟩, if_neg e, if_pos rfl, if_pos ⟨by omega, q⟩]
      · rw [if_neg (by omega), if_neg (by omega), if_neg (by omega), if_neg (by omega)]
    · rw [if_neg f]
      unfold PA swp
      by_cases q : r < n ∧ c < n
      · rw [if_pos q, if_pos q, if_neg e, if_neg f]
      · rw [if_neg q, if_neg q]
theorem D4_x02 (a b c d : Nat → Int) : D4 c b a d = - D4 a b c d := by unfold D4; grind
theorem D4_x03 (a b c d : Nat → Int) : D4 d b c a = - D4 a b c d := by unfold D4; grind
theorem D4_x13 (a b c d : Nat → Int) : D4 a d c b = - D4 a b c d := by unfold D4; grind
theorem DET_swp {n k p : Nat} (hn : n ≤ 4) (hk : k < p) (hp : p < n) (A : Nat → Nat → Int) : DET n (swp A k p) = - DET n A := by
  unfold DET dt
  rw [PA_swp hk hp, PA_swp hk hp, PA_swp hk hp, PA_swp hk hp]
  rcases (by omega : (k = 0 ∧ p = 1) ∨ (k = 0 ∧ p = 2) ∨ (k = 0 ∧ p = 3) ∨ (k = 1 ∧ p = 2) ∨ (k = 1 ∧ p = 3) ∨ (k = 2 ∧ p = 3)) with ⟨e, f⟩ | ⟨e, f⟩ | ⟨e, f⟩ | ⟨e, f⟩ | ⟨e, f⟩ | ⟨e, f⟩ <;> subst e <;> subst f
  · exact D4_s01 _ _ _ _
  · exact D4_x02 _ _ _ _
  · exact D4_x03 _ _ _ _
  · exact D4_s12 _ _ _ _
  · exact D4_x13 _ _ _ _
  · exact D4_s23 _ _ _ _
/-- a way that no row sees: the determinant is 0 -/
theorem dt_kern {N : Nat → Nat → Int} {v : Nat → Int} (h : ∀ j, j < 4 → dot (N j) v = 0) {w : Nat} (hw : w < 4) (nz : v w ≠ 0) : dt N = 0 := by
  have c := cramer N (ev w) v
  rw [h 0 (by omega), h 1 (by omega), h 2 (by omega), h 3 (by omega), dot_ev v hw] at c
  simp only [Int.mul_zero, Int.add_zero] at c
  rcases Int.mul_eq_zero.mp c.symm with e | e
  · exact e
  · exact absurd e nz
theorem DET_zero {n k : Nat} (hn : n ≤ 4) (hk : k < n) (A : Nat → Nat → Int) (hl : lst_ k A ≠ 0) (hz : ∀ r, k ≤ r → r < n → mn k A r k = 0) : DET n A = 0 := by
  rcases (by omega : k = 0 ∨ k = 1 ∨ k = 2 ∨ k = 3) with e | e | e | e
  · subst e
    refine dt_kern (v := ev 0) (fun j hj => ?_) (w := 0) (by omega) (by decide)
    have hj0 : PA n A j 0 = 0 := by
      unfold PA
      by_cases q : j < n
      · rw [if_pos ⟨q, by omega⟩]
        exact hz j (by omega) q
      · rw [if_neg (by omega), if_neg (by omega)]
    simp only [dot, ev]
    rw [hj0]
    simp
  · subst e
    have l0 : A 0 0 ≠ 0 := hl
    refine dt_kern (v := fun i => if i = 0 then A 0 1 else if i = 1 then - A 0 0 else 0) (fun j hj => ?_) (w := 1) (by omega) (by simp; exact l0)
    simp only [dot]
    simp
    by_cases q : j < n
    · have a0 : PA n A j 0 = A j 0 := by unfold PA; rw [if_pos ⟨q, by omega⟩]
      have a1 : PA n A j 1 = A j 1 := by unfold PA; rw [if_pos ⟨q, by omega⟩]
      rw [a0, a1]
      by_cases j0 : j = 0
      · subst j0
        grind
      · have := hz j (by omega) q
        rw [mn_1] at this
        grind
    · have a0 : PA n A j 0 = 0 := by unfold PA; rw [if_neg (by omega), if_neg (by omega)]
      have a1 : PA n A j 1 = 0 := by unfold PA; rw [if_neg (by omega), if_neg (by omega)]
      rw [a0, a1]
      simp
  · subst e
    have l0 : A 0 0 * A 1 1 - A 1 0 * A 0 1 ≠ 0 := hl
    refine dt_kern (v := fun i => if i = 0 then A 0 1 * A 1 2 - A 0 2 * A 1 1 else if i = 1 then A 0 2 * A 1 0 - A 0 0 * A 1 2 else if i = 2 then A 0 0 * A 1 1 - A 1 0 * A 0 1 else 0) (fun j hj => ?_) (w := 2) (by omega) (by simp; omega)
    simp only [dot]
    simp
    by_cases q : j < n
    · have a0 : PA n A j 0 = A j 0 := by unfold PA; rw [if_pos ⟨q, by omega⟩]
      have a1 : PA n A j 1 = A j 1 := by unfold PA; rw [if_pos ⟨q, by omega⟩]
      have a2 : PA n A j 2 = A j 2 := by unfold PA; rw [if_pos ⟨q, by omega⟩]
      rw [a0, a1, a2]
      by_cases j0 : j = 0
      · subst j0
        grind
      · by_cases j1 : j = 1
        · subst j1
          grind
        · have := hz j (by omega) q
          rw [mn_2] at this
          grind
    · have a0 : PA n A j 0 = 0 := by unfold PA; rw [if_neg (by omega), if_neg (by omega)]
      have a1 : PA n A j 1 = 0 := by unfold PA; rw [if_neg (by omega), if_neg (by omega)]
      have a2 : PA n A j 2 = 0 := by unfold PA; rw [if_neg (by omega), if_neg (by omega)]
      rw [a0, a1, a2]
      simp
  · subst e
    have e4 : n = 4 := by omega
    subst e4
    rw [DET_mn (by omega) (by omega)]
    exact hz 3 (by omega) (by omega)
/-! how large -/
theorem mn_le {n k : Nat} (hn : n ≤ 4) {A : Nat → Nat → Int} (hA : ∀ r, r < n → ∀ c, c < n → -540 ≤ A r c ∧ A r c ≤ 540) (hk : k < n) {r c : Nat} (hr : r < n) (hc : c < n) :
    (k = 0 → -540 ≤ mn k A r c ∧ mn k A r c ≤ 540) ∧ (k = 1 → -583200 ≤ mn k A r c ∧ mn k A r c ≤ 583200) ∧ (k = 2 → -944784000 ≤ mn k A r c ∧ mn k A r c ≤ 944784000) ∧ (k = 3 → -2040733440000 ≤ mn k A r c ∧ mn k A r c ≤ 2040733440000) := by
  have m2 : ∀ a b p q, a < n → b < n → p < n → q < n → -583200 ≤ A a p * A b q - A b p * A a q ∧ A a p * A b q - A b p * A a q ≤ 583200 := fun a b p q ha hb hp hq => by
    have t1 := ab_mul (hA a ha p hp).1 (hA a ha p hp).2 (hA b hb q hq).1 (hA b hb q hq).2
    have t2 := ab_mul (hA b hb p hp).1 (hA b hb p hp).2 (hA a ha q hq).1 (hA a ha q hq).2
    omega
  have m3 : ∀ a b d p q s, a < n → b < n → d < n → p < n → q < n → s < n → -944784000 ≤ A a p * (A b q * A d s - A d q * A b s) - A a q * (A b p * A d s - A d p * A b s) + A a s * (A b p * A d q - A d p * A b q) ∧ A a p * (A b q * A d s - A d q * A b s) - A a q * (A b p * A d s - A d p * A b s) + A a s * (A b p * A d q - A d p * A b q) ≤ 944784000 := fun a b d p q s ha hb hd hp hq hs => by
    have u1 := m2 b d q s hb hd hq hs
    have u2 := m2 b d p s hb hd hp hs
    have u3 := m2 b d p q hb hd hp hq
    have t1 := ab_mul (hA a ha p hp).1 (hA a ha p hp).2 u1.1 u1.2
    have t2 := ab_mul (hA a ha q hq).1 (hA a ha q hq).2 u2.1 u2.2
    have t3 := ab_mul (hA a ha s hs).1 (hA a ha s hs).2 u3.1 u3.2
    omega
  refine ⟨fun e => ?_, fun e => ?_, fun e => ?_, fun e => ?_⟩
  · subst e
    exact hA r hr c hc
  · subst e
    rw [mn_1]
    exact m2 0 r 0 c (by omega) hr (by omega) hc
  · subst e
    rw [mn_2]
    exact m3 0 1 r 0 1 c (by omega) (by omega) hr (by omega) (by omega) hc
  · subst e
    have v1 := m3 1 2 r 1 2 c (by omega) (by omega) hr (by omega) (by omega) hc
    have v2 := m3 1 2 r 0 2 c (by omega) (by omega) hr (by omega) (by omega) hc
    have v3 := m3 1 2 r 0 1 c (by omega) (by omega) hr (by omega) (by omega) hc
    have v4 := m3 1 2 r 0 1 2 (by omega) (by omega) hr (by omega) (by omega) (by omega)
    have t1 := ab_mul (hA 0 (by omega) 0 (by omega)).1 (hA 0 (by omega) 0 (by omega)).2 v1.1 v1.2
    have t2 := ab_mul (hA 0 (by omega) 1 (by omega)).1 (hA 0 (by omega) 1 (by omega)).2 v2.1 v2.2
    have t3 := ab_mul (hA 0 (by omega) 2 (by omega)).1 (hA 0 (by omega) 2 (by omega)).2 v3.1 v3.2
    have t4 := ab_mul (hA 0 (by omega) c hc).1 (hA 0 (by omega) c hc).2 v4.1 v4.2
    have e3 : mn 3 A r c = A 0 0 * (A 1 1 * (A 2 2 * A r c - A r 2 * A 2 c) - A 1 2 * (A 2 1 * A r c - A r 1 * A 2 c) + A 1 c * (A 2 1 * A r 2 - A r 1 * A 2 2))
    - A 0 1 * (A 1 0 * (A 2 2 * A r c - A r 2 * A 2 c) - A 1 2 * (A 2 0 * A r c - A r 0 * A 2 c) + A 1 c * (A 2 0 * A r 2 - A r 0 * A 2 2))
    + A 0 2 * (A 1 0 * (A 2 1 * A r c - A r 1 * A 2 c) - A 1 1 * (A 2 0 * A r c - A r 0 * A 2 c) + A 1 c * (A 2 0 * A r 1 - A r 0 * A 2 1))
    - A 0 c * (A 1 0 * (A 2 1 * A r 2 - A r 1 * A 2 2) - A 1 1 * (A 2 0 * A r 2 - A r 0 * A 2 2) + A 1 2 * (A 2 0 * A r 1 - A r 0 * A 2 1)) := rfl
    rw [e3]
    omega
