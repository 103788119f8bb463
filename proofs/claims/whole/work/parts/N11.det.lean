/-! four rows of four numbers -/
def D4 (a b c d : Nat → Int) : Int :=
  (a 0 * b 1 - a 1 * b 0) * (c 2 * d 3 - c 3 * d 2) - (a 0 * b 2 - a 2 * b 0) * (c 1 * d 3 - c 3 * d 1) + (a 0 * b 3 - a 3 * b 0) * (c 1 * d 2 - c 2 * d 1) + (a 1 * b 2 - a 2 * b 1) * (c 0 * d 3 - c 3 * d 0) - (a 1 * b 3 - a 3 * b 1) * (c 0 * d 2 - c 2 * d 0) + (a 2 * b 3 - a 3 * b 2) * (c 0 * d 1 - c 1 * d 0)
def dot (a x : Nat → Int) : Int := a 0 * x 0 + a 1 * x 1 + a 2 * x 2 + a 3 * x 3
def ev (i : Nat) : Nat → Int := fun k => if k = i then 1 else 0
theorem D4_s01 (a b c d : Nat → Int) : D4 b a c d = - D4 a b c d := by unfold D4; grind
theorem D4_s12 (a b c d : Nat → Int) : D4 a c b d = - D4 a b c d := by unfold D4; grind
theorem D4_s23 (a b c d : Nat → Int) : D4 a b d c = - D4 a b c d := by unfold D4; grind
theorem D4_e01 (a c d : Nat → Int) : D4 a a c d = 0 := by unfold D4; grind
theorem D4_e12 (a b d : Nat → Int) : D4 a b b d = 0 := by unfold D4; grind
theorem D4_e23 (a b c : Nat → Int) : D4 a b c c = 0 := by unfold D4; grind
theorem D4_e02 (a b d : Nat → Int) : D4 a b a d = 0 := by unfold D4; grind
theorem D4_e03 (a b c : Nat → Int) : D4 a b c a = 0 := by unfold D4; grind
theorem D4_e13 (a b c : Nat → Int) : D4 a b c b = 0 := by unfold D4; grind
def dt (N : Nat → Nat → Int) : Int := D4 (N 0) (N 1) (N 2) (N 3)
def rp (N : Nat → Nat → Int) (j : Nat) (a : Nat → Int) : Nat → Nat → Int := fun k => if k = j then a else N k
def dj (N : Nat → Nat → Int) (j : Nat) (a : Nat → Int) : Int := dt (rp N j a)
theorem dj_0 (N : Nat → Nat → Int) (a : Nat → Int) : dj N 0 a = D4 a (N 1) (N 2) (N 3) := rfl
theorem dj_1 (N : Nat → Nat → Int) (a : Nat → Int) : dj N 1 a = D4 (N 0) a (N 2) (N 3) := rfl
theorem dj_2 (N : Nat → Nat → Int) (a : Nat → Int) : dj N 2 a = D4 (N 0) (N 1) a (N 3) := rfl
theorem dj_3 (N : Nat → Nat → Int) (a : Nat → Int) : dj N 3 a = D4 (N 0) (N 1) (N 2) a := rfl
theorem c4 {P : Nat → Prop} (h0 : P 0) (h1 : P 1) (h2 : P 2) (h3 : P 3) {j : Nat} (hj : j < 4) : P j := by
  match j, hj with
  | 0, _ => exact h0
  | 1, _ => exact h1
  | 2, _ => exact h2
  | 3, _ => exact h3
theorem rp_same (N : Nat → Nat → Int) (j : Nat) (a : Nat → Int) : rp N j a j = a := by simp [rp]
theorem rp_other (N : Nat → Nat → Int) (j : Nat) (a : Nat → Int) {k : Nat} (h : k ≠ j) : rp N j a k = N k := by simp [rp, h]
theorem dj_self (N : Nat → Nat → Int) {j : Nat} (hj : j < 4) : dj N j (N j) = dt N := by
  refine c4 (P := fun j => dj N j (N j) = dt N) ?_ ?_ ?_ ?_ hj <;> rfl
/-- linear in the row that is put in -/
theorem D4_l0 (b c d a : Nat → Int) : D4 a b c d = a 0 * D4 (ev 0) b c d + a 1 * D4 (ev 1) b c d + a 2 * D4 (ev 2) b c d + a 3 * D4 (ev 3) b c d := by
  simp only [D4, ev]
  grind
theorem dj_lin (N : Nat → Nat → Int) {j : Nat} (hj : j < 4) (a : Nat → Int) : dj N j a = a 0 * dj N j (ev 0) + a 1 * dj N j (ev 1) + a 2 * dj N j (ev 2) + a 3 * dj N j (ev 3) := by
  refine c4 (P := fun j => dj N j a = a 0 * dj N j (ev 0) + a 1 * dj N j (ev 1) + a 2 * dj N j (ev 2) + a 3 * dj N j (ev 3)) ?_ ?_ ?_ ?_ hj
  · simp only [dj_0]
    exact D4_l0 _ _ _ _
  · simp only [dj_1]
    rw [D4_s01 a, D4_s01 (ev 0), D4_s01 (ev 1), D4_s01 (ev 2), D4_s01 (ev 3), D4_l0 (N 0) (N 2) (N 3) a]
    grind
  · simp only [dj_2, D4, ev]
    grind
  · simp only [dj_3, D4, ev]
    grind
theorem dj_eq (N : Nat → Nat → Int) {j : Nat} (hj : j < 4) (a b : Nat → Int) (h : ∀ i, i < 4 → a i = b i) : dj N j a = dj N j b := by
  rw [dj_lin N hj a, dj_lin N hj b, h 0 (by omega), h 1 (by omega), h 2 (by omega), h 3 (by omega)]
theorem dj_neg (N : Nat → Nat → Int) {j : Nat} (hj : j < 4) (a : Nat → Int) : dj N j (fun i => - a i) = - dj N j a := by
  rw [dj_lin N hj a, dj_lin N hj (fun i => - a i)]
  grind
/-- a row twice -/
theorem dj_twice (N : Nat → Nat → Int) {j k : Nat} (hj : j < 4) (hk : k < 4) (h : j ≠ k) : dj N j (N k) = 0 := by
  revert h
  refine c4 (P := fun j => j ≠ k → dj N j (N k) = 0) ?_ ?_ ?_ ?_ hj
  · refine c4 (P := fun k => 0 ≠ k → dj N 0 (N k) = 0) ?_ ?_ ?_ ?_ hk
    · intro h; exact absurd rfl h
    · intro _; exact D4_e01 _ _ _
    · intro _; exact D4_e02 _ _ _
    · intro _; exact D4_e03 _ _ _
  · refine c4 (P := fun k => 1 ≠ k → dj N 1 (N k) = 0) ?_ ?_ ?_ ?_ hk
    · intro _; exact D4_e01 _ _ _
    · intro h; exact absurd rfl h
    · intro _; exact D4_e12 _ _ _
    · intro _; exact D4_e13 _ _ _
  · refine c4 (P := fun k => 2 ≠ k → dj N 2 (N k) = 0) ?_ ?_ ?_ ?_ hk
    · intro _; exact D4_e02 _ _ _
    · intro _; exact D4_e12 _ _ _
    · intro h; exact absurd rfl h
    · intro _; exact D4_e23 _ _ _
  · refine c4 (P := fun k => 3 ≠ k → dj N 3 (N k) = 0) ?_ ?_ ?_ ?_ hk
    · intro _; exact D4_e03 _ _ _
    · intro _; exact D4_e13 _ _ _
    · intro _; exact D4_e23 _ _ _
    · intro h; exact absurd rfl h
/-- any row told by the four -/
theorem cramer_w (N : Nat → Nat → Int) (a : Nat → Int) {w : Nat} (hw : w < 4) : dj N 0 a * N 0 w + dj N 1 a * N 1 w + dj N 2 a * N 2 w + dj N 3 a * N 3 w = dt N * a w := by
  simp only [dj_0, dj_1, dj_2, dj_3, dt]
  generalize N 0 = p
  generalize N 1 = q
  generalize N 2 = r
  generalize N 3 = s
  refine c4 (P := fun w => D4 a q r s * p w + D4 p a r s * q w + D4 p q a s * r w + D4 p q r a * s w = D4 p q r s * a w) ?_ ?_ ?_ ?_ hw <;> (unfold D4; grind)
theorem cramer (N : Nat → Nat → Int) (a x : Nat → Int) : dj N 0 a * dot (N 0) x + dj N 1 a * dot (N 1) x + dj N 2 a * dot (N 2) x + dj N 3 a * dot (N 3) x = dt N * dot a x := by
  have h0 := cramer_w N a (w := 0) (by omega)
  have h1 := cramer_w N a (w := 1) (by omega)
  have h2 := cramer_w N a (w := 2) (by omega)
  have h3 := cramer_w N a (w := 3) (by omega)
  unfold dot
  generalize dj N 0 a = j0 at *
  generalize dj N 1 a = j1 at *
  generalize dj N 2 a = j2 at *
  generalize dj N 3 a = j3 at *
  generalize dt N = t at *
  have e : t * (a 0 * x 0 + a 1 * x 1 + a 2 * x 2 + a 3 * x 3) = (t * a 0) * x 0 + (t * a 1) * x 1 + (t * a 2) * x 2 + (t * a 3) * x 3 := by grind
  rw [e, ← h0, ← h1, ← h2, ← h3]
  grind
/-- two rows changed: the division of a turn leaves no rest. First for the rows 0, 1 -/
theorem plk01 (n0 n1 n2 n3 r a : Nat → Int) : D4 n0 n1 n2 n3 * D4 r a n2 n3 = D4 r n1 n2 n3 * D4 n0 a n2 n3 - D4 a n1 n2 n3 * D4 n0 r n2 n3 := by
  have lin : ∀ y : Nat → Int, D4 r y n2 n3 = y 0 * D4 r (ev 0) n2 n3 + y 1 * D4 r (ev 1) n2 n3 + y 2 * D4 r (ev 2) n2 n3 + y 3 * D4 r (ev 3) n2 n3 := fun y => by
    have h := dj_lin (fun k => if k = 0 then r else if k = 2 then n2 else n3) (j := 1) (by omega) y
    simp only [dj_1] at h
    exact h
  have cr : ∀ w, w < 4 → D4 a n1 n2 n3 * n0 w + D4 n0 a n2 n3 * n1 w + D4 n0 n1 a n3 * n2 w + D4 n0 n1 n2 a * n3 w = D4 n0 n1 n2 n3 * a w := fun w hw => by
    have h := cramer_w (fun k => if k = 0 then n0 else if k = 1 then n1 else if k = 2 then n2 else n3) a hw
    exact h
  have z2 : D4 r n2 n2 n3 = 0 := D4_e12 _ _ _
  have z3 : D4 r n3 n2 n3 = 0 := D4_e13 _ _ _
  have l0 := lin n0
  have l1 := lin n1
  have l2 := lin n2
  have l3 := lin n3
  have c0 := cr 0 (by omega)
  have c1 := cr 1 (by omega)
  have c2 := cr 2 (by omega)
  have c3 := cr 3 (by omega)
  have sw : D4 r n0 n2 n3 = - D4 n0 r n2 n3 := D4_s01 _ _ _ _
  rw [z2] at l2
  rw [z3] at l3
  rw [sw] at l0
  rw [lin a]
  generalize D4 r (ev 0) n2 n3 = k0 at *
  generalize D4 r (ev 1) n2 n3 = k1 at *
  generalize D4 r (ev 2) n2 n3 = k2 at *
  generalize D4 r (ev 3) n2 n3 = k3 at *
  rw [l1]
  have l0' : D4 n0 r n2 n3 = -(n0 0 * k0 + n0 1 * k1 + n0 2 * k2 + n0 3 * k3) := by omega
  rw [l0']
  generalize D4 a n1 n2 n3 = j0 at *
  generalize D4 n0 a n2 n3 = j1 at *
  generalize D4 n0 n1 a n3 = j2 at *
  generalize D4 n0 n1 n2 a = j3 at *
  generalize D4 n0 n1 n2 n3 = t at *
  have e : t * (a 0 * k0 + a 1 * k1 + a 2 * k2 + a 3 * k3) = (t * a 0) * k0 + (t * a 1) * k1 + (t * a 2) * k2 + (t * a 3) * k3 := by grind
  rw [e, ← c0, ← c1, ← c2, ← c3]
  have e2 : (j0 * n0 0 + j1 * n1 0 + j2 * n2 0 + j3 * n3 0) * k0 + (j0 * n0 1 + j1 * n1 1 + j2 * n2 1 + j3 * n3 1) * k1 + (j0 * n0 2 + j1 * n1 2 + j2 * n2 2 + j3 * n3 2) * k2 + (j0 * n0 3 + j1 * n1 3 + j2 * n2 3 + j3 * n3 3) * k3 = (n1 0 * k0 + n1 1 * k1 + n1 2 * k2 + n1 3 * k3) * j1 - j0 * -(n0 0 * k0 + n0 1 * k1 + n0 2 * k2 + n0 3 * k3) + j2 * (n2 0 * k0 + n2 1 * k1 + n2 2 * k2 + n2 3 * k3) + j3 * (n3 0 * k0 + n3 1 * k1 + n3 2 * k2 + n3 3 * k3) := by grind
  rw [e2, ← l2, ← l3]
  omega
theorem D4_p01 (x y z w : Nat → Int) : D4 x y z w = D4 x y z w := by unfold D4; grind
theorem plk_01 (N : Nat → Nat → Int) (r a : Nat → Int) : dt N * dj (rp N 0 r) 1 a = dj N 0 r * dj N 1 a - dj N 0 a * dj N 1 r := by
  have h := plk01 (N 0) (N 1) (N 2) (N 3) r a
  have e0 : dt N = D4 (N 0) (N 1) (N 2) (N 3) := D4_p01 _ _ _ _
  have e1 : dj (rp N 0 r) 1 a = D4 r a (N 2) (N 3) := D4_p01 _ _ _ _
  have e2 : dj N 0 r = D4 r (N 1) (N 2) (N 3) := D4_p01 _ _ _ _
  have e3 : dj N 1 a = D4 (N 0) a (N 2) (N 3) := D4_p01 _ _ _ _
  have e4 : dj N 0 a = D4 a (N 1) (N 2) (N 3) := D4_p01 _ _ _ _
  have e5 : dj N 1 r = D4 (N 0) r (N 2) (N 3) := D4_p01 _ _ _ _
  rw [e0, e1, e2, e3, e4, e5]
  grind
theorem D4_p02 (x y z w : Nat → Int) : D4 x z y w = - D4 x y z w := by unfold D4; grind
theorem plk_02 (N : Nat → Nat → Int) (r a : Nat → Int) : dt N * dj (rp N 0 r) 2 a = dj N 0 r * dj N 2 a - dj N 0 a * dj N 2 r := by
  have h := plk01 (N 0) (N 2) (N 1) (N 3) r a
  have e0 : dt N = - D4 (N 0) (N 2) (N 1) (N 3) := D4_p02 _ _ _ _
  have e1 : dj (rp N 0 r) 2 a = - D4 r a (N 1) (N 3) := D4_p02 _ _ _ _
  have e2 : dj N 0 r = - D4 r (N 2) (N 1) (N 3) := D4_p02 _ _ _ _
  have e3 : dj N 2 a = - D4 (N 0) a (N 1) (N 3) := D4_p02 _ _ _ _
  have e4 : dj N 0 a = - D4 a (N 2) (N 1) (N 3) := D4_p02 _ _ _ _
  have e5 : dj N 2 r = - D4 (N 0) r (N 1) (N 3) := D4_p02 _ _ _ _
  rw [e0, e1, e2, e3, e4, e5]
  grind
theorem D4_p03 (x y z w : Nat → Int) : D4 x z w y = D4 x y z w := by unfold D4; grind
theorem plk_03 (N : Nat → Nat → Int) (r a : Nat → Int) : dt N * dj (rp N 0 r) 3 a = dj N 0 r * dj N 3 a - dj N 0 a * dj N 3 r := by
  have h := plk01 (N 0) (N 3) (N 1) (N 2) r a
  have e0 : dt N = D4 (N 0) (N 3) (N 1) (N 2) := D4_p03 _ _ _ _
  have e1 : dj (rp N 0 r) 3 a = D4 r a (N 1) (N 2) := D4_p03 _ _ _ _
  have e2 : dj N 0 r = D4 r (N 3) (N 1) (N 2) := D4_p03 _ _ _ _
  have e3 : dj N 3 a = D4 (N 0) a (N 1) (N 2) := D4_p03 _ _ _ _
  have e4 : dj N 0 a = D4 a (N 3) (N 1) (N 2) := D4_p03 _ _ _ _
  have e5 : dj N 3 r = D4 (N 0) r (N 1) (N 2) := D4_p03 _ _ _ _
  rw [e0, e1, e2, e3, e4, e5]
  grind
theorem D4_p10 (x y z w : Nat → Int) : D4 y x z w = - D4 x y z w := by unfold D4; grind
theorem plk_10 (N : Nat → Nat → Int) (r a : Nat → Int) : dt N * dj (rp N 1 r) 0 a = dj N 1 r * dj N 0 a - dj N 1 a * dj N 0 r := by
  have h := plk01 (N 1) (N 0) (N 2) (N 3) r a
  have e0 : dt N = - D4 (N 1) (N 0) (N 2) (N 3) := D4_p10 _ _ _ _
  have e1 : dj (rp N 1 r) 0 a = - D4 r a (N 2) (N 3) := D4_p10 _ _ _ _
  have e2 : dj N 1 r = - D4 r (N 0) (N 2) (N 3) := D4_p10 _ _ _ _
  have e3 : dj N 0 a = - D4 (N 1) a (N 2) (N 3) := D4_p10 _ _ _ _
  have e4 : dj N 1 a = - D4 a (N 0) (N 2) (N 3) := D4_p10 _ _ _ _
  have e5 : dj N 0 r = - D4 (N 1) r (N 2) (N 3) := D4_p10 _ _ _ _
  rw [e0, e1, e2, e3, e4, e5]
  grind
theorem D4_p12 (x y z w : Nat → Int) : D4 z x y w = D4 x y z w := by unfold D4; grind
theorem plk_12 (N : Nat → Nat → Int) (r a : Nat → Int) : dt N * dj (rp N 1 r) 2 a = dj N 1 r * dj N 2 a - dj N 1 a * dj N 2 r := by
  have h := plk01 (N 1) (N 2) (N 0) (N 3) r a
  have e0 : dt N = D4 (N 1) (N 2) (N 0) (N 3) := D4_p12 _ _ _ _
  have e1 : dj (rp N 1 r) 2 a = D4 r a (N 0) (N 3) := D4_p12 _ _ _ _
  have e2 : dj N 1 r = D4 r (N 2) (N 0) (N 3) := D4_p12 _ _ _ _
  have e3 : dj N 2 a = D4 (N 1) a (N 0) (N 3) := D4_p12 _ _ _ _
  have e4 : dj N 1 a = D4 a (N 2) (N 0) (N 3) := D4_p12 _ _ _ _
  have e5 : dj N 2 r = D4 (N 1) r (N 0) (N 3) := D4_p12 _ _ _ _
  rw [e0, e1, e2, e3, e4, e5]
  grind
theorem D4_p13 (x y z w : Nat → Int) : D4 z x w y = - D4 x y z w := by unfold D4; grind
theorem plk_13 (N : Nat → Nat → Int) (r a : Nat → Int) : dt N * dj (rp N 1 r) 3 a = dj N 1 r * dj N 3 a - dj N 1 a * dj N 3 r := by
  have h := plk01 (N 1) (N 3) (N 0) (N 2) r a
  have e0 : dt N = - D4 (N 1) (N 3) (N 0) (N 2) := D4_p13 _ _ _ _
  have e1 : dj (rp N 1 r) 3 a = - D4 r a (N 0) (N 2) := D4_p13 _ _ _ _
  have e2 : dj N 1 r = - D4 r (N 3) (N 0) (N 2) := D4_p13 _ _ _ _
  have e3 : dj N 3 a = - D4 (N 1) a (N 0) (N 2) := D4_p13 _ _ _ _
  have e4 : dj N 1 a = - D4 a (N 3) (N 0) (N 2) := D4_p13 _ _ _ _
  have e5 : dj N 3 r = - D4 (N 1) r (N 0) (N 2) := D4_p13 _ _ _ _
  rw [e0, e1, e2, e3, e4, e5]
  grind
theorem D4_p20 (x y z w : Nat → Int) : D4 y z x w = D4 x y z w := by unfold D4; grind
theorem plk_20 (N : Nat → Nat → Int) (r a : Nat → Int) : dt N * dj (rp N 2 r) 0 a = dj N 2 r * dj N 0 a - dj N 2 a * dj N 0 r := by
  have h := plk01 (N 2) (N 0) (N 1) (N 3) r a
  have e0 : dt N = D4 (N 2) (N 0) (N 1) (N 3) := D4_p20 _ _ _ _
  have e1 : dj (rp N 2 r) 0 a = D4 r a (N 1) (N 3) := D4_p20 _ _ _ _
  have e2 : dj N 2 r = D4 r (N 0) (N 1) (N 3) := D4_p20 _ _ _ _
  have e3 : dj N 0 a = D4 (N 2) a (N 1) (N 3) := D4_p20 _ _ _ _
  have e4 : dj N 2 a = D4 a (N 0) (N 1) (N 3) := D4_p20 _ _ _ _
  have e5 : dj N 0 r = D4 (N 2) r (N 1) (N 3) := D4_p20 _ _ _ _
  rw [e0, e1, e2, e3, e4, e5]
  grind
theorem D4_p21 (x y z w : Nat → Int) : D4 z y x w = - D4 x y z w := by unfold D4; grind
theorem plk_21 (N : Nat → Nat → Int) (r a : Nat → Int) : dt N * dj (rp N 2 r) 1 a = dj N 2 r * dj N 1 a - dj N 2 a * dj N 1 r := by
  have h := plk01 (N 2) (N 1) (N 0) (N 3) r a
  have e0 : dt N = - D4 (N 2) (N 1) (N 0) (N 3) := D4_p21 _ _ _ _
  have e1 : dj (rp N 2 r) 1 a = - D4 r a (N 0) (N 3) := D4_p21 _ _ _ _
  have e2 : dj N 2 r = - D4 r (N 1) (N 0) (N 3) := D4_p21 _ _ _ _
  have e3 : dj N 1 a = - D4 (N 2) a (N 0) (N 3) := D4_p21 _ _ _ _
  have e4 : dj N 2 a = - D4 a (N 1) (N 0) (N 3) := D4_p21 _ _ _ _
  have e5 : dj N 1 r = - D4 (N 2) r (N 0) (N 3) := D4_p21 _ _ _ _
  rw [e0, e1, e2, e3, e4, e5]
  grind
theorem D4_p23 (x y z w : Nat → Int) : D4 z w x y = D4 x y z w := by unfold D4; grind
theorem plk_23 (N : Nat → Nat → Int) (r a : Nat → Int) : dt N * dj (rp N 2 r) 3 a = dj N 2 r * dj N 3 a - dj N 2 a * dj N 3 r := by
  have h := plk01 (N 2) (N 3) (N 0) (N 1) r a
  have e0 : dt N = D4 (N 2) (N 3) (N 0) (N 1) := D4_p23 _ _ _ _
  have e1 : dj (rp N 2 r) 3 a = D4 r a (N 0) (N 1) := D4_p23 _ _ _ _
  have e2 : dj N 2 r = D4 r (N 3) (N 0) (N 1) := D4_p23 _ _ _ _
  have e3 : dj N 3 a = D4 (N 2) a (N 0) (N 1) := D4_p23 _ _ _ _
  have e4 : dj N 2 a = D4 a (N 3) (N 0) (N 1) := D4_p23 _ _ _ _
  have e5 : dj N 3 r = D4 (N 2) r (N 0) (N 1) := D4_p23 _ _ _ _
  rw [e0, e1, e2, e3, e4, e5]
  grind
theorem D4_p30 (x y z w : Nat → Int) : D4 y z w x = - D4 x y z w := by unfold D4; grind
theorem plk_30 (N : Nat → Nat → Int) (r a : Nat → Int) : dt N * dj (rp N 3 r) 0 a = dj N 3 r * dj N 0 a - dj N 3 a * dj N 0 r := by
  have h := plk01 (N 3) (N 0) (N 1) (N 2) r a
  have e0 : dt N = - D4 (N 3) (N 0) (N 1) (N 2) := D4_p30 _ _ _ _
  have e1 : dj (rp N 3 r) 0 a = - D4 r a (N 1) (N 2) := D4_p30 _ _ _ _
  have e2 : dj N 3 r = - D4 r (N 0) (N 1) (N 2) := D4_p30 _ _ _ _
  have e3 : dj N 0 a = - D4 (N 3) a (N 1) (N 2) := D4_p30 _ _ _ _
  have e4 : dj N 3 a = - D4 a (N 0) (N 1) (N 2) := D4_p30 _ _ _ _
  have e5 : dj N 0 r = - D4 (N 3) r (N 1) (N 2) := D4_p30 _ _ _ _
  rw [e0, e1, e2, e3, e4, e5]
  grind
theorem D4_p31 (x y z w : Nat → Int) : D4 z y w x = D4 x y z w := by unfold D4; grind
theorem plk_31 (N : Nat → Nat → Int) (r a : Nat → Int) : dt N * dj (rp N 3 r) 1 a = dj N 3 r * dj N 1 a - dj N 3 a * dj N 1 r := by
  have h := plk01 (N 3) (N 1) (N 0) (N 2) r a
  have e0 : dt N = D4 (N 3) (N 1) (N 0) (N 2) := D4_p31 _ _ _ _
  have e1 : dj (rp N 3 r) 1 a = D4 r a (N 0) (N 2) := D4_p31 _ _ _ _
  have e2 : dj N 3 r = D4 r (N 1) (N 0) (N 2) := D4_p31 _ _ _ _
  have e3 : dj N 1 a = D4 (N 3) a (N 0) (N 2) := D4_p31 _ _ _ _
  have e4 : dj N 3 a = D4 a (N 1) (N 0) (N 2) := D4_p31 _ _ _ _
  have e5 : dj N 1 r = D4 (N 3) r (N 0) (N 2) := D4_p31 _ _ _ _
  rw [e0, e1, e2, e3, e4, e5]
  grind
theorem D4_p32 (x y z w : Nat → Int) : D4 z w y x = - D4 x y z w := by unfold D4; grind
theorem plk_32 (N : Nat → Nat → Int) (r a : Nat → Int) : dt N * dj (rp N 3 r) 2 a = dj N 3 r * dj N 2 a - dj N 3 a * dj N 2 r := by
  have h := plk01 (N 3) (N 2) (N 0) (N 1) r a
  have e0 : dt N = - D4 (N 3) (N 2) (N 0) (N 1) := D4_p32 _ _ _ _
  have e1 : dj (rp N 3 r) 2 a = - D4 r a (N 0) (N 1) := D4_p32 _ _ _ _
  have e2 : dj N 3 r = - D4 r (N 2) (N 0) (N 1) := D4_p32 _ _ _ _
  have e3 : dj N 2 a = - D4 (N 3) a (N 0) (N 1) := D4_p32 _ _ _ _
  have e4 : dj N 3 a = - D4 a (N 2) (N 0) (N 1) := D4_p32 _ _ _ _
  have e5 : dj N 2 r = - D4 (N 3) r (N 0) (N 1) := D4_p32 _ _ _ _
  rw [e0, e1, e2, e3, e4, e5]
  grind
theorem plucker (N : Nat → Nat → Int) {c j : Nat} (hc : c < 4) (hj : j < 4) (h : j ≠ c) (r a : Nat → Int) : dt N * dj (rp N c r) j a = dj N c r * dj N j a - dj N c a * dj N j r := by
  revert h
  refine c4 (P := fun c => j ≠ c → dt N * dj (rp N c r) j a = dj N c r * dj N j a - dj N c a * dj N j r) ?_ ?_ ?_ ?_ hc
  · refine c4 (P := fun j => j ≠ 0 → dt N * dj (rp N 0 r) j a = dj N 0 r * dj N j a - dj N 0 a * dj N j r) ?_ ?_ ?_ ?_ hj
    · intro h; exact absurd rfl h
    · intro _; exact plk_01 N r a
    · intro _; exact plk_02 N r a
    · intro _; exact plk_03 N r a
  · refine c4 (P := fun j => j ≠ 1 → dt N * dj (rp N 1 r) j a = dj N 1 r * dj N j a - dj N 1 a * dj N j r) ?_ ?_ ?_ ?_ hj
    · intro _; exact plk_10 N r a
    · intro h; exact absurd rfl h
    · intro _; exact plk_12 N r a
    · intro _; exact plk_13 N r a
  · refine c4 (P := fun j => j ≠ 2 → dt N * dj (rp N 2 r) j a = dj N 2 r * dj N j a - dj N 2 a * dj N j r) ?_ ?_ ?_ ?_ hj
    · intro _; exact plk_20 N r a
    · intro _; exact plk_21 N r a
    · intro h; exact absurd rfl h
    · intro _; exact plk_23 N r a
  · refine c4 (P := fun j => j ≠ 3 → dt N * dj (rp N 3 r) j a = dj N 3 r * dj N j a - dj N 3 a * dj N j r) ?_ ?_ ?_ ?_ hj
    · intro _; exact plk_30 N r a
    · intro _; exact plk_31 N r a
    · intro _; exact plk_32 N r a
    · intro h; exact absurd rfl h
/-- put back in the same place -/
theorem dj_rp_same (N : Nat → Nat → Int) (c : Nat) (r a : Nat → Int) : dj (rp N c r) c a = dj N c a := by
  have e : rp (rp N c r) c a = rp N c a := by
    funext k
    simp only [rp]
    split <;> rfl
  unfold dj
  rw [e]
theorem dj_rp_twice (N : Nat → Nat → Int) {c j : Nat} (hc : c < 4) (hj : j < 4) (h : j ≠ c) (r : Nat → Int) : dj (rp N c r) j r = 0 := by
  have e : dj (rp N c r) j (rp N c r c) = 0 := dj_twice (rp N c r) hj hc h
  rw [rp_same] at e
  exact e
/-- where a column's row gives no one a share there is no share at all -/
theorem dj_zero (N : Nat → Nat → Int) {j : Nat} (hj : j < 4) (h : ∀ i, i < 4 → dj N j (ev i) = 0) : dt N = 0 := by
  rw [← dj_self N hj, dj_lin N hj, h 0 (by omega), h 1 (by omega), h 2 (by omega), h 3 (by omega)]
  simp
/-- how large they can be -/
theorem D4_le {a b c d : Nat → Int} {A B C E : Int} (ha : ∀ i, i < 4 → -A ≤ a i ∧ a i ≤ A) (hb : ∀ i, i < 4 → -B ≤ b i ∧ b i ≤ B) (hc : ∀ i, i < 4 → -C ≤ c i ∧ c i ≤ C) (hd : ∀ i, i < 4 → -E ≤ d i ∧ d i ≤ E) : -(24 * (A * B * (C * E))) ≤ D4 a b c d ∧ D4 a b c d ≤ 24 * (A * B * (C * E)) := by
  have m2 : ∀ (u v : Nat → Int) (U V : Int), (∀ i, i < 4 → -U ≤ u i ∧ u i ≤ U) → (∀ i, i < 4 → -V ≤ v i ∧ v i ≤ V) → ∀ i j, i < 4 → j < 4 → -(2 * (U * V)) ≤ u i * v j - u j * v i ∧ u i * v j - u j * v i ≤ 2 * (U * V) := by
    intro u v U V hu hv i j hi hj
    have h1 := ab_mul (hu i hi).1 (hu i hi).2 (hv j hj).1 (hv j hj).2
    have h2 := ab_mul (hu j hj).1 (hu j hj).2 (hv i hi).1 (hv i hi).2
    omega
  have m4 : ∀ i j k l, i < 4 → j < 4 → k < 4 → l < 4 → -(4 * (A * B * (C * E))) ≤ (a i * b j - a j * b i) * (c k * d l - c l * d k) ∧ (a i * b j - a j * b i) * (c k * d l - c l * d k) ≤ 4 * (A * B * (C * E)) := by
    intro i j k l hi hj hk hl
    have h1 := m2 a b A B ha hb i j hi hj
    have h2 := m2 c d C E hc hd k l hk hl
    have h3 := ab_mul h1.1 h1.2 h2.1 h2.2
    have e : 2 * (A * B) * (2 * (C * E)) = 4 * (A * B * (C * E)) := by grind
    rw [e] at h3
    exact h3
  have t1 := m4 0 1 2 3 (by omega) (by omega) (by omega) (by omega)
  have t2 := m4 0 2 1 3 (by omega) (by omega) (by omega) (by omega)
  have t3 := m4 0 3 1 2 (by omega) (by omega) (by omega) (by omega)
  have t4 := m4 1 2 0 3 (by omega) (by omega) (by omega) (by omega)
  have t5 := m4 1 3 0 2 (by omega) (by omega) (by omega) (by omega)
  have t6 := m4 2 3 0 1 (by omega) (by omega) (by omega) (by omega)
  unfold D4
  omega
