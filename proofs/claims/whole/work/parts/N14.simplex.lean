/-! a sheet: the rows N of its columns (constants be), all by the lower number s * dt N -/
def sm (f : Nat → Int) : Int := f 0 + f 1 + f 2 + f 3
def cA (N : Nat → Nat → Int) (be : Nat → Int) (w : Nat) (x : Nat → Int) (d : Int) : Int := dot (N w) x + be w * d
def cst (N : Nat → Nat → Int) (be : Nat → Int) (s : Int) (a : Nat → Int) (k : Int) : Int := s * dt N * k - sm (fun w => s * dj N w a * be w)
def bX (N : Nat → Nat → Int) (be : Nat → Int) (s : Int) : Nat → Int := fun w => cst N be s (ev w) 0
theorem tab (N : Nat → Nat → Int) (be : Nat → Int) (s : Int) (a : Nat → Int) (k : Int) (x : Nat → Int) (d : Int) : s * dt N * (dot a x + k * d) = sm (fun w => s * dj N w a * cA N be w x d) + cst N be s a k * d := by
  have h := cramer N a x
  simp only [cA, cst, sm]
  generalize dj N 0 a = j0 at *
  generalize dj N 1 a = j1 at *
  generalize dj N 2 a = j2 at *
  generalize dj N 3 a = j3 at *
  generalize dot (N 0) x = y0 at *
  generalize dot (N 1) x = y1 at *
  generalize dot (N 2) x = y2 at *
  generalize dot (N 3) x = y3 at *
  generalize dot a x = y at *
  generalize dt N = t at *
  have e : s * t * (y + k * d) = s * (t * y) + s * t * k * d := by grind
  rw [e, ← h]
  grind
theorem cst_X (N : Nat → Nat → Int) (be : Nat → Int) (s : Int) (a : Nat → Int) (k : Int) : cst N be s a k = dot a (bX N be s) + k * (s * dt N) := by
  have h0 := dj_lin N (j := 0) (by omega) a
  have h1 := dj_lin N (j := 1) (by omega) a
  have h2 := dj_lin N (j := 2) (by omega) a
  have h3 := dj_lin N (j := 3) (by omega) a
  simp only [bX, cst, sm, dot]
  rw [h0, h1, h2, h3]
  grind
theorem tab0 {N : Nat → Nat → Int} {be : Nat → Int} {s : Int} {x : Nat → Int} {d : Int} (h : ∀ w, w < 4 → cA N be w x d = 0) (a : Nat → Int) (k : Int) : s * dt N * (dot a x + k * d) = cst N be s a k * d := by
  rw [tab N be s a k x d]
  simp only [sm]
  rw [h 0 (by omega), h 1 (by omega), h 2 (by omega), h 3 (by omega)]
  simp
theorem cst_col (N : Nat → Nat → Int) (be : Nat → Int) (s : Int) {w : Nat} (hw : w < 4) : cst N be s (N w) (be w) = 0 := by
  have e : ∀ v, v < 4 → v ≠ w → dj N v (N w) = 0 := fun v hv n => dj_twice N hv hw n
  have f := dj_self N hw
  revert e f
  refine c4 (P := fun w => (∀ v, v < 4 → v ≠ w → dj N v (N w) = 0) → dj N w (N w) = dt N → cst N be s (N w) (be w) = 0) ?_ ?_ ?_ ?_ hw
  · intro e f
    simp only [cst, sm]
    rw [e 1 (by omega) (by omega), e 2 (by omega) (by omega), e 3 (by omega) (by omega), f]
    grind
  · intro e f
    simp only [cst, sm]
    rw [e 0 (by omega) (by omega), e 2 (by omega) (by omega), e 3 (by omega) (by omega), f]
    grind
  · intro e f
    simp only [cst, sm]
    rw [e 0 (by omega) (by omega), e 1 (by omega) (by omega), e 3 (by omega) (by omega), f]
    grind
  · intro e f
    simp only [cst, sm]
    rw [e 0 (by omega) (by omega), e 1 (by omega) (by omega), e 2 (by omega) (by omega), f]
    grind
/-- at its own point each column is 0 -/
theorem cA_X (N : Nat → Nat → Int) (be : Nat → Int) (s : Int) {w : Nat} (hw : w < 4) : cA N be w (bX N be s) (s * dt N) = 0 := by
  have h := cst_X N be s (N w) (be w)
  rw [cst_col N be s hw] at h
  unfold cA
  exact h.symm
/-- the best: columns that cost, a point where they are 0 -/
theorem opt_Ge {N : Nat → Nat → Int} {be : Nat → Int} {s : Int} (V : Nat → Int) {op : Nat → Prop} {x : Nat → Int} {d : Int}
    (hL : ∀ w, w < 4 → op w → LXP (fun i => s * dj N w (ob V i))) (h1 : ∀ w, w < 4 → op w → 0 ≤ cA N be w x d) (h0 : ∀ w, w < 4 → ¬ op w → cA N be w x d = 0) : Ge V (bX N be s) (s * dt N) x d := by
  have key : ∀ w, w < 4 → LXZ (fun i => cA N be w x d * (s * dj N w (ob V i))) := fun w hw => by
    by_cases o : op w
    · exact LXZ_smul0 (h1 w hw o) (LXP_LXZ (hL w hw o)) (fun i _ => rfl)
    · refine LXZ_0 (fun i _ => ?_)
      (try dsimp only)
      rw [h0 w hw o, Int.zero_mul]
  have a1 := LXZ_sum (w := fun i => cA N be 0 x d * (s * dj N 0 (ob V i)) + cA N be 1 x d * (s * dj N 1 (ob V i))) (key 0 (by omega)) (key 1 (by omega)) (fun i _ => rfl)
  have a2 := LXZ_sum (w := fun i => cA N be 2 x d * (s * dj N 2 (ob V i)) + cA N be 3 x d * (s * dj N 3 (ob V i))) (key 2 (by omega)) (key 3 (by omega)) (fun i _ => rfl)
  refine LXZ_sum a1 a2 (fun i _ => ?_)
  have t := tab N be s (ob V i) 0 x d
  have c := cst_X N be s (ob V i) 0
  rw [c] at t
  simp only [sm] at t
  unfold co
  grind
theorem no_point {N : Nat → Nat → Int} {be : Nat → Int} {s : Int} {op : Nat → Prop} {x : Nat → Int} {d : Int} (hs : 0 < s * dt N) (hd : 0 < d) (a : Nat → Int) (k : Int)
    (hn : cst N be s a k < 0) (hS : ∀ w, w < 4 → op w → s * dj N w a ≤ 0) (h1 : ∀ w, w < 4 → op w → 0 ≤ cA N be w x d) (h0 : ∀ w, w < 4 → ¬ op w → cA N be w x d = 0) : dot a x + k * d < 0 := by
  have key : ∀ w, w < 4 → s * dj N w a * cA N be w x d ≤ 0 := fun w hw => by
    by_cases o : op w
    · have := Int.mul_nonneg (a := - (s * dj N w a)) (by have := hS w hw o; omega) (h1 w hw o)
      rw [Int.neg_mul] at this
      omega
    · rw [h0 w hw o, Int.mul_zero]
      exact Int.le_refl _
  have t := tab N be s a k x d
  simp only [sm] at t
  have k0 := key 0 (by omega)
  have k1 := key 1 (by omega)
  have k2 := key 2 (by omega)
  have k3 := key 3 (by omega)
  have k4 := Int.mul_pos (a := - cst N be s a k) (by omega) hd
  rw [Int.neg_mul] at k4
  have k5 : s * dt N * (dot a x + k * d) < 0 := by omega
  have k6 := mul_nn_i (a := dot a x + k * d) hs
  omega
/-! a turn -/
def ub (be : Nat → Int) (c : Nat) (z : Int) : Nat → Int := fun w => if w = c then z else be w
theorem turn_S {N : Nat → Nat → Int} {s : Int} (hs : s = 1 ∨ s = -1) {c w : Nat} (hc : c < 4) (hw : w < 4) (h : w ≠ c) (r a : Nat → Int) : s * dt N * (s * dj (rp N c r) w a) = s * dj N c r * (s * dj N w a) - s * dj N w r * (s * dj N c a) := by
  have p := plucker N hc hw h r a
  rcases hs with e | e
  · rw [e]
    grind
  · rw [e]
    grind
theorem turn_sum {c : Nat} (hc : c < 4) {t p k kr : Int} {S S' R be : Nat → Int} (h : ∀ w, w < 4 → w ≠ c → t * S' w = p * S w - R w * S c) (h1 : S' c = S c) (h2 : R c = p) :
    t * (p * k - sm (fun w => S' w * ub be c kr w)) = p * (t * k - sm (fun w => S w * be w)) - S c * (t * kr - sm (fun w => R w * be w)) := by
  revert h h1 h2
  refine c4 (P := fun c => (∀ w, w < 4 → w ≠ c → t * S' w = p * S w - R w * S c) → S' c = S c → R c = p → t * (p * k - sm (fun w => S' w * ub be c kr w)) = p * (t * k - sm (fun w => S w * be w)) - S c * (t * kr - sm (fun w => R w * be w))) ?_ ?_ ?_ ?_ hc
  · intro h h1 h2
    have a := h 1 (by omega) (by omega)
    have b := h 2 (by omega) (by omega)
    have g := h 3 (by omega) (by omega)
    simp only [sm, ub]
    grind
  · intro h h1 h2
    have a := h 0 (by omega) (by omega)
    have b := h 2 (by omega) (by omega)
    have g := h 3 (by omega) (by omega)
    simp only [sm, ub]
    grind
  · intro h h1 h2
    have a := h 0 (by omega) (by omega)
    have b := h 1 (by omega) (by omega)
    have g := h 3 (by omega) (by omega)
    simp only [sm, ub]
    grind
  · intro h h1 h2
    have a := h 0 (by omega) (by omega)
    have b := h 1 (by omega) (by omega)
    have g := h 2 (by omega) (by omega)
    simp only [sm, ub]
    grind
theorem turn_dt (N : Nat → Nat → Int) (s : Int) {c : Nat} (r : Nat → Int) : s * dt (rp N c r) = s * dj N c r := rfl
theorem turn_C {N : Nat → Nat → Int} {be : Nat → Int} {s : Int} (hs : s = 1 ∨ s = -1) {c : Nat} (hc : c < 4) (r : Nat → Int) (kr : Int) (a : Nat → Int) (k : Int) : s * dt N * cst (rp N c r) (ub be c kr) s a k = s * dj N c r * cst N be s a k - s * dj N c a * cst N be s r kr := by
  unfold cst
  rw [turn_dt]
  exact turn_sum (S := fun w => s * dj N w a) (S' := fun w => s * dj (rp N c r) w a) (R := fun w => s * dj N w r) (be := be) hc (fun w hw n => turn_S hs hc hw n r a) (by (try dsimp only); rw [dj_rp_same]) rfl
