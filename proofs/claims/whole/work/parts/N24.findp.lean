/-! the first sheet -/
def n0 (f V : Nat → Int) : Nat → Nat → Int := fun w i => sgn f V w * ev w i
def be0 (f V M : Nat → Int) : Nat → Int := fun w => - (sgn f V w * xb f V M w)
def s0 (f V : Nat → Int) : Int := sgn f V 0 * sgn f V 1 * (sgn f V 2 * sgn f V 3)
theorem sgn_sq (f V : Nat → Int) (w : Nat) : sgn f V w * sgn f V w = 1 := by
  rcases sgn_1 f V w with e | e <;> rw [e] <;> rfl
theorem D4_diag (g0 g1 g2 g3 : Int) (a : Nat → Int) : D4 (fun i => g0 * ev 0 i) (fun i => g1 * ev 1 i) (fun i => g2 * ev 2 i) (fun i => g3 * ev 3 i) = g0 * g1 * (g2 * g3)
    ∧ D4 a (fun i => g1 * ev 1 i) (fun i => g2 * ev 2 i) (fun i => g3 * ev 3 i) = a 0 * g1 * (g2 * g3) ∧ D4 (fun i => g0 * ev 0 i) a (fun i => g2 * ev 2 i) (fun i => g3 * ev 3 i) = g0 * a 1 * (g2 * g3)
    ∧ D4 (fun i => g0 * ev 0 i) (fun i => g1 * ev 1 i) a (fun i => g3 * ev 3 i) = g0 * g1 * (a 2 * g3) ∧ D4 (fun i => g0 * ev 0 i) (fun i => g1 * ev 1 i) (fun i => g2 * ev 2 i) a = g0 * g1 * (g2 * a 3) := by
  simp only [D4, ev]
  refine ⟨?_, ?_, ?_, ?_, ?_⟩ <;> simp <;> grind
theorem s0_dt (f V : Nat → Int) : s0 f V * dt (n0 f V) = 1 := by
  have h := (D4_diag (sgn f V 0) (sgn f V 1) (sgn f V 2) (sgn f V 3) (ev 0)).1
  have e : dt (n0 f V) = s0 f V := h
  rw [e]
  have q0 := sgn_sq f V 0
  have q1 := sgn_sq f V 1
  have q2 := sgn_sq f V 2
  have q3 := sgn_sq f V 3
  unfold s0
  grind
theorem s0_dj (f V : Nat → Int) {w : Nat} (hw : w < 4) (a : Nat → Int) : s0 f V * dj (n0 f V) w a = sgn f V w * a w := by
  obtain ⟨_, h0, h1, h2, h3⟩ := D4_diag (sgn f V 0) (sgn f V 1) (sgn f V 2) (sgn f V 3) a
  have q0 := sgn_sq f V 0
  have q1 := sgn_sq f V 1
  have q2 := sgn_sq f V 2
  have q3 := sgn_sq f V 3
  have e0 : dj (n0 f V) 0 a = a 0 * sgn f V 1 * (sgn f V 2 * sgn f V 3) := h0
  have e1 : dj (n0 f V) 1 a = sgn f V 0 * a 1 * (sgn f V 2 * sgn f V 3) := h1
  have e2 : dj (n0 f V) 2 a = sgn f V 0 * sgn f V 1 * (a 2 * sgn f V 3) := h2
  have e3 : dj (n0 f V) 3 a = sgn f V 0 * sgn f V 1 * (sgn f V 2 * a 3) := h3
  refine c4 (P := fun w => s0 f V * dj (n0 f V) w a = sgn f V w * a w) ?_ ?_ ?_ ?_ hw
  · rw [e0]; unfold s0; grind
  · rw [e1]; unfold s0; grind
  · rw [e2]; unfold s0; grind
  · rw [e3]; unfold s0; grind
theorem s0_cst (f V M : Nat → Int) (a : Nat → Int) (k : Int) : cst (n0 f V) (be0 f V M) (s0 f V) a k = k + dot a (xb f V M) := by
  unfold cst
  rw [s0_dt]
  simp only [sm]
  rw [s0_dj f V (by omega), s0_dj f V (by omega), s0_dj f V (by omega), s0_dj f V (by omega)]
  have q0 := sgn_sq f V 0
  have q1 := sgn_sq f V 1
  have q2 := sgn_sq f V 2
  have q3 := sgn_sq f V 3
  simp only [be0, dot]
  grind
theorem rowA_x (V : Nat → Int) (us : Nat → Nat → Int) (lst : Nat → Prop) {k : Nat} (o gl : Nat → Nat) {j : Nat} (hj : j < k) : rowA V us lst k o gl (1 + j) = ev (o j) := by
  unfold rowA
  rw [if_neg (by omega), if_pos (by omega)]
  exact congrArg (fun z => ev (o z)) (by omega)
theorem rowA_m (V : Nat → Int) (us : Nat → Nat → Int) (lst : Nat → Prop) {k : Nat} (o gl : Nat → Nat) {j : Nat} (hj : j < k) : rowA V us lst k o gl (1 + k + j) = (fun w => - ev (o j) w) := by
  unfold rowA
  rw [if_neg (by omega), if_neg (by omega), if_pos (by omega)]
  exact congrArg (fun z => (fun w => - ev (o z) w)) (by omega)
theorem rowA_g (V : Nat → Int) (us : Nat → Nat → Int) (lst : Nat → Prop) (k : Nat) (o gl : Nat → Nat) (t : Nat) : rowA V us lst k o gl (1 + (k + k) + t) = (fun w => sgl lst (gl t) * us w (gl t)) := by
  unfold rowA
  rw [if_neg (by omega), if_neg (by omega), if_neg (by omega)]
  exact congrArg (fun z => (fun w => sgl lst (gl z) * us w (gl z))) (by omega)
theorem rowB_x (M lim : Nat → Int) (lst : Nat → Prop) {k : Nat} (o gl : Nat → Nat) {j : Nat} (hj : j < k) : rowB M lim lst k o gl (1 + j) = 0 := by
  unfold rowB
  rw [if_neg (by omega), if_pos (by omega)]
theorem rowB_m (M lim : Nat → Int) (lst : Nat → Prop) {k : Nat} (o gl : Nat → Nat) {j : Nat} (hj : j < k) : rowB M lim lst k o gl (1 + k + j) = M (o j) := by
  unfold rowB
  rw [if_neg (by omega), if_neg (by omega), if_pos (by omega)]
  exact congrArg (fun z => M (o z)) (by omega)
theorem rowB_g (M lim : Nat → Int) (lst : Nat → Prop) (k : Nat) (o gl : Nat → Nat) (t : Nat) : rowB M lim lst k o gl (1 + (k + k) + t) = - (sgl lst (gl t) * lim (gl t)) := by
  unfold rowB
  rw [if_neg (by omega), if_neg (by omega), if_neg (by omega)]
  exact congrArg (fun z => - (sgl lst (gl z) * lim (gl z))) (by omega)
theorem row_cases {k m i : Nat} (h1 : 1 ≤ i) (h : i < 1 + (k + k) + m) : (∃ j, j < k ∧ i = 1 + j) ∨ (∃ j, j < k ∧ i = 1 + k + j) ∨ (∃ t, t < m ∧ i = 1 + (k + k) + t) := by
  rcases Nat.lt_or_ge (i - 1) k with q | q
  · exact Or.inl ⟨i - 1, q, by omega⟩
  · rcases Nat.lt_or_ge (i - 1 - k) k with q2 | q2
    · exact Or.inr (Or.inl ⟨i - 1 - k, q2, by omega⟩)
    · exact Or.inr (Or.inr ⟨i - 1 - (k + k), by omega, by omega⟩)
/-- gates that hold, by letters -/
noncomputable def GH (us : Nat → Nat → Int) (lim : Nat → Int) (lst hb : Nat → Prop) (x : Nat → Int) (d : Int) : Prop := ∀ l, l < 5 → hb l → 0 ≤ sgl lst l * (dot (fun w => us w l) x - lim l * d)
theorem GH_GC (us : Nat → Nat → Int) (lim : Nat → Int) (lst hb : Nat → Prop) : GC (GH us lim lst hb) := by
  intro x y d e k l hd he hk hl hx hy q hq hbq
  have a := Int.mul_nonneg hk (hx q hq hbq)
  have b := Int.mul_nonneg hl (hy q hq hbq)
  rw [dot_lin]
  have e1 : sgl lst q * (k * dot (fun w => us w q) x + l * dot (fun w => us w q) y - lim q * (k * d + l * e)) = k * (sgl lst q * (dot (fun w => us w q) x - lim q * d)) + l * (sgl lst q * (dot (fun w => us w q) y - lim q * e)) := by grind
  omega
section FP
variable {f V M lim : Nat → Int} {us : Nat → Nat → Int} {lst hb : Nat → Prop} {k m : Nat} {o gl : Nat → Nat}
theorem row_dot {x : Nat → Int} {d : Int} {t : Nat} : dot (rowA V us lst k o gl (1 + (k + k) + t)) x + rowB M lim lst k o gl (1 + (k + k) + t) * d = sgl lst (gl t) * (dot (fun w => us w (gl t)) x - lim (gl t) * d) := by
  rw [rowA_g, rowB_g]
  simp only [dot]
  grind
theorem Rg_iff (E : Enum f k o) (gE : GE hb 5 m gl) (fo : ∀ w, w < 4 → f w ≠ -1 → 0 ≤ f w ∧ f w ≤ M w) (x : Nat → Int) (d : Int) : (Pf M (GH us lim lst hb) x d ∧ Fx f x d) ↔ Rg (rowA V us lst k o gl) (rowB M lim lst k o gl) (1 + (k + k) + m) (fun w => f w = -1) f x d := by
  obtain ⟨_, e1, e2, e3⟩ := E
  constructor
  · intro ⟨⟨d0, bx, g⟩, fx⟩
    refine ⟨d0, fun i h1 h2 => ?_, fun w hw n => fx w hw n⟩
    rcases row_cases h1 h2 with ⟨j, hj, e⟩ | ⟨j, hj, e⟩ | ⟨t, ht, e⟩
    · rw [e, rowA_x V us lst o gl hj, rowB_x M lim lst o gl hj, dot_ev x (e1 j hj).1]
      have := bx (o j) (e1 j hj).1
      omega
    · rw [e, rowA_m V us lst o gl hj, rowB_m M lim lst o gl hj, dot_negl, dot_ev x (e1 j hj).1]
      have := bx (o j) (e1 j hj).1
      omega
    · rw [e, row_dot]
      obtain ⟨g1, g2⟩ := gE.2.1 t ht
      exact g (gl t) g1 g2
  · intro ⟨d0, am, fx⟩
    refine ⟨⟨d0, fun w hw => ?_, fun l hl hbl => ?_⟩, fun w hw n => fx w hw n⟩
    · by_cases q : f w = -1
      · obtain ⟨j, hj, ej⟩ := e3 w hw q
        have a1 := am (1 + j) (by omega) (by omega)
        have a2 := am (1 + k + j) (by omega) (by omega)
        rw [rowA_x V us lst o gl hj, rowB_x M lim lst o gl hj, ej, dot_ev x hw] at a1
        rw [rowA_m V us lst o gl hj, rowB_m M lim lst o gl hj, dot_negl, ej, dot_ev x hw] at a2
        omega
      · have a := fo w hw q
        rw [fx w hw q]
        have b1 := Int.mul_nonneg a.1 (Int.le_of_lt d0)
        have b2 := Int.mul_le_mul_of_nonneg_right a.2 (Int.le_of_lt d0)
        omega
    · obtain ⟨t, ht, et⟩ := gE.2.2 l hl hbl
      have a := am (1 + (k + k) + t) (by omega) (by omega)
      rw [row_dot, et] at a
      exact a
theorem Sx_first (E : Enum f k o) (hV : ∀ w, w < 4 → 0 ≤ V w) : Sx (rowA V us lst k o gl) (rowB M lim lst k o gl) (1 + (k + k) + m) (fun w => f w = -1) f V (n0 f V) (be0 f V M) (s0 f V) := by
  obtain ⟨_, e1, e2, e3⟩ := E
  refine ⟨?_, by rw [s0_dt]; omega, fun w hw q => ?_, fun w hw q => ?_, fun w hw q => ?_⟩
  · unfold s0
    rcases sgn_1 f V 0 with a | a <;> rcases sgn_1 f V 1 with b | b <;> rcases sgn_1 f V 2 with c | c <;> rcases sgn_1 f V 3 with d | d <;> rw [a, b, c, d] <;> decide
  · obtain ⟨j, hj, ej⟩ := e3 w hw q
    by_cases v : 0 < V w
    · have es : sgn f V w = -1 := by unfold sgn; rw [if_pos ⟨q, v⟩]
      refine ⟨1 + k + j, by omega, by omega, ?_, ?_⟩
      · rw [rowA_m V us lst o gl hj, ej]
        funext i
        simp only [n0]
        rw [es]
        omega
      · rw [rowB_m M lim lst o gl hj, ej]
        simp only [be0]
        rw [es]
        unfold xb
        rw [if_pos q, if_pos v]
        omega
    · have es : sgn f V w = 1 := by unfold sgn; rw [if_neg (by omega)]
      refine ⟨1 + j, by omega, by omega, ?_, ?_⟩
      · rw [rowA_x V us lst o gl hj, ej]
        funext i
        simp only [n0]
        rw [es]
        omega
      · rw [rowB_x M lim lst o gl hj]
        simp only [be0]
        unfold xb
        rw [if_pos q, if_neg v]
        simp
  · have es : sgn f V w = 1 := by unfold sgn; rw [if_neg (by omega)]
    refine ⟨?_, ?_⟩
    · funext i
      simp only [n0]
      rw [es]
      omega
    · simp only [be0]
      unfold xb
      rw [es, if_neg q]
      omega
  · have v := hV w hw
    by_cases v0 : 0 < V w
    · have es : sgn f V w = -1 := by unfold sgn; rw [if_pos ⟨q, v0⟩]
      refine Or.inl ?_
      (try dsimp only)
      rw [s0_dj f V hw, es]
      have : ob V 0 w = - V w := by simp [ob]
      rw [this]
      omega
    · have es : sgn f V w = 1 := by unfold sgn; rw [if_neg (by omega)]
      rw [LXP_posk]
      refine ⟨w + 1, by omega, ?_, fun i hi => ?_⟩
      · (try dsimp only)
        rw [s0_dj f V hw, es]
        simp [ob, ev]
      · (try dsimp only)
        rw [s0_dj f V hw, es]
        by_cases i0 : i = 0
        · subst i0
          have : ob V 0 w = - V w := by simp [ob]
          rw [this]
          omega
        · have : ob V i w = 0 := by
            simp only [ob, if_neg i0, ev]
            rw [if_neg (by omega)]
          rw [this]
          omega
theorem row_le {hV : ∀ w, w < 4 → 0 ≤ V w ∧ V w ≤ 198} (hU : ∀ l, l < 5 → ∀ w, w < 4 → 0 ≤ us w l ∧ us w l ≤ 9) (gE : GE hb 5 m gl) {i : Nat} (hi : i < 1 + (k + k) + m) : ∀ w, w < 4 → -(if i = 0 then 198 else 9 : Int) ≤ rowA V us lst k o gl i w ∧ rowA V us lst k o gl i w ≤ (if i = 0 then 198 else 9 : Int) := by
  intro w hw
  by_cases i0 : i = 0
  · subst i0
    have := hV w hw
    unfold rowA
    rw [if_pos rfl, if_pos rfl]
    omega
  · rw [if_neg i0]
    rcases row_cases (by omega) hi with ⟨j, hj, e⟩ | ⟨j, hj, e⟩ | ⟨t, ht, e⟩
    · rw [e, rowA_x V us lst o gl hj]
      unfold ev
      split <;> omega
    · rw [e, rowA_m V us lst o gl hj]
      unfold ev
      dsimp only
      split <;> omega
    · rw [e, rowA_g]
      have := hU (gl t) (gE.2.1 t ht).1 w hw
      dsimp only
      rcases sgl_1 lst (gl t) with e | e <;> rw [e] <;> omega
theorem rowB_le (E : Enum f k o) (hM : ∀ w, w < 4 → 0 ≤ M w ∧ M w ≤ 12) (hL : ∀ l, l < 5 → 0 ≤ lim l ∧ lim l ≤ 100) (gE : GE hb 5 m gl) {i : Nat} (hi : i < 1 + (k + k) + m) : -100 ≤ rowB M lim lst k o gl i ∧ rowB M lim lst k o gl i ≤ 100 := by
  by_cases i0 : i = 0
  · subst i0
    unfold rowB
    rw [if_pos rfl]
    omega
  · rcases row_cases (by omega) hi with ⟨j, hj, e⟩ | ⟨j, hj, e⟩ | ⟨t, ht, e⟩
    · rw [e, rowB_x M lim lst o gl hj]
      omega
    · rw [e, rowB_m M lim lst o gl hj]
      have := hM (o j) (E.2.1 j hj).1
      omega
    · rw [e, rowB_g]
      have := hL (gl t) (gE.2.1 t ht).1
      rcases sgl_1 lst (gl t) with e | e <;> rw [e] <;> omega
end FP
