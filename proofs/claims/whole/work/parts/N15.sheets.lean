/-! the sheets that are met, and how many there are -/
def Sx (a : Nat → Nat → Int) (b : Nat → Int) (h : Nat) (op : Nat → Prop) (fx V : Nat → Int) (N : Nat → Nat → Int) (be : Nat → Int) (s : Int) : Prop :=
  (s = 1 ∨ s = -1) ∧ 0 < s * dt N ∧ (∀ w, w < 4 → op w → ∃ i, 1 ≤ i ∧ i < h ∧ N w = a i ∧ be w = b i) ∧ (∀ w, w < 4 → ¬ op w → N w = ev w ∧ be w = - fx w) ∧ (∀ w, w < 4 → op w → LXP (fun i => s * dj N w (ob V i)))
def Rg (a : Nat → Nat → Int) (b : Nat → Int) (h : Nat) (op : Nat → Prop) (fx : Nat → Int) (x : Nat → Int) (d : Int) : Prop :=
  0 < d ∧ (∀ i, 1 ≤ i → i < h → 0 ≤ dot (a i) x + b i * d) ∧ (∀ w, w < 4 → ¬ op w → x w = fx w * d)
section SHEET
variable {a : Nat → Nat → Int} {b : Nat → Int} {h : Nat} {op : Nat → Prop} {fx V : Nat → Int} {N : Nat → Nat → Int} {be : Nat → Int} {s : Int}
theorem Sx_cols (H : Sx a b h op fx V N be s) {x : Nat → Int} {d : Int} (r : Rg a b h op fx x d) : (∀ w, w < 4 → op w → 0 ≤ cA N be w x d) ∧ (∀ w, w < 4 → ¬ op w → cA N be w x d = 0) := by
  obtain ⟨_, _, h1, h2, _⟩ := H
  refine ⟨fun w hw o => ?_, fun w hw o => ?_⟩
  · obtain ⟨i, i1, i2, e1, e2⟩ := h1 w hw o
    unfold cA
    rw [e1, e2]
    exact r.2.1 i i1 i2
  · obtain ⟨e1, e2⟩ := h2 w hw o
    unfold cA
    rw [e1, e2, dot_ev x hw, r.2.2 w hw o, Int.neg_mul]
    omega
theorem Sx_opt (H : Sx a b h op fx V N be s) (hc : ∀ i, 1 ≤ i → i < h → 0 ≤ cst N be s (a i) (b i)) : Rg a b h op fx (bX N be s) (s * dt N) ∧ ∀ x d, Rg a b h op fx x d → Ge V (bX N be s) (s * dt N) x d := by
  refine ⟨⟨H.2.1, fun i i1 i2 => ?_, fun w hw o => ?_⟩, fun x d r => ?_⟩
  · rw [← cst_X]
    exact hc i i1 i2
  · have e := cA_X N be s hw
    obtain ⟨e1, e2⟩ := H.2.2.2.1 w hw o
    unfold cA at e
    rw [e1, e2, dot_ev _ hw, Int.neg_mul] at e
    omega
  · obtain ⟨c1, c0⟩ := Sx_cols H r
    exact opt_Ge V H.2.2.2.2 c1 c0
theorem Sx_none (H : Sx a b h op fx V N be s) {r : Nat} (r1 : 1 ≤ r) (r2 : r < h) (hn : cst N be s (a r) (b r) < 0) (hS : ∀ w, w < 4 → op w → s * dj N w (a r) ≤ 0) (x : Nat → Int) (d : Int) : ¬ Rg a b h op fx x d := by
  intro g
  obtain ⟨c1, c0⟩ := Sx_cols H g
  have := no_point H.2.1 g.1 (a r) (b r) hn hS c1 c0
  have := g.2.1 r r1 r2
  omega
theorem Sx_turn (H : Sx a b h op fx V N be s) {r c : Nat} (r1 : 1 ≤ r) (r2 : r < h) (hc : c < 4) (oc : op c) (hn : cst N be s (a r) (b r) < 0) (hp : 0 < s * dj N c (a r))
    (ch : ∀ w, w < 4 → op w → w ≠ c → 0 < s * dj N w (a r) → LXZ (fun i => s * dj N c (a r) * (s * dj N w (ob V i)) - s * dj N w (a r) * (s * dj N c (ob V i)))) :
    Sx a b h op fx V (rp N c (a r)) (ub be c (b r)) s ∧ Bt V (bX N be s) (s * dt N) (bX (rp N c (a r)) (ub be c (b r)) s) (s * dt (rp N c (a r))) := by
  obtain ⟨hs, hl, h1, h2, h3⟩ := H
  have lpc := h3 c hc oc
  refine ⟨⟨hs, hp, fun w hw o => ?_, fun w hw o => ?_, fun w hw o => ?_⟩, ?_⟩
  · by_cases e : w = c
    · subst e
      exact ⟨r, r1, r2, rp_same _ _ _, by simp [ub]⟩
    · obtain ⟨i, i1, i2, e1, e2⟩ := h1 w hw o
      exact ⟨i, i1, i2, by rw [rp_other _ _ _ e]; exact e1, by simp only [ub, if_neg e]; exact e2⟩
  · have e : w ≠ c := fun e => o (e ▸ oc)
    obtain ⟨e1, e2⟩ := h2 w hw o
    exact ⟨by rw [rp_other _ _ _ e]; exact e1, by simp only [ub, if_neg e]; exact e2⟩
  · by_cases e : w = c
    · subst e
      refine LXP_eqv lpc (fun i _ => ?_)
      (try dsimp only)
      rw [dj_rp_same]
    · have lpw := h3 w hw o
      refine (LXP_smul (w := fun i => s * dt N * (s * dj (rp N c (a r)) w (ob V i))) hl (fun i _ => rfl)).mp ?_
      rcases Int.lt_or_le 0 (s * dj N w (a r)) with q | q
      · rcases ch w hw o e q with t | t
        · refine LXP_eqv t (fun i _ => ?_)
          (try dsimp only)
          rw [turn_S hs hc hw e]
        · exfalso
          have z : ∀ i, i < 5 → s * dj N c (a r) * (s * dj N w (ob V i)) - s * dj N w (a r) * (s * dj N c (ob V i)) = 0 := fun i hi => c5 (P := fun i => s * dj N c (a r) * (s * dj N w (ob V i)) - s * dj N w (a r) * (s * dj N c (ob V i)) = 0) t hi
          have z2 : dt (rp N c (a r)) = 0 := by
            refine dj_zero (rp N c (a r)) hw (fun i hi => ?_)
            have y := z (i + 1) (by omega)
            have o1 : ob V (i + 1) = ev i := by simp [ob]
            rw [o1, ← turn_S hs hc hw e] at y
            have y2 := (mul_zero_i hl).mp y
            rcases hs with q | q <;> rw [q] at y2 <;> omega
          have : s * dt (rp N c (a r)) = 0 := by rw [z2, Int.mul_zero]
          have hp2 : 0 < s * dt (rp N c (a r)) := hp
          omega
      · have a1 := (LXP_smul (w := fun i => s * dj N c (a r) * (s * dj N w (ob V i))) hp (fun i _ => rfl)).mpr lpw
        have a2 := LXZ_smul0 (k := - (s * dj N w (a r))) (w := fun i => - (s * dj N w (a r)) * (s * dj N c (ob V i))) (by omega) (LXP_LXZ lpc) (fun i _ => rfl)
        refine LXP_sumZ a1 a2 (fun i _ => ?_)
        (try dsimp only)
        rw [turn_S hs hc hw e, Int.neg_mul]
        omega
  · refine (LXP_smul (k := - cst N be s (a r) (b r)) (by omega) (fun i _ => ?_)).mpr lpc
    have t := turn_C (be := be) (N := N) hs hc (a r) (b r) (ob V i) 0
    have c1 := cst_X N be s (ob V i) 0
    have c2 := cst_X (rp N c (a r)) (ub be c (b r)) s (ob V i) 0
    rw [c1, c2] at t
    (try dsimp only)
    unfold co
    rw [turn_dt] at *
    grind
theorem set4 {i j k l : Nat} (n1 : i ≠ j) (n2 : i ≠ k) (n3 : i ≠ l) (n4 : j ≠ k) (n5 : j ≠ l) (n6 : k ≠ l) : ∃ p q r s, p < q ∧ q < r ∧ r < s ∧ ∀ e, (e = p ∨ e = q ∨ e = r ∨ e = s) ↔ (e = i ∨ e = j ∨ e = k ∨ e = l) := by
  have s2 : ∃ p q, p < q ∧ p ≠ k ∧ p ≠ l ∧ q ≠ k ∧ q ≠ l ∧ ∀ e, (e = p ∨ e = q) ↔ (e = i ∨ e = j) := by
    rcases Nat.lt_or_ge i j with t | t
    · exact ⟨i, j, t, n2, n3, n4, n5, fun e => Iff.rfl⟩
    · exact ⟨j, i, by omega, n4, n5, n2, n3, fun e => by omega⟩
  obtain ⟨p, q, h1, m1, m2, m3, m4, e1⟩ := s2
  have s3 : ∃ p q r, p < q ∧ q < r ∧ p ≠ l ∧ q ≠ l ∧ r ≠ l ∧ ∀ e, (e = p ∨ e = q ∨ e = r) ↔ (e = i ∨ e = j ∨ e = k) := by
    rcases Nat.lt_or_ge q k with t | t
    · exact ⟨p, q, k, h1, t, m2, m4, n6, fun e => by have := e1 e; omega⟩
    · rcases Nat.lt_or_ge p k with u | u
      · exact ⟨p, k, q, u, by omega, m2, n6, m4, fun e => by have := e1 e; omega⟩
      · exact ⟨k, p, q, by omega, h1, n6, m2, m4, fun e => by have := e1 e; omega⟩
  obtain ⟨p, q, r, g1, g2, k1, k2, k3, e2⟩ := s3
  rcases Nat.lt_or_ge r l with t | t
  · exact ⟨p, q, r, l, g1, g2, t, fun e => by have := e2 e; omega⟩
  · rcases Nat.lt_or_ge q l with u | u
    · exact ⟨p, q, l, r, g1, u, by omega, fun e => by have := e2 e; omega⟩
    · rcases Nat.lt_or_ge p l with v | v
      · exact ⟨p, l, q, r, v, by omega, g2, fun e => by have := e2 e; omega⟩
      · exact ⟨l, p, q, r, by omega, g1, g2, fun e => by have := e2 e; omega⟩
end SHEET
def quads : List (Nat × Nat × Nat × Nat) := (List.range 18).flatMap (fun l => (List.range l).flatMap (fun k => (List.range k).flatMap (fun j => (List.range j).map (fun i => (i, j, k, l)))))
theorem quads_mem {i j k l : Nat} (h1 : i < j) (h2 : j < k) (h3 : k < l) (h4 : l < 18) : (i, j, k, l) ∈ quads := by
  unfold quads
  refine List.mem_flatMap.mpr ⟨l, List.mem_range.mpr h4, List.mem_flatMap.mpr ⟨k, List.mem_range.mpr h3, List.mem_flatMap.mpr ⟨j, List.mem_range.mpr h2, List.mem_map.mpr ⟨i, List.mem_range.mpr h1, rfl⟩⟩⟩⟩
def okc (b0 b1 b2 b3 : Bool) (e : Nat) : Bool := decide (1 ≤ e) && (decide (e < 14) || (decide (e = 14) && !b0) || (decide (e = 15) && !b1) || (decide (e = 16) && !b2) || (decide (e = 17) && !b3))
def hasc (q : Nat × Nat × Nat × Nat) (e : Nat) : Bool := decide (e = q.1) || decide (e = q.2.1) || decide (e = q.2.2.1) || decide (e = q.2.2.2)
def vd (b0 b1 b2 b3 : Bool) (q : Nat × Nat × Nat × Nat) : Bool :=
  okc b0 b1 b2 b3 q.1 && okc b0 b1 b2 b3 q.2.1 && okc b0 b1 b2 b3 q.2.2.1 && okc b0 b1 b2 b3 q.2.2.2 && (b0 || hasc q 14) && (b1 || hasc q 15) && (b2 || hasc q 16) && (b3 || hasc q 17)
set_option maxRecDepth 100000 in
theorem quads_le : ∀ b0 b1 b2 b3 : Bool, (quads.filter (vd b0 b1 b2 b3)).length ≤ 715 := by decide +kernel
def Zr (a : Nat → Nat → Int) (b fx : Nat → Int) (q : Nat × Nat × Nat × Nat) (x : Nat → Int) (d : Int) : Prop :=
  ∀ e, (e = q.1 ∨ e = q.2.1 ∨ e = q.2.2.1 ∨ e = q.2.2.2) → (e < 14 → dot (a e) x + b e * d = 0) ∧ (14 ≤ e → x (e - 14) = fx (e - 14) * d)
section CODES
variable {a : Nat → Nat → Int} {b : Nat → Int} {h : Nat} {op : Nat → Prop} {fx V : Nat → Int} {N : Nat → Nat → Int} {be : Nat → Int} {s : Int}
theorem code_w (H : Sx a b h op fx V N be s) {w : Nat} (hw : w < 4) : ∃ e, (op w → 1 ≤ e ∧ e < h ∧ N w = a e ∧ be w = b e) ∧ (¬ op w → e = 14 + w ∧ N w = ev w ∧ be w = - fx w) := by
  by_cases o : op w
  · obtain ⟨i, h1⟩ := H.2.2.1 w hw o
    exact ⟨i, fun _ => h1, fun z => absurd o z⟩
  · exact ⟨14 + w, fun z => absurd z o, fun _ => ⟨rfl, H.2.2.2.1 w hw o⟩⟩
theorem code_ne (H : Sx a b h op fx V N be s) (hh : h ≤ 14) {v w e f : Nat} (hv : v < 4) (hw : w < 4) (n : v ≠ w) (he : (op v → 1 ≤ e ∧ e < h ∧ N v = a e ∧ be v = b e) ∧ (¬ op v → e = 14 + v ∧ N v = ev v ∧ be v = - fx v)) (hf : (op w → 1 ≤ f ∧ f < h ∧ N w = a f ∧ be w = b f) ∧ (¬ op w → f = 14 + w ∧ N w = ev w ∧ be w = - fx w)) : e ≠ f := by
  intro q
  subst q
  by_cases ov : op v
  · by_cases ow : op w
    · have e1 := (he.1 ov).2.2.1
      have e2 := (hf.1 ow).2.2.1
      have t := dj_twice N hv hw n
      rw [e2, ← e1, dj_self N hv] at t
      have := H.2.1
      rw [t, Int.mul_zero] at this
      omega
    · have e1 := he.1 ov
      have e2 := hf.2 ow
      omega
  · by_cases ow : op w
    · have e1 := he.2 ov
      have e2 := hf.1 ow
      omega
    · have e1 := he.2 ov
      have e2 := hf.2 ow
      omega
theorem code_zero {w e : Nat} (hw : w < 4) (hh : h ≤ 14) (he : (op w → 1 ≤ e ∧ e < h ∧ N w = a e ∧ be w = b e) ∧ (¬ op w → e = 14 + w ∧ N w = ev w ∧ be w = - fx w)) (x : Nat → Int) (d : Int) : ((e < 14 → dot (a e) x + b e * d = 0) ∧ (14 ≤ e → x (e - 14) = fx (e - 14) * d)) ↔ cA N be w x d = 0 := by
  unfold cA
  by_cases o : op w
  · obtain ⟨e1, e2, e3, e4⟩ := he.1 o
    rw [e3, e4]
    constructor
    · intro z
      exact z.1 (by omega)
    · intro z
      exact ⟨fun _ => z, fun q => by omega⟩
  · obtain ⟨e1, e2, e3⟩ := he.2 o
    rw [e2, e3, dot_ev x hw, Int.neg_mul]
    subst e1
    have : 14 + w - 14 = w := by omega
    rw [this]
    constructor
    · intro z
      have := z.2 (by omega)
      omega
    · intro z
      exact ⟨fun q => by omega, fun _ => by omega⟩
theorem code_of (H : Sx a b h op fx V N be s) (hh : h ≤ 14) {b0 b1 b2 b3 : Bool} (o0 : op 0 ↔ b0 = true) (o1 : op 1 ↔ b1 = true) (o2 : op 2 ↔ b2 = true) (o3 : op 3 ↔ b3 = true) :
    ∃ q, q ∈ quads.filter (vd b0 b1 b2 b3) ∧ ∀ x d, Zr a b fx q x d ↔ ∀ w, w < 4 → cA N be w x d = 0 := by
  obtain ⟨e0, c0⟩ := code_w H (w := 0) (by omega)
  obtain ⟨e1, c1⟩ := code_w H (w := 1) (by omega)
  obtain ⟨e2, c2⟩ := code_w H (w := 2) (by omega)
  obtain ⟨e3, c3⟩ := code_w H (w := 3) (by omega)
  have n01 := code_ne H hh (by omega) (by omega) (by omega) c0 c1
  have n02 := code_ne H hh (by omega) (by omega) (by omega) c0 c2
  have n03 := code_ne H hh (by omega) (by omega) (by omega) c0 c3
  have n12 := code_ne H hh (by omega) (by omega) (by omega) c1 c2
  have n13 := code_ne H hh (by omega) (by omega) (by omega) c1 c3
  have n23 := code_ne H hh (by omega) (by omega) (by omega) c2 c3
  obtain ⟨p, q, r, t, l1, l2, l3, ms⟩ := set4 n01 n02 n03 n12 n13 n23
  have rng : ∀ w e, w < 4 → ((op w → 1 ≤ e ∧ e < h ∧ N w = a e ∧ be w = b e) ∧ (¬ op w → e = 14 + w ∧ N w = ev w ∧ be w = - fx w)) → 1 ≤ e ∧ (e < 14 ∨ (e = 14 + w ∧ ¬ op w)) := by
    intro w e hw c
    by_cases o : op w
    · have := c.1 o
      omega
    · have := c.2 o
      exact ⟨by omega, Or.inr ⟨this.1, o⟩⟩
  have r0 := rng 0 e0 (by omega) c0
  have r1 := rng 1 e1 (by omega) c1
  have r2 := rng 2 e2 (by omega) c2
  have r3 := rng 3 e3 (by omega) c3
  have ok : ∀ e, (e = p ∨ e = q ∨ e = r ∨ e = t) → okc b0 b1 b2 b3 e = true := by
    intro e he
    have ho : okc b0 b1 b2 b3 e = true ↔ 1 ≤ e ∧ (e < 14 ∨ (e = 14 ∧ ¬ op 0) ∨ (e = 15 ∧ ¬ op 1) ∨ (e = 16 ∧ ¬ op 2) ∨ (e = 17 ∧ ¬ op 3)) := by
      rw [o0, o1, o2, o3]
      simp [okc, or_assoc]
    rw [ho]
    rcases (ms e).mp he with z | z | z | z
    · subst z
      refine ⟨r0.1, ?_⟩
      rcases r0.2 with y | y
      · exact Or.inl y
      · exact Or.inr (Or.inl y)
    · subst z
      refine ⟨r1.1, ?_⟩
      rcases r1.2 with y | y
      · exact Or.inl y
      · exact Or.inr (Or.inr (Or.inl y))
    · subst z
      refine ⟨r2.1, ?_⟩
      rcases r2.2 with y | y
      · exact Or.inl y
      · exact Or.inr (Or.inr (Or.inr (Or.inl y)))
    · subst z
      refine ⟨r3.1, ?_⟩
      rcases r3.2 with y | y
      · exact Or.inl y
      · exact Or.inr (Or.inr (Or.inr (Or.inr y)))
  have hs : ∀ e, (e = e0 ∨ e = e1 ∨ e = e2 ∨ e = e3) → hasc (p, q, r, t) e = true := by
    intro e he
    have := (ms e).mpr he
    simp only [hasc, Bool.or_eq_true, decide_eq_true_eq]
    omega
  have t18 : t < 18 := by
    rcases (ms t).mp (by omega) with z | z | z | z
    · subst z; rcases r0.2 with y | y <;> omega
    · subst z; rcases r1.2 with y | y <;> omega
    · subst z; rcases r2.2 with y | y <;> omega
    · subst z; rcases r3.2 with y | y <;> omega
  refine ⟨(p, q, r, t), List.mem_filter.mpr ⟨quads_mem l1 l2 l3 t18, ?_⟩, fun x d => ?_⟩
  · have k0 := ok p (by omega)
    have k1 := ok q (by omega)
    have k2 := ok r (by omega)
    have k3 := ok t (by omega)
    have g0 : (b0 || hasc (p, q, r, t) 14) = true := by
      by_cases o : op 0
      · rw [o0.mp o]; rfl
      · have := hs e0 (by omega)
        rw [(c0.2 o).1] at this
        rw [this]; exact Bool.or_true _
    have g1 : (b1 || hasc (p, q, r, t) 15) = true := by
      by_cases o : op 1
      · rw [o1.mp o]; rfl
      · have := hs e1 (by omega)
        rw [(c1.2 o).1] at this
        rw [this]; exact Bool.or_true _
    have g2 : (b2 || hasc (p, q, r, t) 16) = true := by
      by_cases o : op 2
      · rw [o2.mp o]; rfl
      · have := hs e2 (by omega)
        rw [(c2.2 o).1] at this
        rw [this]; exact Bool.or_true _
    have g3 : (b3 || hasc (p, q, r, t) 17) = true := by
      by_cases o : op 3
      · rw [o3.mp o]; rfl
      · have := hs e3 (by omega)
        rw [(c3.2 o).1] at this
        rw [this]; exact Bool.or_true _
    unfold vd
    rw [k0, k1, k2, k3, g0, g1, g2, g3]
    rfl
  · have z0 := code_zero (w := 0) (by omega) hh c0 x d
    have z1 := code_zero (w := 1) (by omega) hh c1 x d
    have z2 := code_zero (w := 2) (by omega) hh c2 x d
    have z3 := code_zero (w := 3) (by omega) hh c3 x d
    constructor
    · intro z w hw
      refine c4 (P := fun w => cA N be w x d = 0) ?_ ?_ ?_ ?_ hw
      · exact z0.mp (z e0 ((ms e0).mpr (by omega)))
      · exact z1.mp (z e1 ((ms e1).mpr (by omega)))
      · exact z2.mp (z e2 ((ms e2).mpr (by omega)))
      · exact z3.mp (z e3 ((ms e3).mpr (by omega)))
    · intro z e he
      rcases (ms e).mp he with y | y | y | y
      · subst y; exact z0.mpr (z 0 (by omega))
      · subst y; exact z1.mpr (z 1 (by omega))
      · subst y; exact z2.mpr (z 2 (by omega))
      · subst y; exact z3.mpr (z 3 (by omega))
end CODES
noncomputable def mu (a : Nat → Nat → Int) (b fx V : Nat → Int) (L : List (Nat × Nat × Nat × Nat)) (x : Nat → Int) (d : Int) : Nat := cntL (fun q => ∃ y e, 0 < e ∧ Zr a b fx q y e ∧ Bt V x d y e) L
theorem mu_lt {a : Nat → Nat → Int} {b : Nat → Int} {h : Nat} {op : Nat → Prop} {fx V : Nat → Int} {N N' : Nat → Nat → Int} {be be' : Nat → Int} {s s' : Int} (H : Sx a b h op fx V N be s) (H' : Sx a b h op fx V N' be' s') (hh : h ≤ 14)
    {b0 b1 b2 b3 : Bool} (o0 : op 0 ↔ b0 = true) (o1 : op 1 ↔ b1 = true) (o2 : op 2 ↔ b2 = true) (o3 : op 3 ↔ b3 = true)
    (hB : Bt V (bX N be s) (s * dt N) (bX N' be' s') (s' * dt N')) : mu a b fx V (quads.filter (vd b0 b1 b2 b3)) (bX N' be' s') (s' * dt N') < mu a b fx V (quads.filter (vd b0 b1 b2 b3)) (bX N be s) (s * dt N) := by
  obtain ⟨q, hq, hz⟩ := code_of H' hh o0 o1 o2 o3
  refine cntL_lt _ (fun r _ hr => ?_) q hq ⟨bX N' be' s', s' * dt N', H'.2.1, (hz _ _).mpr (fun w hw => cA_X N' be' s' hw), hB⟩ (fun z => ?_)
  · obtain ⟨y, e, he, hy, hb⟩ := hr
    exact ⟨y, e, he, hy, Bt_Ge_trans H.2.1 H'.2.1 he hB (Bt_Ge hb)⟩
  · obtain ⟨y, e, he, hy, hb⟩ := z
    have h0 := (hz y e).mp hy
    refine LXP_nz hb (fun i _ => ?_)
    have t := tab0 (s := s') h0 (ob V i) 0
    have c := cst_X N' be' s' (ob V i) 0
    rw [c] at t
    (try dsimp only)
    unfold co
    grind
theorem mu_le (a : Nat → Nat → Int) (b fx V : Nat → Int) (b0 b1 b2 b3 : Bool) (x : Nat → Int) (d : Int) : mu a b fx V (quads.filter (vd b0 b1 b2 b3)) x d ≤ 715 :=
  Nat.le_trans (cntL_le _ _) (quads_le b0 b1 b2 b3)
/-- how large the numbers of a sheet can be -/
theorem dj_le {N : Nat → Nat → Int} {a : Nat → Int} {A : Int} (hN : ∀ w, w < 4 → ∀ i, i < 4 → -9 ≤ N w i ∧ N w i ≤ 9) (ha : ∀ i, i < 4 → -A ≤ a i ∧ a i ≤ A) {w : Nat} (hw : w < 4) : -(17496 * A) ≤ dj N w a ∧ dj N w a ≤ 17496 * A := by
  refine c4 (P := fun w => -(17496 * A) ≤ dj N w a ∧ dj N w a ≤ 17496 * A) ?_ ?_ ?_ ?_ hw
  · have := D4_le (A := A) (B := 9) (C := 9) (E := 9) ha (hN 1 (by omega)) (hN 2 (by omega)) (hN 3 (by omega))
    rw [dj_0]
    omega
  · have := D4_le (A := 9) (B := A) (C := 9) (E := 9) (hN 0 (by omega)) ha (hN 2 (by omega)) (hN 3 (by omega))
    rw [dj_1]
    omega
  · have := D4_le (A := 9) (B := 9) (C := A) (E := 9) (hN 0 (by omega)) (hN 1 (by omega)) ha (hN 3 (by omega))
    rw [dj_2]
    omega
  · have := D4_le (A := 9) (B := 9) (C := 9) (E := A) (hN 0 (by omega)) (hN 1 (by omega)) (hN 2 (by omega)) ha
    rw [dj_3]
    omega
theorem cst_le {N : Nat → Nat → Int} {be : Nat → Int} {s : Int} {a : Nat → Int} {A k : Int} (hs : s = 1 ∨ s = -1) (hN : ∀ w, w < 4 → ∀ i, i < 4 → -9 ≤ N w i ∧ N w i ≤ 9) (hb : ∀ w, w < 4 → -100 ≤ be w ∧ be w ≤ 100) (ha : ∀ i, i < 4 → -A ≤ a i ∧ a i ≤ A) (hk : -100 ≤ k ∧ k ≤ 100) :
    -(15746400 + 6998400 * A) ≤ cst N be s a k ∧ cst N be s a k ≤ 15746400 + 6998400 * A := by
  have t : ∀ w, w < 4 → -(1749600 * A) ≤ s * dj N w a * be w ∧ s * dj N w a * be w ≤ 1749600 * A := fun w hw => by
    have h1 := dj_le hN ha hw
    have h2 : -(17496 * A) ≤ s * dj N w a ∧ s * dj N w a ≤ 17496 * A := by
      rcases hs with e | e <;> rw [e] <;> omega
    have h3 := ab_mul h2.1 h2.2 (hb w hw).1 (hb w hw).2
    omega
  have u : -15746400 ≤ s * dt N * k ∧ s * dt N * k ≤ 15746400 := by
    have h1 := dj_le (a := N 0) (A := 9) hN (hN 0 (by omega)) (w := 0) (by omega)
    rw [dj_self N (by omega)] at h1
    have h2 : -157464 ≤ s * dt N ∧ s * dt N ≤ 157464 := by
      rcases hs with e | e <;> rw [e] <;> omega
    have h3 := ab_mul h2.1 h2.2 hk.1 hk.2
    omega
  have t0 := t 0 (by omega)
  have t1 := t 1 (by omega)
  have t2 := t 2 (by omega)
  have t3 := t 3 (by omega)
  simp only [cst, sm]
  omega
