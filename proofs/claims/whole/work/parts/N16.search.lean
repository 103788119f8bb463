/-! clearings of parts, of their kinds; the best; what lies between two -/
def Pf (M : Nat → Int) (G : (Nat → Int) → Int → Prop) (x : Nat → Int) (d : Int) : Prop := 0 < d ∧ (∀ w, w < 4 → 0 ≤ x w ∧ x w ≤ M w * d) ∧ G x d
def Kd (M kd : Nat → Int) (x : Nat → Int) (d : Int) : Prop := ∀ w, w < 4 → (kd w = 1 → ∃ k : Int, x w = k * d) ∧ (kd w = 2 → x w = 0 ∨ x w = M w * d)
def GC (G : (Nat → Int) → Int → Prop) : Prop := ∀ (x y : Nat → Int) (d e k l : Int), 0 < d → 0 < e → 0 ≤ k → 0 ≤ l → G x d → G y e → G (fun w => k * x w + l * y w) (k * d + l * e)
def Fx (f : Nat → Int) (x : Nat → Int) (d : Int) : Prop := ∀ w, w < 4 → f w ≠ -1 → x w = f w * d
/-- the best of those of their kinds; of parts under what is fixed -/
def IsB (V M kd : Nat → Int) (G : (Nat → Int) → Int → Prop) (x : Nat → Int) (d : Int) : Prop := Pf M G x d ∧ Kd M kd x d ∧ ∀ y e, Pf M G y e → Kd M kd y e → Ge V x d y e
def NoB (M kd : Nat → Int) (G : (Nat → Int) → Int → Prop) : Prop := ∀ y e, Pf M G y e → Kd M kd y e → False
def IsL (V M : Nat → Int) (G : (Nat → Int) → Int → Prop) (f : Nat → Int) (x : Nat → Int) (d : Int) : Prop := Pf M G x d ∧ Fx f x d ∧ ∀ y e, Pf M G y e → Fx f y e → Ge V x d y e
def NoL (M : Nat → Int) (G : (Nat → Int) → Int → Prop) (f : Nat → Int) : Prop := ∀ y e, Pf M G y e → Fx f y e → False
def uf (f : Nat → Int) (w : Nat) (z : Int) : Nat → Int := fun v => if v = w then z else f v
theorem uf_same (f : Nat → Int) (w : Nat) (z : Int) : uf f w z w = z := by simp [uf]
theorem uf_other (f : Nat → Int) {w v : Nat} (z : Int) (h : v ≠ w) : uf f w z v = f v := by simp [uf, h]
theorem Fx_uf {f : Nat → Int} {w : Nat} (hf : f w = -1) {z : Int} {x : Nat → Int} {d : Int} (h : Fx (uf f w z) x d) : Fx f x d := by
  intro v hv n
  have : v ≠ w := fun e => n (e ▸ hf)
  have := h v hv (by rw [uf_other f z this]; exact n)
  rw [uf_other f z (by assumption)] at this
  exact this
theorem Fx_uf' {f : Nat → Int} {w : Nat} {z : Int} {x : Nat → Int} {d : Int} (h : Fx f x d) (hz : x w = z * d) : Fx (uf f w z) x d := by
  intro v hv n
  by_cases e : v = w
  · subst e
    rw [uf_same]
    exact hz
  · rw [uf_other f z e] at *
    exact h v hv n
theorem mix_Pf {M : Nat → Int} {G : (Nat → Int) → Int → Prop} (gc : GC G) {x y : Nat → Int} {d e k l : Int} (hx : Pf M G x d) (hy : Pf M G y e) (hk : 0 < k) (hl : 0 ≤ l) : Pf M G (fun w => k * x w + l * y w) (k * d + l * e) := by
  refine ⟨?_, fun w hw => ?_, gc x y d e k l hx.1 hy.1 (Int.le_of_lt hk) hl hx.2.2 hy.2.2⟩
  · have h1 := Int.mul_pos hk hx.1
    have h2 := Int.mul_nonneg hl (Int.le_of_lt hy.1)
    omega
  · have a1 := hx.2.1 w hw
    have a2 := hy.2.1 w hw
    have b1 := Int.mul_nonneg (Int.le_of_lt hk) a1.1
    have b2 := Int.mul_nonneg hl a2.1
    have c1 := Int.mul_le_mul_of_nonneg_left a1.2 (Int.le_of_lt hk)
    have c2 := Int.mul_le_mul_of_nonneg_left a2.2 hl
    (try dsimp only)
    have e1 : M w * (k * d + l * e) = k * (M w * d) + l * (M w * e) := by grind
    omega
theorem mix_Fx {f : Nat → Int} {x y : Nat → Int} {d e : Int} (k l : Int) (hx : Fx f x d) (hy : Fx f y e) : Fx f (fun w => k * x w + l * y w) (k * d + l * e) := by
  intro w hw n
  (try dsimp only)
  rw [hx w hw n, hy w hw n]
  grind
/-- from the best of parts p towards y: what lies between is no worse than y -/
theorem mix_Ge {V p y : Nat → Int} {c e k l : Int} (hk : 0 ≤ k) (h : Ge V p c y e) : Ge V (fun w => k * p w + l * y w) (k * c + l * e) y e := by
  refine LXZ_smul0 hk h (fun i _ => ?_)
  (try dsimp only)
  rw [co_move]
  grind
/-- past an x at which all parts are beaten, all are: below, above -/
theorem past_below {V M : Nat → Int} {G : (Nat → Int) → Int → Prop} (gc : GC G) {f : Nat → Int} {w : Nat} (hf : f w = -1) {p : Nat → Int} {c : Int} (hp : IsL V M G f p c) {z : Int} (hz : z * c ≤ p w)
    {q : Nat → Int} {g : Int} (hg : 0 < g) (hq : ∀ y e, Pf M G y e → Fx (uf f w z) y e → Ge V q g y e) {y : Nat → Int} {e : Int} (hy : Pf M G y e) (fy : Fx f y e) (lt : y w < z * e) : Ge V q g y e := by
  have hk : 0 < z * e - y w := by omega
  have hl : 0 ≤ p w - z * c := by omega
  have m1 := mix_Pf gc hp.1 hy hk hl
  have m2 := mix_Fx (z * e - y w) (p w - z * c) hp.2.1 fy
  have m3 : Ge V q g _ _ := hq _ _ m1 (Fx_uf' m2 (by (try dsimp only); grind))
  exact Ge_trans hg m1.1 hy.1 m3 (mix_Ge (Int.le_of_lt hk) (hp.2.2 y e hy fy))
theorem past_above {V M : Nat → Int} {G : (Nat → Int) → Int → Prop} (gc : GC G) {f : Nat → Int} {w : Nat} (hf : f w = -1) {p : Nat → Int} {c : Int} (hp : IsL V M G f p c) {z : Int} (hz : p w ≤ z * c)
    {q : Nat → Int} {g : Int} (hg : 0 < g) (hq : ∀ y e, Pf M G y e → Fx (uf f w z) y e → Ge V q g y e) {y : Nat → Int} {e : Int} (hy : Pf M G y e) (fy : Fx f y e) (lt : z * e < y w) : Ge V q g y e := by
  have hk : 0 < y w - z * e := by omega
  have hl : 0 ≤ z * c - p w := by omega
  have m1 := mix_Pf gc hp.1 hy hk hl
  have m2 := mix_Fx (y w - z * e) (z * c - p w) hp.2.1 fy
  have m3 : Ge V q g _ _ := hq _ _ m1 (Fx_uf' m2 (by (try dsimp only); grind))
  exact Ge_trans hg m1.1 hy.1 m3 (mix_Ge (Int.le_of_lt hk) (hp.2.2 y e hy fy))
/-! what was found: h whether there is one, q by g -/
def Fnd (M kd : Nat → Int) (G : (Nat → Int) → Int → Prop) (h : Prop) (q : Nat → Int) (g : Int) : Prop := h → Pf M G q g ∧ Kd M kd q g
def Up (V : Nat → Int) (h : Prop) (q : Nat → Int) (g : Int) (h' : Prop) (q' : Nat → Int) (g' : Int) : Prop := h → h' ∧ Ge V q' g' q g
/-- all that hold P (and are of their kinds) are met -/
def Cov (V M kd : Nat → Int) (G : (Nat → Int) → Int → Prop) (P : (Nat → Int) → Int → Prop) (h : Prop) (q : Nat → Int) (g : Int) : Prop := ∀ y e, Pf M G y e → Kd M kd y e → P y e → h ∧ Ge V q g y e
def CovP (V M : Nat → Int) (G : (Nat → Int) → Int → Prop) (f : Nat → Int) (h : Prop) (q : Nat → Int) (g : Int) : Prop := ∀ y e, Pf M G y e → Fx f y e → h ∧ Ge V q g y e
theorem Up_refl (V : Nat → Int) (h : Prop) (q : Nat → Int) (g : Int) : Up V h q g h q g := fun z => ⟨z, Ge_refl V q g⟩
theorem Up_trans {V M kd : Nat → Int} {G : (Nat → Int) → Int → Prop} {h h' h'' : Prop} {q q' q'' : Nat → Int} {g g' g'' : Int} (f : Fnd M kd G h q g) (f' : Fnd M kd G h' q' g') (f'' : Fnd M kd G h'' q'' g'') (a : Up V h q g h' q' g') (b : Up V h' q' g' h'' q'' g'') : Up V h q g h'' q'' g'' := by
  intro z
  obtain ⟨z1, a1⟩ := a z
  obtain ⟨z2, b1⟩ := b z1
  exact ⟨z2, Ge_trans (f'' z2).1.1 (f' z1).1.1 (f z).1.1 b1 a1⟩
theorem Cov_up {V M kd : Nat → Int} {G : (Nat → Int) → Int → Prop} {P : (Nat → Int) → Int → Prop} {h h' : Prop} {q q' : Nat → Int} {g g' : Int} (f : Fnd M kd G h q g) (f' : Fnd M kd G h' q' g') (a : Up V h q g h' q' g') (c : Cov V M kd G P h q g) : Cov V M kd G P h' q' g' := by
  intro y e py ky P1
  obtain ⟨z, c1⟩ := c y e py ky P1
  obtain ⟨z1, a1⟩ := a z
  exact ⟨z1, Ge_trans (f' z1).1.1 (f z).1.1 py.1 a1 c1⟩
theorem CovP_up {V M kd : Nat → Int} {G : (Nat → Int) → Int → Prop} {fi : Nat → Int} {h h' : Prop} {q q' : Nat → Int} {g g' : Int} (f : Fnd M kd G h q g) (f' : Fnd M kd G h' q' g') (a : Up V h q g h' q' g') (c : CovP V M G fi h q g) : CovP V M G fi h' q' g' := by
  intro y e py P1
  obtain ⟨z, c1⟩ := c y e py P1
  obtain ⟨z1, a1⟩ := a z
  exact ⟨z1, Ge_trans (f' z1).1.1 (f z).1.1 py.1 a1 c1⟩
/-- what a search gives back -/
def SP (V M kd : Nat → Int) (G : (Nat → Int) → Int → Prop) (f : Nat → Int) (h : Prop) (q : Nat → Int) (g : Int) (r : Prop) (h' : Prop) (q' : Nat → Int) (g' : Int) : Prop :=
  Fnd M kd G h' q' g' ∧ Up V h q g h' q' g' ∧ Cov V M kd G (Fx f) h' q' g' ∧ (¬ r → CovP V M G f h' q' g')
theorem SP_none {V M kd : Nat → Int} {G : (Nat → Int) → Int → Prop} {f : Nat → Int} {h : Prop} {q : Nat → Int} {g : Int} (fd : Fnd M kd G h q g) (n : NoL M G f) (r : Prop) : SP V M kd G f h q g r h q g :=
  ⟨fd, Up_refl V h q g, fun y e py _ fy => (n y e py fy).elim, fun _ y e py fy => (n y e py fy).elim⟩
theorem SP_beaten {V M kd : Nat → Int} {G : (Nat → Int) → Int → Prop} {f : Nat → Int} {h : Prop} {q : Nat → Int} {g : Int} (fd : Fnd M kd G h q g) {p : Nat → Int} {c : Int} (hp : IsL V M G f p c) (hh : h) (nb : ¬ Bt V p c q g) (r : Prop) : SP V M kd G f h q g r h q g := by
  have key : CovP V M G f h q g := fun y e py fy => ⟨hh, Ge_trans (fd hh).1.1 hp.1.1 py.1 (Ge_of nb) (hp.2.2 y e py fy)⟩
  exact ⟨fd, Up_refl V h q g, fun y e py _ fy => key y e py fy, fun _ => key⟩
theorem SP_take {V M kd : Nat → Int} {G : (Nat → Int) → Int → Prop} {f : Nat → Int} {h : Prop} {q : Nat → Int} {g : Int} {p : Nat → Int} {c : Int} (hp : IsL V M G f p c) (kp : Kd M kd p c) (b : h → Bt V p c q g) : SP V M kd G f h q g True True p c :=
  ⟨fun _ => ⟨hp.1, kp⟩, fun z => ⟨trivial, Bt_Ge (b z)⟩, fun y e py _ fy => ⟨trivial, hp.2.2 y e py fy⟩, fun z => (z trivial).elim⟩
