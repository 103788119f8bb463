/-! rows of five numbers, the first that is not 0 decides -/
def LXP (v : Nat → Int) : Prop := 0 < v 0 ∨ (v 0 = 0 ∧ (0 < v 1 ∨ (v 1 = 0 ∧ (0 < v 2 ∨ (v 2 = 0 ∧ (0 < v 3 ∨ (v 3 = 0 ∧ 0 < v 4)))))))
def LXZ (v : Nat → Int) : Prop := LXP v ∨ (v 0 = 0 ∧ v 1 = 0 ∧ v 2 = 0 ∧ v 3 = 0 ∧ v 4 = 0)
theorem f5 {P : Nat → Prop} (h : ∀ i, i < 5 → P i) : P 0 ∧ P 1 ∧ P 2 ∧ P 3 ∧ P 4 := ⟨h 0 (by omega), h 1 (by omega), h 2 (by omega), h 3 (by omega), h 4 (by omega)⟩
theorem c5 {P : Nat → Prop} (h : P 0 ∧ P 1 ∧ P 2 ∧ P 3 ∧ P 4) {i : Nat} (hi : i < 5) : P i := by
  obtain ⟨h0, h1, h2, h3, h4⟩ := h
  match i, hi with
  | 0, _ => exact h0
  | 1, _ => exact h1
  | 2, _ => exact h2
  | 3, _ => exact h3
  | 4, _ => exact h4
theorem LXP_LXZ {v : Nat → Int} (h : LXP v) : LXZ v := Or.inl h
theorem LXP_sum {u v w : Nat → Int} (hu : LXP u) (hv : LXP v) (h : ∀ i, i < 5 → w i = u i + v i) : LXP w := by
  obtain ⟨h0, h1, h2, h3, h4⟩ := f5 h
  unfold LXP at *
  omega
theorem LXP_sumZ {u v w : Nat → Int} (hu : LXP u) (hv : LXZ v) (h : ∀ i, i < 5 → w i = u i + v i) : LXP w := by
  obtain ⟨h0, h1, h2, h3, h4⟩ := f5 h
  unfold LXZ at hv
  unfold LXP at *
  omega
theorem LXZ_sum {u v w : Nat → Int} (hu : LXZ u) (hv : LXZ v) (h : ∀ i, i < 5 → w i = u i + v i) : LXZ w := by
  obtain ⟨h0, h1, h2, h3, h4⟩ := f5 h
  unfold LXZ at *
  unfold LXP at *
  omega
theorem LXP_eqv {u w : Nat → Int} (hu : LXP u) (h : ∀ i, i < 5 → w i = u i) : LXP w := by
  obtain ⟨h0, h1, h2, h3, h4⟩ := f5 h
  unfold LXP at *
  omega
theorem LXZ_eqv {u w : Nat → Int} (hu : LXZ u) (h : ∀ i, i < 5 → w i = u i) : LXZ w := by
  obtain ⟨h0, h1, h2, h3, h4⟩ := f5 h
  unfold LXZ at *
  unfold LXP at *
  omega
theorem LXZ_0 {w : Nat → Int} (h : ∀ i, i < 5 → w i = 0) : LXZ w := by
  obtain ⟨h0, h1, h2, h3, h4⟩ := f5 h
  exact Or.inr ⟨h0, h1, h2, h3, h4⟩
theorem LXP_smul {u w : Nat → Int} {k : Int} (hk : 0 < k) (h : ∀ i, i < 5 → w i = k * u i) : LXP w ↔ LXP u := by
  obtain ⟨h0, h1, h2, h3, h4⟩ := f5 h
  have p0 := mul_pos_i (a := u 0) hk
  have p1 := mul_pos_i (a := u 1) hk
  have p2 := mul_pos_i (a := u 2) hk
  have p3 := mul_pos_i (a := u 3) hk
  have p4 := mul_pos_i (a := u 4) hk
  have z0 := mul_zero_i (a := u 0) hk
  have z1 := mul_zero_i (a := u 1) hk
  have z2 := mul_zero_i (a := u 2) hk
  have z3 := mul_zero_i (a := u 3) hk
  unfold LXP
  rw [h0, h1, h2, h3, h4, p0, p1, p2, p3, p4, z0, z1, z2, z3]
theorem LXZ_smul {u w : Nat → Int} {k : Int} (hk : 0 < k) (h : ∀ i, i < 5 → w i = k * u i) : LXZ w ↔ LXZ u := by
  have e := LXP_smul hk h
  obtain ⟨h0, h1, h2, h3, h4⟩ := f5 h
  have z0 := mul_zero_i (a := u 0) hk
  have z1 := mul_zero_i (a := u 1) hk
  have z2 := mul_zero_i (a := u 2) hk
  have z3 := mul_zero_i (a := u 3) hk
  have z4 := mul_zero_i (a := u 4) hk
  unfold LXZ
  rw [e, h0, h1, h2, h3, h4, z0, z1, z2, z3, z4]
theorem LXZ_smul0 {u w : Nat → Int} {k : Int} (hk : 0 ≤ k) (hu : LXZ u) (h : ∀ i, i < 5 → w i = k * u i) : LXZ w := by
  rcases Int.lt_or_eq_of_le hk with q | q
  · exact (LXZ_smul q h).mpr hu
  · refine LXZ_0 (fun i hi => ?_)
    rw [h i hi, ← q, Int.zero_mul]
theorem LXP_tri (v : Nat → Int) : LXP v ∨ (∀ i, i < 5 → v i = 0) ∨ LXP (fun i => - v i) := by
  by_cases h : v 0 = 0 ∧ v 1 = 0 ∧ v 2 = 0 ∧ v 3 = 0 ∧ v 4 = 0
  · exact Or.inr (Or.inl (fun i hi => c5 (P := fun i => v i = 0) h hi))
  · by_cases g : LXP v
    · exact Or.inl g
    · refine Or.inr (Or.inr ?_)
      simp only [LXP] at *
      omega
theorem LXP_asym {v w : Nat → Int} (hv : LXP v) (hw : LXP w) (h : ∀ i, i < 5 → w i = - v i) : False := by
  obtain ⟨h0, h1, h2, h3, h4⟩ := f5 h
  unfold LXP at *
  omega
theorem LXP_nz {v : Nat → Int} (hv : LXP v) (h : ∀ i, i < 5 → v i = 0) : False := by
  obtain ⟨h0, h1, h2, h3, h4⟩ := f5 h
  unfold LXP at *
  omega
theorem LXZ_nP {v w : Nat → Int} (hv : LXZ v) (h : ∀ i, i < 5 → w i = - v i) : ¬ LXP w := by
  obtain ⟨h0, h1, h2, h3, h4⟩ := f5 h
  unfold LXZ at hv
  unfold LXP at *
  omega
theorem LXZ_of_nP {v w : Nat → Int} (hw : ¬ LXP w) (h : ∀ i, i < 5 → w i = - v i) : LXZ v := by
  obtain ⟨h0, h1, h2, h3, h4⟩ := f5 h
  unfold LXZ
  unfold LXP at *
  omega
theorem LXZ_anti {v w : Nat → Int} (hv : LXZ v) (hw : LXZ w) (h : ∀ i, i < 5 → w i = - v i) : ∀ i, i < 5 → v i = 0 := by
  obtain ⟨h0, h1, h2, h3, h4⟩ := f5 h
  have e : v 0 = 0 ∧ v 1 = 0 ∧ v 2 = 0 ∧ v 3 = 0 ∧ v 4 = 0 := by
    unfold LXZ at *
    unfold LXP at *
    omega
  exact fun i hi => c5 (P := fun i => v i = 0) e hi
/-! what a clearing costs: its worth below 0, then x of each wish -/
def ob (V : Nat → Int) (i : Nat) : Nat → Int := if i = 0 then (fun k => - V k) else ev (i - 1)
def co (V : Nat → Int) (i : Nat) (x : Nat → Int) : Int := dot (ob V i) x
theorem co_0 (V x : Nat → Int) : co V 0 x = - dot V x := by
  simp only [co, ob, dot, if_true]
  grind
theorem co_s (V x : Nat → Int) {i : Nat} (hi : i < 4) : co V (i + 1) x = x i := by
  refine c4 (P := fun i => co V (i + 1) x = x i) ?_ ?_ ?_ ?_ hi <;> simp [co, ob, dot, ev]
theorem dot_add (a x y : Nat → Int) : dot a (fun i => x i + y i) = dot a x + dot a y := by
  unfold dot
  grind
theorem dot_lin (a x y : Nat → Int) (k l : Int) : dot a (fun i => k * x i + l * y i) = k * dot a x + l * dot a y := by
  unfold dot
  grind
theorem dot_smul (a x : Nat → Int) (k : Int) : dot a (fun i => k * x i) = k * dot a x := by
  unfold dot
  grind
theorem dot_neg (a x : Nat → Int) : dot a (fun i => - x i) = - dot a x := by
  unfold dot
  grind
theorem dot_negl (a x : Nat → Int) : dot (fun i => - a i) x = - dot a x := by
  unfold dot
  grind
theorem dot_ev (x : Nat → Int) {i : Nat} (hi : i < 4) : dot (ev i) x = x i := by
  refine c4 (P := fun i => dot (ev i) x = x i) ?_ ?_ ?_ ?_ hi <;> simp [dot, ev]
theorem dot_eq (a : Nat → Int) {x y : Nat → Int} (h : ∀ i, i < 4 → x i = y i) : dot a x = dot a y := by
  unfold dot
  rw [h 0 (by omega), h 1 (by omega), h 2 (by omega), h 3 (by omega)]
theorem dot_eql {a b : Nat → Int} (x : Nat → Int) (h : ∀ i, i < 4 → a i = b i) : dot a x = dot b x := by
  unfold dot
  rw [h 0 (by omega), h 1 (by omega), h 2 (by omega), h 3 (by omega)]
/-- x by d is better than y by e; at least as good -/
def Bt (V : Nat → Int) (x : Nat → Int) (d : Int) (y : Nat → Int) (e : Int) : Prop := LXP (fun i => co V i y * d - co V i x * e)
def Ge (V : Nat → Int) (x : Nat → Int) (d : Int) (y : Nat → Int) (e : Int) : Prop := LXZ (fun i => co V i y * d - co V i x * e)
theorem Ge_of {V x y : Nat → Int} {d e : Int} (h : ¬ Bt V y e x d) : Ge V x d y e := LXZ_of_nP h (fun i _ => by (try dsimp only); omega)
theorem Ge_nB {V x y : Nat → Int} {d e : Int} (h : Ge V x d y e) : ¬ Bt V y e x d := LXZ_nP h (fun i _ => by (try dsimp only); omega)
theorem Bt_Ge {V x y : Nat → Int} {d e : Int} (h : Bt V x d y e) : Ge V x d y e := Or.inl h
theorem Ge_refl (V x : Nat → Int) (d : Int) : Ge V x d x d := LXZ_0 (fun i _ => by (try dsimp only); omega)
theorem Ge_trans {V x y z : Nat → Int} {d e f : Int} (hd : 0 < d) (he : 0 < e) (hf : 0 < f) (h1 : Ge V x d y e) (h2 : Ge V y e z f) : Ge V x d z f := by
  have a1 := (LXZ_smul (w := fun i => f * (co V i y * d - co V i x * e)) hf (fun i _ => rfl)).mpr h1
  have a2 := (LXZ_smul (w := fun i => d * (co V i z * e - co V i y * f)) hd (fun i _ => rfl)).mpr h2
  have a3 := LXZ_sum (w := fun i => e * (co V i z * d - co V i x * f)) a1 a2 (fun i _ => by (try dsimp only); grind)
  exact (LXZ_smul he (fun i _ => rfl)).mp a3
theorem Bt_Ge_trans {V x y z : Nat → Int} {d e f : Int} (hd : 0 < d) (he : 0 < e) (hf : 0 < f) (h1 : Bt V x d y e) (h2 : Ge V y e z f) : Bt V x d z f := by
  have a1 := (LXP_smul (w := fun i => f * (co V i y * d - co V i x * e)) hf (fun i _ => rfl)).mpr h1
  have a2 := (LXZ_smul (w := fun i => d * (co V i z * e - co V i y * f)) hd (fun i _ => rfl)).mpr h2
  have a3 := LXP_sumZ (w := fun i => e * (co V i z * d - co V i x * f)) a1 a2 (fun i _ => by (try dsimp only); grind)
  exact (LXP_smul he (fun i _ => rfl)).mp a3
theorem Ge_Bt_trans {V x y z : Nat → Int} {d e f : Int} (hd : 0 < d) (he : 0 < e) (hf : 0 < f) (h1 : Ge V x d y e) (h2 : Bt V y e z f) : Bt V x d z f := by
  have a1 := (LXZ_smul (w := fun i => f * (co V i y * d - co V i x * e)) hf (fun i _ => rfl)).mpr h1
  have a2 := (LXP_smul (w := fun i => d * (co V i z * e - co V i y * f)) hd (fun i _ => rfl)).mpr h2
  have a3 := LXP_sumZ (w := fun i => e * (co V i z * d - co V i x * f)) a2 a1 (fun i _ => by (try dsimp only); grind)
  exact (LXP_smul he (fun i _ => rfl)).mp a3
/-- as good as one another: the same numbers -/
theorem Ge_anti {V x y : Nat → Int} {d e : Int} (h1 : Ge V x d y e) (h2 : Ge V y e x d) : (∀ i, i < 4 → x i * e = y i * d) ∧ dot V x * e = dot V y * d := by
  have h := LXZ_anti h1 h2 (fun i _ => by (try dsimp only); omega)
  refine ⟨fun i hi => ?_, ?_⟩
  · have := h (i + 1) (by omega)
    simp only [co_s V _ hi] at this
    omega
  · have := h 0 (by omega)
    simp only [co_0] at this
    rw [Int.neg_mul, Int.neg_mul] at this
    omega
/-! counting over a list -/
noncomputable def cntL {α : Type} (p : α → Prop) : List α → Nat
  | [] => 0
  | a :: l => (@ite _ (p a) (Classical.propDecidable _) 1 0) + cntL p l
theorem cntL_le {α : Type} (p : α → Prop) (l : List α) : cntL p l ≤ l.length := by
  induction l with
  | nil => exact Nat.le_refl _
  | cons a l ih =>
    unfold cntL
    rw [List.length_cons]
    split <;> omega
theorem cntL_mono {α : Type} {p q : α → Prop} (l : List α) (h : ∀ a, a ∈ l → p a → q a) : cntL p l ≤ cntL q l := by
  induction l with
  | nil => exact Nat.le_refl _
  | cons a l ih =>
    have i1 := ih (fun b hb => h b (List.mem_cons_of_mem _ hb))
    have i2 := h a (List.mem_cons_self ..)
    unfold cntL
    by_cases ha : p a
    · rw [if_pos ha, if_pos (i2 ha)]
      omega
    · rw [if_neg ha]
      split <;> omega
theorem cntL_lt {α : Type} {p q : α → Prop} (l : List α) (h : ∀ a, a ∈ l → p a → q a) (b : α) (hb : b ∈ l) (hq : q b) (hp : ¬ p b) : cntL p l < cntL q l := by
  induction l with
  | nil => exact absurd hb (List.not_mem_nil)
  | cons a l ih =>
    have i2 := h a (List.mem_cons_self ..)
    have i3 := cntL_mono l (fun b hb => h b (List.mem_cons_of_mem _ hb))
    unfold cntL
    rcases List.mem_cons.mp hb with e | e
    · subst e
      rw [if_neg hp, if_pos hq]
      omega
    · have i1 := ih (fun b hb => h b (List.mem_cons_of_mem _ hb)) e
      by_cases ha : p a
      · rw [if_pos ha, if_pos (i2 ha)]
        omega
      · rw [if_neg ha]
        split <;> omega
