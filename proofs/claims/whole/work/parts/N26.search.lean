/-! the Clearer's search -/
theorem sp_cmp_any {x y : Int64} {post : Int32 → Prop} (h : ∀ r, post r) : wp_J13_compare_74951 x y post := by
  unfold wp_J13_compare_74951
  exact br_c (fun _ => br_c (fun _ => h _) (fun _ => h _)) (fun _ => h _)
/-- what was found, in the cells of a Clearing -/
def FR (V : Nat → Int) (q : Nat → Int) (g : Int) (fh : Int32) (fv fl : Int64) (fx : Nat → Int64) (h : Prop) : Prop := (¬ h ∧ fh = 0) ∨ (h ∧ fh = 1 ∧ fv = lI (dot V q) ∧ fl = lI g ∧ g ≤ 157464 ∧ ∀ w, w < 4 → fx w = lI (q w))
theorem sp_beats0 {pv pl fv fl : Int64} {px fx : Nat → Int64} {fh : Int32} {post : Int32 → Prop} (h : post 0) : wp_X2_beats 0 pv pl px fh fv fl fx post := by
  unfold wp_X2_beats
  refine br_c (fun _ => ⟨by decide, h⟩) (fun _ => sp_cmp_any (fun r => ?_))
  refine pk_loop (σ := Int32) (fun n i s => wl_X2_beats_36 0 pv pl px fh fv fl fx _ post n s (nI i)) (fun _ _ => True) 4 0 r (by omega) trivial (fun n s _ => ?_) (fun n i s hi _ kk => ?_)
  · show ws_X2_beats_36 _ _ _ _ _ _ _ _ _ _ _ _ _
    unfold ws_X2_beats_36
    refine br_t (by decide) ?_
    unfold wj_X2_beats_77
    exact br_t rfl h
  · show ws_X2_beats_36 _ _ _ _ _ _ _ _ _ _ _ _ _
    unfold ws_X2_beats_36
    refine br_f (nI_ge (b := 4) hi (by omega)) (br_c (fun _ => ⟨vp_in_nI (by omega) (by omega), sp_cmp_any (fun r => ?_)⟩) (fun _ => ?_))
    · rw [nI_1 i]
      exact kk r trivial
    · unfold wj_X2_beats_77
      exact br_t rfl h
theorem dot_le {V q : Nat → Int} {B : Int} (hV : ∀ w, w < 4 → 0 ≤ V w ∧ V w ≤ 198) (hq : ∀ w, w < 4 → 0 ≤ q w ∧ q w ≤ B) : 0 ≤ dot V q ∧ dot V q ≤ 792 * B := by
  have t : ∀ w, w < 4 → 0 ≤ V w * q w ∧ V w * q w ≤ 198 * B := fun w hw => by
    have a := hV w hw
    have b := hq w hw
    have c := Int.mul_nonneg a.1 b.1
    have d := Int.mul_le_mul a.2 b.2 b.1 (by omega)
    omega
  have t0 := t 0 (by omega)
  have t1 := t 1 (by omega)
  have t2 := t 2 (by omega)
  have t3 := t 3 (by omega)
  unfold dot
  omega
theorem sp_beats2 {V p q : Nat → Int} {c g : Int} {px fx : Nat → Int64} {post : Int32 → Prop} (hV : ∀ w, w < 4 → 0 ≤ V w ∧ V w ≤ 198) (c0 : 0 < c) (c1 : c ≤ 157464) (g0 : 0 < g) (g1 : g ≤ 157464) (hp : ∀ w, w < 4 → 0 ≤ p w ∧ p w ≤ 12 * c) (hq : ∀ w, w < 4 → 0 ≤ q w ∧ q w ≤ 12 * g) (ep : ∀ w, w < 4 → px w = lI (p w)) (eq : ∀ w, w < 4 → fx w = lI (q w))
    (h1 : Bt V p c q g → post 1) (h0 : ¬ Bt V p c q g → post 0) : wp_X2_beats 1 (lI (dot V p)) (lI c) px 1 (lI (dot V q)) (lI g) fx post := by
  have bp := dot_le hV hp
  have bq := dot_le hV hq
  have rl : ∀ a b : Int, 0 ≤ a → a ≤ 2000000000 → 0 ≤ b → b ≤ 157464 → rL (a * b) := fun a b a0 a1 b0 b1 => by
    have := ab_mul (x := a) (X := 2000000000) (y := b) (Y := 157464) (by omega) a1 (by omega) b1
    exact ⟨by omega, by omega⟩
  unfold wp_X2_beats
  refine br_f (by decide) ?_
  rw [lI_mul, lI_mul]
  generalize hc : (fun i => co V i q * c - co V i p * g) = C
  have hB : Bt V p c q g ↔ posk C 4 := by
    unfold Bt
    rw [hc]
    exact LXP_posk C
  have e0 : C 0 = dot V p * g - dot V q * c := by
    rw [← hc]
    (try dsimp only)
    rw [co_0, co_0, Int.neg_mul, Int.neg_mul]
    omega
  have ei : ∀ w, w < 4 → C (w + 1) = q w * c - p w * g := fun w hw => by
    rw [← hc]
    (try dsimp only)
    rw [co_s V q hw, co_s V p hw]
  have fin : ∀ s : Int32, (s = 0 ∧ (∀ k, k < 5 → C k = 0)) ∨ (s = 1 ∧ posk C 4) ∨ (s = -1 ∧ ¬ posk C 4) → wj_X2_beats_77 s 1 (lI (dot V p)) (lI c) px 1 (lI (dot V q)) (lI g) fx post := by
    intro s hs
    unfold wj_X2_beats_77
    refine br_f (by decide) ?_
    rcases hs with ⟨a, b⟩ | ⟨a, b⟩ | ⟨a, b⟩
    · rw [a]
      refine br_t (by decide) (h0 (fun z => ?_))
      obtain ⟨i, i1, i2, _⟩ := hB.mp z
      have := b i (by omega)
      omega
    · rw [a]
      exact br_f (by decide) (h1 (hB.mpr b))
    · rw [a]
      exact br_t (by decide) (h0 (fun z => b (hB.mp z)))
  have loop : ∀ r : Int32, ((r = 0 ∧ ∀ k, k < 1 → C k = 0) ∨ (r = 1 ∧ posk C 4) ∨ (r = -1 ∧ ¬ posk C 4)) → ∃ n, wl_X2_beats_36 1 (lI (dot V p)) (lI c) px 1 (lI (dot V q)) (lI g) fx (fun x => wj_X2_beats_77 x 1 (lI (dot V p)) (lI c) px 1 (lI (dot V q)) (lI g) fx post) post n r (0 : Int32) := by
    intro r hr
    refine pk_loop (σ := Int32) (fun n i s => wl_X2_beats_36 1 (lI (dot V p)) (lI c) px 1 (lI (dot V q)) (lI g) fx (fun x => wj_X2_beats_77 x 1 (lI (dot V p)) (lI c) px 1 (lI (dot V q)) (lI g) fx post) post n s (nI i)) (fun i s => (s = 0 ∧ ∀ k, k < i + 1 → C k = 0) ∨ (s = 1 ∧ posk C 4) ∨ (s = -1 ∧ ¬ posk C 4)) 4 0 r (by omega) hr (fun n s hs => ?_) (fun n i s hi hs kk => ?_)
    · show ws_X2_beats_36 _ _ _ _ _ _ _ _ _ _ _ _ _
      unfold ws_X2_beats_36
      exact br_t (by decide) (fin s hs)
    · show ws_X2_beats_36 _ _ _ _ _ _ _ _ _ _ _ _ _
      unfold ws_X2_beats_36
      refine br_f (nI_ge (b := 4) hi (by omega)) ?_
      rcases hs with ⟨a, b⟩ | ⟨a, b⟩ | ⟨a, b⟩
      · rw [a]
        refine br_t rfl ⟨vp_in_nI (by omega) (by omega), ?_⟩
        have ce := ei i hi
        have ci : (nI i).toNatClampNeg = i := nI_clamp (by omega)
        have p1 := hp i hi
        have q1 := hq i hi
        rw [ci, ep i hi, eq i hi, lI_mul, lI_mul, nI_1 i]
        refine sp_compare (rl _ _ (by omega) (by omega) (by omega) (by omega)) (rl _ _ (by omega) (by omega) (by omega) (by omega)) (fun z => ?_) (fun z => ?_) (fun z => ?_)
        · exact kk 1 (Or.inr (Or.inl ⟨rfl, i + 1, by omega, by omega, b⟩))
        · refine kk 0 (Or.inl ⟨rfl, fun m hm => ?_⟩)
          by_cases e : m = i + 1
          · subst e; omega
          · exact b m (by omega)
        · refine kk (-1) (Or.inr (Or.inr ⟨rfl, fun ⟨m, a1, a2, a3⟩ => ?_⟩))
          rcases Nat.lt_trichotomy m (i + 1) with y | y | y
          · have := b m y; omega
          · subst y; omega
          · have := a3 (i + 1) y; omega
      · rw [a]
        exact br_f (by decide) (fin 1 (Or.inr (Or.inl ⟨rfl, b⟩)))
      · rw [a]
        exact br_f (by decide) (fin (-1) (Or.inr (Or.inr ⟨rfl, b⟩)))
  refine sp_compare (rl _ _ (by omega) (by omega) (by omega) (by omega)) (rl _ _ (by omega) (by omega) (by omega) (by omega)) (fun z => ?_) (fun z => ?_) (fun z => ?_)
  · exact loop 1 (Or.inr (Or.inl ⟨rfl, 0, by omega, by omega, fun k hk => by omega⟩))
  · refine loop 0 (Or.inl ⟨rfl, fun m hm => ?_⟩)
    have : m = 0 := by omega
    subst this
    omega
  · refine loop (-1) (Or.inr (Or.inr ⟨rfl, fun ⟨m, a1, a2, a3⟩ => ?_⟩))
    rcases Nat.eq_zero_or_pos m with y | y
    · subst y; omega
    · have := a3 0 y; omega
theorem sp_copyOf {oh ph : Int32} {ov ol pv pl : Int64} {ox px : Nat → Int64} (h : ph = 0 ∨ ph = 1) {post : Int32 → Int64 → Int64 → (Nat → Int64) → Prop} (hp : ∀ y : Nat → Int64, (∀ w, w < 4 → y w = px w) → post ph pv pl y) : wp_X2_copyOf oh ov ol ox ph pv pl px post := by
  unfold wp_X2_copyOf
  refine ⟨by rcases h with e | e <;> subst e <;> decide, hp _ (fun w hw => ?_)⟩
  have e : va_cpy px ox 0 0 4 w = px w := by
    unfold va_cpy
    rw [if_pos ⟨by omega, by omega⟩]
    exact congrArg px (by omega)
  exact e
theorem xor_nn {x y : Int64} (hx : 0 ≤ x.toInt) (hy : 0 ≤ y.toInt) : 0 ≤ (x ^^^ y).toInt := by
  have h : ((x ^^^ y).toBitVec).msb = false := by
    rw [Int64.toBitVec_xor, BitVec.msb_xor, BitVec.msb_eq_toInt, BitVec.msb_eq_toInt]
    have a : ¬ x.toBitVec.toInt < 0 := fun z => by
      have : x.toInt < 0 := z
      omega
    have b : ¬ y.toBitVec.toInt < 0 := fun z => by
      have : y.toInt < 0 := z
      omega
    rw [decide_eq_false a, decide_eq_false b]
    rfl
  rw [BitVec.msb_eq_toInt] at h
  have : ¬ (x ^^^ y).toInt < 0 := fun z => by
    have z2 : (x ^^^ y).toBitVec.toInt < 0 := z
    rw [decide_eq_true z2] at h
    exact absurd h (by decide)
  omega
theorem sp_floorDiv {a b : Int} (a0 : 0 ≤ a) (a1 : a ≤ 2000000000) (b0 : 0 < b) (b1 : b ≤ 2000000000) {post : Int64 → Prop} (h : post (lI (a / b))) : wp_J9_floorDiv_f86c9 (lI a) (lI b) post := by
  have ra : rL a := ⟨by omega, by omega⟩
  have rb : rL b := ⟨by omega, by omega⟩
  have e : lI a / lI b = lI (a / b) := by rw [lI_div ra rb, Int.tdiv_eq_ediv_of_nonneg a0]
  unfold wp_J9_floorDiv_f86c9
  refine ⟨by rw [lI_0, lI_eq rb ⟨by omega, by omega⟩]; omega, br_t ?_ (by rw [e]; exact h)⟩
  rw [Int64.le_iff_toInt_le]
  have z : (0 : Int64).toInt = 0 := by decide
  rw [z]
  exact xor_nn (by rw [lI_toInt ra]; exact a0) (by rw [lI_toInt rb]; omega)
/-- the first x that is not of its kind -/
theorem sp_firstSplit {X kd M' : Nat → Int} {d : Int} {nW : Nat} {kn mo : Nat → Int32} {y : Nat → Int64} (hW : nW ≤ 4) (d0 : 0 < d) (d1 : d ≤ 157464) (hX : ∀ w, w < 4 → 0 ≤ X w ∧ X w ≤ 12 * d) (hk : ∀ w, w < nW → kn w = iI (kd w) ∧ 0 ≤ kd w ∧ kd w ≤ 2 ∧ mo w = iI (M' w) ∧ 0 ≤ M' w ∧ M' w ≤ 12) (hy : ∀ w, w < 4 → y w = lI (X w)) {post : Int32 → Prop}
    (pn : (∀ w, w < nW → (kd w = 1 → ∃ z : Int, X w = z * d) ∧ (kd w = 2 → X w = 0 ∨ X w = M' w * d)) → post (-1))
    (ps : ∀ w, w < nW → ((kd w = 1 ∧ ¬ ∃ z : Int, X w = z * d) ∨ (kd w = 2 ∧ X w ≠ 0 ∧ X w ≠ M' w * d)) → post (nI w)) : wp_X1_firstSplit (lI d) y (nI nW) kn mo post := by
  have rd : rL d := ⟨by omega, by omega⟩
  have r1 : rL 1 := ⟨by omega, by omega⟩
  have r0 : rL 0 := ⟨by omega, by omega⟩
  have ri : ∀ z : Int, -3000 ≤ z → z ≤ 3000 → rI z := fun z a b => ⟨by omega, by omega⟩
  have mx : (if (1 : Int64) < lI d then lI d else (1 : Int64)) = lI d := by
    by_cases q : 1 < d
    · rw [if_pos]
      rw [lI_1, lI_lt r1 rd]
      exact q
    · have : d = 1 := by omega
      subst this
      rw [if_neg]
      · rfl
      · rw [lI_1, lI_lt r1 r1]
        omega
  have one : (1 : Int32) = iI 1 := rfl
  have two : (2 : Int32) = iI 2 := rfl
  unfold wp_X1_firstSplit
  refine pk_loop (σ := Unit) (fun n i _ => wl_X1_firstSplit_2 (lI d) y (nI nW) kn mo (post (-1)) (fun x => post x) (fun x => post x) post n (nI i)) (fun i _ => ∀ w, w < i → (kd w = 1 → ∃ z : Int, X w = z * d) ∧ (kd w = 2 → X w = 0 ∨ X w = M' w * d)) nW 0 () (Nat.zero_le _) (fun w hw => by omega) (fun n _ hs => ?_) (fun n i _ hi hs kk => ?_)
  · show ws_X1_firstSplit_2 _ _ _ _ _ _ _ _ _ _ _
    unfold ws_X1_firstSplit_2
    exact br_t (nI_le (Nat.le_refl _) (by omega)) (pn hs)
  · show ws_X1_firstSplit_2 _ _ _ _ _ _ _ _ _ _ _
    unfold ws_X1_firstSplit_2
    obtain ⟨k1, k2, k3, k4, k5, k6⟩ := hk i hi
    have x1 := hX i (by omega)
    have rx : rL (X i) := ⟨by omega, by omega⟩
    have ci : (nI i).toNatClampNeg = i := nI_clamp (by omega)
    have e50 : (kd i = 1 → ∃ z : Int, X i = z * d) → wj_X1_firstSplit_50 (nI i) (lI (X i)) (lI d) y (nI nW) kn mo (wl_X1_firstSplit_2 (lI d) y (nI nW) kn mo (post (-1)) (fun x => post x) (fun x => post x) post n) (post (-1)) (fun x => post x) (fun x => post x) post := by
      intro w1
      unfold wj_X1_firstSplit_50
      refine ⟨vp_in_nI (by omega) (by omega), ?_⟩
      have bm := ab_mul (x := M' i) (X := 12) (y := d) (Y := 157464) (by omega) (by omega) (by omega) d1
      rw [ci, k1, k4, two, nI_1 i, iI_l (ri _ (by omega) (by omega)), lI_mul, lI_0]
      refine br_c (fun q => ?_) (fun q => ?_)
      · rw [iI_eq (ri _ (by omega) (by omega)) (ri _ (by omega) (by omega))] at q
        refine br_c (fun z => ?_) (fun z => br_c (fun t => ?_) (fun t => ?_))
        · rw [lI_eq rx r0] at z
          refine kk () (fun w hw => ?_)
          by_cases e : w = i
          · subst e; exact ⟨w1, fun _ => Or.inl z⟩
          · exact hs w (by omega)
        · rw [lI_eq rx ⟨by omega, by omega⟩] at t
          refine kk () (fun w hw => ?_)
          by_cases e : w = i
          · subst e; exact ⟨w1, fun _ => Or.inr t⟩
          · exact hs w (by omega)
        · rw [lI_eq rx r0] at z
          rw [lI_eq rx ⟨by omega, by omega⟩] at t
          exact ps i hi (Or.inr ⟨q, z, t⟩)
      · rw [iI_eq (ri _ (by omega) (by omega)) (ri _ (by omega) (by omega))] at q
        refine kk () (fun w hw => ?_)
        by_cases e : w = i
        · subst e; exact ⟨w1, fun z => absurd z q⟩
        · exact hs w (by omega)
    refine br_f (nI_ge hi (by omega)) ⟨vp_in_nI (by omega) (by omega), ?_⟩
    rw [ci, k1, hy i (by omega), mx]
    refine br_c (fun q => ?_) (fun q => ?_)
    · rw [one, iI_eq (ri _ (by omega) (by omega)) (ri _ (by omega) (by omega))] at q
      refine ⟨by rw [lI_0, lI_eq rd r0]; omega, ?_⟩
      have dv : lI (X i) - lI (X i) / lI d * lI d = lI (X i - X i / d * d) := by
        rw [lI_div rx rd, Int.tdiv_eq_ediv_of_nonneg x1.1, lI_mul, lI_sub]
      have md : X i - X i / d * d = X i % d := by
        have := Int.mul_ediv_add_emod (X i) d
        rw [Int.mul_comm] at this
        omega
      have m1 := Int.emod_nonneg (X i) (by omega : d ≠ 0)
      have m2 := Int.emod_lt_of_pos (X i) d0
      rw [dv, md, lI_0]
      refine br_c (fun z => ?_) (fun z => ?_)
      · rw [lI_eq ⟨by omega, by omega⟩ r0] at z
        refine e50 (fun _ => ⟨X i / d, ?_⟩)
        rw [z] at md
        omega
      · rw [lI_eq ⟨by omega, by omega⟩ r0] at z
        refine ps i hi (Or.inl ⟨q, fun ⟨t, ht⟩ => z ?_⟩)
        rw [ht]
        exact Int.mul_emod_left t d
    · rw [one, iI_eq (ri _ (by omega) (by omega)) (ri _ (by omega) (by omega))] at q
      exact e50 (fun z => absurd z q)
