/-! the two tables: by letters, by numbers -/
def TC (told lst off : Nat → Prop) (lim : Nat → Int) (nW : Nat) (V kd M' : Nat → Int) (us : Nat → Nat → Int) (wi : Int32) (it le gof li va kn mo wo : Nat → Int32) (u : Nat → Nat → Int32) : Prop :=
  wi = nI nW ∧ nW ≤ 4 ∧ (∀ l, l < 5 → (it l = 0 ∨ it l = 1) ∧ (it l = 1 ↔ told l) ∧ (le l = 0 ∨ le l = 1) ∧ (le l = 1 ↔ lst l) ∧ (gof l = 0 ∨ gof l = 1) ∧ (gof l = 1 ↔ off l) ∧ li l = iI (lim l) ∧ 0 ≤ lim l ∧ lim l ≤ 99)
  ∧ (∀ w, w < 4 → va w = iI (V w) ∧ 0 ≤ V w ∧ V w ≤ 99 ∧ (wo w = 0 ∨ wo w = 1) ∧ kn w = iI (kd w) ∧ 0 ≤ kd w ∧ kd w ≤ 2 ∧ mo w = iI (M' w) ∧ 0 ≤ M' w ∧ M' w ≤ 12 ∧ ∀ l, l < 5 → u w l = iI (us w l) ∧ 0 ≤ us w l ∧ us w l ≤ 9)
  ∧ (∀ w, w < nW → ∀ l, l < 5 → ¬ told l → us w l = 0)
def TM (told lst off : Nat → Prop) (lim : Nat → Int) (nW : Nat) (V kd M' : Nat → Int) (us : Nat → Nat → Int) (nG : Nat) (gl : Nat → Nat) (wo : Nat → Int32) (ga wi : Int32) (lt ls ca go wr kn mo wf ue : Nat → Int32) : Prop :=
  EnumN told 5 nG gl ∧ ga = nI nG ∧ wi = nI nW ∧ (∀ g, g < nG → lt g = nI (gl g) ∧ (ls g = 0 ∨ ls g = 1) ∧ (ls g = 1 ↔ lst (gl g)) ∧ ca g = iI (lim (gl g)) ∧ (go g = 0 ∨ go g = 1) ∧ (go g = 1 ↔ off (gl g)) ∧ ∀ w, w < nW → ue (5 * w + g) = iI (us w (gl g)))
  ∧ (∀ w, w < nW → wr w = iI (V w) ∧ kn w = iI (kd w) ∧ mo w = iI (M' w) ∧ wf w = wo w)
theorem i64_lI (x : Int32) : x.toInt64 = lI x.toInt := rfl
theorem i64_r (x : Int32) : rL x.toInt := by
  have a := Int32.toInt_lt x
  have b := Int32.le_toInt x
  exact ⟨by omega, by omega⟩
theorem toInt_nI {x : Int32} {n : Nat} (h0 : 0 ≤ x.toInt) (h : x.toInt < n) (hn : n < 2 ^ 31) : ∃ j, j < n ∧ x = nI j := vp_in_of (vp_in_iff.mpr ⟨h0, h⟩) hn
theorem sp_inX {x : Int32} {a b : Int} (ra : rL a) (rb : rL b) {post : Int32 → Prop} (h1 : a ≤ x.toInt → x.toInt ≤ b → post 1) (h0 : ¬ (a ≤ x.toInt ∧ x.toInt ≤ b) → post 0) : wp_X7_in x.toInt64 (lI a) (lI b) post := by
  rw [i64_lI]
  exact sp_in (i64_r x) ra rb (fun z => h1 z.1 z.2) h0
theorem sp_numM {n : Nat} (hn : n ≤ 1000) {x : Int32} {post : Int32 → Prop} (h1 : ∀ g, g < n → x = nI g → post 1) (h0 : (∀ g, g < n → x ≠ nI g) → post 0) : wp_X7_in x.toInt64 (0 : Int64) (nI n - (1 : Int32)).toInt64 (fun r => narrow .boolean (.int r) = .int r ∧ post r) := by
  have e : (nI n - (1 : Int32)).toInt64 = lI ((n : Int) - 1) := by
    rw [show (1 : Int32) = iI 1 from rfl, nI_iI, iI_sub, iI_l ⟨by omega, by omega⟩]
  rw [e, lI_0]
  refine sp_inX ⟨by omega, by omega⟩ ⟨by omega, by omega⟩ (fun a b => ⟨by decide, ?_⟩) (fun z => ⟨by decide, h0 (fun g hg ex => z ?_)⟩)
  · obtain ⟨j, hj, ej⟩ := toInt_nI a (by omega : x.toInt < (n : Int)) (by omega)
    exact h1 j hj ej
  · rw [ex, nI_toInt (by omega)]
    omega
theorem sp_isGateM {n : Nat} (hn : n ≤ 1000) {x : Int32} {post : Int32 → Prop} (h1 : ∀ g, g < n → x = nI g → post 1) (h0 : (∀ g, g < n → x ≠ nI g) → post 0) : wp_X7_isGate (nI n) x post := sp_numM hn h1 h0
theorem sp_isWishM {n : Nat} (hn : n ≤ 1000) {x : Int32} {post : Int32 → Prop} (h1 : ∀ g, g < n → x = nI g → post 1) (h0 : (∀ g, g < n → x ≠ nI g) → post 0) : wp_X7_isWish (nI n) x post := sp_numM hn h1 h0
theorem sp_isWishC {n : Nat} (hn : n ≤ 1000) {x : Int32} {post : Int32 → Prop} (h1 : ∀ g, g < n → x = nI g → post 1) (h0 : (∀ g, g < n → x ≠ nI g) → post 0) : wp_X6_isWish (nI n) x post := by
  unfold wp_X6_isWish
  refine br_c (fun z => h0 (fun g hg e => ?_)) (fun z => ?_)
  · rw [e] at z
    exact nI_pos (by omega) z
  · obtain ⟨j, hj, rfl⟩ := nI_of z
    refine br_c (fun y => h0 (fun g hg e => ?_)) (fun y => h1 j ?_ rfl)
    · rw [nI_leI (by omega) hj] at y
      rw [nI_eq hj (by omega)] at e
      omega
    · rw [nI_leI (by omega) hj] at y
      omega
/-- how far the gates' letters go -/
def Cut (gl : Nat → Nat) (nG i k : Nat) : Prop := k ≤ nG ∧ (∀ j, j < k → gl j < i) ∧ (∀ j, k ≤ j → j < nG → i ≤ gl j)
theorem Cut_0 (gl : Nat → Nat) (nG : Nat) : Cut gl nG 0 0 := ⟨Nat.zero_le _, fun j hj => by omega, fun j _ _ => Nat.zero_le _⟩
theorem Cut_yes {told : Nat → Prop} {nG i k n : Nat} {gl : Nat → Nat} (E : EnumN told n nG gl) (c : Cut gl nG i k) (hi : i < n) (h : told i) : k < nG ∧ gl k = i ∧ Cut gl nG (i + 1) (k + 1) := by
  obtain ⟨c1, c2, c3⟩ := c
  obtain ⟨j, hj, ej⟩ := E.2.2.2 i hi h
  have kj : k ≤ j := by
    rcases Nat.lt_or_ge j k with z | z
    · have := c2 j z; omega
    · exact z
  have ek : k = j := by
    rcases Nat.lt_or_ge k j with z | z
    · have a := E.2.2.1 k j z hj
      have b := c3 k (Nat.le_refl _) (by omega)
      omega
    · omega
  subst ek
  refine ⟨hj, ej, by omega, fun m hm => ?_, fun m h1 h2 => ?_⟩
  · by_cases y : m = k
    · subst y; omega
    · have := c2 m (by omega); omega
  · have := E.2.2.1 k m (by omega) h2
    omega
theorem Cut_no {told : Nat → Prop} {nG i k n : Nat} {gl : Nat → Nat} (E : EnumN told n nG gl) (c : Cut gl nG i k) (h : ¬ told i) : Cut gl nG (i + 1) k := by
  obtain ⟨c1, c2, c3⟩ := c
  refine ⟨c1, fun m hm => ?_, fun m h1 h2 => ?_⟩
  · have := c2 m hm; omega
  · have a := c3 m h1 h2
    have b : gl m ≠ i := fun e => h (e ▸ (E.2.1 m h2).2)
    omega
theorem Cut_end {told : Nat → Prop} {nG k n : Nat} {gl : Nat → Nat} (E : EnumN told n nG gl) (c : Cut gl nG n k) : k = nG := by
  obtain ⟨c1, c2, c3⟩ := c
  rcases Nat.lt_or_ge k nG with z | z
  · have a := c3 k (Nat.le_refl _) z
    have b := (E.2.1 k z).1
    omega
  · omega
section TAB
variable {told lst off : Nat → Prop} {lim : Nat → Int} {nW : Nat} {V kd M' : Nat → Int} {us : Nat → Nat → Int} {wi : Int32} {it le gof li va kn mo wo : Nat → Int32} {u : Nat → Nat → Int32} {nG : Nat} {gl : Nat → Nat} {ga wi' : Int32} {lt ls ca go wr kn' mo' wf ue : Nat → Int32}
theorem sp_letterOf (E : EnumN told 5 nG gl) (hit : ∀ l, l < 5 → (it l = 0 ∨ it l = 1) ∧ (it l = 1 ↔ told l)) {x : Int32} {post : Int32 → Prop} (h1 : ∀ g, g < nG → x = nI g → post (nI (gl g))) (h0 : (∀ g, g < nG → x ≠ nI g) → post (-1)) : wp_X4_letterOf it x post := by
  have E5 := E.1
  unfold wp_X4_letterOf
  refine pk_loop (σ := Int32) (fun n i s => wl_X4_letterOf_4 x it (post (-1)) (fun y => post y) post n s (nI i)) (fun i s => ∃ k, s = nI k ∧ Cut gl nG i k ∧ ∀ j, j < k → x ≠ nI j) 5 0 0 (by omega) ⟨0, rfl, Cut_0 gl nG, fun j hj => by omega⟩ (fun n s hs => ?_) (fun n i s hi hs kk => ?_)
  · show ws_X4_letterOf_4 _ _ _ _ _ _ _ _
    unfold ws_X4_letterOf_4
    refine br_t (by decide) ?_
    obtain ⟨k, e, c, hk⟩ := hs
    have ek := Cut_end E c
    subst ek
    exact h0 hk
  · show ws_X4_letterOf_4 _ _ _ _ _ _ _ _
    unfold ws_X4_letterOf_4
    obtain ⟨k, e, c, hk⟩ := hs
    have ck := c.1
    have ci : (nI i).toNatClampNeg = i := nI_clamp (by omega)
    obtain ⟨i1, i2⟩ := hit i hi
    refine br_f (nI_ge (b := 5) hi (by omega)) ⟨vp_in_nI (by omega) (by omega), ?_⟩
    rw [ci, nI_1 i, e]
    refine br_c (fun z => ?_) (fun z => ?_)
    · have nt : ¬ told i := fun t => by
        have := i2.mpr t
        rw [z] at this
        exact absurd this (by decide)
      exact kk (nI k) ⟨k, rfl, Cut_no E c nt, hk⟩
    · have t : told i := i2.mp (by rcases i1 with y | y; exact absurd y z; exact y)
      obtain ⟨k1, k2, k3⟩ := Cut_yes E c hi t
      refine br_c (fun y => ?_) (fun y => ?_)
      · have := h1 k k1 y.symm
        rw [k2] at this
        exact this
      · rw [nI_1 k]
        refine kk (nI (k + 1)) ⟨k + 1, rfl, k3, fun j hj => ?_⟩
        by_cases q : j = k
        · subst q; exact fun w => y w.symm
        · exact hk j (by omega)
theorem nI_or (a b : Nat) : nI a ||| nI b = nI (a ||| b) := by
  apply Int32.toBitVec_inj.mp
  rw [Int32.toBitVec_or]
  exact (BitVec.ofNat_or ..).symm
theorem sp_heldGates (hit : ∀ l, l < 5 → (it l = 0 ∨ it l = 1) ∧ (it l = 1 ↔ told l)) (hgo : ∀ l, l < 5 → (gof l = 0 ∨ gof l = 1) ∧ (gof l = 1 ↔ off l)) {post : Int32 → Prop} (h : ∀ m : Nat, (∀ l, l < 5 → (((nI m >>> (nI l &&& 31)) &&& (1 : Int32)) = 1 ↔ told l ∧ ¬ off l)) → post (nI m)) : wp_X4_heldGates it gof post := by
  unfold wp_X4_heldGates
  refine pk_loop (σ := Int32) (fun n i s => wl_X4_heldGates_4 it gof (fun y => post y) post n s (nI i)) (fun i s => ∃ m, s = nI m ∧ m < 2 ^ i ∧ ∀ l, l < i → (m.testBit l = true ↔ told l ∧ ¬ off l)) 5 0 0 (by omega) ⟨0, rfl, by decide, fun l hl => by omega⟩ (fun n s hs => ?_) (fun n i s hi hs kk => ?_)
  · show ws_X4_heldGates_4 _ _ _ _ _ _ _
    unfold ws_X4_heldGates_4
    refine br_t (by decide) ?_
    obtain ⟨m, e, m1, m2⟩ := hs
    rw [e]
    refine h m (fun l hl => ?_)
    rw [bit_iff (by omega) (by omega)]
    exact m2 l hl
  · show ws_X4_heldGates_4 _ _ _ _ _ _ _
    unfold ws_X4_heldGates_4
    obtain ⟨m, e, m1, m2⟩ := hs
    have ci : (nI i).toNatClampNeg = i := nI_clamp (by omega)
    obtain ⟨i1, i2⟩ := hit i hi
    obtain ⟨g1, g2⟩ := hgo i hi
    have pw : 2 ^ (i + 1) = 2 ^ i * 2 := Nat.pow_succ 2 i
    have mi : m.testBit i = false := Nat.testBit_lt_two_pow m1
    have skip : ¬ (told i ∧ ¬ off i) → ∀ l, l < i + 1 → (m.testBit l = true ↔ told l ∧ ¬ off l) := fun nn l hl => by
      by_cases q : l = i
      · subst q
        rw [mi]
        exact ⟨fun y => absurd y (by decide), fun y => absurd y nn⟩
      · exact m2 l (by omega)
    refine br_f (nI_ge (b := 5) hi (by omega)) ⟨vp_in_nI (by omega) (by omega), ?_⟩
    rw [ci, nI_1 i, e]
    refine br_c (fun z => ?_) (fun z => br_c (fun y => ?_) (fun y => ?_))
    · refine kk (nI m) ⟨m, rfl, by omega, skip (fun t => ?_)⟩
      have := i2.mpr t.1
      rw [z] at this
      exact absurd this (by decide)
    · have t : told i := i2.mp (by rcases i1 with y | y; exact absurd y z; exact y)
      have o : ¬ off i := fun q => by
        have := g2.mpr q
        rw [y] at this
        exact absurd this (by decide)
      rw [shl_1 (by omega), nI_or]
      refine kk (nI (m ||| 2 ^ i)) ⟨m ||| 2 ^ i, rfl, Nat.or_lt_two_pow (by omega) (by omega), fun l hl => ?_⟩
      rw [Nat.testBit_or, Nat.testBit_two_pow]
      by_cases q : l = i
      · subst q
        simp [t, o]
      · have : ¬ i = l := fun w => q w.symm
        simp only [this, decide_false, Bool.or_false]
        exact m2 l (by omega)
    · refine kk (nI m) ⟨m, rfl, by omega, skip (fun t => t.2 (g2.mp ?_))⟩
      rcases g1 with q | q
      · exact absurd q y
      · exact q
theorem eq_gate (C : TC told lst off lim nW V kd M' us wi it le gof li va kn mo wo u) (D : TM told lst off lim nW V kd M' us nG gl wo ga wi' lt ls ca go wr kn' mo' wf ue) (x1 x2 : Int32) : ∃ r : Int32, wp_X6_gate it le gof li x1 x2 (fun y => y = r) ∧ wp_X7_gate ga lt ls ca go x1 x2 (fun y => y = r) := by
  obtain ⟨c1, c2, c3, c4, c5⟩ := C
  obtain ⟨E, d1, d2, d3, d4⟩ := D
  have E5 := E.1
  have hit : ∀ l, l < 5 → (it l = 0 ∨ it l = 1) ∧ (it l = 1 ↔ told l) := fun l hl => ⟨(c3 l hl).1, (c3 l hl).2.1⟩
  have r3 : (3 : Int64) = lI 3 := rfl
  subst d1
  by_cases hg : ∃ g, g < nG ∧ x1 = nI g
  · obtain ⟨g, g1, g2⟩ := hg
    have gu : ∀ g', g' < nG → x1 = nI g' → g' = g := fun g' h e => by
      rw [g2, nI_eq (by omega) (by omega)] at e
      exact e.symm
    obtain ⟨e1, e2, e3, e4, e5, e6, e7⟩ := d3 g g1
    have l5 := (E.2.1 g g1).1
    obtain ⟨f1, f2, f3, f4, f5, f6, f7, f8, f9⟩ := c3 (gl g) l5
    have cg : (nI g).toNatClampNeg = g := nI_clamp (by omega)
    have cl : (nI (gl g)).toNatClampNeg = gl g := nI_clamp (by omega)
    refine ⟨if x2 = 0 then nI (gl g) else if x2 = 1 then ls g else if x2 = 2 then ca g else if x2 = 3 then go g else -1, ?_, ?_⟩
    · unfold wp_X6_gate
      refine sp_letterOf E hit (fun g' h e => ?_) (fun n => absurd g2 (n g g1))
      rw [gu g' h e]
      refine br_t (nI_pos' (by omega)) (br_c (fun z => by rw [if_pos z]) (fun z => br_c (fun y => ⟨vp_in_nI l5 (by omega), ?_⟩) (fun y => br_c (fun q => ⟨vp_in_nI l5 (by omega), ?_⟩) (fun q => br_c (fun v => ⟨vp_in_nI l5 (by omega), ?_⟩) (fun v => ?_)))))
      · rw [cl, if_neg z, if_pos y]
        unfold wp_X6_bit
        rcases f3 with t | t
        · refine br_t t ?_
          rcases e2 with s | s
          · exact s.symm
          · have := f4.mpr (e3.mp s)
            rw [t] at this
            exact absurd this (by decide)
        · refine br_f (by rw [t]; decide) ?_
          exact (e3.mpr (f4.mp t)).symm
      · rw [cl, if_neg z, if_neg y, if_pos q, f7, e4]
      · rw [cl, if_neg z, if_neg y, if_neg q, if_pos v]
        unfold wp_X6_bit
        rcases f5 with t | t
        · refine br_t t ?_
          rcases e5 with s | s
          · exact s.symm
          · have := f6.mpr (e6.mp s)
            rw [t] at this
            exact absurd this (by decide)
        · refine br_f (by rw [t]; decide) ?_
          exact (e6.mpr (f6.mp t)).symm
      · rw [if_neg z, if_neg y, if_neg q, if_neg v]
    · unfold wp_X7_gate
      refine sp_isGateM (by omega) (fun g' h e => br_f (by decide) ?_) (fun n => absurd g2 (n g g1))
      rw [lI_0, r3]
      refine sp_inX ⟨by omega, by omega⟩ ⟨by omega, by omega⟩ (fun a b => br_f (by decide) ?_) (fun n => br_t rfl ?_)
      · rw [g2, cg]
        refine br_c (fun z => ⟨vp_in_nI (by omega) (by omega), by rw [if_pos z, e1]⟩) (fun z => br_c (fun y => ⟨vp_in_nI (by omega) (by omega), by rw [if_neg z, if_pos y]⟩) (fun y => br_c (fun q => ⟨vp_in_nI (by omega) (by omega), by rw [if_neg z, if_neg y, if_pos q]⟩) (fun q => ⟨vp_in_nI (by omega) (by omega), ?_⟩)))
        have x3 : x2 = 3 := by
          obtain ⟨j, hj, ej⟩ := toInt_nI (n := 4) a (by omega) (by omega)
          rcases (by omega : j = 0 ∨ j = 1 ∨ j = 2 ∨ j = 3) with w | w | w | w <;> subst w
          · exact absurd ej z
          · exact absurd ej y
          · exact absurd ej q
          · exact ej
        rw [if_neg z, if_neg y, if_neg q, if_pos x3]
        rcases e5 with t | t
        · exact br_t t t.symm
        · exact br_f (by rw [t]; decide) t.symm
      · have ne : ∀ k : Nat, k < 4 → x2 ≠ nI k := fun k hk e => n (by rw [e, nI_toInt (by omega)]; omega)
        have n0 : ¬ x2 = (0 : Int32) := ne 0 (by omega)
        have n1 : ¬ x2 = (1 : Int32) := ne 1 (by omega)
        have n2 : ¬ x2 = (2 : Int32) := ne 2 (by omega)
        have n3 : ¬ x2 = (3 : Int32) := ne 3 (by omega)
        dsimp only
        rw [if_neg n0, if_neg n1, if_neg n2, if_neg n3]
  · have ng : ∀ g, g < nG → x1 ≠ nI g := fun g h e => hg ⟨g, h, e⟩
    refine ⟨-1, ?_, ?_⟩
    · unfold wp_X6_gate
      exact sp_letterOf E hit (fun g h e => absurd e (ng g h)) (fun _ => br_f (by decide) rfl)
    · unfold wp_X7_gate
      exact sp_isGateM (by omega) (fun g h e => absurd e (ng g h)) (fun _ => br_t rfl rfl)
theorem eq_wish (C : TC told lst off lim nW V kd M' us wi it le gof li va kn mo wo u) (D : TM told lst off lim nW V kd M' us nG gl wo ga wi' lt ls ca go wr kn' mo' wf ue) (x1 x2 : Int32) : ∃ r : Int32, wp_X6_wish wi va kn mo wo x1 x2 (fun y => y = r) ∧ wp_X7_wish wi' wr kn' mo' wf x1 x2 (fun y => y = r) := by
  obtain ⟨c1, c2, c3, c4, c5⟩ := C
  obtain ⟨E, d1, d2, d3, d4⟩ := D
  have r3 : (3 : Int64) = lI 3 := rfl
  subst c1
  subst d2
  by_cases hg : ∃ g, g < nW ∧ x1 = nI g
  · obtain ⟨w, w1, w2⟩ := hg
    obtain ⟨e1, e2, e3, e4⟩ := d4 w w1
    obtain ⟨f1, _, _, f4, f5, _, _, f8, _⟩ := c4 w (by omega)
    have cw : (nI w).toNatClampNeg = w := nI_clamp (by omega)
    refine ⟨if x2 = 0 then iI (V w) else if x2 = 1 then iI (kd w) else if x2 = 2 then iI (M' w) else if x2 = 3 then wo w else -1, ?_, ?_⟩
    · unfold wp_X6_wish
      refine sp_isWishC (by omega) (fun g h e => br_f (by decide) ?_) (fun n => absurd w2 (n w w1))
      rw [w2, cw]
      refine br_c (fun z => ⟨vp_in_nI (by omega) (by omega), by rw [if_pos z, f1]⟩) (fun z => br_c (fun y => ⟨vp_in_nI (by omega) (by omega), by rw [if_neg z, if_pos y, f5]⟩) (fun y => br_c (fun q => ⟨vp_in_nI (by omega) (by omega), by rw [if_neg z, if_neg y, if_pos q, f8]⟩) (fun q => br_c (fun v => ⟨vp_in_nI (by omega) (by omega), ?_⟩) (fun v => ?_))))
      · rw [if_neg z, if_neg y, if_neg q, if_pos v]
        unfold wp_X6_bit
        rcases f4 with t | t
        · exact br_t t t.symm
        · exact br_f (by rw [t]; decide) t.symm
      · rw [if_neg z, if_neg y, if_neg q, if_neg v]
    · unfold wp_X7_wish
      refine sp_isWishM (by omega) (fun g' h e => br_f (by decide) ?_) (fun n => absurd w2 (n w w1))
      rw [lI_0, r3]
      refine sp_inX ⟨by omega, by omega⟩ ⟨by omega, by omega⟩ (fun a b => br_f (by decide) ?_) (fun n => br_t rfl ?_)
      · rw [w2, cw]
        refine br_c (fun z => ⟨vp_in_nI (by omega) (by omega), by rw [if_pos z, e1]⟩) (fun z => br_c (fun y => ⟨vp_in_nI (by omega) (by omega), by rw [if_neg z, if_pos y, e2]⟩) (fun y => br_c (fun q => ⟨vp_in_nI (by omega) (by omega), by rw [if_neg z, if_neg y, if_pos q, e3]⟩) (fun q => ⟨vp_in_nI (by omega) (by omega), ?_⟩)))
        have x3 : x2 = 3 := by
          obtain ⟨j, hj, ej⟩ := toInt_nI (n := 4) a (by omega) (by omega)
          rcases (by omega : j = 0 ∨ j = 1 ∨ j = 2 ∨ j = 3) with w | w | w | w <;> subst w
          · exact absurd ej z
          · exact absurd ej y
          · exact absurd ej q
          · exact ej
        rw [if_neg z, if_neg y, if_neg q, if_pos x3, e4]
        rcases f4 with t | t
        · exact br_t t t.symm
        · exact br_f (by rw [t]; decide) t.symm
      · have ne : ∀ k : Nat, k < 4 → x2 ≠ nI k := fun k hk e => n (by rw [e, nI_toInt (by omega)]; omega)
        have n0 : ¬ x2 = (0 : Int32) := ne 0 (by omega)
        have n1 : ¬ x2 = (1 : Int32) := ne 1 (by omega)
        have n2 : ¬ x2 = (2 : Int32) := ne 2 (by omega)
        have n3 : ¬ x2 = (3 : Int32) := ne 3 (by omega)
        dsimp only
        rw [if_neg n0, if_neg n1, if_neg n2, if_neg n3]
  · have ng : ∀ g, g < nW → x1 ≠ nI g := fun g h e => hg ⟨g, h, e⟩
    refine ⟨-1, ?_, ?_⟩
    · unfold wp_X6_wish
      exact sp_isWishC (by omega) (fun g h e => absurd e (ng g h)) (fun _ => br_t rfl rfl)
    · unfold wp_X7_wish
      exact sp_isWishM (by omega) (fun g h e => absurd e (ng g h)) (fun _ => br_t rfl rfl)
theorem eq_uses (C : TC told lst off lim nW V kd M' us wi it le gof li va kn mo wo u) (D : TM told lst off lim nW V kd M' us nG gl wo ga wi' lt ls ca go wr kn' mo' wf ue) (x1 x2 : Int32) : ∃ r : Int32, wp_X6_uses wi it u x1 x2 (fun y => y = r) ∧ wp_X7_uses ga wi' ue x1 x2 (fun y => y = r) := by
  obtain ⟨c1, c2, c3, c4, c5⟩ := C
  obtain ⟨E, d1, d2, d3, d4⟩ := D
  have E5 := E.1
  have hit : ∀ l, l < 5 → (it l = 0 ∨ it l = 1) ∧ (it l = 1 ↔ told l) := fun l hl => ⟨(c3 l hl).1, (c3 l hl).2.1⟩
  subst c1
  subst d1
  subst d2
  by_cases hw : ∃ w, w < nW ∧ x1 = nI w
  · obtain ⟨w, w1, w2⟩ := hw
    have cw : (nI w).toNatClampNeg = w := nI_clamp (by omega)
    by_cases hg : ∃ g, g < nG ∧ x2 = nI g
    · obtain ⟨g, g1, g2⟩ := hg
      have gu : ∀ g', g' < nG → x2 = nI g' → g' = g := fun g' h e => by
        rw [g2, nI_eq (by omega) (by omega)] at e
        exact e.symm
      have l5 := (E.2.1 g g1).1
      have cl : (nI (gl g)).toNatClampNeg = gl g := nI_clamp (by omega)
      have c5 : (nI (5 * w + g)).toNatClampNeg = 5 * w + g := nI_clamp (by omega)
      have uw := ((c4 w (by omega)).2.2.2.2.2.2.2.2.2.2 (gl g) l5).1
      refine ⟨iI (us w (gl g)), ?_, ?_⟩
      · unfold wp_X6_uses
        refine sp_letterOf E hit (fun g' h e => ?_) (fun n => absurd g2 (n g g1))
        rw [gu g' h e]
        refine sp_isWishC (by omega) (fun _ _ _ => br_f (by decide) (br_t (nI_pos' (by omega)) ?_)) (fun n => absurd w2 (n w w1))
        rw [w2, cw, cl]
        exact ⟨vp_in_nI (by omega) (by omega), vp_in_nI l5 (by omega), uw⟩
      · unfold wp_X7_uses
        refine sp_isWishM (by omega) (fun _ _ _ => br_f (by decide) (sp_isGateM (by omega) (fun _ _ _ => br_f (by decide) ?_) (fun n => absurd g2 (n g g1)))) (fun n => absurd w2 (n w w1))
        rw [w2, g2, ix5 w g, c5]
        exact ⟨vp_in_nI (by omega) (by omega), (d3 g g1).2.2.2.2.2.2 w w1⟩
    · have ng : ∀ g, g < nG → x2 ≠ nI g := fun g h e => hg ⟨g, h, e⟩
      refine ⟨-1, ?_, ?_⟩
      · unfold wp_X6_uses
        refine sp_letterOf E hit (fun g h e => absurd e (ng g h)) (fun _ => ?_)
        exact sp_isWishC (by omega) (fun _ _ _ => br_f (by decide) (br_f (by decide) rfl)) (fun n => absurd w2 (n w w1))
      · unfold wp_X7_uses
        exact sp_isWishM (by omega) (fun _ _ _ => br_f (by decide) (sp_isGateM (by omega) (fun g h e => absurd e (ng g h)) (fun _ => br_t rfl rfl))) (fun n => absurd w2 (n w w1))
  · have nw : ∀ w, w < nW → x1 ≠ nI w := fun g h e => hw ⟨g, h, e⟩
    refine ⟨-1, ?_, ?_⟩
    · unfold wp_X6_uses
      exact sp_letterOf E hit (fun g h e => sp_isWishC (by omega) (fun w h e => absurd e (nw w h)) (fun _ => br_t rfl rfl)) (fun _ => sp_isWishC (by omega) (fun w h e => absurd e (nw w h)) (fun _ => br_t rfl rfl))
    · unfold wp_X7_uses
      exact sp_isWishM (by omega) (fun g h e => absurd e (nw g h)) (fun _ => br_t rfl rfl)
end TAB
