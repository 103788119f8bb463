/-! core -/
section CORE
variable {told lst off : Nat → Prop} {lim : Nat → Int} {nW : Nat} {V kd M' : Nat → Int} {us : Nat → Nat → Int} {wi : Int32} {it le gof li va kn mo wo : Nat → Int32} {u : Nat → Nat → Int32} {nG : Nat} {gl : Nat → Nat} {ga wi' : Int32} {lt ls ca go wr kn' mo' wf ue : Nat → Int32}
/-- without w the best is none, or worth less -/
def LW (told lst off : Nat → Prop) (lim : Nat → Int) (nW : Nat) (V k M' : Nat → Int) (us : Nat → Nat → Int) (wo : Nat → Int32) (w : Nat) : Prop :=
  wo w = 0 ∧ ∀ (h : Prop) (q : Nat → Int) (g : Int) (h2 : Prop) (q2 : Nat → Int) (g2 : Int), RB told lst off lim nW V k M' us wo h q g → RB told lst off lim nW V k M' us (upd wo w 1) h2 q2 g2 → h → h2 → ¬ dot V q * g2 ≤ dot V q2 * g
theorem frac_le {a b c d a' b' c' d' : Int} (b0 : 0 < b) (d0 : 0 < d) (b0' : 0 < b') (d0' : 0 < d') (e1 : a * b' = a' * b) (e2 : c * d' = c' * d) (h : a * d ≤ c * b) : a' * d' ≤ c' * b' := by
  have p := Int.mul_pos b0 d0
  have h1 := Int.mul_le_mul_of_nonneg_right h (Int.le_of_lt (Int.mul_pos b0' d0'))
  have z1 : a * d * (b' * d') = (b * d) * (a' * d') := by grind
  have z2 : c * b * (b' * d') = (b * d) * (c' * b') := by grind
  rw [z1, z2] at h1
  exact Int.le_of_mul_le_mul_left h1 p
theorem LW_iff {k : Nat → Int} {w : Nat} {h : Prop} {q : Nat → Int} {g : Int} {h2 : Prop} {q2 : Nat → Int} {g2 : Int} (a : RB told lst off lim nW V k M' us wo h q g) (y : h) (b : RB told lst off lim nW V k M' us (upd wo w 1) h2 q2 g2) : LW told lst off lim nW V k M' us wo w ↔ wo w = 0 ∧ (h2 → ¬ dot V q * g2 ≤ dot V q2 * g) := by
  refine ⟨fun z => ⟨z.1, fun t => z.2 _ _ _ _ _ _ a b y t⟩, fun z => ⟨z.1, fun h' q' g' h2' q2' g2' a' b' y' t' l => ?_⟩⟩
  obtain ⟨_, s1⟩ := RB_u _ _ _ _ _ _ a' a
  obtain ⟨s0, s2⟩ := RB_u _ _ _ _ _ _ b' b
  obtain ⟨p1, p2, p3⟩ := s1 y'
  obtain ⟨p4, p5, p6⟩ := s2 t'
  exact z.2 (s0.mp t') (frac_le p1 p4 p2 p5 p3 p6 l)
def CO (told lst off : Nat → Prop) (lim : Nat → Int) (nW : Nat) (V k M' : Nat → Int) (us : Nat → Nat → Int) (wo : Nat → Int32) (r : Int32) : Prop :=
  ∃ (h : Prop) (q : Nat → Int) (g : Int), RB told lst off lim nW V k M' us wo h q g ∧ (¬ h → r = -9) ∧ (h → ∃ m, r = nI m ∧ m < 2 ^ nW ∧ ∀ w, w < nW → (m.testBit w = true ↔ LW told lst off lim nW V k M' us wo w))
theorem bits_one {n a b : Nat} {P : Nat → Prop} (ha : a < 2 ^ n) (hb : b < 2 ^ n) (h1 : ∀ w, w < n → (a.testBit w = true ↔ P w)) (h2 : ∀ w, w < n → (b.testBit w = true ↔ P w)) : a = b := by
  refine Nat.eq_of_testBit_eq (fun i => ?_)
  rcases Nat.lt_or_ge i n with z | z
  · have e1 := h1 i z
    have e2 := h2 i z
    cases x : a.testBit i <;> cases y : b.testBit i <;> simp_all
  · have pw : 2 ^ n ≤ 2 ^ i := Nat.pow_le_pow_right (by omega) z
    rw [Nat.testBit_lt_two_pow (by omega), Nat.testBit_lt_two_pow (by omega)]
theorem CO_one {k : Nat → Int} {r r' : Int32} (a : CO told lst off lim nW V k M' us wo r) (b : CO told lst off lim nW V k M' us wo r') : r = r' := by
  obtain ⟨h, q, g, a1, a2, a3⟩ := a
  obtain ⟨h', q', g', b1, b2, b3⟩ := b
  obtain ⟨e, _⟩ := RB_u _ _ _ _ _ _ a1 b1
  by_cases z : h
  · obtain ⟨m, a4, a5, a6⟩ := a3 z
    obtain ⟨m', b4, b5, b6⟩ := b3 (e.mp z)
    rw [a4, b4, bits_one a5 b5 a6 b6]
  · rw [a2 z, b2 (fun y => z (e.mpr y))]
theorem bit_in {m i : Nat} {P : Nat → Prop} (h : m < 2 ^ i) (hm : ∀ w, w < i → (m.testBit w = true ↔ P w)) (p : P i) : m ||| 2 ^ i < 2 ^ (i + 1) ∧ ∀ w, w < i + 1 → ((m ||| 2 ^ i).testBit w = true ↔ P w) := by
  have pw : 2 ^ (i + 1) = 2 ^ i * 2 := Nat.pow_succ 2 i
  refine ⟨Nat.or_lt_two_pow (by omega) (by omega), fun l hl => ?_⟩
  rw [Nat.testBit_or, Nat.testBit_two_pow]
  by_cases q : l = i
  · subst q
    simp [p]
  · have : ¬ i = l := fun w => q w.symm
    simp only [this, decide_false, Bool.or_false]
    exact hm l (by omega)
theorem bit_out {m i : Nat} {P : Nat → Prop} (h : m < 2 ^ i) (hm : ∀ w, w < i → (m.testBit w = true ↔ P w)) (p : ¬ P i) : m < 2 ^ (i + 1) ∧ ∀ w, w < i + 1 → (m.testBit w = true ↔ P w) := by
  have pw : 2 ^ (i + 1) = 2 ^ i * 2 := Nat.pow_succ 2 i
  refine ⟨by omega, fun l hl => ?_⟩
  by_cases q : l = i
  · subst q
    rw [Nat.testBit_lt_two_pow h]
    exact ⟨fun y => absurd y (by decide), fun y => absurd y p⟩
  · exact hm l (by omega)
theorem le_prod {a b c d : Int} (ha : 0 ≤ a ∧ a ≤ 2000000000) (hb : 0 < b ∧ b ≤ 157464) (hc : 0 ≤ c ∧ c ≤ 2000000000) (hd : 0 < d ∧ d ≤ 157464) : lI a * lI d ≤ lI c * lI b ↔ a * d ≤ c * b := by
  have m1 := ab_mul (x := a) (X := 2000000000) (y := d) (Y := 157464) (by omega) (by omega) (by omega) (by omega)
  have m2 := ab_mul (x := c) (X := 2000000000) (y := b) (Y := 157464) (by omega) (by omega) (by omega) (by omega)
  rw [lI_mul, lI_mul]
  exact lI_le ⟨by omega, by omega⟩ ⟨by omega, by omega⟩
abbrev S16 := Int32 × Int32 × Int32 × Int64 × Int32 × (Nat → Nat → Int64) × (Nat → Int32) × (Nat → Int32) × Int32 × Int64 × Int64 × (Nat → Int64) × Int32 × Int64 × Int64 × (Nat → Int64) × (Nat → Int32)
abbrev SM14 := Int32 × Int64 × Int64 × Int64 × Int32 × Int32 × (Nat → Int32) × (Nat → Int64) × (Nat → Int64) × (Nat → Int32) × (Nat → Int64) × (Nat → Int64) × (Nat → Int64) × (Nat → Int64)
theorem eq_core (C : TC told lst off lim nW V kd M' us wi it le gof li va kn mo wo u) (D : TM told lst off lim nW V kd M' us nG gl wo ga wi' lt ls ca go wr kn' mo' wf ue) {bk lk bh lh oh : Int32} {bv bl lv ll ov ol : Int64} {bx lx ox : Nat → Int64} (k0 : KN told lst off lim nW V kd M' us wo bk bh bv bl bx) (k1 : KN told lst off lim nW V (fun _ => 0) M' us wo lk lh lv ll lx)
    {ops hei held0 ph : Int32} {lw pv pl : Int64} {T : Nat → Nat → Int64} {fi opn : Nat → Int32} {px : Nat → Int64} {by_ bb bw : Int64} {ib pt : Int32} {x bx' row right m given : Nat → Int64} {part : Nat → Int32} :
    ∃ Q : Int32 → Prop, (∀ r r', Q r → Q r' → r = r') ∧
      wp_X6_core bk lk ops hei lw held0 T fi opn ph pv pl px bh bv bl bx lh lv ll lx oh ov ol ox wi it le gof li va kn mo wo u (fun r bk lk _ _ _ _ _ _ _ _ _ _ _ bh bv bl bx lh lv ll lx _ _ _ _ wo' => Q r ∧ KN told lst off lim nW V kd M' us wo bk bh bv bl bx ∧ KN told lst off lim nW V (fun _ => 0) M' us wo lk lh lv ll lx ∧ wo' = wo) ∧
      wp_X7_core ga wi' by_ bb bw ib pt ls ca go wr kn' mo' wf ue x bx' part row right m given (fun r _ _ _ _ _ wf' _ _ _ _ _ _ _ => Q r ∧ wf' = wf) := by
  have F := TC_TF C
  obtain ⟨hM, hV⟩ := TF_M F
  have hW := C.2.1
  have ewi := C.1
  have ewi' := D.2.2.1
  refine ⟨CO told lst off lim nW V kd M' us wo, fun r r' a b => CO_one a b, ?_, ?_⟩
  · unfold wp_X6_core
    refine sp_known0 F k0 (fun ops hei lw held T fi opn ph pv pl px fh fv fl fx h q g f1 f2 => br_t rfl ?_)
    have n1 := KN_1 f1 f2
    rcases f1 with ⟨n, e⟩ | ⟨n, e1, e2, e3, e4, e5⟩
    · exact br_t e ⟨⟨h, q, g, f2, fun _ => rfl, fun y => absurd y n⟩, n1, k1, rfl⟩
    · refine br_f (by rw [e1]; decide) ?_
      have v1 := vq_le hM hV (f2.1 n) e4
      subst e2
      subst e3
      refine pk_loop (σ := S16) (fun m i s => wl_X6_core_20 1 lk fh (lI (dot V q)) (lI g) fx lh lv ll lx wi it le gof li va kn mo u _ _ m s.1 (nI i) s.2.1 s.2.2.1 s.2.2.2.1 s.2.2.2.2.1 s.2.2.2.2.2.1 s.2.2.2.2.2.2.1 s.2.2.2.2.2.2.2.1 s.2.2.2.2.2.2.2.2.1 s.2.2.2.2.2.2.2.2.2.1 s.2.2.2.2.2.2.2.2.2.2.1 s.2.2.2.2.2.2.2.2.2.2.2.1 s.2.2.2.2.2.2.2.2.2.2.2.2.1 s.2.2.2.2.2.2.2.2.2.2.2.2.2.1 s.2.2.2.2.2.2.2.2.2.2.2.2.2.2.1 s.2.2.2.2.2.2.2.2.2.2.2.2.2.2.2.1 s.2.2.2.2.2.2.2.2.2.2.2.2.2.2.2.2) (fun i s => s.2.2.2.2.2.2.2.2.2.2.2.2.2.2.2.2 = wo ∧ ∃ m, s.1 = nI m ∧ m < 2 ^ i ∧ ∀ w, w < i → (m.testBit w = true ↔ LW told lst off lim nW V kd M' us wo w)) nW 0 (0, ops, hei, lw, held, T, fi, opn, ph, pv, pl, px, oh, ov, ol, ox, wo) (by omega) ⟨rfl, 0, rfl, by decide, fun w hw => by omega⟩ (fun m s hs => ?_) (fun m i s hi hs kk => ?_)
      · show ws_X6_core_20 _ _ _ _ _ _ _ _ _ _ _ _ _ _ _ _ _ _ _ _ _ _ _ _ _ _ _ _ _ _ _ _ _ _ _ _ _ _ _ _
        unfold ws_X6_core_20
        refine br_t (by rw [ewi]; exact Int32.le_refl _) ?_
        obtain ⟨w1, w2⟩ := hs
        exact ⟨⟨h, q, g, f2, fun y => absurd n y, fun _ => w2⟩, n1, k1, w1⟩
      · show ws_X6_core_20 _ _ _ _ _ _ _ _ _ _ _ _ _ _ _ _ _ _ _ _ _ _ _ _ _ _ _ _ _ _ _ _ _ _ _ _ _ _ _ _
        unfold ws_X6_core_20
        obtain ⟨x2, a1, a2, a3, a4, a5, a6, a7, a8, a9, a10, a11, a12, a13, a14, a15, wo1⟩ := s
        obtain ⟨w1, m2, w2, w3, w4⟩ := hs
        (try dsimp only at w1 w2)
        subst w1
        subst w2
        have ci : (nI i).toNatClampNeg = i := nI_clamp (by omega)
        refine br_f (by rw [ewi]; exact nI_ge hi (by omega)) ⟨vp_in_nI (by omega) (by omega), ?_⟩
        rw [ci]
        refine br_c (fun (z : wo1 i = 0) => ?_) (fun (z : ¬ wo1 i = 0) => ?_)
        · refine sp_findWithout F (by omega) (fun b1 b2 b3 b4 b5 b6 b7 b8 b9 b10 b11 fh2 fv2 fl2 fx2 h2 q2 g2 f3 f4 => ?_)
          have L := LW_iff f2 n f4
          have inn := fun l => kk (nI (m2 ||| 2 ^ i), b1, b2, b3, b4, b5, b6, b7, b8, b9, b10, b11, fh2, fv2, fl2, fx2, wo1) ⟨rfl, _, rfl, (bit_in w3 w4 l).1, (bit_in w3 w4 l).2⟩
          rcases f3 with ⟨m, e⟩ | ⟨m, d1, d2, d3, d4, d5⟩
          · exact br_t e (by unfold wj_X6_core_89; rw [shl_1 (by omega), nI_or, nI_1 i]; exact inn (L.mpr ⟨z, fun y => absurd y m⟩))
          · refine br_f (by rw [d1]; decide) ?_
            have v2 := vq_le hM hV (f4.1 m) d4
            have lp := le_prod v1.1 v1.2 v2.1 v2.2
            refine br_c (fun y => ?_) (fun y => ?_)
            · rw [nI_1 i]
              rw [d2, d3, lp] at y
              have := bit_out w3 w4 (fun l => (L.mp l).2 m y)
              exact kk (nI m2, b1, b2, b3, b4, b5, b6, b7, b8, b9, b10, b11, fh2, fv2, fl2, fx2, wo1) ⟨rfl, _, rfl, this.1, this.2⟩
            · rw [d2, d3, lp] at y
              unfold wj_X6_core_89
              rw [shl_1 (by omega), nI_or, nI_1 i]
              exact inn (L.mpr ⟨z, fun _ => y⟩)
        · rw [nI_1 i]
          have := bit_out w3 w4 (fun l => z l.1)
          exact kk (nI m2, a1, a2, a3, a4, a5, a6, a7, a8, a9, a10, a11, a12, a13, a14, a15, wo1) ⟨rfl, _, rfl, this.1, this.2⟩
  · unfold wp_X7_core
    refine sp_findMM F D (Or.inl rfl) (fun by_ bb bw ib pt x bx row right m given part h q g f1 f2 => ?_)
    rw [if_pos rfl] at f2
    rcases f1 with ⟨n, e⟩ | ⟨n, e1, e2, e3, g0, e4, hq, e5⟩
    · exact br_t e ⟨⟨h, q, g, f2, fun _ => rfl, fun y => absurd y n⟩, rfl⟩
    · refine br_f (by rw [e1]; decide) ?_
      have v1 := vq_le hM hV (f2.1 n) e4
      subst e2
      subst e3
      refine pk_loop (σ := SM14) (fun m i s => wl_X7_core_27 (lI (dot V q)) (lI g) ga wi' ls ca go wr kn' mo' ue _ _ m s.1 (nI i) s.2.1 s.2.2.1 s.2.2.2.1 s.2.2.2.2.1 s.2.2.2.2.2.1 s.2.2.2.2.2.2.1 s.2.2.2.2.2.2.2.1 s.2.2.2.2.2.2.2.2.1 s.2.2.2.2.2.2.2.2.2.1 s.2.2.2.2.2.2.2.2.2.2.1 s.2.2.2.2.2.2.2.2.2.2.2.1 s.2.2.2.2.2.2.2.2.2.2.2.2.1 s.2.2.2.2.2.2.2.2.2.2.2.2.2) (fun i s => s.2.2.2.2.2.2.1 = wf ∧ ∃ m, s.1 = nI m ∧ m < 2 ^ i ∧ ∀ w, w < i → (m.testBit w = true ↔ LW told lst off lim nW V kd M' us wo w)) nW 0 (0, by_, lI g, lI (dot V q), ib, pt, wf, x, bx, part, row, right, m, given) (by omega) ⟨rfl, 0, rfl, by decide, fun w hw => by omega⟩ (fun m s hs => ?_) (fun m i s hi hs kk => ?_)
      · show ws_X7_core_27 _ _ _ _ _ _ _ _ _ _ _ _ _ _ _ _ _ _ _ _ _ _ _ _ _ _ _ _ _
        unfold ws_X7_core_27
        refine br_t (by rw [ewi']; exact Int32.le_refl _) ?_
        obtain ⟨w1, w2⟩ := hs
        exact ⟨⟨h, q, g, f2, fun y => absurd n y, fun _ => w2⟩, w1⟩
      · show ws_X7_core_27 _ _ _ _ _ _ _ _ _ _ _ _ _ _ _ _ _ _ _ _ _ _ _ _ _ _ _ _ _
        unfold ws_X7_core_27
        obtain ⟨x5, a1, a2, a3, a4, a5, wf1, a7, a8, a9, a10, a11, a12, a13⟩ := s
        obtain ⟨w1, m2, w2, w3, w4⟩ := hs
        (try dsimp only at w1 w2)
        subst w1
        subst w2
        have ci : (nI i).toNatClampNeg = i := nI_clamp (by omega)
        have ew := (D.2.2.2.2 i hi).2.2.2
        refine br_f (by rw [ewi']; exact nI_ge hi (by omega)) ⟨vp_in_nI (by omega) (by omega), ?_⟩
        rw [ci, nar_1, nar_0]
        refine br_c (fun (z : wf1 i = 0) => ?_) (fun (z : ¬ wf1 i = 0) => ?_)
        · refine sp_findMM (TF_off F i) (TM_off D i) (Or.inl rfl) (fun by_ bb2 bw2 ib pt x bx row right m given part h2 q2 g2 f3 f4 => ?_)
          rw [if_pos rfl] at f4
          intro f hf
          have ef : f = wf1 := by
            rw [hf, ← z]
            exact upd_back wf1 i 1
          subst ef
          rw [ew] at z
          have L := LW_iff f2 n f4
          have inn := fun l => kk (nI (m2 ||| 2 ^ i), by_, bb2, bw2, ib, pt, f, x, bx, part, row, right, m, given) ⟨rfl, _, rfl, (bit_in w3 w4 l).1, (bit_in w3 w4 l).2⟩
          rcases f3 with ⟨n2, e⟩ | ⟨n2, d1, d2, d3, g02, d4, hq2, d5⟩
          · exact br_t e (by unfold wj_X7_core_92; rw [shl_1 (by omega), nI_or, nI_1 i]; exact inn (L.mpr ⟨z, fun y => absurd y n2⟩))
          · refine br_f (by rw [d1]; decide) ?_
            have v2 := vq_le hM hV (f4.1 n2) d4
            have lp := le_prod v1.1 v1.2 v2.1 v2.2
            refine br_c (fun y => ?_) (fun y => ?_)
            · rw [nI_1 i, Int32.or_zero]
              rw [d2, d3, lp] at y
              have := bit_out w3 w4 (fun l => (L.mp l).2 n2 y)
              exact kk (nI m2, by_, bb2, bw2, ib, pt, f, x, bx, part, row, right, m, given) ⟨rfl, _, rfl, this.1, this.2⟩
            · rw [d2, d3, lp] at y
              unfold wj_X7_core_92
              rw [shl_1 (by omega), nI_or, nI_1 i]
              exact inn (L.mpr ⟨z, fun _ => y⟩)
        · rw [nI_1 i]
          rw [ew] at z
          have := bit_out w3 w4 (fun l => z l.1)
          exact kk (nI m2, a1, a2, a3, a4, a5, wf1, a7, a8, a9, a10, a11, a12, a13) ⟨rfl, _, rfl, this.1, this.2⟩
end CORE
