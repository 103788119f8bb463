/-! gap, more -/
theorem sp_lessSide {a b c d : Int} {what : Int32} (ha : 0 ≤ a ∧ a ≤ 2000000000) (hb : 0 < b ∧ b ≤ 157464) (hc : 0 ≤ c ∧ c ≤ 2000000000) (hd : 0 < d ∧ d ≤ 157464) {post : Int64 → Prop} (h : post (lI (frc (a * d - c * b) (b * d) what))) : wp_X6_lessSide (lI a) (lI b) (lI c) (lI d) what post := by
  have m1 := ab_mul (x := a) (X := 2000000000) (y := d) (Y := 157464) (by omega) (by omega) (by omega) (by omega)
  have m2 := ab_mul (x := c) (X := 2000000000) (y := b) (Y := 157464) (by omega) (by omega) (by omega) (by omega)
  have m3 := ab_mul (x := b) (X := 157464) (y := d) (Y := 157464) (by omega) (by omega) (by omega) (by omega)
  have p := Int.mul_pos hb.1 hd.1
  unfold wp_X6_lessSide
  rw [lI_mul, lI_mul, lI_mul, lI_sub]
  exact sp_side ⟨by omega, by omega⟩ p (by omega) h
theorem sp_lessM {a b c d : Int} {what : Int32} (ha : 0 ≤ a ∧ a ≤ 2000000000) (hb : 0 < b ∧ b ≤ 157464) (hc : 0 ≤ c ∧ c ≤ 2000000000) (hd : 0 < d ∧ d ≤ 157464) {post : Int64 → Prop} (h : post (lI (frc (a * d - c * b) (b * d) what))) : wp_X7_told ((lI a * lI d) - (lI c * lI b)) (lI b * lI d) what post := by
  have m1 := ab_mul (x := a) (X := 2000000000) (y := d) (Y := 157464) (by omega) (by omega) (by omega) (by omega)
  have m2 := ab_mul (x := c) (X := 2000000000) (y := b) (Y := 157464) (by omega) (by omega) (by omega) (by omega)
  have m3 := ab_mul (x := b) (X := 157464) (y := d) (Y := 157464) (by omega) (by omega) (by omega) (by omega)
  have p := Int.mul_pos hb.1 hd.1
  rw [lI_mul, lI_mul, lI_mul, lI_sub]
  exact sp_toldM ⟨by omega, by omega⟩ p (by omega) h
theorem diff_eq {a b c d a' b' c' d' : Int} (b0 : 0 < b) (d0 : 0 < d) (b0' : 0 < b') (d0' : 0 < d') (e1 : a * b' = a' * b) (e2 : c * d' = c' * d) (what : Int32) : frc (a * d - c * b) (b * d) what = frc (a' * d' - c' * b') (b' * d') what :=
  frc_eq (Int.mul_pos b0 d0) (Int.mul_pos b0' d0') (by grind) what
theorem upd_back (f : Nat → Int32) (k : Nat) (a : Int32) : upd (upd f k a) k (f k) = f := by
  funext j
  by_cases e : j = k
  · subst e; rw [pk_us]
  · rw [pk_un e, pk_un e]
section MORE
variable {told lst off : Nat → Prop} {lim : Nat → Int} {nW : Nat} {V kd M' : Nat → Int} {us : Nat → Nat → Int} {wi : Int32} {it le gof li va kn mo wo : Nat → Int32} {u : Nat → Nat → Int32} {nG : Nat} {gl : Nat → Nat} {ga wi' : Int32} {lt ls ca go wr kn' mo' wf ue : Nat → Int32}
theorem RB_loose {k : Nat → Int} {h h' : Prop} {q q' : Nat → Int} {g g' : Int} (a : RB told lst off lim nW V k M' us wo h q g) (b : RB told lst off lim nW V (fun _ => 0) M' us wo h' q' g') (z : h) : h' := by
  by_cases y : h'
  · exact y
  · refine (b.2 y q g (a.1 z).1 (fun w hw => ⟨fun e => ?_, fun e => ?_⟩)).elim
    · exact absurd (show (0 : Int) = 1 from e) (by decide)
    · exact absurd (show (0 : Int) = 2 from e) (by decide)
theorem vq_le (hM : ∀ w, w < 4 → 0 ≤ M' w ∧ M' w ≤ 12) (hV : ∀ w, w < 4 → 0 ≤ V w ∧ V w ≤ 198) {k : Nat → Int} {G : (Nat → Int) → Int → Prop} {q : Nat → Int} {g : Int} (a : IsB V (aM nW wo M') k G q g) (hg : g ≤ 157464) : (0 ≤ dot V q ∧ dot V q ≤ 2000000000) ∧ 0 < g ∧ g ≤ 157464 := by
  obtain ⟨g0, hq⟩ := IsB_q hM a
  have := dot_le hV (q := q) (B := 12 * g) hq
  omega
/-- two bests, one after the other: what the second has more -/
def AD (P1 P2 : Prop → (Nat → Int) → Int → Prop) (c1 c2 : (Nat → Int) → Int) (what : Int32) (r : Int64) : Prop :=
  ∃ (h : Prop) (q : Nat → Int) (g : Int), P1 h q g ∧ (¬ h → r = NOL) ∧ (h → ∃ (h2 : Prop) (q2 : Nat → Int) (g2 : Int), P2 h2 q2 g2 ∧ (¬ h2 → r = NOL) ∧ (h2 → r = lI (frc (c2 q2 * g - c1 q * g2) (g2 * g) what)))
theorem AD_one {P1 P2 : Prop → (Nat → Int) → Int → Prop} {c1 c2 : (Nat → Int) → Int} {what : Int32} (u1 : ∀ h q g h' q' g', P1 h q g → P1 h' q' g' → (h ↔ h') ∧ (h → 0 < g ∧ 0 < g' ∧ c1 q * g' = c1 q' * g)) (u2 : ∀ h q g h' q' g', P2 h q g → P2 h' q' g' → (h ↔ h') ∧ (h → 0 < g ∧ 0 < g' ∧ c2 q * g' = c2 q' * g)) {r r' : Int64} (a : AD P1 P2 c1 c2 what r) (b : AD P1 P2 c1 c2 what r') : r = r' := by
  obtain ⟨h, q, g, a1, a2, a3⟩ := a
  obtain ⟨h', q', g', b1, b2, b3⟩ := b
  obtain ⟨e, s⟩ := u1 _ _ _ _ _ _ a1 b1
  by_cases z : h
  · obtain ⟨h2, q2, g2, a4, a5, a6⟩ := a3 z
    obtain ⟨h2', q2', g2', b4, b5, b6⟩ := b3 (e.mp z)
    obtain ⟨e2, s2⟩ := u2 _ _ _ _ _ _ a4 b4
    by_cases y : h2
    · rw [a6 y, b6 (e2.mp y)]
      exact congrArg lI (diff_eq (s2 y).1 (s z).1 (s2 y).2.1 (s z).2.1 (s2 y).2.2 (s z).2.2 what)
    · rw [a5 y, b5 (fun w => y (e2.mpr w))]
  · rw [a2 z, b2 (fun w => z (e.mpr w))]
theorem RB_u {k : Nat → Int} (h : Prop) (q : Nat → Int) (g : Int) (h' : Prop) (q' : Nat → Int) (g' : Int) (a : RB told lst off lim nW V k M' us wo h q g) (b : RB told lst off lim nW V k M' us wo h' q' g') : (h ↔ h') ∧ (h → 0 < g ∧ 0 < g' ∧ dot V q * g' = dot V q' * g) := by
  obtain ⟨e, s⟩ := RB_eq a b
  exact ⟨e, fun z => ⟨(a.1 z).1.1, (b.1 (e.mp z)).1.1, (s z).2⟩⟩
theorem eq_gap (C : TC told lst off lim nW V kd M' us wi it le gof li va kn mo wo u) (D : TM told lst off lim nW V kd M' us nG gl wo ga wi' lt ls ca go wr kn' mo' wf ue) {bk lk bh lh : Int32} {bv bl lv ll : Int64} {bx lx : Nat → Int64} (k0 : KN told lst off lim nW V kd M' us wo bk bh bv bl bx) (k1 : KN told lst off lim nW V (fun _ => 0) M' us wo lk lh lv ll lx)
    {ops hei held0 ph : Int32} {lw pv pl : Int64} {T : Nat → Nat → Int64} {fi opn : Nat → Int32} {px : Nat → Int64} {by_ bb bw : Int64} {ib pt : Int32} {x bx' row right m given : Nat → Int64} {part : Nat → Int32} (x1 : Int32) :
    ∃ Q : Int64 → Prop, (∀ r r', Q r → Q r' → r = r') ∧
      wp_X6_gap bk lk ops hei lw held0 T fi opn ph pv pl px bh bv bl bx lh lv ll lx wi it le gof li va kn mo wo u x1 (fun r bk lk _ _ _ _ _ _ _ _ _ _ _ bh bv bl bx lh lv ll lx => Q r ∧ KN told lst off lim nW V kd M' us wo bk bh bv bl bx ∧ KN told lst off lim nW V (fun _ => 0) M' us wo lk lh lv ll lx) ∧
      wp_X7_gap ga wi' by_ bb bw ib pt ls ca go wr kn' mo' wf ue x bx' part row right m given x1 (fun r _ _ _ _ _ _ _ _ _ _ _ _ => Q r) := by
  have F := TC_TF C
  obtain ⟨hM, hV⟩ := TF_M F
  by_cases ok : x1 = 0 ∨ x1 = 1
  · refine ⟨AD (RB told lst off lim nW V kd M' us wo) (RB told lst off lim nW V (fun _ => 0) M' us wo) (dot V) (dot V) x1, fun r r' a b => AD_one RB_u RB_u a b, ?_, ?_⟩
    · unfold wp_X6_gap
      refine sp_isSide (fun _ => br_f (by decide) ?_) (fun n => absurd ok n)
      refine sp_known0 F k0 (fun ops hei lw held T fi opn ph pv pl px fh fv fl fx h q g f1 f2 => br_t rfl ?_)
      refine sp_known1 F k1 (fun ops hei lw held T fi opn ph pv pl px fh2 fv2 fl2 fx2 h2 q2 g2 f3 f4 => br_f (by decide) ?_)
      have n1 := KN_1 f1 f2
      have n2 := KN_1 f3 f4
      rcases f1 with ⟨n, e⟩ | ⟨n, e1, e2, e3, e4, e5⟩
      · exact br_t e ⟨⟨h, q, g, f2, fun _ => rfl, fun y => absurd y n⟩, n1, n2⟩
      · refine br_f (by rw [e1]; decide) ?_
        rcases f3 with ⟨m, e⟩ | ⟨m, d1, d2, d3, d4, d5⟩
        · exact br_t e ⟨⟨h, q, g, f2, fun y => absurd n y, fun _ => ⟨h2, q2, g2, f4, fun _ => rfl, fun y => absurd y m⟩⟩, n1, n2⟩
        · refine br_f (by rw [d1]; decide) ?_
          have v1 := vq_le hM hV (f2.1 n) e4
          have v2 := vq_le hM hV (f4.1 m) d4
          subst e2
          subst e3
          subst d2
          subst d3
          exact sp_lessSide v2.1 v2.2 v1.1 v1.2 ⟨⟨h, q, g, f2, fun y => absurd n y, fun _ => ⟨h2, q2, g2, f4, fun y => absurd m y, fun _ => rfl⟩⟩, n1, n2⟩
    · unfold wp_X7_gap
      refine sp_sideM (fun _ => br_f (by decide) ?_) (fun n => absurd ok n)
      refine sp_findMM F D (Or.inl rfl) (fun by_ bb bw ib pt x bx row right m given part h q g f1 f2 => ?_)
      rw [if_pos rfl] at f2
      rcases f1 with ⟨n, e⟩ | ⟨n, e1, e2, e3, g0, e4, hq, e5⟩
      · exact br_t e ⟨h, q, g, f2, fun _ => rfl, fun y => absurd y n⟩
      · refine br_f (by rw [e1]; decide) ?_
        refine sp_findMM F D (Or.inr rfl) (fun by_ bb2 bw2 ib pt x bx row right m given part h2 q2 g2 f3 f4 => ?_)
        rw [if_neg (by decide)] at f4
        have z2 := RB_loose f2 f4 n
        rcases f3 with ⟨m, e⟩ | ⟨m, d1, d2, d3, g02, d4, hq2, d5⟩
        · exact absurd z2 m
        · have v1 := vq_le hM hV (f2.1 n) e4
          have v2 := vq_le hM hV (f4.1 m) d4
          rw [e2, e3, d2, d3]
          exact sp_lessM v2.1 v2.2 v1.1 v1.2 ⟨h, q, g, f2, fun y => absurd n y, fun _ => ⟨h2, q2, g2, f4, fun y => absurd m y, fun _ => rfl⟩⟩
  · refine ⟨fun r => r = NOL, fun r r' a b => by rw [a, b], ?_, ?_⟩
    · unfold wp_X6_gap
      exact sp_isSide (fun a => absurd a ok) (fun _ => br_t rfl ⟨rfl, k0, k1⟩)
    · unfold wp_X7_gap
      exact sp_sideM (fun a => absurd a ok) (fun _ => br_t rfl rfl)
/-- a gate's number one more -/
def lim1 (lim : Nat → Int) (l : Nat) : Nat → Int := fun j => if j = l then lim l + 1 else lim j
theorem TF_lim (C : TC told lst off lim nW V kd M' us wi it le gof li va kn mo wo u) {l : Nat} (hl : l < 5) : TF told lst off (lim1 lim l) nW V kd M' us wi it le gof (upd li l (li l + 1)) va kn mo wo u := by
  have F := TC_TF C
  obtain ⟨c1, c2, c3, c4, c5⟩ := F
  refine ⟨c1, c2, fun j hj => ?_, c4, c5⟩
  obtain ⟨a1, a2, a3, a4, a5, a6, a7, a8, a9⟩ := c3 j hj
  refine ⟨a1, a2, a3, a4, a5, a6, ?_, ?_⟩
  · by_cases e : j = l
    · subst e
      rw [pk_us, a7, show (1 : Int32) = iI 1 from rfl, iI_add]
      unfold lim1
      rw [if_pos rfl]
    · rw [pk_un e, a7]
      unfold lim1
      rw [if_neg e]
  · unfold lim1
    by_cases e : j = l
    · subst e
      rw [if_pos rfl]
      have := (C.2.2.1 j hj).2.2.2.2.2.2.2.2
      omega
    · rw [if_neg e]
      omega
theorem TM_lim (D : TM told lst off lim nW V kd M' us nG gl wo ga wi' lt ls ca go wr kn' mo' wf ue) {g : Nat} (hg : g < nG) : TM told lst off (lim1 lim (gl g)) nW V kd M' us nG gl wo ga wi' lt ls (upd ca g (ca g + 1)) go wr kn' mo' wf ue := by
  obtain ⟨E, d1, d2, d3, d4⟩ := D
  refine ⟨E, d1, d2, fun j hj => ?_, d4⟩
  obtain ⟨a1, a2, a3, a4, a5⟩ := d3 j hj
  refine ⟨a1, a2, a3, ?_, a5⟩
  by_cases e : j = g
  · subst e
    rw [pk_us, a4, show (1 : Int32) = iI 1 from rfl, iI_add]
    unfold lim1
    rw [if_pos rfl]
  · have ne : gl j ≠ gl g := by
      rcases Nat.lt_or_ge j g with z | z
      · have := E.2.2.1 j g z hg; omega
      · have := E.2.2.1 g j (by omega) hj; omega
    rw [pk_un e, a4]
    unfold lim1
    rw [if_neg ne]
theorem eq_more (C : TC told lst off lim nW V kd M' us wi it le gof li va kn mo wo u) (D : TM told lst off lim nW V kd M' us nG gl wo ga wi' lt ls ca go wr kn' mo' wf ue) {bk lk bh lh oh : Int32} {bv bl lv ll ov ol : Int64} {bx lx ox : Nat → Int64} (k0 : KN told lst off lim nW V kd M' us wo bk bh bv bl bx) (k1 : KN told lst off lim nW V (fun _ => 0) M' us wo lk lh lv ll lx)
    {ops hei held0 ph : Int32} {lw pv pl : Int64} {T : Nat → Nat → Int64} {fi opn : Nat → Int32} {px : Nat → Int64} {by_ bb bw : Int64} {ib pt : Int32} {x bx' row right m given : Nat → Int64} {part : Nat → Int32} (x1 x2 : Int32) :
    ∃ Q : Int64 → Prop, (∀ r r', Q r → Q r' → r = r') ∧
      wp_X6_more bk lk ops hei lw held0 T fi opn ph pv pl px bh bv bl bx lh lv ll lx oh ov ol ox wi it le gof li va kn mo wo u x1 x2 (fun r bk lk _ _ _ _ _ _ _ _ _ _ _ bh bv bl bx lh lv ll lx _ _ _ _ li' => Q r ∧ KN told lst off lim nW V kd M' us wo bk bh bv bl bx ∧ KN told lst off lim nW V (fun _ => 0) M' us wo lk lh lv ll lx ∧ li' = li) ∧
      wp_X7_more ga wi' by_ bb bw ib pt ls ca go wr kn' mo' wf ue x bx' part row right m given x1 x2 (fun r _ _ _ _ _ ca' _ _ _ _ _ _ _ => Q r ∧ ca' = ca) := by
  have F := TC_TF C
  obtain ⟨hM, hV⟩ := TF_M F
  have E := D.1
  have E5 := E.1
  have ega := D.2.1
  have d3 := D.2.2.2.1
  have c3 := C.2.2.1
  have hit : ∀ l, l < 5 → (it l = 0 ∨ it l = 1) ∧ (it l = 1 ↔ told l) := fun l hl => ⟨(c3 l hl).1, (c3 l hl).2.1⟩
  by_cases ok : ∃ g, g < nG ∧ x1 = nI g ∧ ¬ off (gl g) ∧ (x2 = 0 ∨ x2 = 1)
  · obtain ⟨g, g1, g2, g3, s2⟩ := ok
    have gu : ∀ g', g' < nG → x1 = nI g' → g' = g := fun g' h e => by
      rw [g2, nI_eq (by omega) (by omega)] at e
      exact e.symm
    have l5 := (E.2.1 g g1).1
    have cg : (nI g).toNatClampNeg = g := nI_clamp (by omega)
    have cl : (nI (gl g)).toNatClampNeg = gl g := nI_clamp (by omega)
    have F1 := TF_lim C l5
    have D1 := TM_lim D g1
    have gof0 : gof (gl g) = 0 := by
      obtain ⟨_, _, _, _, a5, a6, _⟩ := c3 (gl g) l5
      rcases a5 with z | z
      · exact z
      · exact absurd (a6.mp z) g3
    have go0 : go g = 0 := by
      obtain ⟨_, _, _, _, a5, a6, _⟩ := d3 g g1
      rcases a5 with z | z
      · exact z
      · exact absurd (a6.mp z) g3
    refine ⟨AD (RB told lst off lim nW V (fun _ => 0) M' us wo) (RB told lst off (lim1 lim (gl g)) nW V (fun _ => 0) M' us wo) (dot V) (dot V) x2, fun r r' a b => AD_one RB_u RB_u a b, ?_, ?_⟩
    · unfold wp_X6_more
      refine sp_letterOf E hit (fun g' h e => br_f (nI_pos (by have := (E.2.1 g' h).1; omega)) ?_) (fun n => absurd g2 (n g g1))
      rw [gu g' h e, cl]
      refine ⟨vp_in_nI l5 (by omega), br_t gof0 (sp_isSide (fun _ => br_f (by decide) ?_) (fun n => absurd s2 n))⟩
      refine sp_known1 F k1 (fun ops hei lw held T fi opn ph pv pl px fh fv fl fx h q g f1 f2 => br_f (by decide) ?_)
      have n1 := KN_1 f1 f2
      rcases f1 with ⟨n, e⟩ | ⟨n, e1, e2, e3, e4, e5⟩
      · exact br_t e ⟨⟨h, q, g, f2, fun _ => rfl, fun y => absurd y n⟩, k0, n1, rfl⟩
      · refine br_f (by rw [e1]; decide) ?_
        refine sp_heldFind F1 (Or.inr rfl) (fun ops hei lw held T fi opn ph pv pl px fh2 fv2 fl2 fx2 h2 q2 g2 f3 f4 => ?_)
        rw [if_neg (by decide)] at f4
        intro v hv f hf
        have ef : f = li := by
          rw [hf, hv, pk_us, Int32.add_sub_cancel]
          exact upd_back li _ _
        rcases f3 with ⟨m, e⟩ | ⟨m, d1, d2, d3, d4, d5⟩
        · exact br_t e ⟨⟨h, q, g, f2, fun y => absurd n y, fun _ => ⟨h2, q2, g2, f4, fun _ => rfl, fun y => absurd y m⟩⟩, k0, n1, ef⟩
        · refine br_f (by rw [d1]; decide) ?_
          have v1 := vq_le hM hV (f2.1 n) e4
          have v2 := vq_le hM hV (f4.1 m) d4
          subst e2
          subst e3
          subst d2
          subst d3
          exact sp_lessSide v2.1 v2.2 v1.1 v1.2 ⟨⟨h, q, g, f2, fun y => absurd n y, fun _ => ⟨h2, q2, g2, f4, fun y => absurd m y, fun _ => rfl⟩⟩, k0, n1, ef⟩
    · unfold wp_X7_more
      rw [ega]
      refine sp_isGateM (by omega) (fun g' h e => br_f (by decide) ?_) (fun n => absurd g2 (n g g1))
      rw [g2, cg]
      refine ⟨vp_in_nI (by omega) (by omega), br_t go0 (sp_sideM (fun _ => br_f (by decide) ?_) (fun n => absurd s2 n))⟩
      rw [← ega]
      refine sp_findMM F D (Or.inr rfl) (fun by_ bb bw ib pt x bx row right m given part h q g f1 f2 => ?_)
      rw [if_neg (by decide)] at f2
      rcases f1 with ⟨n, e⟩ | ⟨n, e1, e2, e3, g0, e4, hq, e5⟩
      · exact br_t e ⟨⟨h, q, g, f2, fun _ => rfl, fun y => absurd y n⟩, rfl⟩
      · refine br_f (by rw [e1]; decide) ?_
        refine sp_findMM F1 D1 (Or.inr rfl) (fun by_ bb2 bw2 ib pt x bx row right m given part h2 q2 g2 f3 f4 => ?_)
        rw [if_neg (by decide)] at f4
        intro v hv f hf
        have ef : f = ca := by
          rw [hf, hv, pk_us, Int32.add_sub_cancel]
          exact upd_back ca _ _
        rcases f3 with ⟨m, e⟩ | ⟨m, d1, d2, d3, g02, d4, hq2, d5⟩
        · exact br_t e ⟨⟨h, q, g, f2, fun y => absurd n y, fun _ => ⟨h2, q2, g2, f4, fun _ => rfl, fun y => absurd y m⟩⟩, ef⟩
        · refine br_f (by rw [d1]; decide) ?_
          have v1 := vq_le hM hV (f2.1 n) e4
          have v2 := vq_le hM hV (f4.1 m) d4
          rw [e2, e3, d2, d3]
          exact sp_lessM v2.1 v2.2 v1.1 v1.2 ⟨⟨h, q, g, f2, fun y => absurd n y, fun _ => ⟨h2, q2, g2, f4, fun y => absurd m y, fun _ => rfl⟩⟩, ef⟩
  · refine ⟨fun r => r = NOL, fun r r' a b => by rw [a, b], ?_, ?_⟩
    · unfold wp_X6_more
      refine sp_letterOf E hit (fun g' h e => br_f (nI_pos (by have := (E.2.1 g' h).1; omega)) ?_) (fun _ => br_t (by decide) ⟨rfl, k0, k1, rfl⟩)
      have l5 := (E.2.1 g' h).1
      have cl : (nI (gl g')).toNatClampNeg = gl g' := nI_clamp (by omega)
      rw [cl]
      refine ⟨vp_in_nI l5 (by omega), br_c (fun z => sp_isSide (fun s => ?_) (fun _ => br_t rfl ⟨rfl, k0, k1, rfl⟩)) (fun _ => ⟨rfl, k0, k1, rfl⟩)⟩
      refine absurd ⟨g', h, e, fun o => ?_, s⟩ ok
      have := (c3 (gl g') l5).2.2.2.2.2.1.mpr o
      rw [z] at this
      exact absurd this (by decide)
    · unfold wp_X7_more
      rw [ega]
      refine sp_isGateM (by omega) (fun g' h e => br_f (by decide) ?_) (fun _ => br_t rfl ⟨rfl, rfl⟩)
      have cg : (nI g').toNatClampNeg = g' := nI_clamp (by omega)
      rw [e, cg]
      refine ⟨vp_in_nI (by omega) (by omega), br_c (fun z => sp_sideM (fun s => ?_) (fun _ => br_t rfl ⟨rfl, rfl⟩)) (fun _ => ⟨rfl, rfl⟩)⟩
      refine absurd ⟨g', h, e, fun o => ?_, s⟩ ok
      have := (d3 g' h).2.2.2.2.2.1.mpr o
      rw [z] at this
      exact absurd this (by decide)
end MORE
