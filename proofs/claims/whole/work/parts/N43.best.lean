/-! best, worth, gap -/
abbrev NOL : Int64 := -1000000000000000000
section BEST
variable {told lst off : Nat → Prop} {lim : Nat → Int} {nW : Nat} {V kd M' : Nat → Int} {us : Nat → Nat → Int} {wi : Int32} {it le gof li va kn mo wo : Nat → Int32} {u : Nat → Nat → Int32} {nG : Nat} {gl : Nat → Nat} {ga wi' : Int32} {lt ls ca go wr kn' mo' wf ue : Nat → Int32}
/-- an answer told of the best -/
def AB (told lst off : Nat → Prop) (lim : Nat → Int) (nW : Nat) (V k M' : Nat → Int) (us : Nat → Nat → Int) (wo : Nat → Int32) (f : (Nat → Int) → Int → Int64) (r : Int64) : Prop :=
  ∃ (h : Prop) (q : Nat → Int) (g : Int), RB told lst off lim nW V k M' us wo h q g ∧ (h → r = f q g) ∧ (¬ h → r = NOL)
theorem AB_one {k : Nat → Int} {f : (Nat → Int) → Int → Int64} (hf : ∀ (q q' : Nat → Int) (g g' : Int), 0 < g → 0 < g' → (∀ w, w < 4 → q w * g' = q' w * g) → dot V q * g' = dot V q' * g → f q g = f q' g') {r r' : Int64} (a : AB told lst off lim nW V k M' us wo f r) (b : AB told lst off lim nW V k M' us wo f r') : r = r' := by
  obtain ⟨h, q, g, a1, a2, a3⟩ := a
  obtain ⟨h', q', g', b1, b2, b3⟩ := b
  obtain ⟨e, s⟩ := RB_eq a1 b1
  by_cases z : h
  · rw [a2 z, b2 (e.mp z)]
    exact hf q q' g g' (a1.1 z).1.1 (b1.1 (e.mp z)).1.1 (s z).1 (s z).2
  · rw [a3 z, b3 (fun y => z (e.mpr y))]
theorem IsB_q {k : Nat → Int} {G : (Nat → Int) → Int → Prop} (hM : ∀ w, w < 4 → 0 ≤ M' w ∧ M' w ≤ 12) {q : Nat → Int} {g : Int} (a : IsB V (aM nW wo M') k G q g) : 0 < g ∧ ∀ w, w < 4 → 0 ≤ q w ∧ q w ≤ 12 * g := by
  refine ⟨a.1.1, fun w hw => ?_⟩
  have b := a.1.2.1 w hw
  have c : aM nW wo M' w ≤ 12 := by
    unfold aM
    split
    · exact (hM w hw).2
    · omega
  have d := Int.mul_le_mul_of_nonneg_right c (Int.le_of_lt a.1.1)
  exact ⟨b.1, by omega⟩
theorem TF_M (C : TF told lst off lim nW V kd M' us wi it le gof li va kn mo wo u) : (∀ w, w < 4 → 0 ≤ M' w ∧ M' w ≤ 12) ∧ (∀ w, w < 4 → 0 ≤ V w ∧ V w ≤ 198) :=
  ⟨fun w hw => ⟨(C.2.2.2.1 w hw).2.2.2.2.2.2.2.2.1, (C.2.2.2.1 w hw).2.2.2.2.2.2.2.2.2.1⟩, fun w hw => ⟨(C.2.2.2.1 w hw).2.1, (C.2.2.2.1 w hw).2.2.1⟩⟩
theorem eq_best (C : TC told lst off lim nW V kd M' us wi it le gof li va kn mo wo u) (D : TM told lst off lim nW V kd M' us nG gl wo ga wi' lt ls ca go wr kn' mo' wf ue) {bk lk bh lh : Int32} {bv bl lv ll : Int64} {bx lx : Nat → Int64} (k0 : KN told lst off lim nW V kd M' us wo bk bh bv bl bx) (k1 : KN told lst off lim nW V (fun _ => 0) M' us wo lk lh lv ll lx)
    {ops hei held0 ph : Int32} {lw pv pl : Int64} {T : Nat → Nat → Int64} {fi opn : Nat → Int32} {px : Nat → Int64} {by_ bb bw : Int64} {ib pt : Int32} {x bx' row right m given : Nat → Int64} {part : Nat → Int32} (x1 x2 x3 : Int32) :
    ∃ Q : Int64 → Prop, (∀ r r', Q r → Q r' → r = r') ∧
      wp_X6_best bk lk ops hei lw held0 T fi opn ph pv pl px bh bv bl bx lh lv ll lx wi it le gof li va kn mo wo u x1 x2 x3 (fun r bk lk _ _ _ _ _ _ _ _ _ _ _ bh bv bl bx lh lv ll lx => Q r ∧ KN told lst off lim nW V kd M' us wo bk bh bv bl bx ∧ KN told lst off lim nW V (fun _ => 0) M' us wo lk lh lv ll lx) ∧
      wp_X7_best ga wi' by_ bb bw ib pt ls ca go wr kn' mo' wf ue x bx' part row right m given x1 x2 x3 (fun r _ _ _ _ _ _ _ _ _ _ _ _ => Q r) := by
  have F := TC_TF C
  obtain ⟨hM, hV⟩ := TF_M F
  have hW := C.2.1
  have ewi := C.1
  have ewi' := D.2.2.1
  by_cases ok : (∃ w, w < nW ∧ x1 = nI w) ∧ (x2 = 0 ∨ x2 = 1) ∧ (x3 = 0 ∨ x3 = 1)
  · obtain ⟨⟨w, w1, w2⟩, s2, s3⟩ := ok
    have cw : (nI w).toNatClampNeg = w := nI_clamp (by omega)
    have nq : ∀ {n : Nat → Int} {g : Int}, (0 < g ∧ ∀ w, w < 4 → 0 ≤ n w ∧ n w ≤ 12 * g) → g ≤ 157464 → (-(2 ^ 60) ≤ n w ∧ n w ≤ 2 ^ 60) ∧ 0 < g ∧ g < 2 ^ 49 := fun z y => by
      have := z.2 w (by omega)
      omega
    refine ⟨AB told lst off lim nW V (if x2 = 1 then fun _ => 0 else kd) M' us wo (fun q g => lI (frc (q w) g x3)), fun r r' a b => AB_one (fun q q' g g' g0 g0' e _ => congrArg lI (frc_eq g0 g0' (e w (by omega)) x3)) a b, ?_, ?_⟩
    · unfold wp_X6_best
      rw [ewi]
      refine sp_isWishC (by omega) (fun _ _ _ => br_f (by decide) (sp_isSide (fun _ => br_f (by decide) (sp_isSide (fun _ => br_f (by decide) ?_) (fun n => absurd s3 n))) (fun n => absurd s2 n))) (fun n => absurd w2 (n w w1))
      refine br_c (fun z => ?_) (fun z => ?_)
      · unfold wj_X6_best_37
        rw [← ewi]
        refine sp_known1 F k1 (fun ops hei lw held T fi opn ph pv pl px fh fv fl fx h q g f1 f2 => br_f (by decide) ?_)
        rcases f1 with ⟨n, e⟩ | ⟨n, e1, e2, e3, e4, e5⟩
        · exact br_t e ⟨⟨h, q, g, by rw [if_pos z]; exact f2, fun y => absurd y n, fun _ => rfl⟩, k0, KN_1 (Or.inl ⟨n, e⟩) f2⟩
        · refine br_f (by rw [e1]; decide) ?_
          rw [w2, cw, e5 w (by omega), e3]
          obtain ⟨v1, v2, v3⟩ := nq (IsB_q hM (f2.1 n)) e4
          exact ⟨vp_in_nI (by omega) (by omega), sp_side v1 v2 v3 ⟨⟨h, q, g, by rw [if_pos z]; exact f2, fun _ => rfl, fun y => absurd n y⟩, k0, KN_1 (Or.inr ⟨n, e1, e2, rfl, e4, e5⟩) f2⟩⟩
      · unfold wj_X6_best_37
        rw [← ewi]
        refine sp_known0 F k0 (fun ops hei lw held T fi opn ph pv pl px fh fv fl fx h q g f1 f2 => br_t rfl ?_)
        rcases f1 with ⟨n, e⟩ | ⟨n, e1, e2, e3, e4, e5⟩
        · exact br_t e ⟨⟨h, q, g, by rw [if_neg z]; exact f2, fun y => absurd y n, fun _ => rfl⟩, KN_1 (Or.inl ⟨n, e⟩) f2, k1⟩
        · refine br_f (by rw [e1]; decide) ?_
          rw [w2, cw, e5 w (by omega), e3]
          obtain ⟨v1, v2, v3⟩ := nq (IsB_q hM (f2.1 n)) e4
          exact ⟨vp_in_nI (by omega) (by omega), sp_side v1 v2 v3 ⟨⟨h, q, g, by rw [if_neg z]; exact f2, fun _ => rfl, fun y => absurd n y⟩, KN_1 (Or.inr ⟨n, e1, e2, rfl, e4, e5⟩) f2, k1⟩⟩
    · have fin : ∀ lo : Int32, (lo = 0 ∨ lo = 1) → (if lo = 0 then kd else fun _ => 0) = (if x2 = 1 then fun _ => 0 else kd) → wj_X7_best_39 x1 x3 lo ga wi' by_ bb bw ib pt ls ca go wr kn' mo' wf ue x bx' part row right m given (fun r _ _ _ _ _ _ _ _ _ _ _ _ => AB told lst off lim nW V (if x2 = 1 then fun _ => 0 else kd) M' us wo (fun q g => lI (frc (q w) g x3)) r) := by
        intro lo hlo el
        unfold wj_X7_best_39
        refine sp_findMM F D hlo (fun by_ bb bw ib pt x bx row right m given part h q g f1 f2 => ?_)
        rw [el] at f2
        rcases f1 with ⟨n, e⟩ | ⟨n, e1, e2, e3, g0, e4, hq, e5⟩
        · exact br_t e ⟨h, q, g, f2, fun y => absurd y n, fun _ => rfl⟩
        · refine br_f (by rw [e1]; decide) ?_
          rw [w2, cw, e5 w w1, e3]
          obtain ⟨v1, v2, v3⟩ := nq (IsB_q hM (f2.1 n)) e4
          exact ⟨vp_in_nI (by omega) (by omega), sp_toldM v1 v2 v3 ⟨h, q, g, f2, fun _ => rfl, fun y => absurd n y⟩⟩
      unfold wp_X7_best
      rw [ewi']
      refine sp_isWishM (by omega) (fun _ _ _ => br_f (by decide) (sp_sideM (fun _ => br_f (by decide) (sp_sideM (fun _ => br_f (by decide) ?_) (fun n => absurd s3 n))) (fun n => absurd s2 n))) (fun n => absurd w2 (n w w1))
      rw [← ewi']
      refine br_c (fun z => fin 1 (Or.inr rfl) ?_) (fun z => fin 0 (Or.inl rfl) ?_)
      · rw [if_neg (by decide), if_pos z]
      · rw [if_pos rfl, if_neg z]
  · refine ⟨fun r => r = NOL, fun r r' a b => by rw [a, b], ?_, ?_⟩
    · unfold wp_X6_best
      rw [ewi]
      refine sp_isWishC (by omega) (fun w h e => br_f (by decide) (sp_isSide (fun a => br_f (by decide) (sp_isSide (fun b => absurd ⟨⟨w, h, e⟩, a, b⟩ ok) (fun _ => br_t rfl ⟨rfl, k0, k1⟩))) (fun _ => br_t rfl ⟨rfl, k0, k1⟩))) (fun _ => br_t rfl ⟨rfl, k0, k1⟩)
    · unfold wp_X7_best
      rw [ewi']
      refine sp_isWishM (by omega) (fun w h e => br_f (by decide) (sp_sideM (fun a => br_f (by decide) (sp_sideM (fun b => absurd ⟨⟨w, h, e⟩, a, b⟩ ok) (fun _ => br_t rfl rfl))) (fun _ => br_t rfl rfl))) (fun _ => br_t rfl rfl)
theorem eq_worth (C : TC told lst off lim nW V kd M' us wi it le gof li va kn mo wo u) (D : TM told lst off lim nW V kd M' us nG gl wo ga wi' lt ls ca go wr kn' mo' wf ue) {bk lk bh lh : Int32} {bv bl lv ll : Int64} {bx lx : Nat → Int64} (k0 : KN told lst off lim nW V kd M' us wo bk bh bv bl bx) (k1 : KN told lst off lim nW V (fun _ => 0) M' us wo lk lh lv ll lx)
    {ops hei held0 ph : Int32} {lw pv pl : Int64} {T : Nat → Nat → Int64} {fi opn : Nat → Int32} {px : Nat → Int64} {by_ bb bw : Int64} {ib pt : Int32} {x bx' row right m given : Nat → Int64} {part : Nat → Int32} (x1 x2 : Int32) :
    ∃ Q : Int64 → Prop, (∀ r r', Q r → Q r' → r = r') ∧
      wp_X6_worth bk lk ops hei lw held0 T fi opn ph pv pl px bh bv bl bx lh lv ll lx wi it le gof li va kn mo wo u x1 x2 (fun r bk lk _ _ _ _ _ _ _ _ _ _ _ bh bv bl bx lh lv ll lx => Q r ∧ KN told lst off lim nW V kd M' us wo bk bh bv bl bx ∧ KN told lst off lim nW V (fun _ => 0) M' us wo lk lh lv ll lx) ∧
      wp_X7_worth ga wi' by_ bb bw ib pt ls ca go wr kn' mo' wf ue x bx' part row right m given x1 x2 (fun r _ _ _ _ _ _ _ _ _ _ _ _ => Q r) := by
  have F := TC_TF C
  obtain ⟨hM, hV⟩ := TF_M F
  by_cases ok : (x1 = 0 ∨ x1 = 1) ∧ (x2 = 0 ∨ x2 = 1)
  · obtain ⟨s2, s3⟩ := ok
    have nq : ∀ {n : Nat → Int} {g : Int}, (0 < g ∧ ∀ w, w < 4 → 0 ≤ n w ∧ n w ≤ 12 * g) → g ≤ 157464 → (-(2 ^ 60) ≤ dot V n ∧ dot V n ≤ 2 ^ 60) ∧ 0 < g ∧ g < 2 ^ 49 := fun {n g} z y => by
      have := dot_le hV (q := n) (B := 12 * g) (fun w hw => z.2 w hw)
      omega
    refine ⟨AB told lst off lim nW V (if x1 = 1 then fun _ => 0 else kd) M' us wo (fun q g => lI (frc (dot V q) g x2)), fun r r' a b => AB_one (fun q q' g g' g0 g0' _ e => congrArg lI (frc_eq g0 g0' e x2)) a b, ?_, ?_⟩
    · unfold wp_X6_worth
      refine sp_isSide (fun _ => br_f (by decide) (sp_isSide (fun _ => br_f (by decide) ?_) (fun n => absurd s3 n))) (fun n => absurd s2 n)
      refine br_c (fun z => ?_) (fun z => ?_)
      · unfold wj_X6_worth_29
        refine sp_known1 F k1 (fun ops hei lw held T fi opn ph pv pl px fh fv fl fx h q g f1 f2 => br_f (by decide) ?_)
        rcases f1 with ⟨n, e⟩ | ⟨n, e1, e2, e3, e4, e5⟩
        · exact br_t e ⟨⟨h, q, g, by rw [if_pos z]; exact f2, fun y => absurd y n, fun _ => rfl⟩, k0, KN_1 (Or.inl ⟨n, e⟩) f2⟩
        · refine br_f (by rw [e1]; decide) ?_
          rw [e2, e3]
          obtain ⟨v1, v2, v3⟩ := nq (IsB_q hM (f2.1 n)) e4
          exact sp_side v1 v2 v3 ⟨⟨h, q, g, by rw [if_pos z]; exact f2, fun _ => rfl, fun y => absurd n y⟩, k0, KN_1 (Or.inr ⟨n, e1, rfl, rfl, e4, e5⟩) f2⟩
      · unfold wj_X6_worth_29
        refine sp_known0 F k0 (fun ops hei lw held T fi opn ph pv pl px fh fv fl fx h q g f1 f2 => br_t rfl ?_)
        rcases f1 with ⟨n, e⟩ | ⟨n, e1, e2, e3, e4, e5⟩
        · exact br_t e ⟨⟨h, q, g, by rw [if_neg z]; exact f2, fun y => absurd y n, fun _ => rfl⟩, KN_1 (Or.inl ⟨n, e⟩) f2, k1⟩
        · refine br_f (by rw [e1]; decide) ?_
          rw [e2, e3]
          obtain ⟨v1, v2, v3⟩ := nq (IsB_q hM (f2.1 n)) e4
          exact sp_side v1 v2 v3 ⟨⟨h, q, g, by rw [if_neg z]; exact f2, fun _ => rfl, fun y => absurd n y⟩, KN_1 (Or.inr ⟨n, e1, rfl, rfl, e4, e5⟩) f2, k1⟩
    · have fin : ∀ lo : Int32, (lo = 0 ∨ lo = 1) → (if lo = 0 then kd else fun _ => 0) = (if x1 = 1 then fun _ => 0 else kd) → wj_X7_worth_31 x2 lo ga wi' by_ bb bw ib pt ls ca go wr kn' mo' wf ue x bx' part row right m given (fun r _ _ _ _ _ _ _ _ _ _ _ _ => AB told lst off lim nW V (if x1 = 1 then fun _ => 0 else kd) M' us wo (fun q g => lI (frc (dot V q) g x2)) r) := by
        intro lo hlo el
        unfold wj_X7_worth_31
        refine sp_findMM F D hlo (fun by_ bb bw ib pt x bx row right m given part h q g f1 f2 => ?_)
        rw [el] at f2
        rcases f1 with ⟨n, e⟩ | ⟨n, e1, e2, e3, g0, e4, hq, e5⟩
        · exact br_t e ⟨h, q, g, f2, fun y => absurd y n, fun _ => rfl⟩
        · refine br_f (by rw [e1]; decide) ?_
          rw [e2, e3]
          obtain ⟨v1, v2, v3⟩ := nq (IsB_q hM (f2.1 n)) e4
          exact sp_toldM v1 v2 v3 ⟨h, q, g, f2, fun _ => rfl, fun y => absurd n y⟩
      unfold wp_X7_worth
      refine sp_sideM (fun _ => br_f (by decide) (sp_sideM (fun _ => br_f (by decide) ?_) (fun n => absurd s3 n))) (fun n => absurd s2 n)
      refine br_c (fun z => fin 1 (Or.inr rfl) ?_) (fun z => fin 0 (Or.inl rfl) ?_)
      · rw [if_neg (by decide), if_pos z]
      · rw [if_pos rfl, if_neg z]
  · refine ⟨fun r => r = NOL, fun r r' a b => by rw [a, b], ?_, ?_⟩
    · unfold wp_X6_worth
      refine sp_isSide (fun a => br_f (by decide) (sp_isSide (fun b => absurd ⟨a, b⟩ ok) (fun _ => br_t rfl ⟨rfl, k0, k1⟩))) (fun _ => br_t rfl ⟨rfl, k0, k1⟩)
    · unfold wp_X7_worth
      refine sp_sideM (fun a => br_f (by decide) (sp_sideM (fun b => absurd ⟨a, b⟩ ok) (fun _ => br_t rfl rfl))) (fun _ => br_t rfl rfl)
end BEST
