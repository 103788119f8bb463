/-! fair -/
theorem nar_1 : vp_nar .boolean (1 : Int32) = 1 := by decide
theorem nar_0 : vp_nar .boolean (0 : Int32) = 0 := by decide
theorem dot_less {V q : Nat → Int} (hV : ∀ w, w < 4 → 0 ≤ V w) (hq : ∀ w, w < 4 → 0 ≤ q w) {w : Nat} (hw : w < 4) : 0 ≤ dot V q - V w * q w ∧ 0 ≤ V w * q w := by
  have p : ∀ w, w < 4 → 0 ≤ V w * q w := fun w hw => Int.mul_nonneg (hV w hw) (hq w hw)
  have p0 := p 0 (by omega)
  have p1 := p 1 (by omega)
  have p2 := p 2 (by omega)
  have p3 := p 3 (by omega)
  refine ⟨?_, p w hw⟩
  unfold dot
  rcases (by omega : w = 0 ∨ w = 1 ∨ w = 2 ∨ w = 3) with e | e | e | e <;> subst e <;> omega
section FAIR
variable {told lst off : Nat → Prop} {lim : Nat → Int} {nW : Nat} {V kd M' : Nat → Int} {us : Nat → Nat → Int} {wi : Int32} {it le gof li va kn mo wo : Nat → Int32} {u : Nat → Nat → Int32} {nG : Nat} {gl : Nat → Nat} {ga wi' : Int32} {lt ls ca go wr kn' mo' wf ue : Nat → Int32}
theorem TF_off (C : TF told lst off lim nW V kd M' us wi it le gof li va kn mo wo u) (w : Nat) : TF told lst off lim nW V kd M' us wi it le gof li va kn mo (upd wo w 1) u := by
  obtain ⟨c1, c2, c3, c4, c5⟩ := C
  refine ⟨c1, c2, c3, fun j hj => ?_, c5⟩
  obtain ⟨a1, a2, a3, a4, a5⟩ := c4 j hj
  refine ⟨a1, a2, a3, ?_, a5⟩
  by_cases e : j = w
  · subst e; rw [pk_us]; exact Or.inr rfl
  · rw [pk_un e]; exact a4
theorem TM_off (D : TM told lst off lim nW V kd M' us nG gl wo ga wi' lt ls ca go wr kn' mo' wf ue) (w : Nat) : TM told lst off lim nW V kd M' us nG gl (upd wo w 1) ga wi' lt ls ca go wr kn' mo' (upd wf w 1) ue := by
  obtain ⟨E, d1, d2, d3, d4⟩ := D
  refine ⟨E, d1, d2, d3, fun j hj => ?_⟩
  obtain ⟨a1, a2, a3, a4⟩ := d4 j hj
  refine ⟨a1, a2, a3, ?_⟩
  by_cases e : j = w
  · subst e; rw [pk_us, pk_us]
  · rw [pk_un e, pk_un e]; exact a4
theorem sp_findWithout (C : TF told lst off lim nW V kd M' us wi it le gof li va kn mo wo u) {w : Nat} (hw : w < 4)
    {ops hei held0 ph fh : Int32} {lw pv pl fv fl : Int64} {T : Nat → Nat → Int64} {fi opn : Nat → Int32} {px fx : Nat → Int64}
    {post : Int32 → Int32 → Int64 → Int32 → (Nat → Nat → Int64) → (Nat → Int32) → (Nat → Int32) → Int32 → Int64 → Int64 → (Nat → Int64) → Int32 → Int64 → Int64 → (Nat → Int64) → (Nat → Int32) → Prop}
    (hpost : ∀ (ops hei : Int32) (lw : Int64) (held : Int32) (T : Nat → Nat → Int64) (fi opn : Nat → Int32) (ph : Int32) (pv pl : Int64) (px : Nat → Int64) (fh : Int32) (fv fl : Int64) (fx : Nat → Int64) (h : Prop) (q : Nat → Int) (g : Int), FR V q g fh fv fl fx h → RB told lst off lim nW V kd M' us (upd wo w 1) h q g → post ops hei lw held T fi opn ph pv pl px fh fv fl fx wo) :
    wp_X6_findWithout ops hei lw held0 T fi opn ph pv pl px fh fv fl fx wi it le gof li va kn mo wo u (nI w) post := by
  unfold wp_X6_findWithout
  have cw : (nI w).toNatClampNeg = w := nI_clamp (by omega)
  rw [cw, nar_1]
  refine ⟨vp_in_nI hw (by omega), sp_heldFind (TF_off C w) (Or.inl rfl) (fun ops hei lw held T fi opn ph pv pl px fh fv fl fx h q g f1 f2 => ?_)⟩
  intro f hf
  have ef : f = wo := by
    have ew : vp_nar .boolean (wo w) = wo w := by
      rcases (C.2.2.2.1 w hw).2.2.2.1 with z | z <;> rw [z] <;> decide
    rw [hf, ew]
    exact upd_back wo w 1
  rw [ef]
  rw [if_pos rfl] at f2
  exact hpost _ _ _ _ _ _ _ _ _ _ _ _ _ _ _ h q g f1 f2
theorem RB_uw {k : Nat → Int} {w : Nat} (hw : w < 4) (h : Prop) (q : Nat → Int) (g : Int) (h' : Prop) (q' : Nat → Int) (g' : Int) (a : RB told lst off lim nW V k M' us wo h q g) (b : RB told lst off lim nW V k M' us wo h' q' g') : (h ↔ h') ∧ (h → 0 < g ∧ 0 < g' ∧ (dot V q - V w * q w) * g' = (dot V q' - V w * q' w) * g) := by
  obtain ⟨e, s⟩ := RB_eq a b
  refine ⟨e, fun z => ⟨(a.1 z).1.1, (b.1 (e.mp z)).1.1, ?_⟩⟩
  have s1 := (s z).1 w hw
  have s2 := (s z).2
  grind
theorem eq_fair (C : TC told lst off lim nW V kd M' us wi it le gof li va kn mo wo u) (D : TM told lst off lim nW V kd M' us nG gl wo ga wi' lt ls ca go wr kn' mo' wf ue) {bk lk bh lh oh : Int32} {bv bl lv ll ov ol : Int64} {bx lx ox : Nat → Int64} (k0 : KN told lst off lim nW V kd M' us wo bk bh bv bl bx) (k1 : KN told lst off lim nW V (fun _ => 0) M' us wo lk lh lv ll lx)
    {ops hei held0 ph : Int32} {lw pv pl : Int64} {T : Nat → Nat → Int64} {fi opn : Nat → Int32} {px : Nat → Int64} {by_ bb bw : Int64} {ib pt : Int32} {x bx' row right m given : Nat → Int64} {part : Nat → Int32} (x1 x2 : Int32) :
    ∃ Q : Int64 → Prop, (∀ r r', Q r → Q r' → r = r') ∧
      wp_X6_fair bk lk ops hei lw held0 T fi opn ph pv pl px bh bv bl bx lh lv ll lx oh ov ol ox wi it le gof li va kn mo wo u x1 x2 (fun r bk lk _ _ _ _ _ _ _ _ _ _ _ bh bv bl bx lh lv ll lx _ _ _ _ wo' => Q r ∧ KN told lst off lim nW V kd M' us wo bk bh bv bl bx ∧ KN told lst off lim nW V (fun _ => 0) M' us wo lk lh lv ll lx ∧ wo' = wo) ∧
      wp_X7_fair ga wi' by_ bb bw ib pt ls ca go wr kn' mo' wf ue x bx' part row right m given x1 x2 (fun r _ _ _ _ _ wf' _ _ _ _ _ _ _ => Q r ∧ wf' = wf) := by
  have F := TC_TF C
  obtain ⟨hM, hV⟩ := TF_M F
  have hW := C.2.1
  have ewi := C.1
  have ewi' := D.2.2.1
  by_cases ok : (∃ w, w < nW ∧ x1 = nI w) ∧ (x2 = 0 ∨ x2 = 1)
  · obtain ⟨⟨w, w1, w2⟩, s2⟩ := ok
    subst w2
    have cw : (nI w).toNatClampNeg = w := nI_clamp (by omega)
    have c4 := C.2.2.2.1 w (by omega)
    have d4 := D.2.2.2.2 w w1
    have iv : (va w).toInt64 = lI (V w) := by
      rw [c4.1]
      exact iI_l (by unfold rI; omega)
    have iw : (wr w).toInt64 = lI (V w) := by
      rw [d4.1]
      exact iI_l (by unfold rI; omega)
    have vq1 : ∀ {G : (Nat → Int) → Int → Prop} {q : Nat → Int} {g : Int}, IsB V (aM nW wo M') kd G q g → g ≤ 157464 → (0 ≤ dot V q - V w * q w ∧ dot V q - V w * q w ≤ 2000000000) := fun {G q g} a hg => by
      obtain ⟨g0, hq⟩ := IsB_q hM a
      have a1 := dot_le hV (q := q) (B := 12 * g) hq
      have a2 := dot_less (V := V) (q := q) (fun w hw => (hV w hw).1) (fun w hw => (hq w hw).1) (show w < 4 by omega)
      omega
    by_cases hz : wo w = 0
    · refine ⟨AD (RB told lst off lim nW V kd M' us wo) (RB told lst off lim nW V kd M' us (upd wo w 1)) (fun q => dot V q - V w * q w) (dot V) x2, fun r r' a b => AD_one (RB_uw (by omega)) RB_u a b, ?_, ?_⟩
      · unfold wp_X6_fair
        rw [cw, ewi]
        refine sp_isWishC (by omega) (fun _ _ _ => br_f (by decide) (sp_isSide (fun _ => br_f (by decide) ?_) (fun n => absurd s2 n))) (fun n => absurd rfl (n w w1))
        rw [← ewi]
        refine sp_known0 F k0 (fun ops hei lw held T fi opn ph pv pl px fh fv fl fx h q g f1 f2 => br_t rfl ?_)
        have n1 := KN_1 f1 f2
        rcases f1 with ⟨n, e⟩ | ⟨n, e1, e2, e3, e4, e5⟩
        · exact br_t e ⟨⟨h, q, g, f2, fun _ => rfl, fun y => absurd y n⟩, n1, k1, rfl⟩
        · refine br_f (by rw [e1]; decide) ⟨vp_in_nI (by omega) (by omega), br_t hz ?_⟩
          refine sp_findWithout F (by omega) (fun ops hei lw held T fi opn ph pv pl px fh2 fv2 fl2 fx2 h2 q2 g2 f3 f4 => ?_)
          rcases f3 with ⟨m, e⟩ | ⟨m, d1, d2, d3, d4, d5⟩
          · exact br_t e ⟨⟨h, q, g, f2, fun y => absurd n y, fun _ => ⟨h2, q2, g2, f4, fun _ => rfl, fun y => absurd y m⟩⟩, n1, k1, rfl⟩
          · refine br_f (by rw [d1]; decide) ?_
            intro v hv
            have v1 := vq_le hM hV (f2.1 n) e4
            have v2 := vq_le hM hV (f4.1 m) d4
            have v3 := vq1 (f2.1 n) e4
            rw [iv, e5 w (by omega), e2, lI_mul, lI_sub] at hv
            rw [hv]
            subst e2
            subst e3
            subst d2
            subst d3
            exact sp_lessSide v2.1 v2.2 v3 v1.2 ⟨⟨h, q, g, f2, fun y => absurd n y, fun _ => ⟨h2, q2, g2, f4, fun y => absurd m y, fun _ => rfl⟩⟩, n1, k1, rfl⟩
      · unfold wp_X7_fair
        rw [cw, ewi', nar_1, nar_0]
        refine sp_isWishM (by omega) (fun _ _ _ => br_f (by decide) (sp_sideM (fun _ => br_f (by decide) ?_) (fun n => absurd s2 n))) (fun n => absurd rfl (n w w1))
        rw [← ewi']
        refine sp_findMM F D (Or.inl rfl) (fun by_ bb bw ib pt x bx row right m given part h q g f1 f2 => ?_)
        rw [if_pos rfl] at f2
        rcases f1 with ⟨n, e⟩ | ⟨n, e1, e2, e3, g0, e4, hq, e5⟩
        · exact br_t e ⟨⟨h, q, g, f2, fun _ => rfl, fun y => absurd y n⟩, rfl⟩
        · have wz : wf w = 0 := by rw [d4.2.2.2]; exact hz
          refine br_f (by rw [e1]; decide) ⟨vp_in_nI (by omega) (by omega), br_t wz ?_⟩
          intro v hv
          refine sp_findMM (TF_off F w) (TM_off D w) (Or.inl rfl) (fun by_ bb2 bw2 ib pt x bx row right m given part h2 q2 g2 f3 f4 => ?_)
          rw [if_pos rfl] at f4
          intro f hf
          have ef : f = wf := by
            rw [hf, ← wz]
            exact upd_back wf w 1
          rcases f3 with ⟨m, e⟩ | ⟨m, d1, d2, d3, g02, d4, hq2, d5⟩
          · exact br_t e ⟨⟨h, q, g, f2, fun y => absurd n y, fun _ => ⟨h2, q2, g2, f4, fun _ => rfl, fun y => absurd y m⟩⟩, ef⟩
          · refine br_f (by rw [d1]; decide) ?_
            have v1 := vq_le hM hV (f2.1 n) e4
            have v2 := vq_le hM hV (f4.1 m) d4
            have v3 := vq1 (f2.1 n) e4
            rw [iw, e5 w w1, e2, lI_mul, lI_sub] at hv
            rw [hv, e3, d2, d3]
            exact sp_lessM v2.1 v2.2 v3 v1.2 ⟨⟨h, q, g, f2, fun y => absurd n y, fun _ => ⟨h2, q2, g2, f4, fun y => absurd m y, fun _ => rfl⟩⟩, ef⟩
    · refine ⟨AB told lst off lim nW V kd M' us wo (fun _ _ => x2.toInt64), fun r r' a b => AB_one (fun q q' g g' g0 g0' e _ => rfl) a b, ?_, ?_⟩
      · unfold wp_X6_fair
        rw [cw, ewi]
        refine sp_isWishC (by omega) (fun _ _ _ => br_f (by decide) (sp_isSide (fun _ => br_f (by decide) ?_) (fun n => absurd s2 n))) (fun n => absurd rfl (n w w1))
        rw [← ewi]
        refine sp_known0 F k0 (fun ops hei lw held T fi opn ph pv pl px fh fv fl fx h q g f1 f2 => br_t rfl ?_)
        have n1 := KN_1 f1 f2
        rcases f1 with ⟨n, e⟩ | ⟨n, e1, e2, e3, e4, e5⟩
        · exact br_t e ⟨⟨h, q, g, f2, fun y => absurd y n, fun _ => rfl⟩, n1, k1, rfl⟩
        · refine br_f (by rw [e1]; decide) ⟨vp_in_nI (by omega) (by omega), br_f hz ?_⟩
          rw [lI_0, lI_1]
          refine sp_side ⟨by omega, by omega⟩ (by omega) (by omega) ⟨⟨h, q, g, f2, fun _ => ?_, fun y => absurd n y⟩, n1, k1, rfl⟩
          show lI (frc 0 1 x2) = x2.toInt64
          rcases s2 with z | z <;> rw [z] <;> decide
      · unfold wp_X7_fair
        rw [cw, ewi']
        refine sp_isWishM (by omega) (fun _ _ _ => br_f (by decide) (sp_sideM (fun _ => br_f (by decide) ?_) (fun n => absurd s2 n))) (fun n => absurd rfl (n w w1))
        rw [← ewi']
        refine sp_findMM F D (Or.inl rfl) (fun by_ bb bw ib pt x bx row right m given part h q g f1 f2 => ?_)
        rw [if_pos rfl] at f2
        rcases f1 with ⟨n, e⟩ | ⟨n, e1, e2, e3, g0, e4, hq, e5⟩
        · exact br_t e ⟨⟨h, q, g, f2, fun y => absurd y n, fun _ => rfl⟩, rfl⟩
        · exact br_f (by rw [e1]; decide) ⟨vp_in_nI (by omega) (by omega), br_f (by rw [d4.2.2.2]; exact hz) ⟨⟨h, q, g, f2, fun _ => rfl, fun y => absurd n y⟩, rfl⟩⟩
  · refine ⟨fun r => r = NOL, fun r r' a b => by rw [a, b], ?_, ?_⟩
    · unfold wp_X6_fair
      rw [ewi]
      refine sp_isWishC (by omega) (fun w h e => br_f (by decide) (sp_isSide (fun a => absurd ⟨⟨w, h, e⟩, a⟩ ok) (fun _ => br_t rfl ⟨rfl, k0, k1, rfl⟩))) (fun _ => br_t rfl ⟨rfl, k0, k1, rfl⟩)
    · unfold wp_X7_fair
      rw [ewi']
      refine sp_isWishM (by omega) (fun w h e => br_f (by decide) (sp_sideM (fun a => absurd ⟨⟨w, h, e⟩, a⟩ ok) (fun _ => br_t rfl ⟨rfl, rfl⟩))) (fun _ => br_t rfl ⟨rfl, rfl⟩)
end FAIR
