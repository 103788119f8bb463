/-! lie: both -/
section LIE2
variable {told lst off : Nat → Prop} {lim : Nat → Int} {nW : Nat} {V kd M' : Nat → Int} {us : Nat → Nat → Int} {wi : Int32} {it le gof li va kn mo wo : Nat → Int32} {u : Nat → Nat → Int32} {nG : Nat} {gl : Nat → Nat} {ga wi' : Int32} {lt ls ca go wr kn' mo' wf ue : Nat → Int32}
abbrev S18b := Int32 × Int32 × Int64 × Int32 × (Nat → Nat → Int64) × (Nat → Int32) × (Nat → Int32) × Int32 × Int64 × Int64 × (Nat → Int64) × Int32 × Int64 × Int64 × (Nat → Int64) × (Nat → Int64) × (Nat → Int64) × (Nat → Int32)
abbrev SM16 := Int32 × Int64 × Int64 × Int64 × Int64 × Int64 × Int32 × Int32 × (Nat → Int32) × (Nat → Int64) × (Nat → Int64) × (Nat → Int32) × (Nat → Int64) × (Nat → Int64) × (Nat → Int64) × (Nat → Int64)
theorem eq_lie (C : TC told lst off lim nW V kd M' us wi it le gof li va kn mo wo u) (D : TM told lst off lim nW V kd M' us nG gl wo ga wi' lt ls ca go wr kn' mo' wf ue) {bk lk bh lh oh : Int32} {bv bl lv ll ov ol : Int64} {bx lx ox : Nat → Int64} (k0 : KN told lst off lim nW V kd M' us wo bk bh bv bl bx) (k1 : KN told lst off lim nW V (fun _ => 0) M' us wo lk lh lv ll lx)
    {ops hei held0 ph : Int32} {lw pv pl : Int64} {T : Nat → Nat → Int64} {fi opn : Nat → Int32} {px : Nat → Int64} {up low : Nat → Int64} {by_ bb bw : Int64} {ib pt : Int32} {x bx' row right m given : Nat → Int64} {part : Nat → Int32} (x1 : Int32) :
    ∃ Q : Int32 → Prop, (∀ r r', Q r → Q r' → r = r') ∧
      wp_X6_lie bk lk ops hei lw held0 T fi opn ph pv pl px bh bv bl bx lh lv ll lx oh ov ol ox up low wi it le gof li va kn mo wo u x1 (fun r bk lk _ _ _ _ _ _ _ _ _ _ _ bh bv bl bx lh lv ll lx _ _ _ _ _ _ va' => Q r ∧ KN told lst off lim nW V kd M' us wo bk bh bv bl bx ∧ KN told lst off lim nW V (fun _ => 0) M' us wo lk lh lv ll lx ∧ va' = va) ∧
      wp_X7_lie ga wi' by_ bb bw ib pt ls ca go wr kn' mo' wf ue x bx' part row right m given x1 (fun r _ _ _ _ _ wr' _ _ _ _ _ _ _ => Q r ∧ wr' = wr) := by
  have F := TC_TF C
  obtain ⟨hM, hV⟩ := TF_M F
  have hW := C.2.1
  have ewi := C.1
  have ewi' := D.2.2.1
  by_cases ok : ∃ w, w < nW ∧ x1 = nI w
  · obtain ⟨w, w1, w2⟩ := ok
    subst w2
    have cw : (nI w).toNatClampNeg = w := nI_clamp (by omega)
    have c4 := C.2.2.2.1 w (by omega)
    have d4 := D.2.2.2.2 w w1
    have hw4 : w < 4 := by omega
    by_cases hz : wo w = 0
    · obtain ⟨t, et⟩ : ∃ t : Nat, V w = (t : Int) := ⟨(V w).toNat, by omega⟩
      have t9 : t ≤ 99 := by omega
      have vat : va w = nI t := by rw [c4.1, et, nI_iI]
      have wrt : wr w = nI t := by rw [d4.1, et, nI_iI]
      have nn : ∀ (j : Nat) (q : Nat → Int) (g : Int), BJ V (aM nW wo M') kd (GH us lim lst (fun l => told l ∧ ¬ off l)) w j q g → 0 ≤ q w ∧ 0 < g := fun j q g a => by
        obtain ⟨g0, hq⟩ := IsB_q hM a
        exact ⟨(hq w hw4).1, g0⟩
      have nq : ∀ (j : Nat) (q : Nat → Int) (g : Int), BJ V (aM nW wo M') kd (GH us lim lst (fun l => told l ∧ ¬ off l)) w j q g → g ≤ 157464 → 0 ≤ q w ∧ q w ≤ 2000000 := fun j q g a hg => by
        obtain ⟨g0, hq⟩ := IsB_q hM a
        have := hq w hw4
        omega
      refine ⟨LI told lst off lim nW V kd M' us wo w t, fun r r' a b => LI_one a b, ?_, ?_⟩
      · unfold wp_X6_lie
        rw [cw, vat, ewi]
        refine sp_isWishC (by omega) (fun _ _ _ => br_f (by decide) ⟨vp_in_nI (by omega) (by omega), br_t hz ?_⟩) (fun n => absurd rfl (n w w1))
        rw [← ewi]
        refine sp_known0 F k0 (fun ops hei lw held T fi opn ph pv pl px fh fv fl fx h q g f1 f2 => br_t rfl ?_)
        have n1 := KN_1 f1 f2
        rcases f1 with ⟨n, e⟩ | ⟨n, e1, e2, e3, e4, e5⟩
        · exact br_t e ⟨⟨h, q, g, f2, fun _ => rfl, fun y => absurd y n⟩, n1, k1, rfl⟩
        · refine br_f (by rw [e1]; decide) ?_
          unfold wp_X0_forget
          refine sp_fillL (by omega) (fun low0 l0 _ => ?_)
          have fin : ∀ (c1 c2 : Int32) (c3 : Int64) (c4 : Int32) (c5 : Nat → Nat → Int64) (c6 c7 : Nat → Int32) (c8 : Int32) (c9 c10 : Int64) (c11 : Nat → Int64) (c12 : Int32) (c13 c14 : Int64) (c15 : Nat → Int64) (up low : Nat → Int64) (va1 : Nat → Int32) (A G : Nat → Int), va1 = va → (∀ j, j < t → low j = 0 ∨ (KB A G up low j ∧ ∃ q g, BJ V (aM nW wo M') kd (GH us lim lst (fun l => told l ∧ ¬ off l)) w j q g ∧ A j = q w ∧ G j = g)) → (t = 0 ∨ (KB A G up low 0 ∧ KB A G up low (t - 1) ∧ ∀ a b, a < b → b < t → KB A G up low a → KB A G up low b → (∀ c, a < c → c < b → low c = 0) → b - a ≤ 1 ∨ A a * G b = A b * G a)) → wj_X6_lie_119 (nI t) 1 lk c1 c2 c3 c4 c5 c6 c7 c8 c9 c10 c11 fh fv fl fx lh lv ll lx c12 c13 c14 c15 up low wi it le gof li va1 kn mo wo u (fun r bk lk _ _ _ _ _ _ _ _ _ _ _ bh bv bl bx lh lv ll lx _ _ _ _ _ _ va' => LI told lst off lim nW V kd M' us wo w t r ∧ KN told lst off lim nW V kd M' us wo bk bh bv bl bx ∧ KN told lst off lim nW V (fun _ => 0) M' us wo lk lh lv ll lx ∧ va' = va) := fun c1 c2 c3 c4 c5 c6 c7 c8 c9 c10 c11 c12 c13 c14 c15 up low va1 A G ev H ends => by
            unfold wj_X6_lie_119
            refine sp_greatest t9 (fun j hj => (H j hj).elim Or.inl (fun y => Or.inr y.1)) (fun tp => ends.elim (fun z => by omega) (fun z => z.1)) (fun m m0 m1 => ⟨⟨h, q, g, f2, fun y => absurd n y, fun _ => ?_⟩, n1, k1, ev⟩)
            rcases ends with e | ⟨e1, e2, e3⟩
            · have em := m0 e
              subst em
              subst e
              have bq : BJ V (aM nW wo M') kd (GH us lim lst (fun l => told l ∧ ¬ off l)) w 0 q g := by
                have := f2.1 n
                unfold BJ
                have ev : VW V w (0 : Nat) = V := by
                  funext j
                  unfold VW
                  by_cases e : j = w
                  · rw [if_pos e, e]; exact et.symm
                  · rw [if_neg e]
                rw [ev]
                exact this
              refine ⟨0, Nat.le_refl _, rfl, q, g, bq, fun j p e j0 bj => ?_⟩
              have : j = 0 := by omega
              subst this
              exact ⟨by simp, fun z => by omega⟩
            · rcases Nat.eq_zero_or_pos t with z | z
              · have em := m0 z
                subst em
                subst z
                have bq : BJ V (aM nW wo M') kd (GH us lim lst (fun l => told l ∧ ¬ off l)) w 0 q g := by
                  have := f2.1 n
                  unfold BJ
                  have ev : VW V w (0 : Nat) = V := by
                    funext j
                    unfold VW
                    by_cases e : j = w
                    · rw [if_pos e, e]; exact et.symm
                    · rw [if_neg e]
                  rw [ev]
                  exact this
                refine ⟨0, Nat.le_refl _, rfl, q, g, bq, fun j p e j0 bj => ?_⟩
                have : j = 0 := by omega
                subst this
                exact ⟨by simp, fun z => by omega⟩
              · obtain ⟨m2, m3, m4⟩ := m1 z
                obtain ⟨q', g', L⟩ := LG_asked hw4 nn H e1 e2 e3 m2 m3 m4
                exact ⟨m, by omega, rfl, q', g', L⟩
          refine pk_loop (σ := S18b) (fun m i s => wl_X6_lie_55 (nI w) (nI t) 1 lk fh fv fl fx lh lv ll lx wi it le gof li kn mo wo u _ _ m (nI i) s.1 s.2.1 s.2.2.1 s.2.2.2.1 s.2.2.2.2.1 s.2.2.2.2.2.1 s.2.2.2.2.2.2.1 s.2.2.2.2.2.2.2.1 s.2.2.2.2.2.2.2.2.1 s.2.2.2.2.2.2.2.2.2.1 s.2.2.2.2.2.2.2.2.2.2.1 s.2.2.2.2.2.2.2.2.2.2.2.1 s.2.2.2.2.2.2.2.2.2.2.2.2.1 s.2.2.2.2.2.2.2.2.2.2.2.2.2.1 s.2.2.2.2.2.2.2.2.2.2.2.2.2.2.1 s.2.2.2.2.2.2.2.2.2.2.2.2.2.2.2.1 s.2.2.2.2.2.2.2.2.2.2.2.2.2.2.2.2.1 s.2.2.2.2.2.2.2.2.2.2.2.2.2.2.2.2.2) (fun i s => s.2.2.2.2.2.2.2.2.2.2.2.2.2.2.2.2.2 = va ∧ i ≤ cntL (fun j => s.2.2.2.2.2.2.2.2.2.2.2.2.2.2.2.2.1 j ≠ 0) (List.range t) ∧ ∃ A G : Nat → Int, ∀ j, j < t → s.2.2.2.2.2.2.2.2.2.2.2.2.2.2.2.2.1 j = 0 ∨ (KB A G s.2.2.2.2.2.2.2.2.2.2.2.2.2.2.2.1 s.2.2.2.2.2.2.2.2.2.2.2.2.2.2.2.2.1 j ∧ ∃ q g, BJ V (aM nW wo M') kd (GH us lim lst (fun l => told l ∧ ¬ off l)) w j q g ∧ A j = q w ∧ G j = g)) 100 0 (ops, hei, lw, held, T, fi, opn, ph, pv, pl, px, oh, ov, ol, ox, up, low0, va) (by omega) ⟨rfl, Nat.zero_le _, fun _ => 0, fun _ => 0, fun j hj => Or.inl (l0 j (by omega))⟩ (fun m s hs => ?_) (fun m i s hi hs kk => ?_)
          · exfalso
            have := hs.2.1
            have b := cntL_le (fun j => s.2.2.2.2.2.2.2.2.2.2.2.2.2.2.2.2.1 j ≠ 0) (List.range t)
            rw [List.length_range] at b
            omega
          · show ws_X6_lie_55 _ _ _ _ _ _ _ _ _ _ _ _ _ _ _ _ _ _ _ _ _ _ _ _ _ _ _ _ _ _ _ _ _ _ _ _ _ _ _ _ _ _ _
            unfold ws_X6_lie_55
            obtain ⟨a1, a2, a3, a4, a5, a6, a7, a8, a9, a10, a11, a12, a13, a14, a15, up1, low1, va1⟩ := s
            obtain ⟨u1, u2, A, G, u3⟩ := hs
            (try dsimp only at u1 u2 u3)
            subst u1
            refine br_f (fun y => absurd ((nI_ltI (a := 99) (by omega) (by omega)).mp y) (by omega)) ?_
            (try dsimp only)
            rw [cw]
            refine sp_nextToAsk t9 (fun j hj => (u3 j hj).elim Or.inl (fun y => Or.inr y.1)) (fun r rt r0 => br_t (nI_pos' (by omega)) ?_) (fun ends => br_f (by decide) ?_)
            · rw [nI_iI r]
              refine sp_findWorth F hw4 (v := (r : Int)) (by omega) (by omega) (fun b1 b2 b3 b4 b5 b6 b7 b8 b9 b10 b11 fh2 fv2 fl2 fx2 h2 q2 g2 f3 f4 => ⟨vp_in_nI (by omega) (by omega), ?_⟩)
              have y2 := RB_V f2 f4 n
              rcases f3 with ⟨m, e⟩ | ⟨m, d1, d2, d3, d4, d5⟩
              · exact absurd y2 m
              · rw [← nI_iI r]
                have cr : (nI r).toNatClampNeg = r := nI_clamp (by omega)
                unfold wp_X0_keep
                rw [cr]
                refine br_f (nI_pos (by omega)) (br_t (nI_le (b := 99) (by omega) (by omega)) ⟨vp_in_nI (by omega) (by omega), ?_⟩)
                rw [nI_1 i]
                have bj : BJ V (aM nW wo M') kd (GH us lim lst (fun l => told l ∧ ¬ off l)) w r q2 g2 := f4.1 m
                have g2p := (nn r q2 g2 bj).2
                have qb := nq r q2 g2 bj d4
                refine kk (b1, b2, b3, b4, b5, b6, b7, b8, b9, b10, b11, fh2, fv2, fl2, fx2, vp_updL up1 r (fx2 w), vp_updL low1 r fl2, va1) ⟨rfl, ?_, fun j => if j = r then q2 w else A j, fun j => if j = r then g2 else G j, fun j hj => ?_⟩
                · refine Nat.lt_of_le_of_lt u2 (cntL_lt _ (fun j _ hp => ?_) r (List.mem_range.mpr rt) ?_ (fun y => y r0))
                  · show vp_updL low1 r fl2 j ≠ 0
                    by_cases e : j = r
                    · subst e; exact absurd r0 hp
                    · rw [pk_uLn e]; exact hp
                  · show vp_updL low1 r fl2 r ≠ 0
                    rw [pk_uLs, d3, lI_0]
                    intro e
                    rw [lI_eq ⟨by omega, by omega⟩ ⟨by omega, by omega⟩] at e
                    omega
                · (try dsimp only)
                  by_cases e : j = r
                  · subst e
                    refine Or.inr ⟨?_, q2, g2, bj, if_pos rfl, if_pos rfl⟩
                    unfold KB
                    rw [pk_uLs, pk_uLs]
                    dsimp only
                    rw [if_pos rfl, if_pos rfl]
                    exact ⟨d5 w hw4, d3, qb.1, qb.2, g2p, d4⟩
                  · unfold KB
                    rw [pk_uLn e, pk_uLn e]
                    dsimp only
                    rw [if_neg e, if_neg e]
                    exact u3 j hj
            · exact fin _ _ _ _ _ _ _ _ _ _ _ _ _ _ _ _ _ _ A G rfl u3 ends
      · unfold wp_X7_lie
        rw [cw, wrt, ewi']
        refine sp_isWishM (by omega) (fun _ _ _ => br_f (by decide) ⟨vp_in_nI (by omega) (by omega), br_t (by rw [d4.2.2.2]; exact hz) ?_⟩) (fun n => absurd rfl (n w w1))
        rw [← ewi']
        refine sp_findMM F D (Or.inl rfl) (fun by_ bb bw ib pt x bx row right m given part h q g f1 f2 => ?_)
        rw [if_pos rfl] at f2
        rcases f1 with ⟨n, e⟩ | ⟨n, e1, e2, e3, g0, e4, hq, e5⟩
        · exact br_t e ⟨⟨h, q, g, f2, fun _ => rfl, fun y => absurd y n⟩, rfl⟩
        · refine br_f (by rw [e1]; decide) ?_
          refine pk_loop (σ := SM16) (fun m i s => wl_X7_lie_49 (nI w) (nI t) ga wi' ls ca go kn' mo' wf ue _ _ m s.1 s.2.1 s.2.2.1 (nI i) s.2.2.2.1 s.2.2.2.2.1 s.2.2.2.2.2.1 s.2.2.2.2.2.2.1 s.2.2.2.2.2.2.2.1 s.2.2.2.2.2.2.2.2.1 s.2.2.2.2.2.2.2.2.2.1 s.2.2.2.2.2.2.2.2.2.2.1 s.2.2.2.2.2.2.2.2.2.2.2.1 s.2.2.2.2.2.2.2.2.2.2.2.2.1 s.2.2.2.2.2.2.2.2.2.2.2.2.2.1 s.2.2.2.2.2.2.2.2.2.2.2.2.2.2.1 s.2.2.2.2.2.2.2.2.2.2.2.2.2.2.2) (fun i s => (∀ a, upd s.2.2.2.2.2.2.2.2.1 w a = upd wr w a) ∧ ((i = 0 ∧ s.1 = -9) ∨ ∃ k : Nat, k < i ∧ s.1 = nI k ∧ ∃ q g, BJ V (aM nW wo M') kd (GH us lim lst (fun l => told l ∧ ¬ off l)) w k q g ∧ g ≤ 157464 ∧ s.2.1 = lI (((t : Int) - k) * q w) ∧ s.2.2.1 = lI g ∧ ∀ (j : Nat) (p : Nat → Int) (e : Int), j < i → BJ V (aM nW wo M') kd (GH us lim lst (fun l => told l ∧ ¬ off l)) w j p e → ((t : Int) - j) * p w * g ≤ ((t : Int) - k) * q w * e ∧ (j < k → ((t : Int) - j) * p w * g < ((t : Int) - k) * q w * e))) (t + 1) 0 (-9, 0, 1, by_, bb, bw, ib, pt, wr, x, bx, part, row, right, m, given) (by omega) ⟨fun a => rfl, Or.inl ⟨rfl, rfl⟩⟩ (fun m s hs => ?_) (fun m i s hi hs kk => ?_)
          · show ws_X7_lie_49 _ _ _ _ _ _ _ _ _ _ _ _ _ _ _ _ _ _ _ _ _ _ _ _ _ _ _ _ _ _ _
            unfold ws_X7_lie_49
            refine br_t (nI_lt (by omega) (by omega)) ⟨vp_in_nI (by omega) (by omega), ?_, ?_⟩
            · obtain ⟨u1, u2⟩ := hs
              refine ⟨h, q, g, f2, fun y => absurd n y, fun _ => ?_⟩
              rcases u2 with ⟨u3, u4⟩ | ⟨k, u3, u4, q', g', u5, u6, u7, u8, u9⟩
              · omega
              · exact ⟨k, by omega, u4, q', g', u5, fun j p e hj => u9 j p e (by omega)⟩
            · rw [hs.1, ← wrt]
              exact upd_same wr w
          · show ws_X7_lie_49 _ _ _ _ _ _ _ _ _ _ _ _ _ _ _ _ _ _ _ _ _ _ _ _ _ _ _ _ _ _ _
            unfold ws_X7_lie_49
            obtain ⟨x3, x4, x6, a1, a2, a3, a4, a5, wr1, a7, a8, a9, a10, a11, a12, a13⟩ := s
            obtain ⟨u1, u2⟩ := hs
            (try dsimp only at u1 u2)
            refine br_f (fun y => absurd ((nI_ltI (by omega) (by omega)).mp y) (by omega)) ⟨vp_in_nI (by omega) (by omega), ?_⟩
            (try dsimp only)
            have eu : upd wr w (nI i) = upd wr w (iI (i : Nat)) := by rw [nI_iI]
            rw [cw, u1, eu]
            refine sp_findMM (TF_VW F w (v := (i : Nat)) (by omega) (by omega)) (TM_VW D w (i : Nat)) (Or.inl rfl) (fun by_ bb2 bw2 ib pt x bx' row right m given part h2 q2 g2 f3 f4 => ?_)
            rw [if_pos rfl] at f4
            have y2 := RB_V f2 f4 n
            rcases f3 with ⟨n2, e⟩ | ⟨n2, d1, d2, d3, g02, d4', hq2, d5⟩
            · exact absurd y2 n2
            · have bj : BJ V (aM nW wo M') kd (GH us lim lst (fun l => told l ∧ ¬ off l)) w i q2 g2 := f4.1 n2
              have qb := nq i q2 g2 bj d4'
              have gn := gain_l (t := t) (j := i) (by omega) t9 (d5 w w1)
              have b99 : (0 : Int) ≤ (t : Int) - i ∧ (t : Int) - i ≤ 99 := by omega
              have m1 := ab_mul (x := (t : Int) - i) (X := 99) (y := q2 w) (Y := 2000000) (by omega) (by omega) (by omega) (by omega)
              rcases u2 with ⟨u3, u4⟩ | ⟨k, u3, u4, q', g', u5, u6, u7, u8, u9⟩
              · refine br_t u4 ?_
                unfold wj_X7_lie_105
                rw [nI_1 i]
                refine kk (nI i, _, bb2, by_, bb2, bw2, ib, pt, _, x, bx', part, row, right, m, given) ⟨fun a => upd_2 wr w _ a, Or.inr ⟨i, by omega, rfl, q2, g2, bj, d4', gn, d3, fun j p e hj bp => ?_⟩⟩
                have : j = i := by omega
                subst this
                have eqv := BJ_eq hw4 bp bj
                refine ⟨?_, fun z => by omega⟩
                have t1 : ((t : Int) - j) * p w * g2 = ((t : Int) - j) * (p w * g2) := by grind
                have t2 : ((t : Int) - j) * q2 w * e = ((t : Int) - j) * (q2 w * e) := by grind
                rw [t1, t2, eqv]
                exact Int.le_refl _
              · have ne : ¬ x3 = -9 := by
                  rw [u4]
                  intro z
                  have := congrArg Int32.toInt z
                  rw [nI_toInt (by omega), show (-9 : Int32).toInt = -9 from by decide] at this
                  omega
                have g'p := (nn k q' g' u5).2
                have qb' := nq k q' g' u5 u6
                have b99' : (0 : Int) ≤ (t : Int) - k ∧ (t : Int) - k ≤ 99 := by omega
                have m2 := ab_mul (x := (t : Int) - k) (X := 99) (y := q' w) (Y := 2000000) (by omega) (by omega) (by omega) (by omega)
                have m3 := ab_mul (x := ((t : Int) - i) * q2 w) (X := 99 * 2000000) (y := g') (Y := 157464) (by omega) (by omega) (by omega) (by omega)
                have m4 := ab_mul (x := ((t : Int) - k) * q' w) (X := 99 * 2000000) (y := g2) (Y := 157464) (by omega) (by omega) (by omega) (by omega)
                have lp : ((nI t - nI i).toInt64 * bx' w) * x6 ≤ x4 * bb2 ↔ ((t : Int) - i) * q2 w * g' ≤ ((t : Int) - k) * q' w * g2 := by
                  rw [gn, u7, u8, d3, lI_mul, lI_mul]
                  exact lI_le ⟨by omega, by omega⟩ ⟨by omega, by omega⟩
                have own : ∀ (p : Nat → Int) (e : Int), BJ V (aM nW wo M') kd (GH us lim lst (fun l => told l ∧ ¬ off l)) w i p e → ((t : Int) - i) * p w * g2 ≤ ((t : Int) - i) * q2 w * e := fun p e bp => by
                  have eqv := BJ_eq hw4 bp bj
                  have t1 : ((t : Int) - i) * p w * g2 = ((t : Int) - i) * (p w * g2) := by grind
                  have t2 : ((t : Int) - i) * q2 w * e = ((t : Int) - i) * (q2 w * e) := by grind
                  rw [t1, t2, eqv]
                  exact Int.le_refl _
                refine br_f ne (br_c (fun y => ?_) (fun y => ?_))
                · rw [nI_1 i]
                  rw [lp] at y
                  refine kk (x3, x4, x6, by_, bb2, bw2, ib, pt, _, x, bx', part, row, right, m, given) ⟨fun a => upd_2 wr w _ a, Or.inr ⟨k, by omega, u4, q', g', u5, u6, u7, u8, fun j p e hj bp => ?_⟩⟩
                  by_cases ej : j = i
                  · subst ej
                    exact ⟨fr_le_le (nn j p e bp).2 g02 g'p (own p e bp) y, fun z => by omega⟩
                  · exact u9 j p e (by omega) bp
                · unfold wj_X7_lie_105
                  rw [nI_1 i]
                  rw [lp] at y
                  refine kk (nI i, _, bb2, by_, bb2, bw2, ib, pt, _, x, bx', part, row, right, m, given) ⟨fun a => upd_2 wr w _ a, Or.inr ⟨i, by omega, rfl, q2, g2, bj, d4', gn, d3, fun j p e hj bp => ?_⟩⟩
                  by_cases ej : j = i
                  · subst ej
                    exact ⟨own p e bp, fun z => by omega⟩
                  · have := fr_le_lt (nn j p e bp).2 g'p g02 (u9 j p e (by omega) bp).1 (show ((t : Int) - k) * q' w * g2 < ((t : Int) - i) * q2 w * g' by omega)
                    exact ⟨by omega, fun _ => this⟩
    · refine ⟨fun r => r = -9, fun r r' a b => by rw [a, b], ?_, ?_⟩
      · unfold wp_X6_lie
        rw [cw, ewi]
        exact sp_isWishC (by omega) (fun _ _ _ => br_f (by decide) ⟨vp_in_nI (by omega) (by omega), br_f hz ⟨rfl, k0, k1, rfl⟩⟩) (fun n => absurd rfl (n w w1))
      · unfold wp_X7_lie
        rw [cw, ewi']
        exact sp_isWishM (by omega) (fun _ _ _ => br_f (by decide) ⟨vp_in_nI (by omega) (by omega), br_f (by rw [d4.2.2.2]; exact hz) ⟨rfl, rfl⟩⟩) (fun n => absurd rfl (n w w1))
  · refine ⟨fun r => r = -1, fun r r' a b => by rw [a, b], ?_, ?_⟩
    · unfold wp_X6_lie
      rw [ewi]
      refine sp_isWishC (by omega) (fun w h e => absurd ⟨w, h, e⟩ ok) (fun _ => br_t rfl ⟨rfl, k0, k1, rfl⟩)
    · unfold wp_X7_lie
      rw [ewi']
      refine sp_isWishM (by omega) (fun w h e => absurd ⟨w, h, e⟩ ok) (fun _ => br_t rfl ⟨rfl, rfl⟩)
end LIE2
