/-! corners, whole -/
section COR2
variable {nG nW p : Nat} {pm : Nat → Nat} {P : Nat → Prop} {U : Nat → Nat → Int} {lim gv M' M V kd : Nat → Int} {lst : Nat → Prop} {ls ca go mo us part va : Nat → Int32} {given : Nat → Int64}
noncomputable def fP (P : Nat → Prop) (gv : Nat → Int) (w : Nat) : Int := @ite _ (P w) (Classical.propDecidable _) (-1) (gv w)
theorem Cvd_up {S : Nat} {h h' : Prop} {q q' : Nat → Int} {g g' : Int} (fd : Fnd M kd (GM nG nW U lim lst go) h q g) (fd' : Fnd M kd (GM nG nW U lim lst go) h' q' g') (up : Up V h q g h' q' g') (c : Cvd nG nW p pm P U lim gv M' V lst go S h q g) : Cvd nG nW p pm P U lim gv M' V lst go S h' q' g' := by
  intro a1 a2 er a3 a4 z ε he a5 a6 a7 a8
  obtain ⟨hh, k⟩ := c a1 a2 er a3 a4 z ε he a5 a6 a7 a8
  obtain ⟨hh', k'⟩ := up hh
  exact ⟨hh', Ge_trans (fd' hh').1.1 (fd hh).1.1 he k' k⟩
theorem sp_180 (H : CH nG nW p pm P U lim gv M' M V kd lst ls ca mo us part va given) {S : Nat} {er : Nat → Nat} (her : ∀ r, r < p → er r < nG + 2 * p ∧ S.testBit (er r) = true ∧ nb S (er r) = r) {row right m x bx : Nat → Int64} (hrow : ∀ r, r < p → (∀ c, c < p → row (4 * r + c) = lI (cR nG pm U (er r) c)) ∧ right r = lI (rtw nG nW p pm U lim gv M' (er r))) {by_ bb bw : Int64} {ib x1 : Int32} {h : Prop} {q : Nat → Int} {g : Int} (fm : FM nW V q g bb bw ib bx h) (fd : Fnd M kd (GM nG nW U lim lst go) h q g)
    {kb : Int32 → Int64 → Int64 → Int64 → Int32 → (Nat → Int64) → (Nat → Int64) → (Nat → Int64) → (Nat → Int64) → (Nat → Int64) → Prop} {kx : Int64 → Int64 → Int64 → Int32 → (Nat → Int64) → (Nat → Int64) → (Nat → Int64) → (Nat → Int64) → (Nat → Int64) → Prop} {post : Int64 → Int64 → Int64 → Int32 → (Nat → Int64) → (Nat → Int64) → (Nat → Int64) → (Nat → Int64) → (Nat → Int64) → Prop}
    (hkb : ∀ (by_ bb bw : Int64) (ib : Int32) (x bx row right m : Nat → Int64) (h' : Prop) (q' : Nat → Int) (g' : Int), FM nW V q' g' bb bw ib bx h' → Fnd M kd (GM nG nW U lim lst go) h' q' g' → Up V h q g h' q' g' → Cvd nG nW p pm P U lim gv M' V lst go S h' q' g' → kb (nI S + (1 : Int32)) by_ bb bw ib x bx row right m) :
    wj_X7_corners_180 x1 (nI S) (lI (DET p (fun r c => cR nG pm U (er r) c))) (nI nG) (nI nW) by_ bb bw ib (nI p) ls ca go va mo us x bx part row right m given kb kx post := by
  have crl := fun {e c : Nat} (hc : c < p) => cR_le H (e := e) hc
  have dl := DET_le9 (p := p) (A := fun r c => cR nG pm U (er r) c) (fun r _ c hc => crl hc)
  have uniq : ∀ er' : Nat → Nat, (∀ r, r < p → er' r < nG + 2 * p ∧ S.testBit (er' r) = true ∧ nb S (er' r) = r) → ∀ r, r < p → er' r = er r := fun er' h' r hr => nb_inj (h' r hr).2.1 (her r hr).2.1 (by rw [(h' r hr).2.2, (her r hr).2.2])
  have deq : ∀ er' : Nat → Nat, (∀ r, r < p → er' r < nG + 2 * p ∧ S.testBit (er' r) = true ∧ nb S (er' r) = r) → DET p (fun r c => cR nG pm U (er' r) c) = DET p (fun r c => cR nG pm U (er r) c) := fun er' h' => by
    have e : ∀ r i, PA p (fun r c => cR nG pm U (er' r) c) r i = PA p (fun r c => cR nG pm U (er r) c) r i := fun r i => by
      unfold PA
      by_cases z : r < p ∧ i < p
      · rw [if_pos z, if_pos z]
        show cR nG pm U (er' r) i = cR nG pm U (er r) i
        rw [uniq er' h' r z.1]
      · rw [if_neg z, if_neg z]
    exact D4_cong (fun i _ => e 0 i) (fun i _ => e 1 i) (fun i _ => e 2 i) (fun i _ => e 3 i)
  generalize hd : DET p (fun r c => cR nG pm U (er r) c) = d at *
  have rd : rL d := ⟨by omega, by omega⟩
  have r0 : rL 0 := ⟨by omega, by omega⟩
  unfold wj_X7_corners_180
  rw [lI_0]
  have cov : ∀ (h' : Prop) (q' : Nat → Int) (g' : Int), (∀ (z : Nat → Int) (ε : Int), 0 < ε → (∀ w, w < 4 → ¬ P w → z w = gv w * ε) → (∀ w, w < 4 → P w → 0 ≤ z w ∧ z w ≤ M' w * ε) → GM nG nW U lim lst go z ε → (∀ r, r < p → ssum (fun c => cR nG pm U (er r) c * z (pm c)) p = rtw nG nW p pm U lim gv M' (er r) * ε) → h' ∧ Ge V q' g' z ε) → Cvd nG nW p pm P U lim gv M' V lst go S h' q' g' := fun h' q' g' k a1 a2 er' a3 a4 z ε he a5 a6 a7 a8 =>
    k z ε he a5 a6 a7 (fun r hr => by
      have := a8 r hr
      rw [uniq er' a3 r hr] at this
      exact this)
  refine br_c (fun z => ?_) (fun z => ?_)
  · rw [lI_eq rd r0] at z
    refine hkb _ _ _ _ _ _ _ _ _ h q g fm fd (Up_refl V h q g) (fun a1 a2 er' a3 a4 => ?_)
    rw [deq er' a3] at a4
    exact absurd z a4
  · rw [lI_eq rd r0] at z
    refine br_c (fun y => ?_) (fun y => ?_)
    · rw [lI_le r0 rd] at y
      exact sp_point H (fun r hr => (her r hr).1) hd.symm (Or.inl ⟨y, rfl⟩) (by omega) hrow fm fd (fun bb bw ib x bx m h' q' g' f1 f2 f3 f4 => hkb _ _ _ _ _ _ _ _ _ h' q' g' f1 f2 f3 (cov h' q' g' f4))
    · rw [lI_le r0 rd] at y
      rw [lI_neg]
      exact sp_point H (fun r hr => (her r hr).1) hd.symm (Or.inr ⟨by omega, rfl⟩) (by omega) hrow fm fd (fun bb bw ib x bx m h' q' g' f1 f2 f3 f4 => hkb _ _ _ _ _ _ _ _ _ h' q' g' f1 f2 f3 (cov h' q' g' f4))
theorem sp_corners (H : CH nG nW p pm P U lim gv M' M V kd lst ls ca mo us part va given) {by_ bb bw : Int64} {ib : Int32} {x bx row right m : Nat → Int64} {h : Prop} {q : Nat → Int} {g : Int} (fm : FM nW V q g bb bw ib bx h) (fd : Fnd M kd (GM nG nW U lim lst go) h q g)
    {post : Int64 → Int64 → Int64 → Int32 → (Nat → Int64) → (Nat → Int64) → (Nat → Int64) → (Nat → Int64) → (Nat → Int64) → Prop}
    (hpost : ∀ (by_ bb bw : Int64) (ib : Int32) (x bx row right m : Nat → Int64) (h' : Prop) (q' : Nat → Int) (g' : Int), FM nW V q' g' bb bw ib bx h' → Fnd M kd (GM nG nW U lim lst go) h' q' g' → Up V h q g h' q' g' → CovP V M (GM nG nW U lim lst go) (fP P gv) h' q' g' → post by_ bb bw ib x bx row right m) :
    wp_X7_corners (nI nG) (nI nW) by_ bb bw ib (nI p) ls ca go va mo us x bx part row right m given post := by
  have HH := H
  obtain ⟨g1, g2, g3, hP, hp4, hsur, hinj, hpP, hpN, mg, hm, hgi, hg, hgM, hV, hva, hM, hMM⟩ := H
  have fxy : ∀ y e, Pf M (GM nG nW U lim lst go) y e → Fx (fP P gv) y e → (∀ w, w < 4 → ¬ P w → y w = gv w * e) ∧ (∀ w, w < 4 → P w → 0 ≤ y w ∧ y w ≤ M' w * e) := fun y e py fy => by
    refine ⟨fun w hw n => ?_, fun w hw n => ?_⟩
    · have ef : fP P gv w = gv w := if_neg n
      have := fy w hw (by rw [ef]; have := hg w hw; omega)
      rw [ef] at this
      exact this
    · have := py.2.1 w hw
      rw [(hP w hw n).2.2.2] at this
      exact this
  unfold wp_X7_corners
  by_cases p0 : p = 0
  · subst p0
    refine br_t rfl ?_
    have np : ∀ w, w < 4 → ¬ P w := fun w hw n => by
      obtain ⟨c, hc, ec⟩ := hsur w hw
      exact hpN c (by omega) hc (ec ▸ n)
    refine pk_loop (σ := Nat → Int64) (fun n i s => wl_X7_corners_14 (nI nG) (nI nW) 1 bb bw ib (nI 0) ls ca go va mo us bx part row right m given _ post n (nI i) s) (fun i s => ∀ w, w < i → s w = lI (gv w)) nW 0 x (Nat.zero_le _) (fun w hw => by omega) (fun n s hs => ?_) (fun n i s hi hs kk => ?_)
    · show ws_X7_corners_14 _ _ _ _ _ _ _ _ _ _ _ _ _ _ _ _ _ _ _ _ _ _ _ _
      unfold ws_X7_corners_14
      refine br_t (nI_le (Nat.le_refl _) (by omega)) ?_
      rw [lI_1]
      have XW : ∀ w, w < 4 → 0 ≤ gv w ∧ gv w ≤ 12 * 1 ∧ (nW ≤ w → gv w = 0) := fun w hw => ⟨(hg w hw).1, by have := (hg w hw).2.1; omega, (hg w hw).2.2⟩
      have same : ∀ y e, Pf M (GM nG nW U lim lst go) y e → Fx (fP P gv) y e → ∀ w, w < 4 → gv w * e = y w * 1 := fun y e py fy w hw => by
        rw [(fxy y e py fy).1 w hw (np w hw)]
        omega
      refine sp_holdsM (X := gv) (M' := M') (b := 1) (go := go) g2 g1 (by omega) (by omega) (fun w hw => ⟨hs w hw, by have := hg w (by omega); omega, by have := hg w (by omega); omega⟩) hm mg (fun hold => br_f (by decide) ?_) (fun hold => br_t rfl ?_)
      · have pfX : Pf M (GM nG nW U lim lst go) gv 1 := ⟨by omega, fun w hw => ⟨(hg w hw).1, by have := (hgM w hw (np w hw)).1; omega⟩, hold.2⟩
        have kdX : Kd M kd gv 1 := fun w hw => ⟨fun _ => ⟨gv w, by omega⟩, fun y => by
          rcases (hgM w hw (np w hw)).2 y with t | t
          · exact Or.inl t
          · exact Or.inr (by omega)⟩
        refine sp_compareM g2 hV hva (by omega) (by omega) XW hs fm (fun hB bx' fm' => ?_) (fun hh hnB => ?_)
        · exact hpost _ _ _ _ _ _ _ _ _ True gv 1 fm' (fun _ => ⟨pfX, kdX⟩) (fun z => ⟨trivial, Bt_Ge (hB z)⟩) (fun y e py fy => ⟨trivial, Ge_scale (by omega) py.1 (same y e py fy) (Ge_refl V gv 1)⟩)
        · exact hpost _ _ _ _ _ _ _ _ _ h q g fm fd (Up_refl V h q g) (fun y e py fy => ⟨hh, Ge_scale (by omega) py.1 (same y e py fy) (Ge_of hnB)⟩)
      · refine hpost _ _ _ _ _ _ _ _ _ h q g fm fd (Up_refl V h q g) (fun y e py fy => (hold ⟨fun w hw => ?_, ?_⟩).elim)
        · have a := hgM w (by omega) (np w (by omega))
          have b := hMM w hw
          have c := hg w (by omega)
          omega
        · exact GM_scale (by omega) py.1 (fun w hw => same y e py fy w (by omega)) py.2.2
    · show ws_X7_corners_14 _ _ _ _ _ _ _ _ _ _ _ _ _ _ _ _ _ _ _ _ _ _ _ _
      unfold ws_X7_corners_14
      have ci : (nI i).toNatClampNeg = i := nI_clamp (by omega)
      refine br_f (nI_ge hi (by omega)) ⟨vp_in_nI (by omega) (by omega), ?_⟩
      rw [ci, nI_1 i]
      refine kk _ (fun w hw => ?_)
      by_cases e : w = i
      · subst e; rw [pk_uLs]; exact hgi w hi
      · rw [pk_uLn e]; exact hs w (by omega)
  · refine br_f (nI_ne0 (by omega) (by omega)) ?_
    have ends : nI nG + (2 : Int32) * nI p = nI (nG + 2 * p) := by
      rw [show (2 : Int32) = nI 2 from rfl, pk_mul, nI_add]
    rw [ends]
    have pw : 2 ^ (nG + 2 * p) ≤ 2 ^ 13 := Nat.pow_le_pow_right (by omega) (by omega)
    have p13 : (2 : Nat) ^ 13 = 8192 := by decide
    refine pk_loop (σ := Int64 × Int64 × Int64 × Int32 × (Nat → Int64) × (Nat → Int64) × (Nat → Int64) × (Nat → Int64) × (Nat → Int64)) (fun n i s => wl_X7_corners_66 (nI (nG + 2 * p)) (nI nG) (nI nW) (nI p) ls ca go va mo us part given _ post n (nI i) s.1 s.2.1 s.2.2.1 s.2.2.2.1 s.2.2.2.2.1 s.2.2.2.2.2.1 s.2.2.2.2.2.2.1 s.2.2.2.2.2.2.2.1 s.2.2.2.2.2.2.2.2)
      (fun i s => ∃ (h' : Prop) (q' : Nat → Int) (g' : Int), FM nW V q' g' s.2.1 s.2.2.1 s.2.2.2.1 s.2.2.2.2.2.1 h' ∧ Fnd M kd (GM nG nW U lim lst go) h' q' g' ∧ Up V h q g h' q' g' ∧ ∀ S, S < i → Cvd nG nW p pm P U lim gv M' V lst go S h' q' g') (2 ^ (nG + 2 * p)) 0 (by_, bb, bw, ib, x, bx, row, right, m) (Nat.zero_le _) ⟨h, q, g, fm, fd, Up_refl V h q g, fun S hS => by omega⟩ (fun n s hs => ?_) (fun n i s hi hs kk => ?_)
    · show ws_X7_corners_66 _ _ _ _ _ _ _ _ _ _ _ _ _ _ _ _ _ _ _ _ _ _ _ _ _
      unfold ws_X7_corners_66
      rw [shl_1 (by omega)]
      refine br_t (nI_le (Nat.le_refl _) (by omega)) ?_
      obtain ⟨h', q', g', f1, f2, f3, f4⟩ := hs
      refine hpost _ _ _ _ _ _ _ _ _ h' q' g' f1 f2 f3 (fun y e py fy => ?_)
      obtain ⟨a1, a2⟩ := fxy y e py fy
      obtain ⟨z, ε, er, he, z1, z2, z3, zg, inc, tt, dn⟩ := corner_all (U := U) (lim := lim) (lst := lst) (go := go) (M' := M') V (by omega) g3 g2 (fun w hw n => (hP w hw n).1) (fun w hw n => (hP w hw n).2.1) hp4 hsur hinj (fun c hc => (hpP c hc).1) hpN py.1 a1 a2 py.2.2
      have bits := bsum_bit er p inc
      have nbs := nb_er inc bits (E := nG + 2 * p) (fun r hr => (tt r hr).1)
      obtain ⟨hh, k⟩ := f4 (bsum er p) (bsum_lt er p _ inc (fun r hr => (tt r hr).1)) (fun e he te => by
        obtain ⟨r, hr, e1⟩ := (bits e).mp te
        rw [← e1]
        exact (tt r hr).2.1) nbs.2 er (fun r hr => ⟨(tt r hr).1, (bits (er r)).mpr ⟨r, hr, rfl⟩, nbs.1 r hr⟩) dn z ε he z1 z2 z3 (fun r hr => (tt r hr).2.2)
      exact ⟨hh, Ge_trans (f2 hh).1.1 he py.1 k zg⟩
    · show ws_X7_corners_66 _ _ _ _ _ _ _ _ _ _ _ _ _ _ _ _ _ _ _ _ _ _ _ _ _
      unfold ws_X7_corners_66
      rw [shl_1 (by omega)]
      obtain ⟨h', q', g', f1, f2, f3, f4⟩ := hs
      refine br_f (nI_ge hi (by omega)) ?_
      have done : ∀ (by_ bb bw : Int64) (ib : Int32) (x bx row right m : Nat → Int64) (h2 : Prop) (q2 : Nat → Int) (g2 : Int), FM nW V q2 g2 bb bw ib bx h2 → Fnd M kd (GM nG nW U lim lst go) h2 q2 g2 → Up V h' q' g' h2 q2 g2 → Cvd nG nW p pm P U lim gv M' V lst go i h2 q2 g2 → wl_X7_corners_66 (nI (nG + 2 * p)) (nI nG) (nI nW) (nI p) ls ca go va mo us part given (fun (o_by_56 : Int64) (o_bestBy_57 : Int64) (o_bestWorth_58 : Int64) (o_isBest_59 : Int32) (o_x_60 : Nat → Int64) (o_bestX_61 : Nat → Int64) (o_row_62 : Nat → Int64) (o_right_63 : Nat → Int64) (o_m_64 : Nat → Int64) => post o_by_56 o_bestBy_57 o_bestWorth_58 o_isBest_59 o_x_60 o_bestX_61 o_row_62 o_right_63 o_m_64) post n (nI i + (1 : Int32)) by_ bb bw ib x bx row right m := by
        intro by_ bb bw ib x bx row right m h2 q2 g2 e1 e2 e3 e4
        rw [nI_1 i]
        refine kk (by_, bb, bw, ib, x, bx, row, right, m) ⟨h2, q2, g2, e1, e2, Up_trans fd f2 e2 f3 e3, fun S hS => ?_⟩
        by_cases y : S = i
        · subst y; exact e4
        · exact Cvd_up f2 e2 e3 (f4 S (by omega))
      have none0 : ∀ row right m, (Cvd nG nW p pm P U lim gv M' V lst go i h' q' g') → wj_X7_corners_180 (nI (nG + 2 * p)) (nI i) (0 : Int64) (nI nG) (nI nW) s.1 s.2.1 s.2.2.1 s.2.2.2.1 (nI p) ls ca go va mo us s.2.2.2.2.1 s.2.2.2.2.2.1 part row right m given (wl_X7_corners_66 (nI (nG + 2 * p)) (nI nG) (nI nW) (nI p) ls ca go va mo us part given (fun (o_by_56 : Int64) (o_bestBy_57 : Int64) (o_bestWorth_58 : Int64) (o_isBest_59 : Int32) (o_x_60 : Nat → Int64) (o_bestX_61 : Nat → Int64) (o_row_62 : Nat → Int64) (o_right_63 : Nat → Int64) (o_m_64 : Nat → Int64) => post o_by_56 o_bestBy_57 o_bestWorth_58 o_isBest_59 o_x_60 o_bestX_61 o_row_62 o_right_63 o_m_64) post n) (fun (o_by_56 : Int64) (o_bestBy_57 : Int64) (o_bestWorth_58 : Int64) (o_isBest_59 : Int32) (o_x_60 : Nat → Int64) (o_bestX_61 : Nat → Int64) (o_row_62 : Nat → Int64) (o_right_63 : Nat → Int64) (o_m_64 : Nat → Int64) => post o_by_56 o_bestBy_57 o_bestWorth_58 o_isBest_59 o_x_60 o_bestX_61 o_row_62 o_right_63 o_m_64) post := by
        intro row right m cv
        unfold wj_X7_corners_180
        exact br_t rfl (done _ _ _ _ _ _ _ _ _ h' q' g' f1 f2 (Up_refl V h' q' g') cv)
      refine sp_rows (P := P) (M := M) (V := V) (kd := kd) (lst := lst) HH hi (fun row right ok => ?_) (fun bad n' row right => ?_) _ _
      · unfold wj_X7_corners_157
        refine br_f (by decide) ?_
        refine br_c (fun z => ?_) (fun z => ?_)
        · have nbp : nb i (nG + 2 * p) ≤ 13 := by
            have k : ∀ E, nb i E ≤ E := fun E => by
              induction E with
              | zero => exact Nat.le_refl _
              | succ E ih =>
                by_cases t : i.testBit E = true
                · rw [nb_s1 t]; omega
                · rw [nb_s0 t]; omega
            have := k (nG + 2 * p)
            omega
          rw [nI_eq (by omega) (by omega)] at z
          rw [z]
          have exr : ∃ er : Nat → Nat, ∀ r, r < p → er r < nG + 2 * p ∧ i.testBit (er r) = true ∧ nb i (er r) = r :=
            ⟨fun r => if hr : r < p then (nb_ex i (nG + 2 * p) r (by omega)).choose else 0, fun r hr => by
              simp only [hr, dif_pos]
              exact (nb_ex i (nG + 2 * p) r (by omega)).choose_spec⟩
          obtain ⟨er, her⟩ := exr
          have hrow : ∀ r, r < p → (∀ c, c < p → row (4 * r + c) = lI (cR nG pm U (er r) c)) ∧ right r = lI (rtw nG nW p pm U lim gv M' (er r)) := fun r hr => by
            obtain ⟨a1, a2, a3⟩ := her r hr
            have o := ok (er r) a1 a2
            rw [a3] at o
            exact ⟨o.2.2.2, o.2.2.1⟩
          have im : (-1 : Int32) = iI (-1) := rfl
          rw [im]
          refine sp_solved (A := fun r c => cR nG pm U (er r) c) (rg := fun r => rtw nG nW p pm U lim gv M' (er r)) g3 (Or.inl rfl) (fun r hr c hc => ⟨(hrow r hr).1 c hc, by have := cR_le HH (e := er r) hc; omega, by have := cR_le HH (e := er r) hc; omega⟩) (fun r hr => ⟨(hrow r hr).2, rtw_le HH (her r hr).1⟩) (fun m' => ?_)
          have e1 : (fun (r c : Nat) => if (c : Int) = -1 then rtw nG nW p pm U lim gv M' (er r) else cR nG pm U (er r) c) = (fun (r c : Nat) => cR nG pm U (er r) c) := by
            funext r c
            exact if_neg (by omega)
          rw [e1]
          exact sp_180 HH her hrow f1 f2 done
        · refine none0 _ _ _ (fun a1 a2 => ?_)
          rw [a2] at z
          exact absurd rfl z
      · unfold wj_X7_corners_157
        refine br_t rfl (none0 _ _ _ (fun a1 a2 => (bad (fun e he te => ⟨a1 e he te, ?_⟩)).elim))
        have := nb_lt he te
        omega
end COR2
