/-! the search itself, and find -/
section SEARCH
variable {V M kd M' lim : Nat → Int} {us : Nat → Nat → Int} {lst hb : Nat → Prop} {nW : Nat} {held : Int32} {le li va kn mo : Nat → Int32} {u : Nat → Nat → Int32}
theorem Fok_TabR {f : Nat → Int} (fo : Fok M kd nW mo f) (tv : ∀ w, w < 4 → va w = iI (V w) ∧ 0 ≤ V w ∧ V w ≤ 198 ∧ 0 ≤ M w ∧ M w ≤ 12) : TabR f V M va mo := by
  intro w hw
  obtain ⟨a, b, c, d, e⟩ := tv w hw
  exact ⟨a, b, c, fun z => ((fo w hw).1 z).2, d, e⟩
theorem Fix_back {f : Nat → Int} {fi : Nat → Int32} {w : Nat} (h : FixO w f fi) (hf : f w = -1) : FixR f (upd fi w (-1)) := by
  intro v hv
  by_cases e : v = w
  · subst e
    rw [pk_us, hf]
    exact ⟨rfl, by omega, by omega⟩
  · rw [pk_un e]
    exact h v hv e
/-- both ways from a wish that is not of its kind -/
theorem sp_both {rec : TRec} {dep : Nat} (R : RecOK rec V M kd lim us lst hb nW held le li va kn mo u (dep + 1) 0) (hd : dep ≤ 4) {f : Nat → Int} {w : Nat} (hw : w < 4) (hf : f w = -1) (cn : cno f + dep ≤ 4) (fo : Fok M kd nW mo f) {p : Nat → Int} {c : Int} (hp : IsL V M (GH us lim lst hb) f p c) (hM : M w ≤ 12) (hM0 : 0 ≤ M w)
    {bl ab : Nat} {x8 : Int32} (b1 : (bl : Int) * c ≤ p w) (b2 : (bl : Int) ≤ M w) (a1 : p w ≤ (ab : Int) * c) (a2 : (ab : Int) ≤ M w + 1) (hk2 : kd w = 2 → bl = 0 ∧ (ab : Int) = M w) (hk1 : kd w ≠ 2 → kd w = 1 ∧ ab = bl + 1)
    {h : Prop} {q : Nat → Int} {g : Int} {ops hei : Int32} {lw : Int64} {T : Nat → Nat → Int64} {fi opn : Nat → Int32} {ph : Int32} {pv pl : Int64} {px : Nat → Int64} {fh : Int32} {fv fl : Int64} {fx : Nat → Int64}
    (fO : FixO w f fi) (fr : FR V q g fh fv fl fx h) (fd : Fnd M kd (GH us lim lst hb) h q g)
    {post : Int32 → Int32 → Int32 → Int64 → (Nat → Nat → Int64) → (Nat → Int32) → (Nat → Int32) → Int32 → Int64 → Int64 → (Nat → Int64) → Int32 → Int64 → Int64 → (Nat → Int64) → Prop}
    (hpost : ∀ (r ops hei : Int32) (lw : Int64) (T : Nat → Nat → Int64) (fi opn : Nat → Int32) (ph : Int32) (pv pl : Int64) (px : Nat → Int64) (fh : Int32) (fv fl : Int64) (fx : Nat → Int64) (h' : Prop) (q' : Nat → Int) (g' : Int), FixR f fi → FR V q' g' fh fv fl fx h' → SP V M kd (GH us lim lst hb) f h q g (¬ r = 0) h' q' g' → post r ops hei lw T fi opn ph pv pl px fh fv fl fx) :
    ∃ n88, wl_X1_search_135 rec (nI dep) (nI w) x8 held (nI nW) le li va kn mo u (fun (o_opens_40 : Int32) (o_height_41 : Int32) (o_low_42 : Int64) (o_sheet_43 : Nat → Nat → Int64) (o_fixed_44 : Nat → Int32) (o_open_45 : Nat → Int32) (o_parts_holds_46 : Int32) (o_parts_value_47 : Int64) (o_parts_low_48 : Int64) (o_parts_x_49 : Nat → Int64) (p3_holds_50 : Int32) (p3_value_51 : Int64) (p3_low_52 : Int64) (p3_x_53 : Nat → Int64) => ∃ n87, wl_X1_search_176 rec (nI dep) (nI w) held (nI nW) le li va kn mo u (fun (o_opens_72 : Int32) (o_height_73 : Int32) (o_low_74 : Int64) (o_sheet_75 : Nat → Nat → Int64) (o_fixed_76 : Nat → Int32) (o_open_77 : Nat → Int32) (o_parts_holds_78 : Int32) (o_parts_value_79 : Int64) (o_parts_low_80 : Int64) (o_parts_x_81 : Nat → Int64) (p3_holds_82 : Int32) (p3_value_83 : Int64) (p3_low_84 : Int64) (p3_x_85 : Nat → Int64) => wj_X1_search_220 rec (nI w) o_opens_72 o_height_73 o_low_74 held o_sheet_75 o_fixed_76 o_open_77 o_parts_holds_78 o_parts_value_79 o_parts_low_80 o_parts_x_81 (nI nW) le li va kn mo u p3_holds_82 p3_value_83 p3_low_84 p3_x_85 post) post n87 (nI ab) o_opens_40 o_height_41 o_low_42 o_sheet_43 o_fixed_44 o_open_45 o_parts_holds_46 o_parts_value_47 o_parts_low_48 o_parts_x_49 p3_holds_50 p3_value_51 p3_low_52 p3_x_53) post n88 (nI bl) ops hei lw T fi opn ph pv pl px fh fv fl fx := by
  have cw : (nI w).toNatClampNeg = w := nI_clamp (by omega)
  refine ⟨_, lp_down R hd hw hf cn fo hp hM bl b2 b1 (fun z => (hk2 z).1) h q g _ _ _ _ _ _ _ _ _ _ _ _ _ _ fO fr fd (fun ops hei lw T fi opn ph pv pl px fh fv fl fx h1 q1 g1 c1 c2 c3 c4 c5 => ?_)⟩
  obtain ⟨j, hj⟩ : ∃ j : Nat, (ab : Int) + j = M w + 1 := ⟨(M w + 1 - ab).toNat, by omega⟩
  refine ⟨_, lp_up R hd hw hf cn fo hp hM hM0 j ab hj a1 (fun z => Or.inl (hk2 z).2) h1 q1 g1 _ _ _ _ _ _ _ _ _ _ _ _ _ _ c1 c2 c3 (fun ops hei lw T fi opn ph pv pl px fh fv fl fx h2 q2 g2 d1 d2 d3 d4 d5 => ?_)⟩
  unfold wj_X1_search_220
  refine ⟨vp_in_nI hw (by omega), ?_⟩
  rw [cw]
  refine hpost _ _ _ _ _ _ _ _ _ _ _ _ _ _ _ h2 q2 g2 (Fix_back d1 hf) d2 ⟨d3, Up_trans fd c3 d3 c4 d4, fun y e py ky fy => ?_, fun z => absurd (by decide) z⟩
  have cv := Cov_up c3 d3 d4 c5
  have low := fun (k : Int) (k1 : y w = k * e) (k2 : k ≤ bl) => cv y e py ky ⟨fy, k, k1, k2⟩
  have high := fun (k : Int) (k1 : y w = k * e) (k2 : (ab : Int) ≤ k) => d5 y e py ky ⟨fy, k, k1, k2⟩
  by_cases t : kd w = 2
  · rcases (ky w hw).2 t with z | z
    · exact low 0 (by rw [z]; omega) (by omega)
    · exact high (M w) z (by have := (hk2 t).2; omega)
  · obtain ⟨t1, t2⟩ := hk1 t
    obtain ⟨k, z⟩ := (ky w hw).1 t1
    rcases Int.lt_or_le (bl : Int) k with s | s
    · exact high k z (by omega)
    · exact low k z s
theorem sp_search (gr : GatR us lim lst u li le) (hh : ∀ l, l < 5 → (((held >>> (nI l &&& 31)) &&& (1 : Int32)) = 1 ↔ hb l)) (tv : ∀ w, w < 4 → va w = iI (V w) ∧ 0 ≤ V w ∧ V w ≤ 198 ∧ 0 ≤ M w ∧ M w ≤ 12) (hW : nW ≤ 4)
    (hk : ∀ w, w < nW → kn w = iI (kd w) ∧ 0 ≤ kd w ∧ kd w ≤ 2 ∧ mo w = iI (M' w) ∧ 0 ≤ M' w ∧ M' w ≤ 12) (hM' : ∀ w, w < nW → M' w = M w ∨ M w = 0) (hkW : ∀ w, w < 4 → nW ≤ w → M w = 0) : ∀ (d dep : Nat), dep ≤ 4 → 5 ≤ d + dep → RecOK (wp_X1_search d) V M kd lim us lst hb nW held le li va kn mo u dep 0 := by
  intro d
  induction d with
  | zero => intro dep h1 h2; omega
  | succ d ih =>
    intro dep h1 h2 f h q g ops hei lw T fi opn ph pv pl px fh fv fl fx post cn fxr fo fr fd hpost
    have hV : ∀ w, w < 4 → 0 ≤ V w ∧ V w ≤ 198 := fun w hw => ⟨(tv w hw).2.1, (tv w hw).2.2.1⟩
    show wb_X1_search (wp_X1_search d) _ _ _ _ _ _ _ _ _ _ _ _ _ _ _ _ _ _ _ _ _ _ _ _ _
    unfold wb_X1_search
    refine br_t (nI_le (b := 4) h1 (by omega)) ?_
    refine sp_findParts (Fok_TabR fo tv) gr fxr hh (fun w hw z => ⟨((fo w hw).2 z).1, ((fo w hw).2 z).2.1⟩) (fun o1 o2 o3 o4 o5 nl => ?_) (fun o1 o2 o3 o4 o5 X c y isl c1 hy => ?_)
    · exact sp_beats0 (br_t rfl (hpost _ _ _ _ _ _ _ _ _ _ _ _ _ _ _ h q g fxr fr (SP_none fd nl _)))
    · have c0 := isl.1.1
      have hX : ∀ w, w < 4 → 0 ≤ X w ∧ X w ≤ 12 * c := fun w hw => by
        have a := isl.1.2.1 w hw
        have b := Int.mul_le_mul_of_nonneg_right (tv w hw).2.2.2.2 (Int.le_of_lt c0)
        exact ⟨a.1, by omega⟩
      have go : (h → Bt V X c q g) → (( (0 : Int32) = 0 → (wp_X1_firstSplit (lI c) y (nI nW) kn mo (fun (r14 : Int32) => wj_X1_search_39 (wp_X1_search d) (nI dep) r14 o1 o2 o3 held o4 fi o5 1 (lI (dot V X)) (lI c) y (nI nW) le li va kn mo u fh fv fl fx post))) ∧
          (¬ (0 : Int32) = 0 → wj_X1_search_39 (wp_X1_search d) (nI dep) (-1 : Int32) o1 o2 o3 held o4 fi o5 1 (lI (dot V X)) (lI c) y (nI nW) le li va kn mo u fh fv fl fx post)) := by
        intro hB
        refine br_t rfl ?_
        refine sp_firstSplit (M' := M') hW c0 c1 hX hk hy (fun al => ?_) (fun w hw sp => ?_)
        · unfold wj_X1_search_39
          refine br_f (by decide) (sp_copyOf (Or.inr rfl) (fun z hz => ?_))
          have kx : Kd M kd X c := fun w hw => by
            rcases Nat.lt_or_ge w nW with t | t
            · refine ⟨(al w t).1, fun k2 => ?_⟩
              rcases (al w t).2 k2 with s | s
              · exact Or.inl s
              · rcases hM' w t with e | e
                · rw [e] at s; exact Or.inr s
                · have := isl.1.2.1 w hw
                  rw [e] at this
                  exact Or.inl (by omega)
            · have := isl.1.2.1 w hw
              rw [hkW w hw t] at this
              have z0 : X w = 0 := by omega
              exact ⟨fun _ => ⟨0, by omega⟩, fun _ => Or.inl z0⟩
          refine hpost _ _ _ _ _ _ _ _ _ _ _ _ _ _ _ True X c fxr (Or.inr ⟨trivial, rfl, rfl, rfl, c1, fun w hw => by rw [hz w hw]; exact hy w hw⟩) ?_
          have s := SP_take (kd := kd) isl kx hB
          exact ⟨s.1, s.2.1, s.2.2.1, fun z => absurd (by decide) z⟩
        · have w4 : w < 4 := by omega
          have cw : (nI w).toNatClampNeg = w := nI_clamp (by omega)
          obtain ⟨k1, k2, k3, k4, k5, k6⟩ := hk w hw
          have ri : ∀ z : Int, -3000 ≤ z → z ≤ 3000 → rI z := fun z a b => ⟨by omega, by omega⟩
          have two : (2 : Int32) = iI 2 := rfl
          have hf : f w = -1 := by
            by_cases e : f w = -1
            · exact e
            · exfalso
              have xf := isl.2.1 w w4 e
              have ff := (fo w w4).2 e
              rcases sp with ⟨_, s⟩ | ⟨s1, s2, s3⟩
              · exact s ⟨f w, xf⟩
              · rcases ff.2.2 s1 with z | z
                · rw [z] at xf
                  exact s2 (by omega)
                · rcases hM' w hw with e2 | e2
                  · exact s3 (by rw [xf, z, e2])
                  · rw [z, e2] at xf
                    exact s2 (by omega)
          have mm : M' w = M w := by
            have := ((fo w w4).1 hf).2
            rw [k4] at this
            exact (iI_eq (ri _ (by omega) (by omega)) (ri _ (by have := tv w w4; omega) (by have := tv w w4; omega))).mp this
          have tM := tv w w4
          have xw := hX w w4
          have xw2 := isl.1.2.1 w w4
          have nd : d ≠ 0 := by
            intro e
            subst e
            have d4 : dep = 4 := by omega
            have : cno f = 0 := by omega
            revert this
            refine c4 (P := fun w => f w = -1 → cno f = 0 → False) ?_ ?_ ?_ ?_ w4 hf <;> intro z <;> simp [cno, z] <;> omega
          have d3 : dep ≤ 3 := by
            rcases Nat.lt_or_ge dep 4 with z | z
            · omega
            · exfalso
              have : cno f = 0 := by omega
              revert this
              refine c4 (P := fun w => f w = -1 → cno f = 0 → False) ?_ ?_ ?_ ?_ w4 hf <;> intro z <;> simp [cno, z] <;> omega
          have R := ih (dep + 1) (by omega) (by omega)
          have fO : FixO w f fi := fun v hv _ => fxr v hv
          have bothk : ∀ (bl ab : Nat) (x8 : Int32), (bl : Int) * c ≤ X w → (bl : Int) ≤ M w → X w ≤ (ab : Int) * c → (ab : Int) ≤ M w + 1 → (kd w = 2 → bl = 0 ∧ (ab : Int) = M w) → (kd w ≠ 2 → kd w = 1 ∧ ab = bl + 1) → _ :=
            fun bl ab x8 e1 e2 e3 e4 e5 e6 => sp_both (x8 := x8) (ops := o1) (hei := o2) (lw := o3) (T := o4) (opn := o5) (ph := 1) (pv := lI (dot V X)) (pl := lI c) (px := y) R h1 w4 hf cn fo isl tM.2.2.2.2 tM.2.2.2.1 e1 e2 e3 e4 e5 e6 fO fr fd hpost
          unfold wj_X1_search_39
          refine br_t (nI_pos' (by omega)) ⟨vp_in_nI w4 (by omega), ?_⟩
          rw [cw, k1, two]
          refine br_c (fun z => ?_) (fun z => ?_)
          · rw [iI_eq (ri _ (by omega) (by omega)) (ri _ (by omega) (by omega))] at z
            unfold wj_X1_search_72
            refine br_f (by decide) ?_
            unfold wj_X1_search_108
            refine br_f (by decide) ⟨vp_in_nI w4 (by omega), ?_⟩
            have em : mo (nI w).toNatClampNeg = nI (M w).toNat := by
              rw [cw, k4, mm, nI_iI]
              exact congrArg iI (by omega)
            rw [em]
            exact bothk 0 (M w).toNat _ (by omega) (by omega) (by have : ((M w).toNat : Int) = M w := by omega
                                                                  rw [this]; exact xw2.2) (by omega) (fun _ => ⟨rfl, by omega⟩) (fun n => absurd z n)
          · rw [iI_eq (ri _ (by omega) (by omega)) (ri _ (by omega) (by omega))] at z
            have z1 : kd w = 1 := by
              rcases sp with ⟨s, _⟩ | ⟨s, _⟩
              · exact s
              · exact absurd s z
            unfold wj_X1_search_72
            refine br_t rfl ⟨vp_in_nI w4 (by omega), ?_⟩
            have rd : rL c := ⟨by omega, by omega⟩
            have r1 : rL 1 := ⟨by omega, by omega⟩
            have mx : (if (1 : Int64) < lI c then lI c else (1 : Int64)) = lI c := by
              by_cases q : 1 < c
              · rw [if_pos]
                rw [lI_1, lI_lt r1 rd]
                exact q
              · have : c = 1 := by omega
                subst this
                rw [if_neg]
                · rfl
                · rw [lI_1, lI_lt r1 r1]
                  omega
            rw [cw, hy w w4, mx]
            refine sp_floorDiv xw.1 (by omega) c0 (by omega) ?_
            have q0 := Int.ediv_nonneg xw.1 (Int.le_of_lt c0)
            have q1 := Int.mul_ediv_add_emod (X w) c
            have q2 := Int.emod_nonneg (X w) (by omega : c ≠ 0)
            have q3 := Int.emod_lt_of_pos (X w) c0
            have q4 : X w / c ≤ M w := by
              refine Int.le_of_mul_le_mul_left (a := c) ?_ c0
              rw [Int.mul_comm c (M w)]
              omega
            have eb : (lI (X w / c)).toInt32 = nI (X w / c).toNat := by
              rw [lI_i, nI_iI]
              exact congrArg iI (by omega)
            have ct : (((X w / c).toNat : Nat) : Int) = X w / c := by omega
            have cm : X w / c * c = c * (X w / c) := Int.mul_comm _ _
            rw [eb]
            unfold wj_X1_search_108
            refine br_t rfl ?_
            rw [nI_1 (X w / c).toNat]
            refine bothk (X w / c).toNat ((X w / c).toNat + 1) _ ?_ (by omega) ?_ (by omega) (fun n => absurd n z) (fun _ => ⟨z1, rfl⟩)
            · rw [ct]
              omega
            · have e3 : (((X w / c).toNat + 1 : Nat) : Int) * c = X w / c * c + c := by
                push_cast
                rw [ct]
                grind
              rw [e3]
              omega
      rcases fr with ⟨n, e⟩ | ⟨n, e1, e2, e3, e4, e5⟩
      · subst e
        unfold wp_X2_beats
        refine br_t rfl ⟨by decide, br_f (by decide) (go (fun z => absurd z n))⟩
      · subst e1
        subst e2
        subst e3
        have q1 := (fd n).1
        refine sp_beats2 hV c0 c1 q1.1 e4 hX (fun w hw => ?_) hy e5 (fun b => br_f (by decide) (go (fun _ => b))) (fun b => br_t rfl ?_)
        · have a := q1.2.1 w hw
          have b := Int.mul_le_mul_of_nonneg_right (tv w hw).2.2.2.2 (Int.le_of_lt q1.1)
          exact ⟨a.1, by omega⟩
        · exact hpost _ _ _ _ _ _ _ _ _ _ _ _ _ _ _ h q g fxr (Or.inr ⟨n, rfl, rfl, rfl, e4, e5⟩) (SP_beaten fd isl n b _)
end SEARCH
