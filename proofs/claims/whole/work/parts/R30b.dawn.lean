abbrev w_X6_isSide (cy : Nat → ClassId)  : va_W := []
set_option maxHeartbeats 4000000 in
set_option maxRecDepth 100000 in
theorem c_X6_isSide (l : Launch) (D : va_G) (cy : Nat → ClassId) (sz : Nat)   {x0 : Int32} {post : Int32 → Prop} (h : wp_X6_isSide x0 post) : Met l yX6_isSide wsX6_isSide ({ frames := 0, cells := 0, slots := 0, locals := 0 }) (va_Pc [.int x0] (wI D cy sz (w_X6_isSide cy ))) (va_Qi (fun (r : Int32) (u : Unit) => post r ) (fun (u : Unit) t => wO D cy (va_A (w_X6_isSide cy ) sz) (w_X6_isSide cy ) t) (va_A (w_X6_isSide cy ) sz)) 0 0 (va_A (w_X6_isSide cy ) sz) := by
  refine contrZ (S := Unit) (post := fun (r : Int32) (u : Unit) => post r ) (wOut := fun (u : Unit) => (w_X6_isSide cy )) (cc := cX6_isSide) (maxL := 1) (own := RX6) (by decide +kernel) rfl rfl ?_
  intro p e s m args below meth c A Q hx hb hml hown hts hK hN hP hD hS hA hret
  refine ent [.int x0] (Nat.le_of_ble_eq_true rfl) (fun ls hl => ?_)
  have hl : lv_has ls 1 [(0, .int x0)] := hl
  unfold wp_X6_isSide at h
  refine lv_iload_n hx hb dX6_isSide_0 rfl (lv_at hl 0 rfl) ?_
  refine lv_if_eq (tgt := 9) hx hb dX6_isSide_1 (by decide) (fun c1 => ?_) (fun c1 => ?_)
  · have h := h.1 c1
    refine lv_iconst (v := 1) hx hb dX6_isSide_9 (by decide) ?_
    refine lv_goto (tgt := 14) hx hb dX6_isSide_10 (by decide) ?_
    exact hret (1 : Int32) () _ _ _ _ rfl h hP hD hS dX6_isSide_14
  · have h := h.2 c1
    refine lv_iload_n hx hb dX6_isSide_4 rfl (lv_at hl 0 rfl) ?_
    refine lv_iconst (v := 1) hx hb dX6_isSide_5 (by decide) ?_
    refine lv_icmp_ne (tgt := 13) hx hb dX6_isSide_6 (by decide) (fun c2 => ?_) (fun c2 => ?_)
    · have h := h.2 c2
      refine lv_iconst (v := 0) hx hb dX6_isSide_13 (by decide) ?_
      exact hret (0 : Int32) () _ _ _ _ rfl h hP hD hS dX6_isSide_14
    · have h := h.1 c2
      refine lv_iconst (v := 1) hx hb dX6_isSide_9 (by decide) ?_
      refine lv_goto (tgt := 14) hx hb dX6_isSide_10 (by decide) ?_
      exact hret (1 : Int32) () _ _ _ _ rfl h hP hD hS dX6_isSide_14
abbrev w_X6_isWish (cy : Nat → ClassId) (a_o a_o_reader a_o_told a_o_clearer a_o_bestOne a_o_looseOne a_o_other a_o_bids a_o_now a_o_spare a_o_now_isTold a_o_now_least a_o_now_gateOff a_o_now_limit a_o_now_value a_o_now_kind a_o_now_most a_o_now_wishOff a_o_now_use : Nat) (o_bestKnown : Int32) (o_looseKnown : Int32) (o_traced : Int64) (o_now_wishes : Int32) : va_W := [(a_o, .inr (6, [.ref a_o_reader, .ref a_o_told, .ref a_o_clearer, .ref a_o_bestOne, .ref a_o_looseOne, .ref a_o_other, .ref a_o_bids, .ref a_o_now, .ref a_o_spare, .int o_bestKnown, .int o_looseKnown, .long o_traced])), (a_o_now, .inr (4, [.ref a_o_now_isTold, .ref a_o_now_least, .ref a_o_now_gateOff, .ref a_o_now_limit, .ref a_o_now_value, .ref a_o_now_kind, .ref a_o_now_most, .ref a_o_now_wishOff, .ref a_o_now_use, .int o_now_wishes]))]
set_option maxHeartbeats 4000000 in
set_option maxRecDepth 100000 in
theorem c_X6_isWish (l : Launch) (D : va_G) (cy : Nat → ClassId) (a_o a_o_reader a_o_told a_o_clearer a_o_bestOne a_o_looseOne a_o_other a_o_bids a_o_now a_o_spare a_o_now_isTold a_o_now_least a_o_now_gateOff a_o_now_limit a_o_now_value a_o_now_kind a_o_now_most a_o_now_wishOff a_o_now_use : Nat) (sz : Nat)  {o_bestKnown : Int32} {o_looseKnown : Int32} {o_traced : Int64} {o_now_wishes : Int32} {x1 : Int32} {post : Int32 → Prop} (h : wp_X6_isWish o_now_wishes x1 post) : Met l yX6_isWish wsX6_isWish ({ frames := 0, cells := 0, slots := 0, locals := 0 }) (va_Pc [.ref a_o, .int x1] (wI D cy sz (w_X6_isWish cy a_o a_o_reader a_o_told a_o_clearer a_o_bestOne a_o_looseOne a_o_other a_o_bids a_o_now a_o_spare a_o_now_isTold a_o_now_least a_o_now_gateOff a_o_now_limit a_o_now_value a_o_now_kind a_o_now_most a_o_now_wishOff a_o_now_use o_bestKnown o_looseKnown o_traced o_now_wishes))) (va_Qi (fun (r : Int32) (u : Unit) => post r ) (fun (u : Unit) t => wO D cy (va_A (w_X6_isWish cy a_o a_o_reader a_o_told a_o_clearer a_o_bestOne a_o_looseOne a_o_other a_o_bids a_o_now a_o_spare a_o_now_isTold a_o_now_least a_o_now_gateOff a_o_now_limit a_o_now_value a_o_now_kind a_o_now_most a_o_now_wishOff a_o_now_use o_bestKnown o_looseKnown o_traced o_now_wishes) sz) (w_X6_isWish cy a_o a_o_reader a_o_told a_o_clearer a_o_bestOne a_o_looseOne a_o_other a_o_bids a_o_now a_o_spare a_o_now_isTold a_o_now_least a_o_now_gateOff a_o_now_limit a_o_now_value a_o_now_kind a_o_now_most a_o_now_wishOff a_o_now_use o_bestKnown o_looseKnown o_traced o_now_wishes) t) (va_A (w_X6_isWish cy a_o a_o_reader a_o_told a_o_clearer a_o_bestOne a_o_looseOne a_o_other a_o_bids a_o_now a_o_spare a_o_now_isTold a_o_now_least a_o_now_gateOff a_o_now_limit a_o_now_value a_o_now_kind a_o_now_most a_o_now_wishOff a_o_now_use o_bestKnown o_looseKnown o_traced o_now_wishes) sz)) 0 0 (va_A (w_X6_isWish cy a_o a_o_reader a_o_told a_o_clearer a_o_bestOne a_o_looseOne a_o_other a_o_bids a_o_now a_o_spare a_o_now_isTold a_o_now_least a_o_now_gateOff a_o_now_limit a_o_now_value a_o_now_kind a_o_now_most a_o_now_wishOff a_o_now_use o_bestKnown o_looseKnown o_traced o_now_wishes) sz) := by
  refine contrZ (S := Unit) (post := fun (r : Int32) (u : Unit) => post r ) (wOut := fun (u : Unit) => (w_X6_isWish cy a_o a_o_reader a_o_told a_o_clearer a_o_bestOne a_o_looseOne a_o_other a_o_bids a_o_now a_o_spare a_o_now_isTold a_o_now_least a_o_now_gateOff a_o_now_limit a_o_now_value a_o_now_kind a_o_now_most a_o_now_wishOff a_o_now_use o_bestKnown o_looseKnown o_traced o_now_wishes)) (cc := cX6_isWish) (maxL := 2) (own := RX6) (by decide +kernel) rfl rfl ?_
  intro p e s m args below meth c A Q hx hb hml hown hts hK hN hP hD hS hA hret
  have in_X6 : ∀ w ∈ u_ws RX6 TX6 12, w ∈ wsX6_isWish := by decide +kernel
  have fl_53 := hts (.fieldLink RX6 53 "DawnTable" "now" "LDawnTable$Table;") (by decide +kernel)
  have in_X4 : ∀ w ∈ u_ws RX4 TX4 10, w ∈ wsX6_isWish := by decide +kernel
  have fl_212 := hts (.fieldLink RX6 212 "DawnTable$Table" "wishes" "I") (by decide +kernel)
  refine ent [.ref a_o, .int x1] (Nat.le_of_ble_eq_true rfl) (fun ls hl => ?_)
  have hl : lv_has ls 2 [(0, .ref a_o), (1, .int x1)] := hl
  unfold wp_X6_isWish at h
  refine lv_iload_n hx hb dX6_isWish_0 rfl (lv_at hl 1 rfl) ?_
  refine lv_if_lt (tgt := 19) hx hb dX6_isWish_1 (by decide) (fun c1 => ?_) (fun c1 => ?_)
  · have h := h.1 c1
    refine lv_iconst (v := 0) hx hb dX6_isWish_19 (by decide) ?_
    exact hret (0 : Int32) () _ _ _ _ rfl h hP hD hS dX6_isWish_20
  · have h := h.2 c1
    refine lv_iload_n hx hb dX6_isWish_4 rfl (lv_at hl 1 rfl) ?_
    refine lv_aload_n hx hb dX6_isWish_5 rfl (lv_at hl 0 rfl) ?_
    refine va_get (D := D) (ci := 6) (v := .ref a_o_now) (C := RX6) (T := TX6) (N := 12) hx hb hts in_X6 hown hK hP 0 rfl rfl 7 (by decide) fl_53 (fun _ h9 => h9) rfl dX6_isWish_6 ?_
    refine va_get (D := D) (ci := 4) (v := .int o_now_wishes) (C := RX4) (T := TX4) (N := 10) hx hb hts in_X4 hown hK hP 1 rfl rfl 9 (by decide) fl_212 (fun _ h9 => h9) rfl dX6_isWish_9 ?_
    refine lv_icmp_ge (tgt := 19) hx hb dX6_isWish_12 (by decide) (fun c2 => ?_) (fun c2 => ?_)
    · have h := h.1 c2
      refine lv_iconst (v := 0) hx hb dX6_isWish_19 (by decide) ?_
      exact hret (0 : Int32) () _ _ _ _ rfl h hP hD hS dX6_isWish_20
    · have h := h.2 c2
      refine lv_iconst (v := 1) hx hb dX6_isWish_15 (by decide) ?_
      refine lv_goto (tgt := 20) hx hb dX6_isWish_16 (by decide) ?_
      exact hret (1 : Int32) () _ _ _ _ rfl h hP hD hS dX6_isWish_20
abbrev w_X6_gcd (cy : Nat → ClassId)  : va_W := []
set_option maxHeartbeats 4000000 in
set_option maxRecDepth 100000 in
theorem c_X6_gcd (l : Launch) (D : va_G) (cy : Nat → ClassId) (sz : Nat)   {x0 : Int64} {x2 : Int64} {post : Int64 → Prop} (h : wp_X6_gcd x0 x2 post) : Met l yX6_gcd wsX6_gcd ({ frames := 1, cells := 0, slots := 0, locals := 40 }) (va_Pc [.long x0, .long x2] (wI D cy sz (w_X6_gcd cy ))) (va_Ql (fun (r : Int64) (u : Unit) => post r ) (fun (u : Unit) t => wO D cy (va_A (w_X6_gcd cy ) sz) (w_X6_gcd cy ) t) (va_A (w_X6_gcd cy ) sz)) 0 0 (va_A (w_X6_gcd cy ) sz) := by
  refine contrL (S := Unit) (post := fun (r : Int64) (u : Unit) => post r ) (wOut := fun (u : Unit) => (w_X6_gcd cy )) (cc := cX6_gcd) (maxL := 11) (own := RX6) (by decide +kernel) rfl rfl ?_
  intro p e s m args below meth c A Q hx hb hml hown hts hK hN hP hD hS hA hret
  have l_15 : ∀ (kx0 : Int64 → Prop), (∀ (x4 : Int64), kx0 x4 → ∀ (H : Heap) (locs : List Loc), va_P D vwCl (w_X6_gcd cy ) H → va_D A (w_X6_gcd cy ) → va_S A s.heap H locs → ∀ (ls : Array Slot), lv_has ls 11 [(4, .long x4)] → W p l e ({ frames := 1, cells := 0, slots := 0, locals := 40 }) s m args below meth c H locs 0 0 Q (F0 m 50 ls [])) → ∀ (n : Nat) (x4 : Int64) (x6 : Int64) (x8 : Int32), wl_X6_gcd_15  kx0 post n x4 x6 x8 → ∀ (H : Heap) (locs : List Loc), va_P D vwCl (w_X6_gcd cy ) H → va_D A (w_X6_gcd cy ) → va_S A s.heap H locs → ∀ (ls : Array Slot), lv_has ls 11 [(4, .long x4), (6, .long x6), (8, .int x8)] → W p l e ({ frames := 1, cells := 0, slots := 0, locals := 40 }) s m args below meth c H locs 0 0 Q (F0 m 15 ls []) := by
    intro  kx0 hkx0  n
    induction n with
    | zero => intro x4 x6 x8 h; exact h.elim
    | succ n hkb =>
      intro x4 x6 x8 h H locs hP hD hS ls hl
      replace h : ws_X6_gcd_15  (wl_X6_gcd_15  kx0 post n) kx0 post x4 x6 x8 := h
      generalize wl_X6_gcd_15  kx0 post n = kb at h hkb
      unfold ws_X6_gcd_15 at h
      refine lv_iload hx hb dX6_gcd_15 (lv_at hl 2 rfl) ?_
      refine lv_bipush (v := 100) hx hb dX6_gcd_17 (by decide) ?_
      refine lv_icmp_ge (tgt := 50) hx hb dX6_gcd_19 (by decide) (fun c1 => ?_) (fun c1 => ?_)
      · have h := h.1 c1
        exact hkx0 x4 h _ _ hP hD hS _ (lv_sub hl [0] rfl)
      · have h := h.2 c1
        refine lv_lload hx hb dX6_gcd_22 (lv_at hl 1 rfl) ?_
        refine lv_lconst (v := 0) hx hb dX6_gcd_24 (by decide) ?_
        refine W.lcmp hx hb dX6_gcd_25 ?_
        refine lv_if_eq (tgt := 50) hx hb dX6_gcd_26 (by decide) (fun c2 => ?_) (fun c2 => ?_)
        · have h := h.1 (lc_eq.mp c2)
          exact hkx0 x4 h _ _ hP hD hS _ (lv_sub hl [0] rfl)
        · have h := h.2 (fun z => c2 (lc_eq.mpr z))
          refine lv_lload hx hb dX6_gcd_29 (lv_at hl 0 rfl) ?_
          refine lv_lload hx hb dX6_gcd_31 (lv_at hl 1 rfl) ?_
          obtain ⟨z3, h⟩ := h
          refine lv_lrem hx hb dX6_gcd_33 z3 ?_
          refine lv_lstore (lv' := [(9, .long (x4 - x4 / x6 * x6)), (4, .long x4), (6, .long x6), (8, .int x8)]) hx hb dX6_gcd_34 hl (by decide) rfl (fun ls hl => ?_)
          refine lv_lload hx hb dX6_gcd_36 (lv_at hl 2 rfl) ?_
          refine lv_lstore (lv' := [(4, .long x6), (9, .long (x4 - x4 / x6 * x6)), (6, .long x6), (8, .int x8)]) hx hb dX6_gcd_38 hl (by decide) rfl (fun ls hl => ?_)
          refine lv_lload hx hb dX6_gcd_40 (lv_at hl 1 rfl) ?_
          refine lv_lstore (lv' := [(6, .long (x4 - x4 / x6 * x6)), (4, .long x6), (9, .long (x4 - x4 / x6 * x6)), (8, .int x8)]) hx hb dX6_gcd_42 hl (by decide) rfl (fun ls hl => ?_)
          refine lv_iinc (v := (x8 + (1 : Int32))) (lv' := [(8, .int (x8 + (1 : Int32))), (6, .long (x4 - x4 / x6 * x6)), (4, .long x6), (9, .long (x4 - x4 / x6 * x6))]) hx hb dX6_gcd_44 hl (k := 3) rfl (congrArg (fun z => x8 + z) (by decide : Int32.ofInt (1) = (1 : Int32))) (by decide) rfl (fun ls hl => ?_)
          refine lv_goto (tgt := 15) hx hb dX6_gcd_47 (by decide) ?_
          exact hkb x6 (x4 - x4 / x6 * x6) (x8 + (1 : Int32)) h _ _ hP hD hS _ (lv_sub hl [2, 1, 0] rfl)
  refine ent [.long x0, .long x2] (Nat.le_of_ble_eq_true rfl) (fun ls hl => ?_)
  have hl : lv_has ls 11 [(0, .long x0), (2, .long x2)] := hl
  unfold wp_X6_gcd at h
  refine lv_lload_n hx hb dX6_gcd_0 rfl (lv_at hl 0 rfl) ?_
  refine va_mabs_long hx hb (hml.trans hl.1.symm) hown (hts (.methodLink RX6 239 Lib.MathLoose.abs_long.x) (by decide +kernel)) (hts (.static Lib.MathLoose.abs_long.x) (by decide +kernel)) (hts (.initialized "java/lang/Math") (by decide +kernel)) (hts (.code Lib.MathLoose.abs_long.x Lib.MathLoose.abs_long.code 2 (some .long)) (by decide +kernel)) (Nat.le_of_ble_eq_true rfl) (Nat.le_of_ble_eq_true rfl) (Nat.le_of_ble_eq_true rfl) (Nat.le_of_ble_eq_true rfl) dX6_gcd_1 ?_
  refine lv_lstore (lv' := [(4, .long (if 0 < x0 then x0 else (-x0))), (0, .long x0), (2, .long x2)]) hx hb dX6_gcd_4 hl (by decide) rfl (fun ls hl => ?_)
  refine lv_lload_n hx hb dX6_gcd_6 rfl (lv_at hl 2 rfl) ?_
  refine va_mabs_long hx hb (hml.trans hl.1.symm) hown (hts (.methodLink RX6 239 Lib.MathLoose.abs_long.x) (by decide +kernel)) (hts (.static Lib.MathLoose.abs_long.x) (by decide +kernel)) (hts (.initialized "java/lang/Math") (by decide +kernel)) (hts (.code Lib.MathLoose.abs_long.x Lib.MathLoose.abs_long.code 2 (some .long)) (by decide +kernel)) (Nat.le_of_ble_eq_true rfl) (Nat.le_of_ble_eq_true rfl) (Nat.le_of_ble_eq_true rfl) (Nat.le_of_ble_eq_true rfl) dX6_gcd_7 ?_
  refine lv_lstore (lv' := [(6, .long (if 0 < x2 then x2 else (-x2))), (4, .long (if 0 < x0 then x0 else (-x0))), (0, .long x0), (2, .long x2)]) hx hb dX6_gcd_10 hl (by decide) rfl (fun ls hl => ?_)
  refine lv_iconst (v := 0) hx hb dX6_gcd_12 (by decide) ?_
  refine lv_istore (lv' := [(8, .int (0 : Int32)), (6, .long (if 0 < x2 then x2 else (-x2))), (4, .long (if 0 < x0 then x0 else (-x0))), (0, .long x0), (2, .long x2)]) hx hb dX6_gcd_13 hl (by decide) rfl (fun ls hl => ?_)
  obtain ⟨n5, h⟩ := h
  refine l_15  _ ?_ n5 (if 0 < x0 then x0 else (-x0)) (if 0 < x2 then x2 else (-x2)) (0 : Int32) h _ _ hP hD hS _ (lv_sub hl [2, 1, 0] rfl)
  · intro x4_4 h H locs hP hD hS ls hl
    refine lv_lload hx hb dX6_gcd_50 (lv_at hl 0 rfl) ?_
    exact hret x4_4 () _ _ _ _ h hP hD hS dX6_gcd_52
abbrev w_X6_side (cy : Nat → ClassId)  : va_W := []
set_option maxRecDepth 20000 in
theorem ggX6_side_X6_gcd : GoodIn wsX6_side wsX6_gcd := goodIn_r _ [5, 6, 7, 8, 9] (by decide +kernel) (by decide +kernel)
set_option maxRecDepth 20000 in
theorem gX6_side_X6_gcd : GoodIn wsX6_side (va_wsS RX6 245 yX6_gcd wsX6_gcd) := goodIn_app (goodIn_of _ (by decide +kernel)) ggX6_side_X6_gcd
set_option maxHeartbeats 4000000 in
set_option maxRecDepth 100000 in
theorem c_X6_side (l : Launch) (D : va_G) (cy : Nat → ClassId) (sz : Nat)   {x0 : Int64} {x2 : Int64} {x4 : Int32} {post : Int64 → Prop} (h : wp_X6_side x0 x2 x4 post) : Met l yX6_side wsX6_side ({ frames := 2, cells := 0, slots := 0, locals := 70 }) (va_Pc [.long x0, .long x2, .int x4] (wI D cy sz (w_X6_side cy ))) (va_Ql (fun (r : Int64) (u : Unit) => post r ) (fun (u : Unit) t => wO D cy (va_A (w_X6_side cy ) sz) (w_X6_side cy ) t) (va_A (w_X6_side cy ) sz)) 0 0 (va_A (w_X6_side cy ) sz) := by
  refine contrL (S := Unit) (post := fun (r : Int64) (u : Unit) => post r ) (wOut := fun (u : Unit) => (w_X6_side cy )) (cc := cX6_side) (maxL := 7) (own := RX6) (by decide +kernel) rfl rfl ?_
  intro p e s m args below meth c A Q hx hb hml hown hts hK hN hP hD hS hA hret
  refine ent [.long x0, .long x2, .int x4] (Nat.le_of_ble_eq_true rfl) (fun ls hl => ?_)
  have hl : lv_has ls 7 [(0, .long x0), (2, .long x2), (4, .int x4)] := hl
  unfold wp_X6_side at h
  refine lv_lload_n hx hb dX6_side_0 rfl (lv_at hl 0 rfl) ?_
  refine lv_lload_n hx hb dX6_side_1 rfl (lv_at hl 1 rfl) ?_
  have hC : ([] : List Nat).map (fun i => ((w_X6_side cy ) : va_W)[i]?) = ((w_X6_gcd cy ) : va_W).map some := rfl
  obtain ⟨hPc, hDc⟩ := cutC hP hD [] (by decide) hC
  have hFc := va_free hD hS hA [] hC
  refine va_calll (va_runS (As := [.long x0, .long x2]) (rest := []) ⟨hx, hb, hml, hown, hts⟩ (c_X6_gcd l D cy _ h) (va_cwS 2 hts gX6_side_X6_gcd rfl rfl rfl (by decide +kernel) ⟨Nat.le_of_ble_eq_true rfl, Nat.le_of_ble_eq_true rfl⟩) (preS hPc hDc hK hN) rfl rfl hl.1 rfl (lv_room (Nat.le_of_ble_eq_true rfl)) dX6_side_2 ⟨Nat.zero_le _, Nat.zero_le _⟩) hS (fun q _ h => hFc q h) hFc (fun r1 u t H1 locs ht hvm h hB hz1 hk1 hS => ?_)
  try dsimp only at h hB
  obtain ⟨hP, hD⟩ := joinU (wd := (w_X6_side cy )) (wr := []) hP hD [] [] [] hC hk1 ht hB rfl rfl rfl (N := 0) rfl (by decide) rfl rfl
  generalize H1 = H at hP hS ⊢
  refine lv_lstore (lv' := [(5, .long r1), (0, .long x0), (2, .long x2), (4, .int x4)]) hx hb dX6_side_5 hl (by decide) rfl (fun ls hl => ?_)
  refine lv_lload hx hb dX6_side_7 (lv_at hl 0 rfl) ?_
  refine lv_lconst (v := 0) hx hb dX6_side_9 (by decide) ?_
  refine W.lcmp hx hb dX6_side_10 ?_
  refine lv_if_ne (tgt := 18) hx hb dX6_side_11 (by decide) (fun c2 => ?_) (fun c2 => ?_)
  · have h := h.2 (fun z => c2 (lc_eq.mpr z))
    refine lv_iload hx hb dX6_side_18 (lv_at hl 3 rfl) ?_
    refine lv_if_ne (tgt := 27) hx hb dX6_side_20 (by decide) (fun c3 => ?_) (fun c3 => ?_)
    · have h := h.2 c3
      refine lv_lload_n hx hb dX6_side_27 rfl (lv_at hl 2 rfl) ?_
      refine lv_lload hx hb dX6_side_28 (lv_at hl 0 rfl) ?_
      obtain ⟨z4, h⟩ := h
      refine lv_ldiv hx hb dX6_side_30 z4 ?_
      exact hret (x2 / r1) () _ _ _ _ h hP hD hS dX6_side_31
    · have h := h.1 c3
      refine lv_lload_n hx hb dX6_side_23 rfl (lv_at hl 1 rfl) ?_
      refine lv_goto (tgt := 28) hx hb dX6_side_24 (by decide) ?_
      refine lv_lload hx hb dX6_side_28 (lv_at hl 0 rfl) ?_
      obtain ⟨z5, h⟩ := h
      refine lv_ldiv hx hb dX6_side_30 z5 ?_
      exact hret (x0 / r1) () _ _ _ _ h hP hD hS dX6_side_31
  · have h := h.1 (lc_eq.mp c2)
    refine lv_ldc2 hx hb hown (hts (.constantLong RX6 131 (-1000000000000000000)) (by decide +kernel)) dX6_side_14 ?_
    exact hret (-1000000000000000000 : Int64) () _ _ _ _ h hP hD hS dX6_side_17
abbrev w_X6_lessSide (cy : Nat → ClassId)  : va_W := []
set_option maxRecDepth 20000 in
theorem ggX6_lessSide_X6_side : GoodIn wsX6_lessSide wsX6_side := goodIn_r _ [4, 5, 6, 7, 3, 8, 9, 10, 11, 12] (by decide +kernel) (by decide +kernel)
set_option maxRecDepth 20000 in
theorem gX6_lessSide_X6_side : GoodIn wsX6_lessSide (va_wsS RX6 147 yX6_side wsX6_side) := goodIn_app (goodIn_of _ (by decide +kernel)) ggX6_lessSide_X6_side
set_option maxHeartbeats 4000000 in
set_option maxRecDepth 100000 in
theorem c_X6_lessSide (l : Launch) (D : va_G) (cy : Nat → ClassId) (sz : Nat)   {x0 : Int64} {x2 : Int64} {x4 : Int64} {x6 : Int64} {x8 : Int32} {post : Int64 → Prop} (h : wp_X6_lessSide x0 x2 x4 x6 x8 post) : Met l yX6_lessSide wsX6_lessSide ({ frames := 3, cells := 0, slots := 0, locals := 96 }) (va_Pc [.long x0, .long x2, .long x4, .long x6, .int x8] (wI D cy sz (w_X6_lessSide cy ))) (va_Ql (fun (r : Int64) (u : Unit) => post r ) (fun (u : Unit) t => wO D cy (va_A (w_X6_lessSide cy ) sz) (w_X6_lessSide cy ) t) (va_A (w_X6_lessSide cy ) sz)) 0 0 (va_A (w_X6_lessSide cy ) sz) := by
  refine contrL (S := Unit) (post := fun (r : Int64) (u : Unit) => post r ) (wOut := fun (u : Unit) => (w_X6_lessSide cy )) (cc := cX6_lessSide) (maxL := 9) (own := RX6) (by decide +kernel) rfl rfl ?_
  intro p e s m args below meth c A Q hx hb hml hown hts hK hN hP hD hS hA hret
  refine ent [.long x0, .long x2, .long x4, .long x6, .int x8] (Nat.le_of_ble_eq_true rfl) (fun ls hl => ?_)
  have hl : lv_has ls 9 [(0, .long x0), (2, .long x2), (4, .long x4), (6, .long x6), (8, .int x8)] := hl
  unfold wp_X6_lessSide at h
  refine lv_lload_n hx hb dX6_lessSide_0 rfl (lv_at hl 0 rfl) ?_
  refine lv_lload hx hb dX6_lessSide_1 (lv_at hl 3 rfl) ?_
  refine lv_lmul hx hb dX6_lessSide_3 ?_
  refine lv_lload hx hb dX6_lessSide_4 (lv_at hl 2 rfl) ?_
  refine lv_lload_n hx hb dX6_lessSide_6 rfl (lv_at hl 1 rfl) ?_
  refine lv_lmul hx hb dX6_lessSide_7 ?_
  refine lv_lsub hx hb dX6_lessSide_8 ?_
  refine lv_lload_n hx hb dX6_lessSide_9 rfl (lv_at hl 1 rfl) ?_
  refine lv_lload hx hb dX6_lessSide_10 (lv_at hl 3 rfl) ?_
  refine lv_lmul hx hb dX6_lessSide_12 ?_
  refine lv_iload hx hb dX6_lessSide_13 (lv_at hl 4 rfl) ?_
  have hC : ([] : List Nat).map (fun i => ((w_X6_lessSide cy ) : va_W)[i]?) = ((w_X6_side cy ) : va_W).map some := rfl
  obtain ⟨hPc, hDc⟩ := cutC hP hD [] (by decide) hC
  have hFc := va_free hD hS hA [] hC
  refine va_calll (va_runS (As := [.long ((x0 * x6) - (x4 * x2)), .long (x2 * x6), .int x8]) (rest := []) ⟨hx, hb, hml, hown, hts⟩ (c_X6_side l D cy _ h) (va_cwS 3 hts gX6_lessSide_X6_side rfl rfl rfl (by decide +kernel) ⟨Nat.le_of_ble_eq_true rfl, Nat.le_of_ble_eq_true rfl⟩) (preS hPc hDc hK hN) rfl rfl hl.1 rfl (lv_room (Nat.le_of_ble_eq_true rfl)) dX6_lessSide_15 ⟨Nat.zero_le _, Nat.zero_le _⟩) hS (fun q _ h => hFc q h) hFc (fun r1 u t H1 locs ht hvm h hB hz1 hk1 hS => ?_)
  try dsimp only at h hB
  obtain ⟨hP, hD⟩ := joinU (wd := (w_X6_lessSide cy )) (wr := []) hP hD [] [] [] hC hk1 ht hB rfl rfl rfl (N := 0) rfl (by decide) rfl rfl
  generalize H1 = H at hP hS ⊢
  exact hret r1 () _ _ _ _ h hP hD hS dX6_lessSide_18
abbrev w_X6_forgetClearings (cy : Nat → ClassId) (a_o a_o_reader a_o_told a_o_clearer a_o_bestOne a_o_looseOne a_o_other a_o_bids a_o_now a_o_spare : Nat) (o_bestKnown : Int32) (o_looseKnown : Int32) (o_traced : Int64) : va_W := [(a_o, .inr (6, [.ref a_o_reader, .ref a_o_told, .ref a_o_clearer, .ref a_o_bestOne, .ref a_o_looseOne, .ref a_o_other, .ref a_o_bids, .ref a_o_now, .ref a_o_spare, .int o_bestKnown, .int o_looseKnown, .long o_traced]))]
set_option maxHeartbeats 4000000 in
set_option maxRecDepth 100000 in
theorem c_X6_forgetClearings (l : Launch) (D : va_G) (cy : Nat → ClassId) (a_o a_o_reader a_o_told a_o_clearer a_o_bestOne a_o_looseOne a_o_other a_o_bids a_o_now a_o_spare : Nat) (sz : Nat)  {o_bestKnown : Int32} {o_looseKnown : Int32} {o_traced : Int64}  {post : Int32 → Int32 → Prop} (h : wp_X6_forgetClearings o_bestKnown o_looseKnown post) : Met l yX6_forgetClearings wsX6_forgetClearings ({ frames := 0, cells := 0, slots := 0, locals := 0 }) (va_Pc [.ref a_o] (wI D cy sz (w_X6_forgetClearings cy a_o a_o_reader a_o_told a_o_clearer a_o_bestOne a_o_looseOne a_o_other a_o_bids a_o_now a_o_spare o_bestKnown o_looseKnown o_traced))) (va_Qv (fun (u : Int32 × Int32) => post u.1 u.2) (fun (u : Int32 × Int32) t => wO D cy (va_A (w_X6_forgetClearings cy a_o a_o_reader a_o_told a_o_clearer a_o_bestOne a_o_looseOne a_o_other a_o_bids a_o_now a_o_spare o_bestKnown o_looseKnown o_traced) sz) (w_X6_forgetClearings cy a_o a_o_reader a_o_told a_o_clearer a_o_bestOne a_o_looseOne a_o_other a_o_bids a_o_now a_o_spare u.1 u.2 o_traced) t) (va_A (w_X6_forgetClearings cy a_o a_o_reader a_o_told a_o_clearer a_o_bestOne a_o_looseOne a_o_other a_o_bids a_o_now a_o_spare o_bestKnown o_looseKnown o_traced) sz)) 0 0 (va_A (w_X6_forgetClearings cy a_o a_o_reader a_o_told a_o_clearer a_o_bestOne a_o_looseOne a_o_other a_o_bids a_o_now a_o_spare o_bestKnown o_looseKnown o_traced) sz) := by
  refine contrV (S := Int32 × Int32) (post := fun (u : Int32 × Int32) => post u.1 u.2) (wOut := fun (u : Int32 × Int32) => (w_X6_forgetClearings cy a_o a_o_reader a_o_told a_o_clearer a_o_bestOne a_o_looseOne a_o_other a_o_bids a_o_now a_o_spare u.1 u.2 o_traced)) (cc := cX6_forgetClearings) (maxL := 1) (own := RX6) (by decide +kernel) rfl rfl ?_
  intro p e s m args below meth c A Q hx hb hml hown hts hK hN hP hD hS hA hret
  have in_X6 : ∀ w ∈ u_ws RX6 TX6 12, w ∈ wsX6_forgetClearings := by decide +kernel
  have fl_60 := hts (.fieldLink RX6 60 "DawnTable" "bestKnown" "Z") (by decide +kernel)
  have fl_64 := hts (.fieldLink RX6 64 "DawnTable" "looseKnown" "Z") (by decide +kernel)
  refine ent [.ref a_o] (Nat.le_of_ble_eq_true rfl) (fun ls hl => ?_)
  have hl : lv_has ls 1 [(0, .ref a_o)] := hl
  unfold wp_X6_forgetClearings at h
  refine lv_aload_n hx hb dX6_forgetClearings_0 rfl (lv_at hl 0 rfl) ?_
  refine lv_iconst (v := 0) hx hb dX6_forgetClearings_1 (by decide) ?_
  refine va_put (D := D) (ci := 6) (v := .int (0 : Int32)) (ty := .boolean) (C := RX6) (T := TX6) (N := 12) hx hb hts in_X6 tyX6 tyX6_ok nmX6 hown hK hP hD hS 0 rfl rfl 9 (by decide) fl_60 (fun _ h9 => h9) rfl (by decide +kernel) rfl rfl (Nat.le_of_ble_eq_true rfl) dX6_forgetClearings_2 (fun H locs hP hD hS => ?_)
  have hP : va_P D vwCl (w_X6_forgetClearings cy a_o a_o_reader a_o_told a_o_clearer a_o_bestOne a_o_looseOne a_o_other a_o_bids a_o_now a_o_spare (0 : Int32) o_looseKnown o_traced) H := hP
  have hD : va_D A (w_X6_forgetClearings cy a_o a_o_reader a_o_told a_o_clearer a_o_bestOne a_o_looseOne a_o_other a_o_bids a_o_now a_o_spare (0 : Int32) o_looseKnown o_traced) := hD
  refine lv_aload_n hx hb dX6_forgetClearings_5 rfl (lv_at hl 0 rfl) ?_
  refine lv_iconst (v := 0) hx hb dX6_forgetClearings_6 (by decide) ?_
  refine va_put (D := D) (ci := 6) (v := .int (0 : Int32)) (ty := .boolean) (C := RX6) (T := TX6) (N := 12) hx hb hts in_X6 tyX6 tyX6_ok nmX6 hown hK hP hD hS 0 rfl rfl 10 (by decide) fl_64 (fun _ h9 => h9) rfl (by decide +kernel) rfl rfl (Nat.le_of_ble_eq_true rfl) dX6_forgetClearings_7 (fun H locs hP hD hS => ?_)
  have hP : va_P D vwCl (w_X6_forgetClearings cy a_o a_o_reader a_o_told a_o_clearer a_o_bestOne a_o_looseOne a_o_other a_o_bids a_o_now a_o_spare (0 : Int32) (0 : Int32) o_traced) H := hP
  have hD : va_D A (w_X6_forgetClearings cy a_o a_o_reader a_o_told a_o_clearer a_o_bestOne a_o_looseOne a_o_other a_o_bids a_o_now a_o_spare (0 : Int32) (0 : Int32) o_traced) := hD
  exact hret ((0 : Int32), (0 : Int32)) _ _ _ _ h hP hD hS dX6_forgetClearings_10
abbrev w_X6_type (cy : Nat → ClassId) (a_o a_o_reader a_o_told a_o_clearer a_o_bestOne a_o_looseOne a_o_other a_o_bids a_o_now a_o_spare a_o_reader_text : Nat) (o_bestKnown : Int32) (o_looseKnown : Int32) (o_traced : Int64) (o_reader_length : Int32) (o_reader_at : Int32) (o_reader_start : Int32) (o_reader_token : Int32) (o_reader_number : Int32) (o_reader_text : Nat → Int32) : va_W := [(a_o, .inr (6, [.ref a_o_reader, .ref a_o_told, .ref a_o_clearer, .ref a_o_bestOne, .ref a_o_looseOne, .ref a_o_other, .ref a_o_bids, .ref a_o_now, .ref a_o_spare, .int o_bestKnown, .int o_looseKnown, .long o_traced])), (a_o_reader, .inr (3, [.ref a_o_reader_text, .int o_reader_length, .int o_reader_at, .int o_reader_start, .int o_reader_token, .int o_reader_number])), (a_o_reader_text, .inl (cy 0, 300, .inl o_reader_text))]
set_option maxRecDepth 20000 in
theorem ggX6_type_X3_put : GoodIn wsX6_type wsX3_put := goodIn_r _ [6, 7, 8, 21, 22, 23, 24, 25, 26] (by decide +kernel) (by decide +kernel)
set_option maxRecDepth 20000 in
theorem gX6_type_X3_put : GoodIn wsX6_type (wsV RX6 71 RX3 yX3_put wsX3_put) := goodIn_app (goodIn_of _ (by decide +kernel)) ggX6_type_X3_put
set_option maxHeartbeats 4000000 in
set_option maxRecDepth 100000 in
theorem c_X6_type (l : Launch) (D : va_G) (cy : Nat → ClassId) (a_o a_o_reader a_o_told a_o_clearer a_o_bestOne a_o_looseOne a_o_other a_o_bids a_o_now a_o_spare a_o_reader_text : Nat) (sz : Nat)  {o_bestKnown : Int32} {o_looseKnown : Int32} {o_traced : Int64} {o_reader_length : Int32} {o_reader_at : Int32} {o_reader_start : Int32} {o_reader_token : Int32} {o_reader_number : Int32} {o_reader_text : Nat → Int32} {x1 : Int64} {x3 : Int32} {post : Int32 → Int32 → (Nat → Int32) → Prop} (h : wp_X6_type o_reader_length o_reader_text x1 x3 post) : Met l yX6_type wsX6_type ({ frames := 1, cells := 0, slots := 0, locals := 24 }) (va_Pc [.ref a_o, .long x1, .int x3] (wI D cy sz (w_X6_type cy a_o a_o_reader a_o_told a_o_clearer a_o_bestOne a_o_looseOne a_o_other a_o_bids a_o_now a_o_spare a_o_reader_text o_bestKnown o_looseKnown o_traced o_reader_length o_reader_at o_reader_start o_reader_token o_reader_number o_reader_text))) (va_Qi (fun (r : Int32) (u : Int32 × (Nat → Int32)) => post r u.1 u.2) (fun (u : Int32 × (Nat → Int32)) t => wO D cy (va_A (w_X6_type cy a_o a_o_reader a_o_told a_o_clearer a_o_bestOne a_o_looseOne a_o_other a_o_bids a_o_now a_o_spare a_o_reader_text o_bestKnown o_looseKnown o_traced o_reader_length o_reader_at o_reader_start o_reader_token o_reader_number o_reader_text) sz) (w_X6_type cy a_o a_o_reader a_o_told a_o_clearer a_o_bestOne a_o_looseOne a_o_other a_o_bids a_o_now a_o_spare a_o_reader_text o_bestKnown o_looseKnown o_traced u.1 o_reader_at o_reader_start o_reader_token o_reader_number u.2) t) (va_A (w_X6_type cy a_o a_o_reader a_o_told a_o_clearer a_o_bestOne a_o_looseOne a_o_other a_o_bids a_o_now a_o_spare a_o_reader_text o_bestKnown o_looseKnown o_traced o_reader_length o_reader_at o_reader_start o_reader_token o_reader_number o_reader_text) sz)) 0 0 (va_A (w_X6_type cy a_o a_o_reader a_o_told a_o_clearer a_o_bestOne a_o_looseOne a_o_other a_o_bids a_o_now a_o_spare a_o_reader_text o_bestKnown o_looseKnown o_traced o_reader_length o_reader_at o_reader_start o_reader_token o_reader_number o_reader_text) sz) := by
  refine contrI (S := Int32 × (Nat → Int32)) (post := fun (r : Int32) (u : Int32 × (Nat → Int32)) => post r u.1 u.2) (wOut := fun (u : Int32 × (Nat → Int32)) => (w_X6_type cy a_o a_o_reader a_o_told a_o_clearer a_o_bestOne a_o_looseOne a_o_other a_o_bids a_o_now a_o_spare a_o_reader_text o_bestKnown o_looseKnown o_traced u.1 o_reader_at o_reader_start o_reader_token o_reader_number u.2)) (cc := cX6_type) (maxL := 4) (own := RX6) (by decide +kernel) rfl rfl ?_
  intro p e s m args below meth c A Q hx hb hml hown hts hK hN hP hD hS hA hret
  have in_X6 : ∀ w ∈ u_ws RX6 TX6 12, w ∈ wsX6_type := by decide +kernel
  have fl_10 := hts (.fieldLink RX6 10 "DawnTable" "reader" "LDawnTable$Reader;") (by decide +kernel)
  refine ent [.ref a_o, .long x1, .int x3] (Nat.le_of_ble_eq_true rfl) (fun ls hl => ?_)
  have hl : lv_has ls 4 [(0, .ref a_o), (1, .long x1), (3, .int x3)] := hl
  unfold wp_X6_type at h
  refine lv_iload_n hx hb dX6_type_0 rfl (lv_at hl 2 rfl) ?_
  refine lv_iconst (v := 1) hx hb dX6_type_1 (by decide) ?_
  refine lv_icmp_lt (tgt := 11) hx hb dX6_type_2 (by decide) (fun c1 => ?_) (fun c1 => ?_)
  · have h := h.1 c1
    refine lv_iconst (v := -1) hx hb dX6_type_11 (by decide) ?_
    exact hret (-1 : Int32) (o_reader_length, o_reader_text) _ _ _ _ h hP hD hS dX6_type_12
  · have h := h.2 c1
    refine lv_iload_n hx hb dX6_type_5 rfl (lv_at hl 2 rfl) ?_
    refine lv_bipush (v := 8) hx hb dX6_type_6 (by decide) ?_
    refine lv_icmp_le (tgt := 13) hx hb dX6_type_8 (by decide) (fun c2 => ?_) (fun c2 => ?_)
    · have h := h.1 c2
      refine lv_aload_n hx hb dX6_type_13 rfl (lv_at hl 0 rfl) ?_
      refine va_get (D := D) (ci := 6) (v := .ref a_o_reader) (C := RX6) (T := TX6) (N := 12) hx hb hts in_X6 hown hK hP 0 rfl rfl 0 (by decide) fl_10 (fun _ h9 => h9) rfl dX6_type_14 ?_
      refine lv_lload_n hx hb dX6_type_17 rfl (lv_at hl 1 rfl) ?_
      refine lv_iload_n hx hb dX6_type_18 rfl (lv_at hl 2 rfl) ?_
      have hC : ([1, 2] : List Nat).map (fun i => ((w_X6_type cy a_o a_o_reader a_o_told a_o_clearer a_o_bestOne a_o_looseOne a_o_other a_o_bids a_o_now a_o_spare a_o_reader_text o_bestKnown o_looseKnown o_traced o_reader_length o_reader_at o_reader_start o_reader_token o_reader_number o_reader_text) : va_W)[i]?) = ((w_X3_put cy a_o_reader a_o_reader_text o_reader_length o_reader_at o_reader_start o_reader_token o_reader_number o_reader_text) : va_W).map some := rfl
      obtain ⟨hPc, hDc⟩ := cutC hP hD [1, 2] (by decide) hC
      have hFc := va_free hD hS hA [1, 2] hC
      refine va_calli (va_runV (As := [.long x1, .int x3]) (rest := []) ⟨hx, hb, hml, hown, hts⟩ (c_X3_put l D cy a_o_reader a_o_reader_text _ h) (cwV 2 hts gX6_type_X3_put rfl rfl rfl (by decide +kernel) ⟨Nat.le_of_ble_eq_true rfl, Nat.le_of_ble_eq_true rfl⟩) (preV hPc hDc hK hN (ci := 3) (q0 := 0) rfl rfl) rfl rfl hl.1 rfl (lv_room (Nat.le_of_ble_eq_true rfl)) dX6_type_19 ⟨Nat.zero_le _, Nat.zero_le _⟩) hS (fun q _ h => hFc q h) hFc (fun r5 u t H1 locs ht hvm h hB hz1 hk1 hS => ?_)
      obtain ⟨u3, u4⟩ := u
      try dsimp only at h hB
      obtain ⟨hP, hD⟩ := joinU (wd := (w_X6_type cy a_o a_o_reader a_o_told a_o_clearer a_o_bestOne a_o_looseOne a_o_other a_o_bids a_o_now a_o_spare a_o_reader_text o_bestKnown o_looseKnown o_traced u3 o_reader_at o_reader_start o_reader_token o_reader_number u4)) (wr := [(a_o, .inr (6, [.ref a_o_reader, .ref a_o_told, .ref a_o_clearer, .ref a_o_bestOne, .ref a_o_looseOne, .ref a_o_other, .ref a_o_bids, .ref a_o_now, .ref a_o_spare, .int o_bestKnown, .int o_looseKnown, .long o_traced]))]) hP hD [1, 2] [0] [a_o_reader, a_o_reader_text] hC hk1 ht hB rfl rfl rfl (N := 3) rfl (by decide) rfl rfl
      generalize H1 = H at hP hS ⊢
      exact hret r5 (u3, u4) _ _ _ _ h hP hD hS dX6_type_22
    · have h := h.2 c2
      refine lv_iconst (v := -1) hx hb dX6_type_11 (by decide) ?_
      exact hret (-1 : Int32) (o_reader_length, o_reader_text) _ _ _ _ h hP hD hS dX6_type_12
abbrev w_X6_clear (cy : Nat → ClassId) (a_o a_o_reader a_o_told a_o_clearer a_o_bestOne a_o_looseOne a_o_other a_o_bids a_o_now a_o_spare a_o_reader_text : Nat) (o_bestKnown : Int32) (o_looseKnown : Int32) (o_traced : Int64) (o_reader_length : Int32) (o_reader_at : Int32) (o_reader_start : Int32) (o_reader_token : Int32) (o_reader_number : Int32) : va_W := [(a_o, .inr (6, [.ref a_o_reader, .ref a_o_told, .ref a_o_clearer, .ref a_o_bestOne, .ref a_o_looseOne, .ref a_o_other, .ref a_o_bids, .ref a_o_now, .ref a_o_spare, .int o_bestKnown, .int o_looseKnown, .long o_traced])), (a_o_reader, .inr (3, [.ref a_o_reader_text, .int o_reader_length, .int o_reader_at, .int o_reader_start, .int o_reader_token, .int o_reader_number]))]
set_option maxHeartbeats 4000000 in
set_option maxRecDepth 100000 in
theorem c_X6_clear (l : Launch) (D : va_G) (cy : Nat → ClassId) (a_o a_o_reader a_o_told a_o_clearer a_o_bestOne a_o_looseOne a_o_other a_o_bids a_o_now a_o_spare a_o_reader_text : Nat) (sz : Nat)  {o_bestKnown : Int32} {o_looseKnown : Int32} {o_traced : Int64} {o_reader_length : Int32} {o_reader_at : Int32} {o_reader_start : Int32} {o_reader_token : Int32} {o_reader_number : Int32}  {post : Int32 → Int32 → Prop} (h : wp_X6_clear o_reader_length post) : Met l yX6_clear wsX6_clear ({ frames := 0, cells := 0, slots := 0, locals := 0 }) (va_Pc [.ref a_o] (wI D cy sz (w_X6_clear cy a_o a_o_reader a_o_told a_o_clearer a_o_bestOne a_o_looseOne a_o_other a_o_bids a_o_now a_o_spare a_o_reader_text o_bestKnown o_looseKnown o_traced o_reader_length o_reader_at o_reader_start o_reader_token o_reader_number))) (va_Qi (fun (r : Int32) (u : Int32) => post r u) (fun (u : Int32) t => wO D cy (va_A (w_X6_clear cy a_o a_o_reader a_o_told a_o_clearer a_o_bestOne a_o_looseOne a_o_other a_o_bids a_o_now a_o_spare a_o_reader_text o_bestKnown o_looseKnown o_traced o_reader_length o_reader_at o_reader_start o_reader_token o_reader_number) sz) (w_X6_clear cy a_o a_o_reader a_o_told a_o_clearer a_o_bestOne a_o_looseOne a_o_other a_o_bids a_o_now a_o_spare a_o_reader_text o_bestKnown o_looseKnown o_traced u o_reader_at o_reader_start o_reader_token o_reader_number) t) (va_A (w_X6_clear cy a_o a_o_reader a_o_told a_o_clearer a_o_bestOne a_o_looseOne a_o_other a_o_bids a_o_now a_o_spare a_o_reader_text o_bestKnown o_looseKnown o_traced o_reader_length o_reader_at o_reader_start o_reader_token o_reader_number) sz)) 0 0 (va_A (w_X6_clear cy a_o a_o_reader a_o_told a_o_clearer a_o_bestOne a_o_looseOne a_o_other a_o_bids a_o_now a_o_spare a_o_reader_text o_bestKnown o_looseKnown o_traced o_reader_length o_reader_at o_reader_start o_reader_token o_reader_number) sz) := by
  refine contrI (S := Int32) (post := fun (r : Int32) (u : Int32) => post r u) (wOut := fun (u : Int32) => (w_X6_clear cy a_o a_o_reader a_o_told a_o_clearer a_o_bestOne a_o_looseOne a_o_other a_o_bids a_o_now a_o_spare a_o_reader_text o_bestKnown o_looseKnown o_traced u o_reader_at o_reader_start o_reader_token o_reader_number)) (cc := cX6_clear) (maxL := 2) (own := RX6) (by decide +kernel) rfl rfl ?_
  intro p e s m args below meth c A Q hx hb hml hown hts hK hN hP hD hS hA hret
  have in_X6 : ∀ w ∈ u_ws RX6 TX6 12, w ∈ wsX6_clear := by decide +kernel
  have fl_10 := hts (.fieldLink RX6 10 "DawnTable" "reader" "LDawnTable$Reader;") (by decide +kernel)
  have in_X3 : ∀ w ∈ u_ws RX3 TX3 6, w ∈ wsX6_clear := by decide +kernel
  have fl_75 := hts (.fieldLink RX6 75 "DawnTable$Reader" "length" "I") (by decide +kernel)
  refine ent [.ref a_o] (Nat.le_of_ble_eq_true rfl) (fun ls hl => ?_)
  have hl : lv_has ls 2 [(0, .ref a_o)] := hl
  unfold wp_X6_clear at h
  refine lv_aload_n hx hb dX6_clear_0 rfl (lv_at hl 0 rfl) ?_
  refine va_get (D := D) (ci := 6) (v := .ref a_o_reader) (C := RX6) (T := TX6) (N := 12) hx hb hts in_X6 hown hK hP 0 rfl rfl 0 (by decide) fl_10 (fun _ h9 => h9) rfl dX6_clear_1 ?_
  refine va_get (D := D) (ci := 3) (v := .int o_reader_length) (C := RX3) (T := TX3) (N := 6) hx hb hts in_X3 hown hK hP 1 rfl rfl 1 (by decide) fl_75 (fun _ h9 => h9) rfl dX6_clear_4 ?_
  refine lv_istore_n (lv' := [(1, .int o_reader_length), (0, .ref a_o)]) hx hb dX6_clear_7 rfl hl (by decide) rfl (fun ls hl => ?_)
  refine lv_aload_n hx hb dX6_clear_8 rfl (lv_at hl 1 rfl) ?_
  refine va_get (D := D) (ci := 6) (v := .ref a_o_reader) (C := RX6) (T := TX6) (N := 12) hx hb hts in_X6 hown hK hP 0 rfl rfl 0 (by decide) fl_10 (fun _ h9 => h9) rfl dX6_clear_9 ?_
  refine lv_iconst (v := 0) hx hb dX6_clear_12 (by decide) ?_
  refine va_put (D := D) (ci := 3) (v := .int (0 : Int32)) (ty := .int) (C := RX3) (T := TX3) (N := 6) hx hb hts in_X3 tyX3 tyX3_ok nmX3 hown hK hP hD hS 1 rfl rfl 1 (by decide) fl_75 (fun _ h9 => h9) rfl (by decide +kernel) rfl rfl (Nat.le_of_ble_eq_true rfl) dX6_clear_13 (fun H locs hP hD hS => ?_)
  have hP : va_P D vwCl (w_X6_clear cy a_o a_o_reader a_o_told a_o_clearer a_o_bestOne a_o_looseOne a_o_other a_o_bids a_o_now a_o_spare a_o_reader_text o_bestKnown o_looseKnown o_traced (0 : Int32) o_reader_at o_reader_start o_reader_token o_reader_number) H := hP
  have hD : va_D A (w_X6_clear cy a_o a_o_reader a_o_told a_o_clearer a_o_bestOne a_o_looseOne a_o_other a_o_bids a_o_now a_o_spare a_o_reader_text o_bestKnown o_looseKnown o_traced (0 : Int32) o_reader_at o_reader_start o_reader_token o_reader_number) := hD
  refine lv_iload_n hx hb dX6_clear_16 rfl (lv_at hl 0 rfl) ?_
  exact hret o_reader_length ((0 : Int32)) _ _ _ _ h hP hD hS dX6_clear_17
abbrev w_X6_gate (cy : Nat → ClassId) (a_o a_o_reader a_o_told a_o_clearer a_o_bestOne a_o_looseOne a_o_other a_o_bids a_o_now a_o_spare a_o_now_isTold a_o_now_least a_o_now_gateOff a_o_now_limit a_o_now_value a_o_now_kind a_o_now_most a_o_now_wishOff a_o_now_use : Nat) (o_bestKnown : Int32) (o_looseKnown : Int32) (o_traced : Int64) (o_now_wishes : Int32) (o_now_isTold : Nat → Int32) (o_now_least : Nat → Int32) (o_now_gateOff : Nat → Int32) (o_now_limit : Nat → Int32) : va_W := [(a_o, .inr (6, [.ref a_o_reader, .ref a_o_told, .ref a_o_clearer, .ref a_o_bestOne, .ref a_o_looseOne, .ref a_o_other, .ref a_o_bids, .ref a_o_now, .ref a_o_spare, .int o_bestKnown, .int o_looseKnown, .long o_traced])), (a_o_now, .inr (4, [.ref a_o_now_isTold, .ref a_o_now_least, .ref a_o_now_gateOff, .ref a_o_now_limit, .ref a_o_now_value, .ref a_o_now_kind, .ref a_o_now_most, .ref a_o_now_wishOff, .ref a_o_now_use, .int o_now_wishes])), (a_o_now_isTold, .inl (cy 3, 5, .inl o_now_isTold)), (a_o_now_least, .inl (cy 3, 5, .inl o_now_least)), (a_o_now_gateOff, .inl (cy 3, 5, .inl o_now_gateOff)), (a_o_now_limit, .inl (cy 1, 5, .inl o_now_limit))]
set_option maxRecDepth 20000 in
theorem ggX6_gate_X4_letterOf : GoodIn wsX6_gate wsX4_letterOf := goodIn_r _ [9, 10, 27, 28, 29, 30, 31, 32, 33, 34, 35, 36] (by decide +kernel) (by decide +kernel)
set_option maxRecDepth 20000 in
theorem ggX6_gate_X6_bit : GoodIn wsX6_gate wsX6_bit := goodIn_r _ [14] (by decide +kernel) (by decide +kernel)
set_option maxRecDepth 20000 in
theorem gX6_gate_X4_letterOf : GoodIn wsX6_gate (wsV RX6 89 RX4 yX4_letterOf wsX4_letterOf) := goodIn_app (goodIn_of _ (by decide +kernel)) ggX6_gate_X4_letterOf
set_option maxRecDepth 20000 in
theorem gX6_gate_X6_bit : GoodIn wsX6_gate (va_wsS RX6 97 yX6_bit wsX6_bit) := goodIn_app (goodIn_of _ (by decide +kernel)) ggX6_gate_X6_bit
set_option maxHeartbeats 4000000 in
set_option maxRecDepth 100000 in
theorem c_X6_gate (l : Launch) (D : va_G) (cy : Nat → ClassId) (a_o a_o_reader a_o_told a_o_clearer a_o_bestOne a_o_looseOne a_o_other a_o_bids a_o_now a_o_spare a_o_now_isTold a_o_now_least a_o_now_gateOff a_o_now_limit a_o_now_value a_o_now_kind a_o_now_most a_o_now_wishOff a_o_now_use : Nat) (sz : Nat)  {o_bestKnown : Int32} {o_looseKnown : Int32} {o_traced : Int64} {o_now_wishes : Int32} {o_now_isTold : Nat → Int32} {o_now_least : Nat → Int32} {o_now_gateOff : Nat → Int32} {o_now_limit : Nat → Int32} {x1 : Int32} {x2 : Int32} {post : Int32 → Prop} (h : wp_X6_gate o_now_isTold o_now_least o_now_gateOff o_now_limit x1 x2 post) : Met l yX6_gate wsX6_gate ({ frames := 1, cells := 0, slots := 0, locals := 23 }) (va_Pc [.ref a_o, .int x1, .int x2] (wI D cy sz (w_X6_gate cy a_o a_o_reader a_o_told a_o_clearer a_o_bestOne a_o_looseOne a_o_other a_o_bids a_o_now a_o_spare a_o_now_isTold a_o_now_least a_o_now_gateOff a_o_now_limit a_o_now_value a_o_now_kind a_o_now_most a_o_now_wishOff a_o_now_use o_bestKnown o_looseKnown o_traced o_now_wishes o_now_isTold o_now_least o_now_gateOff o_now_limit))) (va_Qi (fun (r : Int32) (u : Unit) => post r ) (fun (u : Unit) t => wO D cy (va_A (w_X6_gate cy a_o a_o_reader a_o_told a_o_clearer a_o_bestOne a_o_looseOne a_o_other a_o_bids a_o_now a_o_spare a_o_now_isTold a_o_now_least a_o_now_gateOff a_o_now_limit a_o_now_value a_o_now_kind a_o_now_most a_o_now_wishOff a_o_now_use o_bestKnown o_looseKnown o_traced o_now_wishes o_now_isTold o_now_least o_now_gateOff o_now_limit) sz) (w_X6_gate cy a_o a_o_reader a_o_told a_o_clearer a_o_bestOne a_o_looseOne a_o_other a_o_bids a_o_now a_o_spare a_o_now_isTold a_o_now_least a_o_now_gateOff a_o_now_limit a_o_now_value a_o_now_kind a_o_now_most a_o_now_wishOff a_o_now_use o_bestKnown o_looseKnown o_traced o_now_wishes o_now_isTold o_now_least o_now_gateOff o_now_limit) t) (va_A (w_X6_gate cy a_o a_o_reader a_o_told a_o_clearer a_o_bestOne a_o_looseOne a_o_other a_o_bids a_o_now a_o_spare a_o_now_isTold a_o_now_least a_o_now_gateOff a_o_now_limit a_o_now_value a_o_now_kind a_o_now_most a_o_now_wishOff a_o_now_use o_bestKnown o_looseKnown o_traced o_now_wishes o_now_isTold o_now_least o_now_gateOff o_now_limit) sz)) 0 0 (va_A (w_X6_gate cy a_o a_o_reader a_o_told a_o_clearer a_o_bestOne a_o_looseOne a_o_other a_o_bids a_o_now a_o_spare a_o_now_isTold a_o_now_least a_o_now_gateOff a_o_now_limit a_o_now_value a_o_now_kind a_o_now_most a_o_now_wishOff a_o_now_use o_bestKnown o_looseKnown o_traced o_now_wishes o_now_isTold o_now_least o_now_gateOff o_now_limit) sz) := by
  refine contrI (S := Unit) (post := fun (r : Int32) (u : Unit) => post r ) (wOut := fun (u : Unit) => (w_X6_gate cy a_o a_o_reader a_o_told a_o_clearer a_o_bestOne a_o_looseOne a_o_other a_o_bids a_o_now a_o_spare a_o_now_isTold a_o_now_least a_o_now_gateOff a_o_now_limit a_o_now_value a_o_now_kind a_o_now_most a_o_now_wishOff a_o_now_use o_bestKnown o_looseKnown o_traced o_now_wishes o_now_isTold o_now_least o_now_gateOff o_now_limit)) (cc := cX6_gate) (maxL := 4) (own := RX6) (by decide +kernel) rfl rfl ?_
  intro p e s m args below meth c A Q hx hb hml hown hts hK hN hP hD hS hA hret
  have in_X6 : ∀ w ∈ u_ws RX6 TX6 12, w ∈ wsX6_gate := by decide +kernel
  have fl_53 := hts (.fieldLink RX6 53 "DawnTable" "now" "LDawnTable$Table;") (by decide +kernel)
  have in_X4 : ∀ w ∈ u_ws RX4 TX4 10, w ∈ wsX6_gate := by decide +kernel
  have fl_93 := hts (.fieldLink RX6 93 "DawnTable$Table" "least" "[Z") (by decide +kernel)
  have fl_101 := hts (.fieldLink RX6 101 "DawnTable$Table" "limit" "[I") (by decide +kernel)
  have fl_105 := hts (.fieldLink RX6 105 "DawnTable$Table" "gateOff" "[Z") (by decide +kernel)
  refine ent [.ref a_o, .int x1, .int x2] (Nat.le_of_ble_eq_true rfl) (fun ls hl => ?_)
  have hl : lv_has ls 4 [(0, .ref a_o), (1, .int x1), (2, .int x2)] := hl
  unfold wp_X6_gate at h
  refine lv_aload_n hx hb dX6_gate_0 rfl (lv_at hl 0 rfl) ?_
  refine va_get (D := D) (ci := 6) (v := .ref a_o_now) (C := RX6) (T := TX6) (N := 12) hx hb hts in_X6 hown hK hP 0 rfl rfl 7 (by decide) fl_53 (fun _ h9 => h9) rfl dX6_gate_1 ?_
  refine lv_iload_n hx hb dX6_gate_4 rfl (lv_at hl 1 rfl) ?_
  have hC : ([1, 2] : List Nat).map (fun i => ((w_X6_gate cy a_o a_o_reader a_o_told a_o_clearer a_o_bestOne a_o_looseOne a_o_other a_o_bids a_o_now a_o_spare a_o_now_isTold a_o_now_least a_o_now_gateOff a_o_now_limit a_o_now_value a_o_now_kind a_o_now_most a_o_now_wishOff a_o_now_use o_bestKnown o_looseKnown o_traced o_now_wishes o_now_isTold o_now_least o_now_gateOff o_now_limit) : va_W)[i]?) = ((w_X4_letterOf cy a_o_now a_o_now_isTold a_o_now_least a_o_now_gateOff a_o_now_limit a_o_now_value a_o_now_kind a_o_now_most a_o_now_wishOff a_o_now_use o_now_wishes o_now_isTold) : va_W).map some := rfl
  obtain ⟨hPc, hDc⟩ := cutC hP hD [1, 2] (by decide) hC
  have hFc := va_free hD hS hA [1, 2] hC
  refine va_calli (va_runV (As := [.int x1]) (rest := []) ⟨hx, hb, hml, hown, hts⟩ (c_X4_letterOf l D cy a_o_now a_o_now_isTold a_o_now_least a_o_now_gateOff a_o_now_limit a_o_now_value a_o_now_kind a_o_now_most a_o_now_wishOff a_o_now_use _ h) (cwV 1 hts gX6_gate_X4_letterOf rfl rfl rfl (by decide +kernel) ⟨Nat.le_of_ble_eq_true rfl, Nat.le_of_ble_eq_true rfl⟩) (preV hPc hDc hK hN (ci := 4) (q0 := 0) rfl rfl) rfl rfl hl.1 rfl (lv_room (Nat.le_of_ble_eq_true rfl)) dX6_gate_5 ⟨Nat.zero_le _, Nat.zero_le _⟩) hS (fun q _ h => hFc q h) hFc (fun r1 u t H1 locs ht hvm h hB hz1 hk1 hS => ?_)
  try dsimp only at h hB
  obtain ⟨hP, hD⟩ := joinU (wd := (w_X6_gate cy a_o a_o_reader a_o_told a_o_clearer a_o_bestOne a_o_looseOne a_o_other a_o_bids a_o_now a_o_spare a_o_now_isTold a_o_now_least a_o_now_gateOff a_o_now_limit a_o_now_value a_o_now_kind a_o_now_most a_o_now_wishOff a_o_now_use o_bestKnown o_looseKnown o_traced o_now_wishes o_now_isTold o_now_least o_now_gateOff o_now_limit)) (wr := [(a_o, .inr (6, [.ref a_o_reader, .ref a_o_told, .ref a_o_clearer, .ref a_o_bestOne, .ref a_o_looseOne, .ref a_o_other, .ref a_o_bids, .ref a_o_now, .ref a_o_spare, .int o_bestKnown, .int o_looseKnown, .long o_traced])), (a_o_now_least, .inl (cy 3, 5, .inl o_now_least)), (a_o_now_gateOff, .inl (cy 3, 5, .inl o_now_gateOff)), (a_o_now_limit, .inl (cy 1, 5, .inl o_now_limit))]) hP hD [1, 2] [0, 3, 4, 5] [a_o_now, a_o_now_isTold] hC hk1 ht hB rfl rfl rfl (N := 6) rfl (by decide) rfl rfl
  generalize H1 = H at hP hS ⊢
  refine lv_istore_n (lv' := [(3, .int r1), (0, .ref a_o), (1, .int x1), (2, .int x2)]) hx hb dX6_gate_8 rfl hl (by decide) rfl (fun ls hl => ?_)
  refine lv_iload_n hx hb dX6_gate_9 rfl (lv_at hl 0 rfl) ?_
  refine lv_if_ge (tgt := 15) hx hb dX6_gate_10 (by decide) (fun c2 => ?_) (fun c2 => ?_)
  · have h := h.1 c2
    refine lv_iload_n hx hb dX6_gate_15 rfl (lv_at hl 3 rfl) ?_
    by_cases c3 : x2 = (0 : Int32)
    · have h := h.1 c3
      refine lv_tableIn (off := 32) (tgt := 48) hx hb dX6_gate_16 (by rw [c3]; decide) (by rw [c3]; decide) (by rw [c3]; decide) (by decide) ?_
      refine lv_iload_n hx hb dX6_gate_48 rfl (lv_at hl 0 rfl) ?_
      exact hret r1 () _ _ _ _ h hP hD hS dX6_gate_49
    · have h := h.2 c3
      have n_16_0 := c3
      by_cases c4 : x2 = (1 : Int32)
      · have h := h.1 c4
        refine lv_tableIn (off := 34) (tgt := 50) hx hb dX6_gate_16 (by rw [c4]; decide) (by rw [c4]; decide) (by rw [c4]; decide) (by decide) ?_
        refine lv_aload_n hx hb dX6_gate_50 rfl (lv_at hl 1 rfl) ?_
        refine va_get (D := D) (ci := 6) (v := .ref a_o_now) (C := RX6) (T := TX6) (N := 12) hx hb hts in_X6 hown hK hP 0 rfl rfl 7 (by decide) fl_53 (fun _ h9 => h9) rfl dX6_gate_51 ?_
        refine va_get (D := D) (ci := 4) (v := .ref a_o_now_least) (C := RX4) (T := TX4) (N := 10) hx hb hts in_X4 hown hK hP 1 rfl rfl 1 (by decide) fl_93 (fun _ h9 => h9) rfl dX6_gate_54 ?_
        refine lv_iload_n hx hb dX6_gate_57 rfl (lv_at hl 0 rfl) ?_
        obtain ⟨i5, h⟩ := h
        refine va_zald hx hb hK hP 3 3 rfl rfl i5 dX6_gate_58 ?_
        have hC : ([] : List Nat).map (fun i => ((w_X6_gate cy a_o a_o_reader a_o_told a_o_clearer a_o_bestOne a_o_looseOne a_o_other a_o_bids a_o_now a_o_spare a_o_now_isTold a_o_now_least a_o_now_gateOff a_o_now_limit a_o_now_value a_o_now_kind a_o_now_most a_o_now_wishOff a_o_now_use o_bestKnown o_looseKnown o_traced o_now_wishes o_now_isTold o_now_least o_now_gateOff o_now_limit) : va_W)[i]?) = ((w_X6_bit cy ) : va_W).map some := rfl
        obtain ⟨hPc, hDc⟩ := cutC hP hD [] (by decide) hC
        have hFc := va_free hD hS hA [] hC
        refine va_calli (va_runS (As := [.int (o_now_least (r1).toNatClampNeg)]) (rest := []) ⟨hx, hb, hml, hown, hts⟩ (c_X6_bit l D cy _ h) (va_cwS 1 hts gX6_gate_X6_bit rfl rfl rfl (by decide +kernel) ⟨Nat.le_of_ble_eq_true rfl, Nat.le_of_ble_eq_true rfl⟩) (preS hPc hDc hK hN) rfl rfl hl.1 rfl (lv_room (Nat.le_of_ble_eq_true rfl)) dX6_gate_59 ⟨Nat.zero_le _, Nat.zero_le _⟩) hS (fun q _ h => hFc q h) hFc (fun r6 u t H1 locs ht hvm h hB hz1 hk1 hS => ?_)
        try dsimp only at h hB
        obtain ⟨hP, hD⟩ := joinU (wd := (w_X6_gate cy a_o a_o_reader a_o_told a_o_clearer a_o_bestOne a_o_looseOne a_o_other a_o_bids a_o_now a_o_spare a_o_now_isTold a_o_now_least a_o_now_gateOff a_o_now_limit a_o_now_value a_o_now_kind a_o_now_most a_o_now_wishOff a_o_now_use o_bestKnown o_looseKnown o_traced o_now_wishes o_now_isTold o_now_least o_now_gateOff o_now_limit)) (wr := [(a_o, .inr (6, [.ref a_o_reader, .ref a_o_told, .ref a_o_clearer, .ref a_o_bestOne, .ref a_o_looseOne, .ref a_o_other, .ref a_o_bids, .ref a_o_now, .ref a_o_spare, .int o_bestKnown, .int o_looseKnown, .long o_traced])), (a_o_now, .inr (4, [.ref a_o_now_isTold, .ref a_o_now_least, .ref a_o_now_gateOff, .ref a_o_now_limit, .ref a_o_now_value, .ref a_o_now_kind, .ref a_o_now_most, .ref a_o_now_wishOff, .ref a_o_now_use, .int o_now_wishes])), (a_o_now_isTold, .inl (cy 3, 5, .inl o_now_isTold)), (a_o_now_least, .inl (cy 3, 5, .inl o_now_least)), (a_o_now_gateOff, .inl (cy 3, 5, .inl o_now_gateOff)), (a_o_now_limit, .inl (cy 1, 5, .inl o_now_limit))]) hP hD [] [0, 1, 2, 3, 4, 5] [] hC hk1 ht hB rfl rfl rfl (N := 6) rfl (by decide) rfl rfl
        generalize H1 = H at hP hS ⊢
        exact hret r6 () _ _ _ _ h hP hD hS dX6_gate_62
      · have h := h.2 c4
        have n_16_1 := c4
        by_cases c7 : x2 = (2 : Int32)
        · have h := h.1 c7
          refine lv_tableIn (off := 47) (tgt := 63) hx hb dX6_gate_16 (by rw [c7]; decide) (by rw [c7]; decide) (by rw [c7]; decide) (by decide) ?_
          refine lv_aload_n hx hb dX6_gate_63 rfl (lv_at hl 1 rfl) ?_
          refine va_get (D := D) (ci := 6) (v := .ref a_o_now) (C := RX6) (T := TX6) (N := 12) hx hb hts in_X6 hown hK hP 0 rfl rfl 7 (by decide) fl_53 (fun _ h9 => h9) rfl dX6_gate_64 ?_
          refine va_get (D := D) (ci := 4) (v := .ref a_o_now_limit) (C := RX4) (T := TX4) (N := 10) hx hb hts in_X4 hown hK hP 1 rfl rfl 3 (by decide) fl_101 (fun _ h9 => h9) rfl dX6_gate_67 ?_
          refine lv_iload_n hx hb dX6_gate_70 rfl (lv_at hl 0 rfl) ?_
          obtain ⟨i8, h⟩ := h
          refine va_iald hx hb hK hP 5 1 rfl rfl i8 dX6_gate_71 ?_
          exact hret (o_now_limit (r1).toNatClampNeg) () _ _ _ _ h hP hD hS dX6_gate_72
        · have h := h.2 c7
          have n_16_2 := c7
          by_cases c9 : x2 = (3 : Int32)
          · have h := h.1 c9
            refine lv_tableIn (off := 57) (tgt := 73) hx hb dX6_gate_16 (by rw [c9]; decide) (by rw [c9]; decide) (by rw [c9]; decide) (by decide) ?_
            refine lv_aload_n hx hb dX6_gate_73 rfl (lv_at hl 1 rfl) ?_
            refine va_get (D := D) (ci := 6) (v := .ref a_o_now) (C := RX6) (T := TX6) (N := 12) hx hb hts in_X6 hown hK hP 0 rfl rfl 7 (by decide) fl_53 (fun _ h9 => h9) rfl dX6_gate_74 ?_
            refine va_get (D := D) (ci := 4) (v := .ref a_o_now_gateOff) (C := RX4) (T := TX4) (N := 10) hx hb hts in_X4 hown hK hP 1 rfl rfl 2 (by decide) fl_105 (fun _ h9 => h9) rfl dX6_gate_77 ?_
            refine lv_iload_n hx hb dX6_gate_80 rfl (lv_at hl 0 rfl) ?_
            obtain ⟨i10, h⟩ := h
            refine va_zald hx hb hK hP 4 3 rfl rfl i10 dX6_gate_81 ?_
            have hC : ([] : List Nat).map (fun i => ((w_X6_gate cy a_o a_o_reader a_o_told a_o_clearer a_o_bestOne a_o_looseOne a_o_other a_o_bids a_o_now a_o_spare a_o_now_isTold a_o_now_least a_o_now_gateOff a_o_now_limit a_o_now_value a_o_now_kind a_o_now_most a_o_now_wishOff a_o_now_use o_bestKnown o_looseKnown o_traced o_now_wishes o_now_isTold o_now_least o_now_gateOff o_now_limit) : va_W)[i]?) = ((w_X6_bit cy ) : va_W).map some := rfl
            obtain ⟨hPc, hDc⟩ := cutC hP hD [] (by decide) hC
            have hFc := va_free hD hS hA [] hC
            refine va_calli (va_runS (As := [.int (o_now_gateOff (r1).toNatClampNeg)]) (rest := []) ⟨hx, hb, hml, hown, hts⟩ (c_X6_bit l D cy _ h) (va_cwS 1 hts gX6_gate_X6_bit rfl rfl rfl (by decide +kernel) ⟨Nat.le_of_ble_eq_true rfl, Nat.le_of_ble_eq_true rfl⟩) (preS hPc hDc hK hN) rfl rfl hl.1 rfl (lv_room (Nat.le_of_ble_eq_true rfl)) dX6_gate_82 ⟨Nat.zero_le _, Nat.zero_le _⟩) hS (fun q _ h => hFc q h) hFc (fun r11 u t H1 locs ht hvm h hB hz1 hk1 hS => ?_)
            try dsimp only at h hB
            obtain ⟨hP, hD⟩ := joinU (wd := (w_X6_gate cy a_o a_o_reader a_o_told a_o_clearer a_o_bestOne a_o_looseOne a_o_other a_o_bids a_o_now a_o_spare a_o_now_isTold a_o_now_least a_o_now_gateOff a_o_now_limit a_o_now_value a_o_now_kind a_o_now_most a_o_now_wishOff a_o_now_use o_bestKnown o_looseKnown o_traced o_now_wishes o_now_isTold o_now_least o_now_gateOff o_now_limit)) (wr := [(a_o, .inr (6, [.ref a_o_reader, .ref a_o_told, .ref a_o_clearer, .ref a_o_bestOne, .ref a_o_looseOne, .ref a_o_other, .ref a_o_bids, .ref a_o_now, .ref a_o_spare, .int o_bestKnown, .int o_looseKnown, .long o_traced])), (a_o_now, .inr (4, [.ref a_o_now_isTold, .ref a_o_now_least, .ref a_o_now_gateOff, .ref a_o_now_limit, .ref a_o_now_value, .ref a_o_now_kind, .ref a_o_now_most, .ref a_o_now_wishOff, .ref a_o_now_use, .int o_now_wishes])), (a_o_now_isTold, .inl (cy 3, 5, .inl o_now_isTold)), (a_o_now_least, .inl (cy 3, 5, .inl o_now_least)), (a_o_now_gateOff, .inl (cy 3, 5, .inl o_now_gateOff)), (a_o_now_limit, .inl (cy 1, 5, .inl o_now_limit))]) hP hD [] [0, 1, 2, 3, 4, 5] [] hC hk1 ht hB rfl rfl rfl (N := 6) rfl (by decide) rfl rfl
            generalize H1 = H at hP hS ⊢
            exact hret r11 () _ _ _ _ h hP hD hS dX6_gate_85
          · have h := h.2 c9
            have n_16_3 := c9
            refine lv_tableOut (tgt := 86) hx hb dX6_gate_16 (sw_out4 n_16_0 n_16_1 n_16_2 n_16_3) (by decide) ?_
            refine lv_iconst (v := -1) hx hb dX6_gate_86 (by decide) ?_
            exact hret (-1 : Int32) () _ _ _ _ h hP hD hS dX6_gate_87
  · have h := h.2 c2
    refine lv_iconst (v := -1) hx hb dX6_gate_13 (by decide) ?_
    exact hret (-1 : Int32) () _ _ _ _ h hP hD hS dX6_gate_14
abbrev w_X6_wish (cy : Nat → ClassId) (a_o a_o_reader a_o_told a_o_clearer a_o_bestOne a_o_looseOne a_o_other a_o_bids a_o_now a_o_spare a_o_now_isTold a_o_now_least a_o_now_gateOff a_o_now_limit a_o_now_value a_o_now_kind a_o_now_most a_o_now_wishOff a_o_now_use : Nat) (o_bestKnown : Int32) (o_looseKnown : Int32) (o_traced : Int64) (o_now_wishes : Int32) (o_now_value : Nat → Int32) (o_now_kind : Nat → Int32) (o_now_most : Nat → Int32) (o_now_wishOff : Nat → Int32) : va_W := [(a_o, .inr (6, [.ref a_o_reader, .ref a_o_told, .ref a_o_clearer, .ref a_o_bestOne, .ref a_o_looseOne, .ref a_o_other, .ref a_o_bids, .ref a_o_now, .ref a_o_spare, .int o_bestKnown, .int o_looseKnown, .long o_traced])), (a_o_now, .inr (4, [.ref a_o_now_isTold, .ref a_o_now_least, .ref a_o_now_gateOff, .ref a_o_now_limit, .ref a_o_now_value, .ref a_o_now_kind, .ref a_o_now_most, .ref a_o_now_wishOff, .ref a_o_now_use, .int o_now_wishes])), (a_o_now_value, .inl (cy 1, 4, .inl o_now_value)), (a_o_now_kind, .inl (cy 1, 4, .inl o_now_kind)), (a_o_now_most, .inl (cy 1, 4, .inl o_now_most)), (a_o_now_wishOff, .inl (cy 3, 4, .inl o_now_wishOff))]
set_option maxRecDepth 20000 in
theorem ggX6_wish_X6_bit : GoodIn wsX6_wish wsX6_bit := goodIn_r _ [14] (by decide +kernel) (by decide +kernel)
set_option maxRecDepth 20000 in
theorem ggX6_wish_X6_isWish : GoodIn wsX6_wish wsX6_isWish := goodIn_r _ [10, 1, 11, 15, 16, 17, 18, 19, 20, 21, 22, 23, 24, 25, 26, 27, 28, 29, 30, 31, 32, 33, 34, 35, 36] (by decide +kernel) (by decide +kernel)
set_option maxRecDepth 20000 in
theorem gX6_wish_X6_bit : GoodIn wsX6_wish (va_wsS RX6 97 yX6_bit wsX6_bit) := goodIn_app (goodIn_of _ (by decide +kernel)) ggX6_wish_X6_bit
set_option maxRecDepth 20000 in
theorem gX6_wish_X6_isWish : GoodIn wsX6_wish (wsV RX6 108 RX6 yX6_isWish wsX6_isWish) := goodIn_app (goodIn_of _ (by decide +kernel)) ggX6_wish_X6_isWish
set_option maxHeartbeats 4000000 in
set_option maxRecDepth 100000 in
theorem c_X6_wish (l : Launch) (D : va_G) (cy : Nat → ClassId) (a_o a_o_reader a_o_told a_o_clearer a_o_bestOne a_o_looseOne a_o_other a_o_bids a_o_now a_o_spare a_o_now_isTold a_o_now_least a_o_now_gateOff a_o_now_limit a_o_now_value a_o_now_kind a_o_now_most a_o_now_wishOff a_o_now_use : Nat) (sz : Nat)  {o_bestKnown : Int32} {o_looseKnown : Int32} {o_traced : Int64} {o_now_wishes : Int32} {o_now_value : Nat → Int32} {o_now_kind : Nat → Int32} {o_now_most : Nat → Int32} {o_now_wishOff : Nat → Int32} {x1 : Int32} {x2 : Int32} {post : Int32 → Prop} (h : wp_X6_wish o_now_wishes o_now_value o_now_kind o_now_most o_now_wishOff x1 x2 post) : Met l yX6_wish wsX6_wish ({ frames := 1, cells := 0, slots := 0, locals := 21 }) (va_Pc [.ref a_o, .int x1, .int x2] (wI D cy sz (w_X6_wish cy a_o a_o_reader a_o_told a_o_clearer a_o_bestOne a_o_looseOne a_o_other a_o_bids a_o_now a_o_spare a_o_now_isTold a_o_now_least a_o_now_gateOff a_o_now_limit a_o_now_value a_o_now_kind a_o_now_most a_o_now_wishOff a_o_now_use o_bestKnown o_looseKnown o_traced o_now_wishes o_now_value o_now_kind o_now_most o_now_wishOff))) (va_Qi (fun (r : Int32) (u : Unit) => post r ) (fun (u : Unit) t => wO D cy (va_A (w_X6_wish cy a_o a_o_reader a_o_told a_o_clearer a_o_bestOne a_o_looseOne a_o_other a_o_bids a_o_now a_o_spare a_o_now_isTold a_o_now_least a_o_now_gateOff a_o_now_limit a_o_now_value a_o_now_kind a_o_now_most a_o_now_wishOff a_o_now_use o_bestKnown o_looseKnown o_traced o_now_wishes o_now_value o_now_kind o_now_most o_now_wishOff) sz) (w_X6_wish cy a_o a_o_reader a_o_told a_o_clearer a_o_bestOne a_o_looseOne a_o_other a_o_bids a_o_now a_o_spare a_o_now_isTold a_o_now_least a_o_now_gateOff a_o_now_limit a_o_now_value a_o_now_kind a_o_now_most a_o_now_wishOff a_o_now_use o_bestKnown o_looseKnown o_traced o_now_wishes o_now_value o_now_kind o_now_most o_now_wishOff) t) (va_A (w_X6_wish cy a_o a_o_reader a_o_told a_o_clearer a_o_bestOne a_o_looseOne a_o_other a_o_bids a_o_now a_o_spare a_o_now_isTold a_o_now_least a_o_now_gateOff a_o_now_limit a_o_now_value a_o_now_kind a_o_now_most a_o_now_wishOff a_o_now_use o_bestKnown o_looseKnown o_traced o_now_wishes o_now_value o_now_kind o_now_most o_now_wishOff) sz)) 0 0 (va_A (w_X6_wish cy a_o a_o_reader a_o_told a_o_clearer a_o_bestOne a_o_looseOne a_o_other a_o_bids a_o_now a_o_spare a_o_now_isTold a_o_now_least a_o_now_gateOff a_o_now_limit a_o_now_value a_o_now_kind a_o_now_most a_o_now_wishOff a_o_now_use o_bestKnown o_looseKnown o_traced o_now_wishes o_now_value o_now_kind o_now_most o_now_wishOff) sz) := by
  refine contrI (S := Unit) (post := fun (r : Int32) (u : Unit) => post r ) (wOut := fun (u : Unit) => (w_X6_wish cy a_o a_o_reader a_o_told a_o_clearer a_o_bestOne a_o_looseOne a_o_other a_o_bids a_o_now a_o_spare a_o_now_isTold a_o_now_least a_o_now_gateOff a_o_now_limit a_o_now_value a_o_now_kind a_o_now_most a_o_now_wishOff a_o_now_use o_bestKnown o_looseKnown o_traced o_now_wishes o_now_value o_now_kind o_now_most o_now_wishOff)) (cc := cX6_wish) (maxL := 3) (own := RX6) (by decide +kernel) rfl rfl ?_
  intro p e s m args below meth c A Q hx hb hml hown hts hK hN hP hD hS hA hret
  have in_X6 : ∀ w ∈ u_ws RX6 TX6 12, w ∈ wsX6_wish := by decide +kernel
  have fl_53 := hts (.fieldLink RX6 53 "DawnTable" "now" "LDawnTable$Table;") (by decide +kernel)
  have in_X4 : ∀ w ∈ u_ws RX4 TX4 10, w ∈ wsX6_wish := by decide +kernel
  have fl_112 := hts (.fieldLink RX6 112 "DawnTable$Table" "value" "[I") (by decide +kernel)
  have fl_115 := hts (.fieldLink RX6 115 "DawnTable$Table" "kind" "[I") (by decide +kernel)
  have fl_118 := hts (.fieldLink RX6 118 "DawnTable$Table" "most" "[I") (by decide +kernel)
  have fl_121 := hts (.fieldLink RX6 121 "DawnTable$Table" "wishOff" "[Z") (by decide +kernel)
  refine ent [.ref a_o, .int x1, .int x2] (Nat.le_of_ble_eq_true rfl) (fun ls hl => ?_)
  have hl : lv_has ls 3 [(0, .ref a_o), (1, .int x1), (2, .int x2)] := hl
  unfold wp_X6_wish at h
  refine lv_aload_n hx hb dX6_wish_0 rfl (lv_at hl 0 rfl) ?_
  refine lv_iload_n hx hb dX6_wish_1 rfl (lv_at hl 1 rfl) ?_
  have hC : ([0, 1] : List Nat).map (fun i => ((w_X6_wish cy a_o a_o_reader a_o_told a_o_clearer a_o_bestOne a_o_looseOne a_o_other a_o_bids a_o_now a_o_spare a_o_now_isTold a_o_now_least a_o_now_gateOff a_o_now_limit a_o_now_value a_o_now_kind a_o_now_most a_o_now_wishOff a_o_now_use o_bestKnown o_looseKnown o_traced o_now_wishes o_now_value o_now_kind o_now_most o_now_wishOff) : va_W)[i]?) = ((w_X6_isWish cy a_o a_o_reader a_o_told a_o_clearer a_o_bestOne a_o_looseOne a_o_other a_o_bids a_o_now a_o_spare a_o_now_isTold a_o_now_least a_o_now_gateOff a_o_now_limit a_o_now_value a_o_now_kind a_o_now_most a_o_now_wishOff a_o_now_use o_bestKnown o_looseKnown o_traced o_now_wishes) : va_W).map some := rfl
  obtain ⟨hPc, hDc⟩ := cutC hP hD [0, 1] (by decide) hC
  have hFc := va_free hD hS hA [0, 1] hC
  refine va_calli (va_runV (As := [.int x1]) (rest := []) ⟨hx, hb, hml, hown, hts⟩ (c_X6_isWish l D cy a_o a_o_reader a_o_told a_o_clearer a_o_bestOne a_o_looseOne a_o_other a_o_bids a_o_now a_o_spare a_o_now_isTold a_o_now_least a_o_now_gateOff a_o_now_limit a_o_now_value a_o_now_kind a_o_now_most a_o_now_wishOff a_o_now_use _ h) (cwV 1 hts gX6_wish_X6_isWish rfl rfl rfl (by decide +kernel) ⟨Nat.le_of_ble_eq_true rfl, Nat.le_of_ble_eq_true rfl⟩) (preV hPc hDc hK hN (ci := 6) (q0 := 0) rfl rfl) rfl rfl hl.1 rfl (lv_room (Nat.le_of_ble_eq_true rfl)) dX6_wish_2 ⟨Nat.zero_le _, Nat.zero_le _⟩) hS (fun q _ h => hFc q h) hFc (fun r1 u t H1 locs ht hvm h hB hz1 hk1 hS => ?_)
  try dsimp only at h hB
  obtain ⟨hP, hD⟩ := joinU (wd := (w_X6_wish cy a_o a_o_reader a_o_told a_o_clearer a_o_bestOne a_o_looseOne a_o_other a_o_bids a_o_now a_o_spare a_o_now_isTold a_o_now_least a_o_now_gateOff a_o_now_limit a_o_now_value a_o_now_kind a_o_now_most a_o_now_wishOff a_o_now_use o_bestKnown o_looseKnown o_traced o_now_wishes o_now_value o_now_kind o_now_most o_now_wishOff)) (wr := [(a_o_now_value, .inl (cy 1, 4, .inl o_now_value)), (a_o_now_kind, .inl (cy 1, 4, .inl o_now_kind)), (a_o_now_most, .inl (cy 1, 4, .inl o_now_most)), (a_o_now_wishOff, .inl (cy 3, 4, .inl o_now_wishOff))]) hP hD [0, 1] [2, 3, 4, 5] [a_o, a_o_now] hC hk1 ht hB rfl rfl rfl (N := 6) rfl (by decide) rfl rfl
  generalize H1 = H at hP hS ⊢
  refine lv_if_ne (tgt := 10) hx hb dX6_wish_5 (by decide) (fun c2 => ?_) (fun c2 => ?_)
  · have h := h.2 c2
    refine lv_iload_n hx hb dX6_wish_10 rfl (lv_at hl 2 rfl) ?_
    by_cases c3 : x2 = (0 : Int32)
    · have h := h.1 c3
      refine lv_tableIn (off := 29) (tgt := 40) hx hb dX6_wish_11 (by rw [c3]; decide) (by rw [c3]; decide) (by rw [c3]; decide) (by decide) ?_
      refine lv_aload_n hx hb dX6_wish_40 rfl (lv_at hl 0 rfl) ?_
      refine va_get (D := D) (ci := 6) (v := .ref a_o_now) (C := RX6) (T := TX6) (N := 12) hx hb hts in_X6 hown hK hP 0 rfl rfl 7 (by decide) fl_53 (fun _ h9 => h9) rfl dX6_wish_41 ?_
      refine va_get (D := D) (ci := 4) (v := .ref a_o_now_value) (C := RX4) (T := TX4) (N := 10) hx hb hts in_X4 hown hK hP 1 rfl rfl 4 (by decide) fl_112 (fun _ h9 => h9) rfl dX6_wish_44 ?_
      refine lv_iload_n hx hb dX6_wish_47 rfl (lv_at hl 1 rfl) ?_
      obtain ⟨i4, h⟩ := h
      refine va_iald hx hb hK hP 2 1 rfl rfl i4 dX6_wish_48 ?_
      exact hret (o_now_value (x1).toNatClampNeg) () _ _ _ _ h hP hD hS dX6_wish_49
    · have h := h.2 c3
      have n_11_0 := c3
      by_cases c5 : x2 = (1 : Int32)
      · have h := h.1 c5
        refine lv_tableIn (off := 39) (tgt := 50) hx hb dX6_wish_11 (by rw [c5]; decide) (by rw [c5]; decide) (by rw [c5]; decide) (by decide) ?_
        refine lv_aload_n hx hb dX6_wish_50 rfl (lv_at hl 0 rfl) ?_
        refine va_get (D := D) (ci := 6) (v := .ref a_o_now) (C := RX6) (T := TX6) (N := 12) hx hb hts in_X6 hown hK hP 0 rfl rfl 7 (by decide) fl_53 (fun _ h9 => h9) rfl dX6_wish_51 ?_
        refine va_get (D := D) (ci := 4) (v := .ref a_o_now_kind) (C := RX4) (T := TX4) (N := 10) hx hb hts in_X4 hown hK hP 1 rfl rfl 5 (by decide) fl_115 (fun _ h9 => h9) rfl dX6_wish_54 ?_
        refine lv_iload_n hx hb dX6_wish_57 rfl (lv_at hl 1 rfl) ?_
        obtain ⟨i6, h⟩ := h
        refine va_iald hx hb hK hP 3 1 rfl rfl i6 dX6_wish_58 ?_
        exact hret (o_now_kind (x1).toNatClampNeg) () _ _ _ _ h hP hD hS dX6_wish_59
      · have h := h.2 c5
        have n_11_1 := c5
        by_cases c7 : x2 = (2 : Int32)
        · have h := h.1 c7
          refine lv_tableIn (off := 49) (tgt := 60) hx hb dX6_wish_11 (by rw [c7]; decide) (by rw [c7]; decide) (by rw [c7]; decide) (by decide) ?_
          refine lv_aload_n hx hb dX6_wish_60 rfl (lv_at hl 0 rfl) ?_
          refine va_get (D := D) (ci := 6) (v := .ref a_o_now) (C := RX6) (T := TX6) (N := 12) hx hb hts in_X6 hown hK hP 0 rfl rfl 7 (by decide) fl_53 (fun _ h9 => h9) rfl dX6_wish_61 ?_
          refine va_get (D := D) (ci := 4) (v := .ref a_o_now_most) (C := RX4) (T := TX4) (N := 10) hx hb hts in_X4 hown hK hP 1 rfl rfl 6 (by decide) fl_118 (fun _ h9 => h9) rfl dX6_wish_64 ?_
          refine lv_iload_n hx hb dX6_wish_67 rfl (lv_at hl 1 rfl) ?_
          obtain ⟨i8, h⟩ := h
          refine va_iald hx hb hK hP 4 1 rfl rfl i8 dX6_wish_68 ?_
          exact hret (o_now_most (x1).toNatClampNeg) () _ _ _ _ h hP hD hS dX6_wish_69
        · have h := h.2 c7
          have n_11_2 := c7
          by_cases c9 : x2 = (3 : Int32)
          · have h := h.1 c9
            refine lv_tableIn (off := 59) (tgt := 70) hx hb dX6_wish_11 (by rw [c9]; decide) (by rw [c9]; decide) (by rw [c9]; decide) (by decide) ?_
            refine lv_aload_n hx hb dX6_wish_70 rfl (lv_at hl 0 rfl) ?_
            refine va_get (D := D) (ci := 6) (v := .ref a_o_now) (C := RX6) (T := TX6) (N := 12) hx hb hts in_X6 hown hK hP 0 rfl rfl 7 (by decide) fl_53 (fun _ h9 => h9) rfl dX6_wish_71 ?_
            refine va_get (D := D) (ci := 4) (v := .ref a_o_now_wishOff) (C := RX4) (T := TX4) (N := 10) hx hb hts in_X4 hown hK hP 1 rfl rfl 7 (by decide) fl_121 (fun _ h9 => h9) rfl dX6_wish_74 ?_
            refine lv_iload_n hx hb dX6_wish_77 rfl (lv_at hl 1 rfl) ?_
            obtain ⟨i10, h⟩ := h
            refine va_zald hx hb hK hP 5 3 rfl rfl i10 dX6_wish_78 ?_
            have hC : ([] : List Nat).map (fun i => ((w_X6_wish cy a_o a_o_reader a_o_told a_o_clearer a_o_bestOne a_o_looseOne a_o_other a_o_bids a_o_now a_o_spare a_o_now_isTold a_o_now_least a_o_now_gateOff a_o_now_limit a_o_now_value a_o_now_kind a_o_now_most a_o_now_wishOff a_o_now_use o_bestKnown o_looseKnown o_traced o_now_wishes o_now_value o_now_kind o_now_most o_now_wishOff) : va_W)[i]?) = ((w_X6_bit cy ) : va_W).map some := rfl
            obtain ⟨hPc, hDc⟩ := cutC hP hD [] (by decide) hC
            have hFc := va_free hD hS hA [] hC
            refine va_calli (va_runS (As := [.int (o_now_wishOff (x1).toNatClampNeg)]) (rest := []) ⟨hx, hb, hml, hown, hts⟩ (c_X6_bit l D cy _ h) (va_cwS 1 hts gX6_wish_X6_bit rfl rfl rfl (by decide +kernel) ⟨Nat.le_of_ble_eq_true rfl, Nat.le_of_ble_eq_true rfl⟩) (preS hPc hDc hK hN) rfl rfl hl.1 rfl (lv_room (Nat.le_of_ble_eq_true rfl)) dX6_wish_79 ⟨Nat.zero_le _, Nat.zero_le _⟩) hS (fun q _ h => hFc q h) hFc (fun r11 u t H1 locs ht hvm h hB hz1 hk1 hS => ?_)
            try dsimp only at h hB
            obtain ⟨hP, hD⟩ := joinU (wd := (w_X6_wish cy a_o a_o_reader a_o_told a_o_clearer a_o_bestOne a_o_looseOne a_o_other a_o_bids a_o_now a_o_spare a_o_now_isTold a_o_now_least a_o_now_gateOff a_o_now_limit a_o_now_value a_o_now_kind a_o_now_most a_o_now_wishOff a_o_now_use o_bestKnown o_looseKnown o_traced o_now_wishes o_now_value o_now_kind o_now_most o_now_wishOff)) (wr := [(a_o, .inr (6, [.ref a_o_reader, .ref a_o_told, .ref a_o_clearer, .ref a_o_bestOne, .ref a_o_looseOne, .ref a_o_other, .ref a_o_bids, .ref a_o_now, .ref a_o_spare, .int o_bestKnown, .int o_looseKnown, .long o_traced])), (a_o_now, .inr (4, [.ref a_o_now_isTold, .ref a_o_now_least, .ref a_o_now_gateOff, .ref a_o_now_limit, .ref a_o_now_value, .ref a_o_now_kind, .ref a_o_now_most, .ref a_o_now_wishOff, .ref a_o_now_use, .int o_now_wishes])), (a_o_now_value, .inl (cy 1, 4, .inl o_now_value)), (a_o_now_kind, .inl (cy 1, 4, .inl o_now_kind)), (a_o_now_most, .inl (cy 1, 4, .inl o_now_most)), (a_o_now_wishOff, .inl (cy 3, 4, .inl o_now_wishOff))]) hP hD [] [0, 1, 2, 3, 4, 5] [] hC hk1 ht hB rfl rfl rfl (N := 6) rfl (by decide) rfl rfl
            generalize H1 = H at hP hS ⊢
            exact hret r11 () _ _ _ _ h hP hD hS dX6_wish_82
          · have h := h.2 c9
            have n_11_3 := c9
            refine lv_tableOut (tgt := 83) hx hb dX6_wish_11 (sw_out4 n_11_0 n_11_1 n_11_2 n_11_3) (by decide) ?_
            refine lv_iconst (v := -1) hx hb dX6_wish_83 (by decide) ?_
            exact hret (-1 : Int32) () _ _ _ _ h hP hD hS dX6_wish_84
  · have h := h.1 c2
    refine lv_iconst (v := -1) hx hb dX6_wish_8 (by decide) ?_
    exact hret (-1 : Int32) () _ _ _ _ h hP hD hS dX6_wish_9
abbrev w_X6_uses (cy : Nat → ClassId) (a_o a_o_reader a_o_told a_o_clearer a_o_bestOne a_o_looseOne a_o_other a_o_bids a_o_now a_o_spare a_o_now_isTold a_o_now_least a_o_now_gateOff a_o_now_limit a_o_now_value a_o_now_kind a_o_now_most a_o_now_wishOff a_o_now_use : Nat) (r_o_now_use : Nat → Nat) (o_bestKnown : Int32) (o_looseKnown : Int32) (o_traced : Int64) (o_now_wishes : Int32) (o_now_isTold : Nat → Int32) (o_now_use : Nat → Nat → Int32) : va_W := [(a_o, .inr (6, [.ref a_o_reader, .ref a_o_told, .ref a_o_clearer, .ref a_o_bestOne, .ref a_o_looseOne, .ref a_o_other, .ref a_o_bids, .ref a_o_now, .ref a_o_spare, .int o_bestKnown, .int o_looseKnown, .long o_traced])), (a_o_now, .inr (4, [.ref a_o_now_isTold, .ref a_o_now_least, .ref a_o_now_gateOff, .ref a_o_now_limit, .ref a_o_now_value, .ref a_o_now_kind, .ref a_o_now_most, .ref a_o_now_wishOff, .ref a_o_now_use, .int o_now_wishes])), (a_o_now_isTold, .inl (cy 3, 5, .inl o_now_isTold)), (a_o_now_use, .inl (cy 4, 4, .inr (.inr (.inr (.inr (mref r_o_now_use 4))))))] ++ rows4 r_o_now_use (rowI (cy 1) 5 o_now_use) ++ []
set_option maxRecDepth 20000 in
theorem ggX6_uses_X4_letterOf : GoodIn wsX6_uses wsX4_letterOf := goodIn_r _ [7, 8, 27, 28, 29, 30, 31, 32, 33, 34, 35, 36] (by decide +kernel) (by decide +kernel)
set_option maxRecDepth 20000 in
theorem ggX6_uses_X6_isWish : GoodIn wsX6_uses wsX6_isWish := goodIn_r _ [13, 1, 14, 15, 16, 17, 18, 19, 20, 21, 22, 23, 24, 25, 26, 27, 28, 29, 30, 31, 32, 33, 34, 35, 36] (by decide +kernel) (by decide +kernel)
set_option maxRecDepth 20000 in
theorem gX6_uses_X4_letterOf : GoodIn wsX6_uses (wsV RX6 89 RX4 yX4_letterOf wsX4_letterOf) := goodIn_app (goodIn_of _ (by decide +kernel)) ggX6_uses_X4_letterOf
set_option maxRecDepth 20000 in
theorem gX6_uses_X6_isWish : GoodIn wsX6_uses (wsV RX6 108 RX6 yX6_isWish wsX6_isWish) := goodIn_app (goodIn_of _ (by decide +kernel)) ggX6_uses_X6_isWish
set_option maxHeartbeats 4000000 in
set_option maxRecDepth 100000 in
theorem c_X6_uses (l : Launch) (D : va_G) (cy : Nat → ClassId) (a_o a_o_reader a_o_told a_o_clearer a_o_bestOne a_o_looseOne a_o_other a_o_bids a_o_now a_o_spare a_o_now_isTold a_o_now_least a_o_now_gateOff a_o_now_limit a_o_now_value a_o_now_kind a_o_now_most a_o_now_wishOff a_o_now_use : Nat) (r_o_now_use : Nat → Nat) (sz : Nat)  {o_bestKnown : Int32} {o_looseKnown : Int32} {o_traced : Int64} {o_now_wishes : Int32} {o_now_isTold : Nat → Int32} {o_now_use : Nat → Nat → Int32} {x1 : Int32} {x2 : Int32} {post : Int32 → Prop} (h : wp_X6_uses o_now_wishes o_now_isTold o_now_use x1 x2 post) : Met l yX6_uses wsX6_uses ({ frames := 1, cells := 0, slots := 0, locals := 23 }) (va_Pc [.ref a_o, .int x1, .int x2] (wI D cy sz (w_X6_uses cy a_o a_o_reader a_o_told a_o_clearer a_o_bestOne a_o_looseOne a_o_other a_o_bids a_o_now a_o_spare a_o_now_isTold a_o_now_least a_o_now_gateOff a_o_now_limit a_o_now_value a_o_now_kind a_o_now_most a_o_now_wishOff a_o_now_use r_o_now_use o_bestKnown o_looseKnown o_traced o_now_wishes o_now_isTold o_now_use))) (va_Qi (fun (r : Int32) (u : Unit) => post r ) (fun (u : Unit) t => wO D cy (va_A (w_X6_uses cy a_o a_o_reader a_o_told a_o_clearer a_o_bestOne a_o_looseOne a_o_other a_o_bids a_o_now a_o_spare a_o_now_isTold a_o_now_least a_o_now_gateOff a_o_now_limit a_o_now_value a_o_now_kind a_o_now_most a_o_now_wishOff a_o_now_use r_o_now_use o_bestKnown o_looseKnown o_traced o_now_wishes o_now_isTold o_now_use) sz) (w_X6_uses cy a_o a_o_reader a_o_told a_o_clearer a_o_bestOne a_o_looseOne a_o_other a_o_bids a_o_now a_o_spare a_o_now_isTold a_o_now_least a_o_now_gateOff a_o_now_limit a_o_now_value a_o_now_kind a_o_now_most a_o_now_wishOff a_o_now_use r_o_now_use o_bestKnown o_looseKnown o_traced o_now_wishes o_now_isTold o_now_use) t) (va_A (w_X6_uses cy a_o a_o_reader a_o_told a_o_clearer a_o_bestOne a_o_looseOne a_o_other a_o_bids a_o_now a_o_spare a_o_now_isTold a_o_now_least a_o_now_gateOff a_o_now_limit a_o_now_value a_o_now_kind a_o_now_most a_o_now_wishOff a_o_now_use r_o_now_use o_bestKnown o_looseKnown o_traced o_now_wishes o_now_isTold o_now_use) sz)) 0 0 (va_A (w_X6_uses cy a_o a_o_reader a_o_told a_o_clearer a_o_bestOne a_o_looseOne a_o_other a_o_bids a_o_now a_o_spare a_o_now_isTold a_o_now_least a_o_now_gateOff a_o_now_limit a_o_now_value a_o_now_kind a_o_now_most a_o_now_wishOff a_o_now_use r_o_now_use o_bestKnown o_looseKnown o_traced o_now_wishes o_now_isTold o_now_use) sz) := by
  refine contrI (S := Unit) (post := fun (r : Int32) (u : Unit) => post r ) (wOut := fun (u : Unit) => (w_X6_uses cy a_o a_o_reader a_o_told a_o_clearer a_o_bestOne a_o_looseOne a_o_other a_o_bids a_o_now a_o_spare a_o_now_isTold a_o_now_least a_o_now_gateOff a_o_now_limit a_o_now_value a_o_now_kind a_o_now_most a_o_now_wishOff a_o_now_use r_o_now_use o_bestKnown o_looseKnown o_traced o_now_wishes o_now_isTold o_now_use)) (cc := cX6_uses) (maxL := 4) (own := RX6) (by decide +kernel) rfl rfl ?_
  intro p e s m args below meth c A Q hx hb hml hown hts hK hN hP hD hS hA hret
  have in_X6 : ∀ w ∈ u_ws RX6 TX6 12, w ∈ wsX6_uses := by decide +kernel
  have fl_53 := hts (.fieldLink RX6 53 "DawnTable" "now" "LDawnTable$Table;") (by decide +kernel)
  have in_X4 : ∀ w ∈ u_ws RX4 TX4 10, w ∈ wsX6_uses := by decide +kernel
  have fl_124 := hts (.fieldLink RX6 124 "DawnTable$Table" "use" "[[I") (by decide +kernel)
  refine ent [.ref a_o, .int x1, .int x2] (Nat.le_of_ble_eq_true rfl) (fun ls hl => ?_)
  have hl : lv_has ls 4 [(0, .ref a_o), (1, .int x1), (2, .int x2)] := hl
  unfold wp_X6_uses at h
  refine lv_aload_n hx hb dX6_uses_0 rfl (lv_at hl 0 rfl) ?_
  refine va_get (D := D) (ci := 6) (v := .ref a_o_now) (C := RX6) (T := TX6) (N := 12) hx hb hts in_X6 hown hK hP 0 rfl rfl 7 (by decide) fl_53 (fun _ h9 => h9) rfl dX6_uses_1 ?_
  refine lv_iload_n hx hb dX6_uses_4 rfl (lv_at hl 2 rfl) ?_
  have hC : ([1, 2] : List Nat).map (fun i => ((w_X6_uses cy a_o a_o_reader a_o_told a_o_clearer a_o_bestOne a_o_looseOne a_o_other a_o_bids a_o_now a_o_spare a_o_now_isTold a_o_now_least a_o_now_gateOff a_o_now_limit a_o_now_value a_o_now_kind a_o_now_most a_o_now_wishOff a_o_now_use r_o_now_use o_bestKnown o_looseKnown o_traced o_now_wishes o_now_isTold o_now_use) : va_W)[i]?) = ((w_X4_letterOf cy a_o_now a_o_now_isTold a_o_now_least a_o_now_gateOff a_o_now_limit a_o_now_value a_o_now_kind a_o_now_most a_o_now_wishOff a_o_now_use o_now_wishes o_now_isTold) : va_W).map some := rfl
  obtain ⟨hPc, hDc⟩ := cutC hP hD [1, 2] (by decide) hC
  have hFc := va_free hD hS hA [1, 2] hC
  refine va_calli (va_runV (As := [.int x2]) (rest := []) ⟨hx, hb, hml, hown, hts⟩ (c_X4_letterOf l D cy a_o_now a_o_now_isTold a_o_now_least a_o_now_gateOff a_o_now_limit a_o_now_value a_o_now_kind a_o_now_most a_o_now_wishOff a_o_now_use _ h) (cwV 1 hts gX6_uses_X4_letterOf rfl rfl rfl (by decide +kernel) ⟨Nat.le_of_ble_eq_true rfl, Nat.le_of_ble_eq_true rfl⟩) (preV hPc hDc hK hN (ci := 4) (q0 := 0) rfl rfl) rfl rfl hl.1 rfl (lv_room (Nat.le_of_ble_eq_true rfl)) dX6_uses_5 ⟨Nat.zero_le _, Nat.zero_le _⟩) hS (fun q _ h => hFc q h) hFc (fun r1 u t H1 locs ht hvm h hB hz1 hk1 hS => ?_)
  try dsimp only at h hB
  obtain ⟨hP, hD⟩ := joinU (wd := (w_X6_uses cy a_o a_o_reader a_o_told a_o_clearer a_o_bestOne a_o_looseOne a_o_other a_o_bids a_o_now a_o_spare a_o_now_isTold a_o_now_least a_o_now_gateOff a_o_now_limit a_o_now_value a_o_now_kind a_o_now_most a_o_now_wishOff a_o_now_use r_o_now_use o_bestKnown o_looseKnown o_traced o_now_wishes o_now_isTold o_now_use)) (wr := [(a_o, .inr (6, [.ref a_o_reader, .ref a_o_told, .ref a_o_clearer, .ref a_o_bestOne, .ref a_o_looseOne, .ref a_o_other, .ref a_o_bids, .ref a_o_now, .ref a_o_spare, .int o_bestKnown, .int o_looseKnown, .long o_traced])), (a_o_now_use, .inl (cy 4, 4, .inr (.inr (.inr (.inr (mref r_o_now_use 4)))))), (r_o_now_use 0, rowI (cy 1) 5 o_now_use 0), (r_o_now_use 1, rowI (cy 1) 5 o_now_use 1), (r_o_now_use 2, rowI (cy 1) 5 o_now_use 2), (r_o_now_use 3, rowI (cy 1) 5 o_now_use 3)]) hP hD [1, 2] [0, 3, 4, 5, 6, 7] [a_o_now, a_o_now_isTold] hC hk1 ht hB rfl rfl rfl (N := 8) rfl (by decide) rfl rfl
  generalize H1 = H at hP hS ⊢
  refine lv_istore_n (lv' := [(3, .int r1), (0, .ref a_o), (1, .int x1), (2, .int x2)]) hx hb dX6_uses_8 rfl hl (by decide) rfl (fun ls hl => ?_)
  refine lv_aload_n hx hb dX6_uses_9 rfl (lv_at hl 1 rfl) ?_
  refine lv_iload_n hx hb dX6_uses_10 rfl (lv_at hl 2 rfl) ?_
  have hC : ([0, 1] : List Nat).map (fun i => ((w_X6_uses cy a_o a_o_reader a_o_told a_o_clearer a_o_bestOne a_o_looseOne a_o_other a_o_bids a_o_now a_o_spare a_o_now_isTold a_o_now_least a_o_now_gateOff a_o_now_limit a_o_now_value a_o_now_kind a_o_now_most a_o_now_wishOff a_o_now_use r_o_now_use o_bestKnown o_looseKnown o_traced o_now_wishes o_now_isTold o_now_use) : va_W)[i]?) = ((w_X6_isWish cy a_o a_o_reader a_o_told a_o_clearer a_o_bestOne a_o_looseOne a_o_other a_o_bids a_o_now a_o_spare a_o_now_isTold a_o_now_least a_o_now_gateOff a_o_now_limit a_o_now_value a_o_now_kind a_o_now_most a_o_now_wishOff a_o_now_use o_bestKnown o_looseKnown o_traced o_now_wishes) : va_W).map some := rfl
  obtain ⟨hPc, hDc⟩ := cutC hP hD [0, 1] (by decide) hC
  have hFc := va_free hD hS hA [0, 1] hC
  refine va_calli (va_runV (As := [.int x1]) (rest := []) ⟨hx, hb, hml, hown, hts⟩ (c_X6_isWish l D cy a_o a_o_reader a_o_told a_o_clearer a_o_bestOne a_o_looseOne a_o_other a_o_bids a_o_now a_o_spare a_o_now_isTold a_o_now_least a_o_now_gateOff a_o_now_limit a_o_now_value a_o_now_kind a_o_now_most a_o_now_wishOff a_o_now_use _ h) (cwV 1 hts gX6_uses_X6_isWish rfl rfl rfl (by decide +kernel) ⟨Nat.le_of_ble_eq_true rfl, Nat.le_of_ble_eq_true rfl⟩) (preV hPc hDc hK hN (ci := 6) (q0 := 0) rfl rfl) rfl rfl hl.1 rfl (lv_room (Nat.le_of_ble_eq_true rfl)) dX6_uses_11 ⟨Nat.zero_le _, Nat.zero_le _⟩) hS (fun q _ h => hFc q h) hFc (fun r2 u t H1 locs ht hvm h hB hz1 hk1 hS => ?_)
  try dsimp only at h hB
  obtain ⟨hP, hD⟩ := joinU (wd := (w_X6_uses cy a_o a_o_reader a_o_told a_o_clearer a_o_bestOne a_o_looseOne a_o_other a_o_bids a_o_now a_o_spare a_o_now_isTold a_o_now_least a_o_now_gateOff a_o_now_limit a_o_now_value a_o_now_kind a_o_now_most a_o_now_wishOff a_o_now_use r_o_now_use o_bestKnown o_looseKnown o_traced o_now_wishes o_now_isTold o_now_use)) (wr := [(a_o_now_isTold, .inl (cy 3, 5, .inl o_now_isTold)), (a_o_now_use, .inl (cy 4, 4, .inr (.inr (.inr (.inr (mref r_o_now_use 4)))))), (r_o_now_use 0, rowI (cy 1) 5 o_now_use 0), (r_o_now_use 1, rowI (cy 1) 5 o_now_use 1), (r_o_now_use 2, rowI (cy 1) 5 o_now_use 2), (r_o_now_use 3, rowI (cy 1) 5 o_now_use 3)]) hP hD [0, 1] [2, 3, 4, 5, 6, 7] [a_o, a_o_now] hC hk1 ht hB rfl rfl rfl (N := 8) rfl (by decide) rfl rfl
  generalize H1 = H at hP hS ⊢
  refine lv_if_eq (tgt := 21) hx hb dX6_uses_14 (by decide) (fun c3 => ?_) (fun c3 => ?_)
  · have h := h.1 c3
    refine lv_iconst (v := -1) hx hb dX6_uses_21 (by decide) ?_
    exact hret (-1 : Int32) () _ _ _ _ h hP hD hS dX6_uses_22
  · have h := h.2 c3
    refine lv_iload_n hx hb dX6_uses_17 rfl (lv_at hl 0 rfl) ?_
    refine lv_if_ge (tgt := 23) hx hb dX6_uses_18 (by decide) (fun c4 => ?_) (fun c4 => ?_)
    · have h := h.1 c4
      refine lv_aload_n hx hb dX6_uses_23 rfl (lv_at hl 1 rfl) ?_
      refine va_get (D := D) (ci := 6) (v := .ref a_o_now) (C := RX6) (T := TX6) (N := 12) hx hb hts in_X6 hown hK hP 0 rfl rfl 7 (by decide) fl_53 (fun _ h9 => h9) rfl dX6_uses_24 ?_
      refine va_get (D := D) (ci := 4) (v := .ref a_o_now_use) (C := RX4) (T := TX4) (N := 10) hx hb hts in_X4 hown hK hP 1 rfl rfl 8 (by decide) fl_124 (fun _ h9 => h9) rfl dX6_uses_27 ?_
      refine lv_iload_n hx hb dX6_uses_30 rfl (lv_at hl 2 rfl) ?_
      obtain ⟨i5, h⟩ := h
      refine mx_ald hx hb hK hP 3 4 rfl rfl i5 dX6_uses_31 ?_
      refine lv_iload_n hx hb dX6_uses_32 rfl (lv_at hl 0 rfl) ?_
      obtain ⟨i6, h⟩ := h
      refine va_iald hx hb hK hP (4 + (x1).toNatClampNeg) 1 (gI0 (in_lt i5)) rfl i6 dX6_uses_33 ?_
      exact hret (o_now_use (x1).toNatClampNeg (r1).toNatClampNeg) () _ _ _ _ h hP hD hS dX6_uses_34
    · have h := h.2 c4
      refine lv_iconst (v := -1) hx hb dX6_uses_21 (by decide) ?_
      exact hret (-1 : Int32) () _ _ _ _ h hP hD hS dX6_uses_22
abbrev w_X6_jam (cy : Nat → ClassId) (a_o a_o_reader a_o_told a_o_clearer a_o_bestOne a_o_looseOne a_o_other a_o_bids a_o_now a_o_spare a_o_now_isTold a_o_now_least a_o_now_gateOff a_o_now_limit a_o_now_value a_o_now_kind a_o_now_most a_o_now_wishOff a_o_now_use : Nat) (o_bestKnown : Int32) (o_looseKnown : Int32) (o_traced : Int64) (o_now_wishes : Int32) (o_now_isTold : Nat → Int32) (o_now_limit : Nat → Int32) : va_W := [(a_o, .inr (6, [.ref a_o_reader, .ref a_o_told, .ref a_o_clearer, .ref a_o_bestOne, .ref a_o_looseOne, .ref a_o_other, .ref a_o_bids, .ref a_o_now, .ref a_o_spare, .int o_bestKnown, .int o_looseKnown, .long o_traced])), (a_o_now, .inr (4, [.ref a_o_now_isTold, .ref a_o_now_least, .ref a_o_now_gateOff, .ref a_o_now_limit, .ref a_o_now_value, .ref a_o_now_kind, .ref a_o_now_most, .ref a_o_now_wishOff, .ref a_o_now_use, .int o_now_wishes])), (a_o_now_isTold, .inl (cy 3, 5, .inl o_now_isTold)), (a_o_now_limit, .inl (cy 1, 5, .inl o_now_limit))]
set_option maxRecDepth 20000 in
theorem ggX6_jam_X4_letterOf : GoodIn wsX6_jam wsX4_letterOf := goodIn_r _ [7, 8, 28, 29, 30, 31, 32, 33, 34, 35, 36, 37] (by decide +kernel) (by decide +kernel)
set_option maxRecDepth 20000 in
theorem ggX6_jam_X6_forgetClearings : GoodIn wsX6_jam wsX6_forgetClearings := goodIn_r _ [13, 14, 15, 16, 17, 18, 19, 20, 21, 22, 23, 24, 25, 26, 27] (by decide +kernel) (by decide +kernel)
set_option maxRecDepth 20000 in
theorem gX6_jam_X4_letterOf : GoodIn wsX6_jam (wsV RX6 89 RX4 yX4_letterOf wsX4_letterOf) := goodIn_app (goodIn_of _ (by decide +kernel)) ggX6_jam_X4_letterOf
set_option maxRecDepth 20000 in
theorem gX6_jam_X6_forgetClearings : GoodIn wsX6_jam (wsV RX6 86 RX6 yX6_forgetClearings wsX6_forgetClearings) := goodIn_app (goodIn_of _ (by decide +kernel)) ggX6_jam_X6_forgetClearings
set_option maxHeartbeats 4000000 in
set_option maxRecDepth 100000 in
theorem c_X6_jam (l : Launch) (D : va_G) (cy : Nat → ClassId) (a_o a_o_reader a_o_told a_o_clearer a_o_bestOne a_o_looseOne a_o_other a_o_bids a_o_now a_o_spare a_o_now_isTold a_o_now_least a_o_now_gateOff a_o_now_limit a_o_now_value a_o_now_kind a_o_now_most a_o_now_wishOff a_o_now_use : Nat) (sz : Nat)  {o_bestKnown : Int32} {o_looseKnown : Int32} {o_traced : Int64} {o_now_wishes : Int32} {o_now_isTold : Nat → Int32} {o_now_limit : Nat → Int32} {x1 : Int32} {x2 : Int32} {post : Int32 → Int32 → Int32 → (Nat → Int32) → Prop} (h : wp_X6_jam o_bestKnown o_looseKnown o_now_isTold o_now_limit x1 x2 post) : Met l yX6_jam wsX6_jam ({ frames := 1, cells := 0, slots := 0, locals := 23 }) (va_Pc [.ref a_o, .int x1, .int x2] (wI D cy sz (w_X6_jam cy a_o a_o_reader a_o_told a_o_clearer a_o_bestOne a_o_looseOne a_o_other a_o_bids a_o_now a_o_spare a_o_now_isTold a_o_now_least a_o_now_gateOff a_o_now_limit a_o_now_value a_o_now_kind a_o_now_most a_o_now_wishOff a_o_now_use o_bestKnown o_looseKnown o_traced o_now_wishes o_now_isTold o_now_limit))) (va_Qi (fun (r : Int32) (u : Int32 × Int32 × (Nat → Int32)) => post r u.1 u.2.1 u.2.2) (fun (u : Int32 × Int32 × (Nat → Int32)) t => wO D cy (va_A (w_X6_jam cy a_o a_o_reader a_o_told a_o_clearer a_o_bestOne a_o_looseOne a_o_other a_o_bids a_o_now a_o_spare a_o_now_isTold a_o_now_least a_o_now_gateOff a_o_now_limit a_o_now_value a_o_now_kind a_o_now_most a_o_now_wishOff a_o_now_use o_bestKnown o_looseKnown o_traced o_now_wishes o_now_isTold o_now_limit) sz) (w_X6_jam cy a_o a_o_reader a_o_told a_o_clearer a_o_bestOne a_o_looseOne a_o_other a_o_bids a_o_now a_o_spare a_o_now_isTold a_o_now_least a_o_now_gateOff a_o_now_limit a_o_now_value a_o_now_kind a_o_now_most a_o_now_wishOff a_o_now_use u.1 u.2.1 o_traced o_now_wishes o_now_isTold u.2.2) t) (va_A (w_X6_jam cy a_o a_o_reader a_o_told a_o_clearer a_o_bestOne a_o_looseOne a_o_other a_o_bids a_o_now a_o_spare a_o_now_isTold a_o_now_least a_o_now_gateOff a_o_now_limit a_o_now_value a_o_now_kind a_o_now_most a_o_now_wishOff a_o_now_use o_bestKnown o_looseKnown o_traced o_now_wishes o_now_isTold o_now_limit) sz)) 0 0 (va_A (w_X6_jam cy a_o a_o_reader a_o_told a_o_clearer a_o_bestOne a_o_looseOne a_o_other a_o_bids a_o_now a_o_spare a_o_now_isTold a_o_now_least a_o_now_gateOff a_o_now_limit a_o_now_value a_o_now_kind a_o_now_most a_o_now_wishOff a_o_now_use o_bestKnown o_looseKnown o_traced o_now_wishes o_now_isTold o_now_limit) sz) := by
  refine contrI (S := Int32 × Int32 × (Nat → Int32)) (post := fun (r : Int32) (u : Int32 × Int32 × (Nat → Int32)) => post r u.1 u.2.1 u.2.2) (wOut := fun (u : Int32 × Int32 × (Nat → Int32)) => (w_X6_jam cy a_o a_o_reader a_o_told a_o_clearer a_o_bestOne a_o_looseOne a_o_other a_o_bids a_o_now a_o_spare a_o_now_isTold a_o_now_least a_o_now_gateOff a_o_now_limit a_o_now_value a_o_now_kind a_o_now_most a_o_now_wishOff a_o_now_use u.1 u.2.1 o_traced o_now_wishes o_now_isTold u.2.2)) (cc := cX6_jam) (maxL := 5) (own := RX6) (by decide +kernel) rfl rfl ?_
  intro p e s m args below meth c A Q hx hb hml hown hts hK hN hP hD hS hA hret
  have in_X6 : ∀ w ∈ u_ws RX6 TX6 12, w ∈ wsX6_jam := by decide +kernel
  have fl_53 := hts (.fieldLink RX6 53 "DawnTable" "now" "LDawnTable$Table;") (by decide +kernel)
  have in_X4 : ∀ w ∈ u_ws RX4 TX4 10, w ∈ wsX6_jam := by decide +kernel
  have fl_101 := hts (.fieldLink RX6 101 "DawnTable$Table" "limit" "[I") (by decide +kernel)
  refine ent [.ref a_o, .int x1, .int x2] (Nat.le_of_ble_eq_true rfl) (fun ls hl => ?_)
  have hl : lv_has ls 5 [(0, .ref a_o), (1, .int x1), (2, .int x2)] := hl
  unfold wp_X6_jam at h
  refine lv_aload_n hx hb dX6_jam_0 rfl (lv_at hl 0 rfl) ?_
  refine va_get (D := D) (ci := 6) (v := .ref a_o_now) (C := RX6) (T := TX6) (N := 12) hx hb hts in_X6 hown hK hP 0 rfl rfl 7 (by decide) fl_53 (fun _ h9 => h9) rfl dX6_jam_1 ?_
  refine lv_iload_n hx hb dX6_jam_4 rfl (lv_at hl 1 rfl) ?_
  have hC : ([1, 2] : List Nat).map (fun i => ((w_X6_jam cy a_o a_o_reader a_o_told a_o_clearer a_o_bestOne a_o_looseOne a_o_other a_o_bids a_o_now a_o_spare a_o_now_isTold a_o_now_least a_o_now_gateOff a_o_now_limit a_o_now_value a_o_now_kind a_o_now_most a_o_now_wishOff a_o_now_use o_bestKnown o_looseKnown o_traced o_now_wishes o_now_isTold o_now_limit) : va_W)[i]?) = ((w_X4_letterOf cy a_o_now a_o_now_isTold a_o_now_least a_o_now_gateOff a_o_now_limit a_o_now_value a_o_now_kind a_o_now_most a_o_now_wishOff a_o_now_use o_now_wishes o_now_isTold) : va_W).map some := rfl
  obtain ⟨hPc, hDc⟩ := cutC hP hD [1, 2] (by decide) hC
  have hFc := va_free hD hS hA [1, 2] hC
  refine va_calli (va_runV (As := [.int x1]) (rest := []) ⟨hx, hb, hml, hown, hts⟩ (c_X4_letterOf l D cy a_o_now a_o_now_isTold a_o_now_least a_o_now_gateOff a_o_now_limit a_o_now_value a_o_now_kind a_o_now_most a_o_now_wishOff a_o_now_use _ h) (cwV 1 hts gX6_jam_X4_letterOf rfl rfl rfl (by decide +kernel) ⟨Nat.le_of_ble_eq_true rfl, Nat.le_of_ble_eq_true rfl⟩) (preV hPc hDc hK hN (ci := 4) (q0 := 0) rfl rfl) rfl rfl hl.1 rfl (lv_room (Nat.le_of_ble_eq_true rfl)) dX6_jam_5 ⟨Nat.zero_le _, Nat.zero_le _⟩) hS (fun q _ h => hFc q h) hFc (fun r1 u t H1 locs ht hvm h hB hz1 hk1 hS => ?_)
  try dsimp only at h hB
  obtain ⟨hP, hD⟩ := joinU (wd := (w_X6_jam cy a_o a_o_reader a_o_told a_o_clearer a_o_bestOne a_o_looseOne a_o_other a_o_bids a_o_now a_o_spare a_o_now_isTold a_o_now_least a_o_now_gateOff a_o_now_limit a_o_now_value a_o_now_kind a_o_now_most a_o_now_wishOff a_o_now_use o_bestKnown o_looseKnown o_traced o_now_wishes o_now_isTold o_now_limit)) (wr := [(a_o, .inr (6, [.ref a_o_reader, .ref a_o_told, .ref a_o_clearer, .ref a_o_bestOne, .ref a_o_looseOne, .ref a_o_other, .ref a_o_bids, .ref a_o_now, .ref a_o_spare, .int o_bestKnown, .int o_looseKnown, .long o_traced])), (a_o_now_limit, .inl (cy 1, 5, .inl o_now_limit))]) hP hD [1, 2] [0, 3] [a_o_now, a_o_now_isTold] hC hk1 ht hB rfl rfl rfl (N := 4) rfl (by decide) rfl rfl
  generalize H1 = H at hP hS ⊢
  refine lv_istore_n (lv' := [(3, .int r1), (0, .ref a_o), (1, .int x1), (2, .int x2)]) hx hb dX6_jam_8 rfl hl (by decide) rfl (fun ls hl => ?_)
  refine lv_iload_n hx hb dX6_jam_9 rfl (lv_at hl 0 rfl) ?_
  refine lv_if_lt (tgt := 23) hx hb dX6_jam_10 (by decide) (fun c2 => ?_) (fun c2 => ?_)
  · have h := h.1 c2
    refine lv_iconst (v := -1) hx hb dX6_jam_23 (by decide) ?_
    exact hret (-1 : Int32) (o_bestKnown, o_looseKnown, o_now_limit) _ _ _ _ h hP hD hS dX6_jam_24
  · have h := h.2 c2
    refine lv_iload_n hx hb dX6_jam_13 rfl (lv_at hl 3 rfl) ?_
    refine lv_if_lt (tgt := 23) hx hb dX6_jam_14 (by decide) (fun c3 => ?_) (fun c3 => ?_)
    · have h := h.1 c3
      refine lv_iconst (v := -1) hx hb dX6_jam_23 (by decide) ?_
      exact hret (-1 : Int32) (o_bestKnown, o_looseKnown, o_now_limit) _ _ _ _ h hP hD hS dX6_jam_24
    · have h := h.2 c3
      refine lv_iload_n hx hb dX6_jam_17 rfl (lv_at hl 3 rfl) ?_
      refine lv_bipush (v := 99) hx hb dX6_jam_18 (by decide) ?_
      refine lv_icmp_le (tgt := 25) hx hb dX6_jam_20 (by decide) (fun c4 => ?_) (fun c4 => ?_)
      · have h := h.1 c4
        refine lv_aload_n hx hb dX6_jam_25 rfl (lv_at hl 1 rfl) ?_
        refine va_get (D := D) (ci := 6) (v := .ref a_o_now) (C := RX6) (T := TX6) (N := 12) hx hb hts in_X6 hown hK hP 0 rfl rfl 7 (by decide) fl_53 (fun _ h9 => h9) rfl dX6_jam_26 ?_
        refine va_get (D := D) (ci := 4) (v := .ref a_o_now_limit) (C := RX4) (T := TX4) (N := 10) hx hb hts in_X4 hown hK hP 1 rfl rfl 3 (by decide) fl_101 (fun _ h9 => h9) rfl dX6_jam_29 ?_
        refine lv_iload_n hx hb dX6_jam_32 rfl (lv_at hl 0 rfl) ?_
        obtain ⟨i5, h⟩ := h
        refine va_iald hx hb hK hP 3 1 rfl rfl i5 dX6_jam_33 ?_
        refine lv_istore (lv' := [(4, .int (o_now_limit (r1).toNatClampNeg)), (3, .int r1), (0, .ref a_o), (1, .int x1), (2, .int x2)]) hx hb dX6_jam_34 hl (by decide) rfl (fun ls hl => ?_)
        refine lv_aload_n hx hb dX6_jam_36 rfl (lv_at hl 2 rfl) ?_
        refine va_get (D := D) (ci := 6) (v := .ref a_o_now) (C := RX6) (T := TX6) (N := 12) hx hb hts in_X6 hown hK hP 0 rfl rfl 7 (by decide) fl_53 (fun _ h9 => h9) rfl dX6_jam_37 ?_
        refine va_get (D := D) (ci := 4) (v := .ref a_o_now_limit) (C := RX4) (T := TX4) (N := 10) hx hb hts in_X4 hown hK hP 1 rfl rfl 3 (by decide) fl_101 (fun _ h9 => h9) rfl dX6_jam_40 ?_
        refine lv_iload_n hx hb dX6_jam_43 rfl (lv_at hl 1 rfl) ?_
        refine lv_iload_n hx hb dX6_jam_44 rfl (lv_at hl 4 rfl) ?_
        refine va_iast hx hb hK hP hD hS 3 1 rfl rfl i5 dX6_jam_45 (fun H locs hP hD hS => ?_)
        have hP : va_P D vwCl (w_X6_jam cy a_o a_o_reader a_o_told a_o_clearer a_o_bestOne a_o_looseOne a_o_other a_o_bids a_o_now a_o_spare a_o_now_isTold a_o_now_least a_o_now_gateOff a_o_now_limit a_o_now_value a_o_now_kind a_o_now_most a_o_now_wishOff a_o_now_use o_bestKnown o_looseKnown o_traced o_now_wishes o_now_isTold (upd o_now_limit (r1).toNatClampNeg x2)) H := hP
        have hD : va_D A (w_X6_jam cy a_o a_o_reader a_o_told a_o_clearer a_o_bestOne a_o_looseOne a_o_other a_o_bids a_o_now a_o_spare a_o_now_isTold a_o_now_least a_o_now_gateOff a_o_now_limit a_o_now_value a_o_now_kind a_o_now_most a_o_now_wishOff a_o_now_use o_bestKnown o_looseKnown o_traced o_now_wishes o_now_isTold (upd o_now_limit (r1).toNatClampNeg x2)) := hD
        refine lv_aload_n hx hb dX6_jam_46 rfl (lv_at hl 2 rfl) ?_
        have hC : ([0] : List Nat).map (fun i => ((w_X6_jam cy a_o a_o_reader a_o_told a_o_clearer a_o_bestOne a_o_looseOne a_o_other a_o_bids a_o_now a_o_spare a_o_now_isTold a_o_now_least a_o_now_gateOff a_o_now_limit a_o_now_value a_o_now_kind a_o_now_most a_o_now_wishOff a_o_now_use o_bestKnown o_looseKnown o_traced o_now_wishes o_now_isTold (upd o_now_limit (r1).toNatClampNeg x2)) : va_W)[i]?) = ((w_X6_forgetClearings cy a_o a_o_reader a_o_told a_o_clearer a_o_bestOne a_o_looseOne a_o_other a_o_bids a_o_now a_o_spare o_bestKnown o_looseKnown o_traced) : va_W).map some := rfl
        obtain ⟨hPc, hDc⟩ := cutC hP hD [0] (by decide) hC
        have hFc := va_free hD hS hA [0] hC
        refine va_callv (va_runV (As := []) (rest := []) ⟨hx, hb, hml, hown, hts⟩ (c_X6_forgetClearings l D cy a_o a_o_reader a_o_told a_o_clearer a_o_bestOne a_o_looseOne a_o_other a_o_bids a_o_now a_o_spare _ h) (cwV 0 hts gX6_jam_X6_forgetClearings rfl rfl rfl (by decide +kernel) ⟨Nat.le_of_ble_eq_true rfl, Nat.le_of_ble_eq_true rfl⟩) (preV hPc hDc hK hN (ci := 6) (q0 := 0) rfl rfl) rfl rfl hl.1 rfl (lv_room (Nat.le_of_ble_eq_true rfl)) dX6_jam_47 ⟨Nat.zero_le _, Nat.zero_le _⟩) hS (fun q _ h => hFc q h) hFc (fun u t H1 locs ht hvm h hB hz1 hk1 hS => ?_)
        obtain ⟨u6, u7⟩ := u
        try dsimp only at h hB
        obtain ⟨hP, hD⟩ := joinU (wd := (w_X6_jam cy a_o a_o_reader a_o_told a_o_clearer a_o_bestOne a_o_looseOne a_o_other a_o_bids a_o_now a_o_spare a_o_now_isTold a_o_now_least a_o_now_gateOff a_o_now_limit a_o_now_value a_o_now_kind a_o_now_most a_o_now_wishOff a_o_now_use u6 u7 o_traced o_now_wishes o_now_isTold (upd o_now_limit (r1).toNatClampNeg x2))) (wr := [(a_o_now, .inr (4, [.ref a_o_now_isTold, .ref a_o_now_least, .ref a_o_now_gateOff, .ref a_o_now_limit, .ref a_o_now_value, .ref a_o_now_kind, .ref a_o_now_most, .ref a_o_now_wishOff, .ref a_o_now_use, .int o_now_wishes])), (a_o_now_isTold, .inl (cy 3, 5, .inl o_now_isTold)), (a_o_now_limit, .inl (cy 1, 5, .inl (upd o_now_limit (r1).toNatClampNeg x2)))]) hP hD [0] [1, 2, 3] [a_o] hC hk1 ht hB rfl rfl rfl (N := 4) rfl (by decide) rfl rfl
        generalize H1 = H at hP hS ⊢
        refine lv_iload hx hb dX6_jam_50 (lv_at hl 0 rfl) ?_
        exact hret (o_now_limit (r1).toNatClampNeg) (u6, u7, (upd o_now_limit (r1).toNatClampNeg x2)) _ _ _ _ h hP hD hS dX6_jam_52
      · have h := h.2 c4
        refine lv_iconst (v := -1) hx hb dX6_jam_23 (by decide) ?_
        exact hret (-1 : Int32) (o_bestKnown, o_looseKnown, o_now_limit) _ _ _ _ h hP hD hS dX6_jam_24
abbrev w_X6_off (cy : Nat → ClassId) (a_o a_o_reader a_o_told a_o_clearer a_o_bestOne a_o_looseOne a_o_other a_o_bids a_o_now a_o_spare a_o_now_isTold a_o_now_least a_o_now_gateOff a_o_now_limit a_o_now_value a_o_now_kind a_o_now_most a_o_now_wishOff a_o_now_use : Nat) (o_bestKnown : Int32) (o_looseKnown : Int32) (o_traced : Int64) (o_now_wishes : Int32) (o_now_isTold : Nat → Int32) (o_now_gateOff : Nat → Int32) (o_now_wishOff : Nat → Int32) : va_W := [(a_o, .inr (6, [.ref a_o_reader, .ref a_o_told, .ref a_o_clearer, .ref a_o_bestOne, .ref a_o_looseOne, .ref a_o_other, .ref a_o_bids, .ref a_o_now, .ref a_o_spare, .int o_bestKnown, .int o_looseKnown, .long o_traced])), (a_o_now, .inr (4, [.ref a_o_now_isTold, .ref a_o_now_least, .ref a_o_now_gateOff, .ref a_o_now_limit, .ref a_o_now_value, .ref a_o_now_kind, .ref a_o_now_most, .ref a_o_now_wishOff, .ref a_o_now_use, .int o_now_wishes])), (a_o_now_isTold, .inl (cy 3, 5, .inl o_now_isTold)), (a_o_now_gateOff, .inl (cy 3, 5, .inl o_now_gateOff)), (a_o_now_wishOff, .inl (cy 3, 4, .inl o_now_wishOff))]
set_option maxRecDepth 20000 in
theorem ggX6_off_X4_letterOf : GoodIn wsX6_off wsX4_letterOf := goodIn_r _ [8, 9, 37, 38, 39, 40, 41, 42, 43, 44, 45, 46] (by decide +kernel) (by decide +kernel)
set_option maxRecDepth 20000 in
theorem ggX6_off_X6_bit : GoodIn wsX6_off wsX6_bit := goodIn_r _ [18] (by decide +kernel) (by decide +kernel)
set_option maxRecDepth 20000 in
theorem ggX6_off_X6_forgetClearings : GoodIn wsX6_off wsX6_forgetClearings := goodIn_r _ [22, 23, 24, 25, 26, 27, 28, 29, 30, 31, 32, 33, 34, 35, 36] (by decide +kernel) (by decide +kernel)
set_option maxRecDepth 20000 in
theorem ggX6_off_X6_isWish : GoodIn wsX6_off wsX6_isWish := goodIn_r _ [14, 1, 15, 25, 26, 27, 28, 29, 30, 31, 32, 33, 34, 35, 36, 37, 38, 39, 40, 41, 42, 43, 44, 45, 46] (by decide +kernel) (by decide +kernel)
set_option maxRecDepth 20000 in
theorem gX6_off_X4_letterOf : GoodIn wsX6_off (wsV RX6 89 RX4 yX4_letterOf wsX4_letterOf) := goodIn_app (goodIn_of _ (by decide +kernel)) ggX6_off_X4_letterOf
set_option maxRecDepth 20000 in
theorem gX6_off_X6_bit : GoodIn wsX6_off (va_wsS RX6 97 yX6_bit wsX6_bit) := goodIn_app (goodIn_of _ (by decide +kernel)) ggX6_off_X6_bit
set_option maxRecDepth 20000 in
theorem gX6_off_X6_forgetClearings : GoodIn wsX6_off (wsV RX6 86 RX6 yX6_forgetClearings wsX6_forgetClearings) := goodIn_app (goodIn_of _ (by decide +kernel)) ggX6_off_X6_forgetClearings
set_option maxRecDepth 20000 in
theorem gX6_off_X6_isWish : GoodIn wsX6_off (wsV RX6 108 RX6 yX6_isWish wsX6_isWish) := goodIn_app (goodIn_of _ (by decide +kernel)) ggX6_off_X6_isWish
set_option maxHeartbeats 4000000 in
set_option maxRecDepth 100000 in
theorem c_X6_off (l : Launch) (D : va_G) (cy : Nat → ClassId) (a_o a_o_reader a_o_told a_o_clearer a_o_bestOne a_o_looseOne a_o_other a_o_bids a_o_now a_o_spare a_o_now_isTold a_o_now_least a_o_now_gateOff a_o_now_limit a_o_now_value a_o_now_kind a_o_now_most a_o_now_wishOff a_o_now_use : Nat) (sz : Nat)  {o_bestKnown : Int32} {o_looseKnown : Int32} {o_traced : Int64} {o_now_wishes : Int32} {o_now_isTold : Nat → Int32} {o_now_gateOff : Nat → Int32} {o_now_wishOff : Nat → Int32} {x1 : Int32} {x2 : Int32} {x3 : Int32} {post : Int32 → Int32 → Int32 → (Nat → Int32) → (Nat → Int32) → Prop} (h : wp_X6_off o_bestKnown o_looseKnown o_now_wishes o_now_isTold o_now_gateOff o_now_wishOff x1 x2 x3 post) : Met l yX6_off wsX6_off ({ frames := 1, cells := 0, slots := 0, locals := 23 }) (va_Pc [.ref a_o, .int x1, .int x2, .int x3] (wI D cy sz (w_X6_off cy a_o a_o_reader a_o_told a_o_clearer a_o_bestOne a_o_looseOne a_o_other a_o_bids a_o_now a_o_spare a_o_now_isTold a_o_now_least a_o_now_gateOff a_o_now_limit a_o_now_value a_o_now_kind a_o_now_most a_o_now_wishOff a_o_now_use o_bestKnown o_looseKnown o_traced o_now_wishes o_now_isTold o_now_gateOff o_now_wishOff))) (va_Qi (fun (r : Int32) (u : Int32 × Int32 × (Nat → Int32) × (Nat → Int32)) => post r u.1 u.2.1 u.2.2.1 u.2.2.2) (fun (u : Int32 × Int32 × (Nat → Int32) × (Nat → Int32)) t => wO D cy (va_A (w_X6_off cy a_o a_o_reader a_o_told a_o_clearer a_o_bestOne a_o_looseOne a_o_other a_o_bids a_o_now a_o_spare a_o_now_isTold a_o_now_least a_o_now_gateOff a_o_now_limit a_o_now_value a_o_now_kind a_o_now_most a_o_now_wishOff a_o_now_use o_bestKnown o_looseKnown o_traced o_now_wishes o_now_isTold o_now_gateOff o_now_wishOff) sz) (w_X6_off cy a_o a_o_reader a_o_told a_o_clearer a_o_bestOne a_o_looseOne a_o_other a_o_bids a_o_now a_o_spare a_o_now_isTold a_o_now_least a_o_now_gateOff a_o_now_limit a_o_now_value a_o_now_kind a_o_now_most a_o_now_wishOff a_o_now_use u.1 u.2.1 o_traced o_now_wishes o_now_isTold u.2.2.1 u.2.2.2) t) (va_A (w_X6_off cy a_o a_o_reader a_o_told a_o_clearer a_o_bestOne a_o_looseOne a_o_other a_o_bids a_o_now a_o_spare a_o_now_isTold a_o_now_least a_o_now_gateOff a_o_now_limit a_o_now_value a_o_now_kind a_o_now_most a_o_now_wishOff a_o_now_use o_bestKnown o_looseKnown o_traced o_now_wishes o_now_isTold o_now_gateOff o_now_wishOff) sz)) 0 0 (va_A (w_X6_off cy a_o a_o_reader a_o_told a_o_clearer a_o_bestOne a_o_looseOne a_o_other a_o_bids a_o_now a_o_spare a_o_now_isTold a_o_now_least a_o_now_gateOff a_o_now_limit a_o_now_value a_o_now_kind a_o_now_most a_o_now_wishOff a_o_now_use o_bestKnown o_looseKnown o_traced o_now_wishes o_now_isTold o_now_gateOff o_now_wishOff) sz) := by
  refine contrI (S := Int32 × Int32 × (Nat → Int32) × (Nat → Int32)) (post := fun (r : Int32) (u : Int32 × Int32 × (Nat → Int32) × (Nat → Int32)) => post r u.1 u.2.1 u.2.2.1 u.2.2.2) (wOut := fun (u : Int32 × Int32 × (Nat → Int32) × (Nat → Int32)) => (w_X6_off cy a_o a_o_reader a_o_told a_o_clearer a_o_bestOne a_o_looseOne a_o_other a_o_bids a_o_now a_o_spare a_o_now_isTold a_o_now_least a_o_now_gateOff a_o_now_limit a_o_now_value a_o_now_kind a_o_now_most a_o_now_wishOff a_o_now_use u.1 u.2.1 o_traced o_now_wishes o_now_isTold u.2.2.1 u.2.2.2)) (cc := cX6_off) (maxL := 7) (own := RX6) (by decide +kernel) rfl rfl ?_
  intro p e s m args below meth c A Q hx hb hml hown hts hK hN hP hD hS hA hret
  have in_X6 : ∀ w ∈ u_ws RX6 TX6 12, w ∈ wsX6_off := by decide +kernel
  have fl_53 := hts (.fieldLink RX6 53 "DawnTable" "now" "LDawnTable$Table;") (by decide +kernel)
  have in_X4 : ∀ w ∈ u_ws RX4 TX4 10, w ∈ wsX6_off := by decide +kernel
  have fl_121 := hts (.fieldLink RX6 121 "DawnTable$Table" "wishOff" "[Z") (by decide +kernel)
  have fl_105 := hts (.fieldLink RX6 105 "DawnTable$Table" "gateOff" "[Z") (by decide +kernel)
  have j_104_2 : ∀ (x6 : Int32) (s1 : Int32) (s2 : Int32) (o_bestKnown : Int32) (o_looseKnown : Int32) (o_now_gateOff : Nat → Int32) (o_now_wishOff : Nat → Int32), wj_X6_off_104  x6 s1 s2 o_bestKnown o_looseKnown o_now_wishes o_now_isTold o_now_gateOff o_now_wishOff  post → ∀ (H : Heap) (locs : List Loc), va_P D vwCl (w_X6_off cy a_o a_o_reader a_o_told a_o_clearer a_o_bestOne a_o_looseOne a_o_other a_o_bids a_o_now a_o_spare a_o_now_isTold a_o_now_least a_o_now_gateOff a_o_now_limit a_o_now_value a_o_now_kind a_o_now_most a_o_now_wishOff a_o_now_use o_bestKnown o_looseKnown o_traced o_now_wishes o_now_isTold o_now_gateOff o_now_wishOff) H → va_D A (w_X6_off cy a_o a_o_reader a_o_told a_o_clearer a_o_bestOne a_o_looseOne a_o_other a_o_bids a_o_now a_o_spare a_o_now_isTold a_o_now_least a_o_now_gateOff a_o_now_limit a_o_now_value a_o_now_kind a_o_now_most a_o_now_wishOff a_o_now_use o_bestKnown o_looseKnown o_traced o_now_wishes o_now_isTold o_now_gateOff o_now_wishOff) → va_S A s.heap H locs → ∀ (ls : Array Slot), lv_has ls 7 [(0, .ref a_o), (6, .int x6)] → W p l e ({ frames := 1, cells := 0, slots := 0, locals := 23 }) s m args below meth c H locs 0 0 Q (F0 m 104 ls [.int s2, .int s1, .ref a_o_now_wishOff]) := by
    intro x6 s1 s2 o_bestKnown o_looseKnown o_now_gateOff o_now_wishOff  h H locs hP hD hS ls hl
    unfold wj_X6_off_104 at h
    obtain ⟨i13, h⟩ := h
    refine va_zast hx hb hK hP hD hS 4 3 rfl rfl i13 dX6_off_104 (fun H locs hP hD hS => ?_)
    have hP : va_P D vwCl (w_X6_off cy a_o a_o_reader a_o_told a_o_clearer a_o_bestOne a_o_looseOne a_o_other a_o_bids a_o_now a_o_spare a_o_now_isTold a_o_now_least a_o_now_gateOff a_o_now_limit a_o_now_value a_o_now_kind a_o_now_most a_o_now_wishOff a_o_now_use o_bestKnown o_looseKnown o_traced o_now_wishes o_now_isTold o_now_gateOff (upd o_now_wishOff (s1).toNatClampNeg (vp_nar .boolean s2))) H := hP
    have hD : va_D A (w_X6_off cy a_o a_o_reader a_o_told a_o_clearer a_o_bestOne a_o_looseOne a_o_other a_o_bids a_o_now a_o_spare a_o_now_isTold a_o_now_least a_o_now_gateOff a_o_now_limit a_o_now_value a_o_now_kind a_o_now_most a_o_now_wishOff a_o_now_use o_bestKnown o_looseKnown o_traced o_now_wishes o_now_isTold o_now_gateOff (upd o_now_wishOff (s1).toNatClampNeg (vp_nar .boolean s2))) := hD
    refine lv_aload_n hx hb dX6_off_105 rfl (lv_at hl 0 rfl) ?_
    have hC : ([0] : List Nat).map (fun i => ((w_X6_off cy a_o a_o_reader a_o_told a_o_clearer a_o_bestOne a_o_looseOne a_o_other a_o_bids a_o_now a_o_spare a_o_now_isTold a_o_now_least a_o_now_gateOff a_o_now_limit a_o_now_value a_o_now_kind a_o_now_most a_o_now_wishOff a_o_now_use o_bestKnown o_looseKnown o_traced o_now_wishes o_now_isTold o_now_gateOff (upd o_now_wishOff (s1).toNatClampNeg (vp_nar .boolean s2))) : va_W)[i]?) = ((w_X6_forgetClearings cy a_o a_o_reader a_o_told a_o_clearer a_o_bestOne a_o_looseOne a_o_other a_o_bids a_o_now a_o_spare o_bestKnown o_looseKnown o_traced) : va_W).map some := rfl
    obtain ⟨hPc, hDc⟩ := cutC hP hD [0] (by decide) hC
    have hFc := va_free hD hS hA [0] hC
    refine va_callv (va_runV (As := []) (rest := []) ⟨hx, hb, hml, hown, hts⟩ (c_X6_forgetClearings l D cy a_o a_o_reader a_o_told a_o_clearer a_o_bestOne a_o_looseOne a_o_other a_o_bids a_o_now a_o_spare _ h) (cwV 0 hts gX6_off_X6_forgetClearings rfl rfl rfl (by decide +kernel) ⟨Nat.le_of_ble_eq_true rfl, Nat.le_of_ble_eq_true rfl⟩) (preV hPc hDc hK hN (ci := 6) (q0 := 0) rfl rfl) rfl rfl hl.1 rfl (lv_room (Nat.le_of_ble_eq_true rfl)) dX6_off_106 ⟨Nat.zero_le _, Nat.zero_le _⟩) hS (fun q _ h => hFc q h) hFc (fun u t H1 locs ht hvm h hB hz1 hk1 hS => ?_)
    obtain ⟨u14, u15⟩ := u
    try dsimp only at h hB
    obtain ⟨hP, hD⟩ := joinU (wd := (w_X6_off cy a_o a_o_reader a_o_told a_o_clearer a_o_bestOne a_o_looseOne a_o_other a_o_bids a_o_now a_o_spare a_o_now_isTold a_o_now_least a_o_now_gateOff a_o_now_limit a_o_now_value a_o_now_kind a_o_now_most a_o_now_wishOff a_o_now_use u14 u15 o_traced o_now_wishes o_now_isTold o_now_gateOff (upd o_now_wishOff (s1).toNatClampNeg (vp_nar .boolean s2)))) (wr := [(a_o_now, .inr (4, [.ref a_o_now_isTold, .ref a_o_now_least, .ref a_o_now_gateOff, .ref a_o_now_limit, .ref a_o_now_value, .ref a_o_now_kind, .ref a_o_now_most, .ref a_o_now_wishOff, .ref a_o_now_use, .int o_now_wishes])), (a_o_now_isTold, .inl (cy 3, 5, .inl o_now_isTold)), (a_o_now_gateOff, .inl (cy 3, 5, .inl o_now_gateOff)), (a_o_now_wishOff, .inl (cy 3, 4, .inl (upd o_now_wishOff (s1).toNatClampNeg (vp_nar .boolean s2))))]) hP hD [0] [1, 2, 3, 4] [a_o] hC hk1 ht hB rfl rfl rfl (N := 5) rfl (by decide) rfl rfl
    generalize H1 = H at hP hS ⊢
    refine lv_iload hx hb dX6_off_109 (lv_at hl 1 rfl) ?_
    exact hret x6 (u14, u15, o_now_gateOff, (upd o_now_wishOff (s1).toNatClampNeg (vp_nar .boolean s2))) _ _ _ _ h hP hD hS dX6_off_111
  have j_78_1 : ∀ (x3 : Int32) (x4 : Int32) (o_bestKnown : Int32) (o_looseKnown : Int32) (o_now_gateOff : Nat → Int32) (o_now_wishOff : Nat → Int32), wj_X6_off_78  x3 x4 o_bestKnown o_looseKnown o_now_wishes o_now_isTold o_now_gateOff o_now_wishOff  post → ∀ (H : Heap) (locs : List Loc), va_P D vwCl (w_X6_off cy a_o a_o_reader a_o_told a_o_clearer a_o_bestOne a_o_looseOne a_o_other a_o_bids a_o_now a_o_spare a_o_now_isTold a_o_now_least a_o_now_gateOff a_o_now_limit a_o_now_value a_o_now_kind a_o_now_most a_o_now_wishOff a_o_now_use o_bestKnown o_looseKnown o_traced o_now_wishes o_now_isTold o_now_gateOff o_now_wishOff) H → va_D A (w_X6_off cy a_o a_o_reader a_o_told a_o_clearer a_o_bestOne a_o_looseOne a_o_other a_o_bids a_o_now a_o_spare a_o_now_isTold a_o_now_least a_o_now_gateOff a_o_now_limit a_o_now_value a_o_now_kind a_o_now_most a_o_now_wishOff a_o_now_use o_bestKnown o_looseKnown o_traced o_now_wishes o_now_isTold o_now_gateOff o_now_wishOff) → va_S A s.heap H locs → ∀ (ls : Array Slot), lv_has ls 7 [(0, .ref a_o), (3, .int x3), (4, .int x4)] → W p l e ({ frames := 1, cells := 0, slots := 0, locals := 23 }) s m args below meth c H locs 0 0 Q (F0 m 78 ls [.ref a_o_now_wishOff]) := by
    intro x3 x4 o_bestKnown o_looseKnown o_now_gateOff o_now_wishOff  h H locs hP hD hS ls hl
    unfold wj_X6_off_78 at h
    refine lv_astore (lv' := [(5, .ref a_o_now_wishOff), (0, .ref a_o), (3, .int x3), (4, .int x4)]) hx hb dX6_off_78 hl (by decide) rfl (fun ls hl => ?_)
    refine lv_aload hx hb dX6_off_80 (lv_at hl 0 rfl) ?_
    refine lv_iload hx hb dX6_off_82 (lv_at hl 3 rfl) ?_
    obtain ⟨i10, h⟩ := h
    refine va_zald hx hb hK hP 4 3 rfl rfl i10 dX6_off_84 ?_
    have hC : ([] : List Nat).map (fun i => ((w_X6_off cy a_o a_o_reader a_o_told a_o_clearer a_o_bestOne a_o_looseOne a_o_other a_o_bids a_o_now a_o_spare a_o_now_isTold a_o_now_least a_o_now_gateOff a_o_now_limit a_o_now_value a_o_now_kind a_o_now_most a_o_now_wishOff a_o_now_use o_bestKnown o_looseKnown o_traced o_now_wishes o_now_isTold o_now_gateOff o_now_wishOff) : va_W)[i]?) = ((w_X6_bit cy ) : va_W).map some := rfl
    obtain ⟨hPc, hDc⟩ := cutC hP hD [] (by decide) hC
    have hFc := va_free hD hS hA [] hC
    refine va_calli (va_runS (As := [.int (o_now_wishOff (x4).toNatClampNeg)]) (rest := []) ⟨hx, hb, hml, hown, hts⟩ (c_X6_bit l D cy _ h) (va_cwS 1 hts gX6_off_X6_bit rfl rfl rfl (by decide +kernel) ⟨Nat.le_of_ble_eq_true rfl, Nat.le_of_ble_eq_true rfl⟩) (preS hPc hDc hK hN) rfl rfl hl.1 rfl (lv_room (Nat.le_of_ble_eq_true rfl)) dX6_off_85 ⟨Nat.zero_le _, Nat.zero_le _⟩) hS (fun q _ h => hFc q h) hFc (fun r11 u t H1 locs ht hvm h hB hz1 hk1 hS => ?_)
    try dsimp only at h hB
    obtain ⟨hP, hD⟩ := joinU (wd := (w_X6_off cy a_o a_o_reader a_o_told a_o_clearer a_o_bestOne a_o_looseOne a_o_other a_o_bids a_o_now a_o_spare a_o_now_isTold a_o_now_least a_o_now_gateOff a_o_now_limit a_o_now_value a_o_now_kind a_o_now_most a_o_now_wishOff a_o_now_use o_bestKnown o_looseKnown o_traced o_now_wishes o_now_isTold o_now_gateOff o_now_wishOff)) (wr := [(a_o, .inr (6, [.ref a_o_reader, .ref a_o_told, .ref a_o_clearer, .ref a_o_bestOne, .ref a_o_looseOne, .ref a_o_other, .ref a_o_bids, .ref a_o_now, .ref a_o_spare, .int o_bestKnown, .int o_looseKnown, .long o_traced])), (a_o_now, .inr (4, [.ref a_o_now_isTold, .ref a_o_now_least, .ref a_o_now_gateOff, .ref a_o_now_limit, .ref a_o_now_value, .ref a_o_now_kind, .ref a_o_now_most, .ref a_o_now_wishOff, .ref a_o_now_use, .int o_now_wishes])), (a_o_now_isTold, .inl (cy 3, 5, .inl o_now_isTold)), (a_o_now_gateOff, .inl (cy 3, 5, .inl o_now_gateOff)), (a_o_now_wishOff, .inl (cy 3, 4, .inl o_now_wishOff))]) hP hD [] [0, 1, 2, 3, 4] [] hC hk1 ht hB rfl rfl rfl (N := 5) rfl (by decide) rfl rfl
    generalize H1 = H at hP hS ⊢
    refine lv_istore (lv' := [(6, .int r11), (5, .ref a_o_now_wishOff), (0, .ref a_o), (3, .int x3), (4, .int x4)]) hx hb dX6_off_88 hl (by decide) rfl (fun ls hl => ?_)
    refine lv_aload hx hb dX6_off_90 (lv_at hl 1 rfl) ?_
    refine lv_iload hx hb dX6_off_92 (lv_at hl 4 rfl) ?_
    refine lv_iload_n hx hb dX6_off_94 rfl (lv_at hl 3 rfl) ?_
    refine lv_iconst (v := 1) hx hb dX6_off_95 (by decide) ?_
    refine lv_icmp_ne (tgt := 103) hx hb dX6_off_96 (by decide) (fun c12 => ?_) (fun c12 => ?_)
    · have h := h.2 c12
      refine lv_iconst (v := 0) hx hb dX6_off_103 (by decide) ?_
      exact j_104_2 r11 x4 (0 : Int32) o_bestKnown o_looseKnown o_now_gateOff o_now_wishOff h _ _ hP hD hS _ (lv_sub hl [2, 0] rfl)
    · have h := h.1 c12
      refine lv_iconst (v := 1) hx hb dX6_off_99 (by decide) ?_
      refine lv_goto (tgt := 104) hx hb dX6_off_100 (by decide) ?_
      exact j_104_2 r11 x4 (1 : Int32) o_bestKnown o_looseKnown o_now_gateOff o_now_wishOff h _ _ hP hD hS _ (lv_sub hl [2, 0] rfl)
  have j_104_4 : ∀ (x6 : Int32) (s1 : Int32) (s2 : Int32) (o_bestKnown : Int32) (o_looseKnown : Int32) (o_now_gateOff : Nat → Int32) (o_now_wishOff : Nat → Int32), wj_X6_off_104_b  x6 s1 s2 o_bestKnown o_looseKnown o_now_wishes o_now_isTold o_now_gateOff o_now_wishOff  post → ∀ (H : Heap) (locs : List Loc), va_P D vwCl (w_X6_off cy a_o a_o_reader a_o_told a_o_clearer a_o_bestOne a_o_looseOne a_o_other a_o_bids a_o_now a_o_spare a_o_now_isTold a_o_now_least a_o_now_gateOff a_o_now_limit a_o_now_value a_o_now_kind a_o_now_most a_o_now_wishOff a_o_now_use o_bestKnown o_looseKnown o_traced o_now_wishes o_now_isTold o_now_gateOff o_now_wishOff) H → va_D A (w_X6_off cy a_o a_o_reader a_o_told a_o_clearer a_o_bestOne a_o_looseOne a_o_other a_o_bids a_o_now a_o_spare a_o_now_isTold a_o_now_least a_o_now_gateOff a_o_now_limit a_o_now_value a_o_now_kind a_o_now_most a_o_now_wishOff a_o_now_use o_bestKnown o_looseKnown o_traced o_now_wishes o_now_isTold o_now_gateOff o_now_wishOff) → va_S A s.heap H locs → ∀ (ls : Array Slot), lv_has ls 7 [(0, .ref a_o), (6, .int x6)] → W p l e ({ frames := 1, cells := 0, slots := 0, locals := 23 }) s m args below meth c H locs 0 0 Q (F0 m 104 ls [.int s2, .int s1, .ref a_o_now_gateOff]) := by
    intro x6 s1 s2 o_bestKnown o_looseKnown o_now_gateOff o_now_wishOff  h H locs hP hD hS ls hl
    unfold wj_X6_off_104_b at h
    obtain ⟨i19, h⟩ := h
    refine va_zast hx hb hK hP hD hS 3 3 rfl rfl i19 dX6_off_104 (fun H locs hP hD hS => ?_)
    have hP : va_P D vwCl (w_X6_off cy a_o a_o_reader a_o_told a_o_clearer a_o_bestOne a_o_looseOne a_o_other a_o_bids a_o_now a_o_spare a_o_now_isTold a_o_now_least a_o_now_gateOff a_o_now_limit a_o_now_value a_o_now_kind a_o_now_most a_o_now_wishOff a_o_now_use o_bestKnown o_looseKnown o_traced o_now_wishes o_now_isTold (upd o_now_gateOff (s1).toNatClampNeg (vp_nar .boolean s2)) o_now_wishOff) H := hP
    have hD : va_D A (w_X6_off cy a_o a_o_reader a_o_told a_o_clearer a_o_bestOne a_o_looseOne a_o_other a_o_bids a_o_now a_o_spare a_o_now_isTold a_o_now_least a_o_now_gateOff a_o_now_limit a_o_now_value a_o_now_kind a_o_now_most a_o_now_wishOff a_o_now_use o_bestKnown o_looseKnown o_traced o_now_wishes o_now_isTold (upd o_now_gateOff (s1).toNatClampNeg (vp_nar .boolean s2)) o_now_wishOff) := hD
    refine lv_aload_n hx hb dX6_off_105 rfl (lv_at hl 0 rfl) ?_
    have hC : ([0] : List Nat).map (fun i => ((w_X6_off cy a_o a_o_reader a_o_told a_o_clearer a_o_bestOne a_o_looseOne a_o_other a_o_bids a_o_now a_o_spare a_o_now_isTold a_o_now_least a_o_now_gateOff a_o_now_limit a_o_now_value a_o_now_kind a_o_now_most a_o_now_wishOff a_o_now_use o_bestKnown o_looseKnown o_traced o_now_wishes o_now_isTold (upd o_now_gateOff (s1).toNatClampNeg (vp_nar .boolean s2)) o_now_wishOff) : va_W)[i]?) = ((w_X6_forgetClearings cy a_o a_o_reader a_o_told a_o_clearer a_o_bestOne a_o_looseOne a_o_other a_o_bids a_o_now a_o_spare o_bestKnown o_looseKnown o_traced) : va_W).map some := rfl
    obtain ⟨hPc, hDc⟩ := cutC hP hD [0] (by decide) hC
    have hFc := va_free hD hS hA [0] hC
    refine va_callv (va_runV (As := []) (rest := []) ⟨hx, hb, hml, hown, hts⟩ (c_X6_forgetClearings l D cy a_o a_o_reader a_o_told a_o_clearer a_o_bestOne a_o_looseOne a_o_other a_o_bids a_o_now a_o_spare _ h) (cwV 0 hts gX6_off_X6_forgetClearings rfl rfl rfl (by decide +kernel) ⟨Nat.le_of_ble_eq_true rfl, Nat.le_of_ble_eq_true rfl⟩) (preV hPc hDc hK hN (ci := 6) (q0 := 0) rfl rfl) rfl rfl hl.1 rfl (lv_room (Nat.le_of_ble_eq_true rfl)) dX6_off_106 ⟨Nat.zero_le _, Nat.zero_le _⟩) hS (fun q _ h => hFc q h) hFc (fun u t H1 locs ht hvm h hB hz1 hk1 hS => ?_)
    obtain ⟨u20, u21⟩ := u
    try dsimp only at h hB
    obtain ⟨hP, hD⟩ := joinU (wd := (w_X6_off cy a_o a_o_reader a_o_told a_o_clearer a_o_bestOne a_o_looseOne a_o_other a_o_bids a_o_now a_o_spare a_o_now_isTold a_o_now_least a_o_now_gateOff a_o_now_limit a_o_now_value a_o_now_kind a_o_now_most a_o_now_wishOff a_o_now_use u20 u21 o_traced o_now_wishes o_now_isTold (upd o_now_gateOff (s1).toNatClampNeg (vp_nar .boolean s2)) o_now_wishOff)) (wr := [(a_o_now, .inr (4, [.ref a_o_now_isTold, .ref a_o_now_least, .ref a_o_now_gateOff, .ref a_o_now_limit, .ref a_o_now_value, .ref a_o_now_kind, .ref a_o_now_most, .ref a_o_now_wishOff, .ref a_o_now_use, .int o_now_wishes])), (a_o_now_isTold, .inl (cy 3, 5, .inl o_now_isTold)), (a_o_now_gateOff, .inl (cy 3, 5, .inl (upd o_now_gateOff (s1).toNatClampNeg (vp_nar .boolean s2)))), (a_o_now_wishOff, .inl (cy 3, 4, .inl o_now_wishOff))]) hP hD [0] [1, 2, 3, 4] [a_o] hC hk1 ht hB rfl rfl rfl (N := 5) rfl (by decide) rfl rfl
    generalize H1 = H at hP hS ⊢
    refine lv_iload hx hb dX6_off_109 (lv_at hl 1 rfl) ?_
    exact hret x6 (u20, u21, (upd o_now_gateOff (s1).toNatClampNeg (vp_nar .boolean s2)), o_now_wishOff) _ _ _ _ h hP hD hS dX6_off_111
  have j_78_3 : ∀ (x3 : Int32) (x4 : Int32) (o_bestKnown : Int32) (o_looseKnown : Int32) (o_now_gateOff : Nat → Int32) (o_now_wishOff : Nat → Int32), wj_X6_off_78_b  x3 x4 o_bestKnown o_looseKnown o_now_wishes o_now_isTold o_now_gateOff o_now_wishOff  post → ∀ (H : Heap) (locs : List Loc), va_P D vwCl (w_X6_off cy a_o a_o_reader a_o_told a_o_clearer a_o_bestOne a_o_looseOne a_o_other a_o_bids a_o_now a_o_spare a_o_now_isTold a_o_now_least a_o_now_gateOff a_o_now_limit a_o_now_value a_o_now_kind a_o_now_most a_o_now_wishOff a_o_now_use o_bestKnown o_looseKnown o_traced o_now_wishes o_now_isTold o_now_gateOff o_now_wishOff) H → va_D A (w_X6_off cy a_o a_o_reader a_o_told a_o_clearer a_o_bestOne a_o_looseOne a_o_other a_o_bids a_o_now a_o_spare a_o_now_isTold a_o_now_least a_o_now_gateOff a_o_now_limit a_o_now_value a_o_now_kind a_o_now_most a_o_now_wishOff a_o_now_use o_bestKnown o_looseKnown o_traced o_now_wishes o_now_isTold o_now_gateOff o_now_wishOff) → va_S A s.heap H locs → ∀ (ls : Array Slot), lv_has ls 7 [(0, .ref a_o), (3, .int x3), (4, .int x4)] → W p l e ({ frames := 1, cells := 0, slots := 0, locals := 23 }) s m args below meth c H locs 0 0 Q (F0 m 78 ls [.ref a_o_now_gateOff]) := by
    intro x3 x4 o_bestKnown o_looseKnown o_now_gateOff o_now_wishOff  h H locs hP hD hS ls hl
    unfold wj_X6_off_78_b at h
    refine lv_astore (lv' := [(5, .ref a_o_now_gateOff), (0, .ref a_o), (3, .int x3), (4, .int x4)]) hx hb dX6_off_78 hl (by decide) rfl (fun ls hl => ?_)
    refine lv_aload hx hb dX6_off_80 (lv_at hl 0 rfl) ?_
    refine lv_iload hx hb dX6_off_82 (lv_at hl 3 rfl) ?_
    obtain ⟨i16, h⟩ := h
    refine va_zald hx hb hK hP 3 3 rfl rfl i16 dX6_off_84 ?_
    have hC : ([] : List Nat).map (fun i => ((w_X6_off cy a_o a_o_reader a_o_told a_o_clearer a_o_bestOne a_o_looseOne a_o_other a_o_bids a_o_now a_o_spare a_o_now_isTold a_o_now_least a_o_now_gateOff a_o_now_limit a_o_now_value a_o_now_kind a_o_now_most a_o_now_wishOff a_o_now_use o_bestKnown o_looseKnown o_traced o_now_wishes o_now_isTold o_now_gateOff o_now_wishOff) : va_W)[i]?) = ((w_X6_bit cy ) : va_W).map some := rfl
    obtain ⟨hPc, hDc⟩ := cutC hP hD [] (by decide) hC
    have hFc := va_free hD hS hA [] hC
    refine va_calli (va_runS (As := [.int (o_now_gateOff (x4).toNatClampNeg)]) (rest := []) ⟨hx, hb, hml, hown, hts⟩ (c_X6_bit l D cy _ h) (va_cwS 1 hts gX6_off_X6_bit rfl rfl rfl (by decide +kernel) ⟨Nat.le_of_ble_eq_true rfl, Nat.le_of_ble_eq_true rfl⟩) (preS hPc hDc hK hN) rfl rfl hl.1 rfl (lv_room (Nat.le_of_ble_eq_true rfl)) dX6_off_85 ⟨Nat.zero_le _, Nat.zero_le _⟩) hS (fun q _ h => hFc q h) hFc (fun r17 u t H1 locs ht hvm h hB hz1 hk1 hS => ?_)
    try dsimp only at h hB
    obtain ⟨hP, hD⟩ := joinU (wd := (w_X6_off cy a_o a_o_reader a_o_told a_o_clearer a_o_bestOne a_o_looseOne a_o_other a_o_bids a_o_now a_o_spare a_o_now_isTold a_o_now_least a_o_now_gateOff a_o_now_limit a_o_now_value a_o_now_kind a_o_now_most a_o_now_wishOff a_o_now_use o_bestKnown o_looseKnown o_traced o_now_wishes o_now_isTold o_now_gateOff o_now_wishOff)) (wr := [(a_o, .inr (6, [.ref a_o_reader, .ref a_o_told, .ref a_o_clearer, .ref a_o_bestOne, .ref a_o_looseOne, .ref a_o_other, .ref a_o_bids, .ref a_o_now, .ref a_o_spare, .int o_bestKnown, .int o_looseKnown, .long o_traced])), (a_o_now, .inr (4, [.ref a_o_now_isTold, .ref a_o_now_least, .ref a_o_now_gateOff, .ref a_o_now_limit, .ref a_o_now_value, .ref a_o_now_kind, .ref a_o_now_most, .ref a_o_now_wishOff, .ref a_o_now_use, .int o_now_wishes])), (a_o_now_isTold, .inl (cy 3, 5, .inl o_now_isTold)), (a_o_now_gateOff, .inl (cy 3, 5, .inl o_now_gateOff)), (a_o_now_wishOff, .inl (cy 3, 4, .inl o_now_wishOff))]) hP hD [] [0, 1, 2, 3, 4] [] hC hk1 ht hB rfl rfl rfl (N := 5) rfl (by decide) rfl rfl
    generalize H1 = H at hP hS ⊢
    refine lv_istore (lv' := [(6, .int r17), (5, .ref a_o_now_gateOff), (0, .ref a_o), (3, .int x3), (4, .int x4)]) hx hb dX6_off_88 hl (by decide) rfl (fun ls hl => ?_)
    refine lv_aload hx hb dX6_off_90 (lv_at hl 1 rfl) ?_
    refine lv_iload hx hb dX6_off_92 (lv_at hl 4 rfl) ?_
    refine lv_iload_n hx hb dX6_off_94 rfl (lv_at hl 3 rfl) ?_
    refine lv_iconst (v := 1) hx hb dX6_off_95 (by decide) ?_
    refine lv_icmp_ne (tgt := 103) hx hb dX6_off_96 (by decide) (fun c18 => ?_) (fun c18 => ?_)
    · have h := h.2 c18
      refine lv_iconst (v := 0) hx hb dX6_off_103 (by decide) ?_
      exact j_104_4 r17 x4 (0 : Int32) o_bestKnown o_looseKnown o_now_gateOff o_now_wishOff h _ _ hP hD hS _ (lv_sub hl [2, 0] rfl)
    · have h := h.1 c18
      refine lv_iconst (v := 1) hx hb dX6_off_99 (by decide) ?_
      refine lv_goto (tgt := 104) hx hb dX6_off_100 (by decide) ?_
      exact j_104_4 r17 x4 (1 : Int32) o_bestKnown o_looseKnown o_now_gateOff o_now_wishOff h _ _ hP hD hS _ (lv_sub hl [2, 0] rfl)
  have j_48_0 : ∀ (x1 : Int32) (x3 : Int32) (s0 : Int32) (o_bestKnown : Int32) (o_looseKnown : Int32) (o_now_gateOff : Nat → Int32) (o_now_wishOff : Nat → Int32), wj_X6_off_48  x1 x3 s0 o_bestKnown o_looseKnown o_now_wishes o_now_isTold o_now_gateOff o_now_wishOff  post → ∀ (H : Heap) (locs : List Loc), va_P D vwCl (w_X6_off cy a_o a_o_reader a_o_told a_o_clearer a_o_bestOne a_o_looseOne a_o_other a_o_bids a_o_now a_o_spare a_o_now_isTold a_o_now_least a_o_now_gateOff a_o_now_limit a_o_now_value a_o_now_kind a_o_now_most a_o_now_wishOff a_o_now_use o_bestKnown o_looseKnown o_traced o_now_wishes o_now_isTold o_now_gateOff o_now_wishOff) H → va_D A (w_X6_off cy a_o a_o_reader a_o_told a_o_clearer a_o_bestOne a_o_looseOne a_o_other a_o_bids a_o_now a_o_spare a_o_now_isTold a_o_now_least a_o_now_gateOff a_o_now_limit a_o_now_value a_o_now_kind a_o_now_most a_o_now_wishOff a_o_now_use o_bestKnown o_looseKnown o_traced o_now_wishes o_now_isTold o_now_gateOff o_now_wishOff) → va_S A s.heap H locs → ∀ (ls : Array Slot), lv_has ls 7 [(0, .ref a_o), (1, .int x1), (3, .int x3)] → W p l e ({ frames := 1, cells := 0, slots := 0, locals := 23 }) s m args below meth c H locs 0 0 Q (F0 m 48 ls [.int s0]) := by
    intro x1 x3 s0 o_bestKnown o_looseKnown o_now_gateOff o_now_wishOff  h H locs hP hD hS ls hl
    unfold wj_X6_off_48 at h
    refine lv_istore (lv' := [(4, .int s0), (0, .ref a_o), (1, .int x1), (3, .int x3)]) hx hb dX6_off_48 hl (by decide) rfl (fun ls hl => ?_)
    refine lv_iload hx hb dX6_off_50 (lv_at hl 0 rfl) ?_
    refine lv_if_ge (tgt := 57) hx hb dX6_off_52 (by decide) (fun c8 => ?_) (fun c8 => ?_)
    · have h := h.1 c8
      refine lv_iload_n hx hb dX6_off_57 rfl (lv_at hl 2 rfl) ?_
      refine lv_if_ne (tgt := 71) hx hb dX6_off_58 (by decide) (fun c9 => ?_) (fun c9 => ?_)
      · have h := h.2 c9
        refine lv_aload_n hx hb dX6_off_71 rfl (lv_at hl 1 rfl) ?_
        refine va_get (D := D) (ci := 6) (v := .ref a_o_now) (C := RX6) (T := TX6) (N := 12) hx hb hts in_X6 hown hK hP 0 rfl rfl 7 (by decide) fl_53 (fun _ h9 => h9) rfl dX6_off_72 ?_
        refine va_get (D := D) (ci := 4) (v := .ref a_o_now_wishOff) (C := RX4) (T := TX4) (N := 10) hx hb hts in_X4 hown hK hP 1 rfl rfl 7 (by decide) fl_121 (fun _ h9 => h9) rfl dX6_off_75 ?_
        exact j_78_1 x3 s0 o_bestKnown o_looseKnown o_now_gateOff o_now_wishOff h _ _ hP hD hS _ (lv_sub hl [1, 3, 0] rfl)
      · have h := h.1 c9
        refine lv_aload_n hx hb dX6_off_61 rfl (lv_at hl 1 rfl) ?_
        refine va_get (D := D) (ci := 6) (v := .ref a_o_now) (C := RX6) (T := TX6) (N := 12) hx hb hts in_X6 hown hK hP 0 rfl rfl 7 (by decide) fl_53 (fun _ h9 => h9) rfl dX6_off_62 ?_
        refine va_get (D := D) (ci := 4) (v := .ref a_o_now_gateOff) (C := RX4) (T := TX4) (N := 10) hx hb hts in_X4 hown hK hP 1 rfl rfl 2 (by decide) fl_105 (fun _ h9 => h9) rfl dX6_off_65 ?_
        refine lv_goto (tgt := 78) hx hb dX6_off_68 (by decide) ?_
        exact j_78_3 x3 s0 o_bestKnown o_looseKnown o_now_gateOff o_now_wishOff h _ _ hP hD hS _ (lv_sub hl [1, 3, 0] rfl)
    · have h := h.2 c8
      refine lv_iconst (v := -1) hx hb dX6_off_55 (by decide) ?_
      exact hret (-1 : Int32) (o_bestKnown, o_looseKnown, o_now_gateOff, o_now_wishOff) _ _ _ _ h hP hD hS dX6_off_56
  refine ent [.ref a_o, .int x1, .int x2, .int x3] (Nat.le_of_ble_eq_true rfl) (fun ls hl => ?_)
  have hl : lv_has ls 7 [(0, .ref a_o), (1, .int x1), (2, .int x2), (3, .int x3)] := hl
  unfold wp_X6_off at h
  refine lv_iload_n hx hb dX6_off_0 rfl (lv_at hl 1 rfl) ?_
  refine lv_if_lt (tgt := 18) hx hb dX6_off_1 (by decide) (fun c1 => ?_) (fun c1 => ?_)
  · have h := h.1 c1
    refine lv_iconst (v := -1) hx hb dX6_off_18 (by decide) ?_
    exact hret (-1 : Int32) (o_bestKnown, o_looseKnown, o_now_gateOff, o_now_wishOff) _ _ _ _ h hP hD hS dX6_off_19
  · have h := h.2 c1
    refine lv_iload_n hx hb dX6_off_4 rfl (lv_at hl 1 rfl) ?_
    refine lv_iconst (v := 1) hx hb dX6_off_5 (by decide) ?_
    refine lv_icmp_gt (tgt := 18) hx hb dX6_off_6 (by decide) (fun c2 => ?_) (fun c2 => ?_)
    · have h := h.1 c2
      refine lv_iconst (v := -1) hx hb dX6_off_18 (by decide) ?_
      exact hret (-1 : Int32) (o_bestKnown, o_looseKnown, o_now_gateOff, o_now_wishOff) _ _ _ _ h hP hD hS dX6_off_19
    · have h := h.2 c2
      refine lv_iload_n hx hb dX6_off_9 rfl (lv_at hl 3 rfl) ?_
      refine lv_if_lt (tgt := 18) hx hb dX6_off_10 (by decide) (fun c3 => ?_) (fun c3 => ?_)
      · have h := h.1 c3
        refine lv_iconst (v := -1) hx hb dX6_off_18 (by decide) ?_
        exact hret (-1 : Int32) (o_bestKnown, o_looseKnown, o_now_gateOff, o_now_wishOff) _ _ _ _ h hP hD hS dX6_off_19
      · have h := h.2 c3
        refine lv_iload_n hx hb dX6_off_13 rfl (lv_at hl 3 rfl) ?_
        refine lv_iconst (v := 1) hx hb dX6_off_14 (by decide) ?_
        refine lv_icmp_le (tgt := 20) hx hb dX6_off_15 (by decide) (fun c4 => ?_) (fun c4 => ?_)
        · have h := h.1 c4
          refine lv_iload_n hx hb dX6_off_20 rfl (lv_at hl 1 rfl) ?_
          refine lv_if_ne (tgt := 35) hx hb dX6_off_21 (by decide) (fun c5 => ?_) (fun c5 => ?_)
          · have h := h.2 c5
            refine lv_aload_n hx hb dX6_off_35 rfl (lv_at hl 0 rfl) ?_
            refine lv_iload_n hx hb dX6_off_36 rfl (lv_at hl 2 rfl) ?_
            have hC : ([0, 1] : List Nat).map (fun i => ((w_X6_off cy a_o a_o_reader a_o_told a_o_clearer a_o_bestOne a_o_looseOne a_o_other a_o_bids a_o_now a_o_spare a_o_now_isTold a_o_now_least a_o_now_gateOff a_o_now_limit a_o_now_value a_o_now_kind a_o_now_most a_o_now_wishOff a_o_now_use o_bestKnown o_looseKnown o_traced o_now_wishes o_now_isTold o_now_gateOff o_now_wishOff) : va_W)[i]?) = ((w_X6_isWish cy a_o a_o_reader a_o_told a_o_clearer a_o_bestOne a_o_looseOne a_o_other a_o_bids a_o_now a_o_spare a_o_now_isTold a_o_now_least a_o_now_gateOff a_o_now_limit a_o_now_value a_o_now_kind a_o_now_most a_o_now_wishOff a_o_now_use o_bestKnown o_looseKnown o_traced o_now_wishes) : va_W).map some := rfl
            obtain ⟨hPc, hDc⟩ := cutC hP hD [0, 1] (by decide) hC
            have hFc := va_free hD hS hA [0, 1] hC
            refine va_calli (va_runV (As := [.int x2]) (rest := []) ⟨hx, hb, hml, hown, hts⟩ (c_X6_isWish l D cy a_o a_o_reader a_o_told a_o_clearer a_o_bestOne a_o_looseOne a_o_other a_o_bids a_o_now a_o_spare a_o_now_isTold a_o_now_least a_o_now_gateOff a_o_now_limit a_o_now_value a_o_now_kind a_o_now_most a_o_now_wishOff a_o_now_use _ h) (cwV 1 hts gX6_off_X6_isWish rfl rfl rfl (by decide +kernel) ⟨Nat.le_of_ble_eq_true rfl, Nat.le_of_ble_eq_true rfl⟩) (preV hPc hDc hK hN (ci := 6) (q0 := 0) rfl rfl) rfl rfl hl.1 rfl (lv_room (Nat.le_of_ble_eq_true rfl)) dX6_off_37 ⟨Nat.zero_le _, Nat.zero_le _⟩) hS (fun q _ h => hFc q h) hFc (fun r6 u t H1 locs ht hvm h hB hz1 hk1 hS => ?_)
            try dsimp only at h hB
            obtain ⟨hP, hD⟩ := joinU (wd := (w_X6_off cy a_o a_o_reader a_o_told a_o_clearer a_o_bestOne a_o_looseOne a_o_other a_o_bids a_o_now a_o_spare a_o_now_isTold a_o_now_least a_o_now_gateOff a_o_now_limit a_o_now_value a_o_now_kind a_o_now_most a_o_now_wishOff a_o_now_use o_bestKnown o_looseKnown o_traced o_now_wishes o_now_isTold o_now_gateOff o_now_wishOff)) (wr := [(a_o_now_isTold, .inl (cy 3, 5, .inl o_now_isTold)), (a_o_now_gateOff, .inl (cy 3, 5, .inl o_now_gateOff)), (a_o_now_wishOff, .inl (cy 3, 4, .inl o_now_wishOff))]) hP hD [0, 1] [2, 3, 4] [a_o, a_o_now] hC hk1 ht hB rfl rfl rfl (N := 5) rfl (by decide) rfl rfl
            generalize H1 = H at hP hS ⊢
            refine lv_if_eq (tgt := 47) hx hb dX6_off_40 (by decide) (fun c7 => ?_) (fun c7 => ?_)
            · have h := h.1 c7
              refine lv_iconst (v := -1) hx hb dX6_off_47 (by decide) ?_
              exact j_48_0 x1 x3 (-1 : Int32) o_bestKnown o_looseKnown o_now_gateOff o_now_wishOff h _ _ hP hD hS _ (lv_sub hl [0, 1, 3] rfl)
            · have h := h.2 c7
              refine lv_iload_n hx hb dX6_off_43 rfl (lv_at hl 2 rfl) ?_
              refine lv_goto (tgt := 48) hx hb dX6_off_44 (by decide) ?_
              exact j_48_0 x1 x3 x2 o_bestKnown o_looseKnown o_now_gateOff o_now_wishOff h _ _ hP hD hS _ (lv_sub hl [0, 1, 3] rfl)
          · have h := h.1 c5
            refine lv_aload_n hx hb dX6_off_24 rfl (lv_at hl 0 rfl) ?_
            refine va_get (D := D) (ci := 6) (v := .ref a_o_now) (C := RX6) (T := TX6) (N := 12) hx hb hts in_X6 hown hK hP 0 rfl rfl 7 (by decide) fl_53 (fun _ h9 => h9) rfl dX6_off_25 ?_
            refine lv_iload_n hx hb dX6_off_28 rfl (lv_at hl 2 rfl) ?_
            have hC : ([1, 2] : List Nat).map (fun i => ((w_X6_off cy a_o a_o_reader a_o_told a_o_clearer a_o_bestOne a_o_looseOne a_o_other a_o_bids a_o_now a_o_spare a_o_now_isTold a_o_now_least a_o_now_gateOff a_o_now_limit a_o_now_value a_o_now_kind a_o_now_most a_o_now_wishOff a_o_now_use o_bestKnown o_looseKnown o_traced o_now_wishes o_now_isTold o_now_gateOff o_now_wishOff) : va_W)[i]?) = ((w_X4_letterOf cy a_o_now a_o_now_isTold a_o_now_least a_o_now_gateOff a_o_now_limit a_o_now_value a_o_now_kind a_o_now_most a_o_now_wishOff a_o_now_use o_now_wishes o_now_isTold) : va_W).map some := rfl
            obtain ⟨hPc, hDc⟩ := cutC hP hD [1, 2] (by decide) hC
            have hFc := va_free hD hS hA [1, 2] hC
            refine va_calli (va_runV (As := [.int x2]) (rest := []) ⟨hx, hb, hml, hown, hts⟩ (c_X4_letterOf l D cy a_o_now a_o_now_isTold a_o_now_least a_o_now_gateOff a_o_now_limit a_o_now_value a_o_now_kind a_o_now_most a_o_now_wishOff a_o_now_use _ h) (cwV 1 hts gX6_off_X4_letterOf rfl rfl rfl (by decide +kernel) ⟨Nat.le_of_ble_eq_true rfl, Nat.le_of_ble_eq_true rfl⟩) (preV hPc hDc hK hN (ci := 4) (q0 := 0) rfl rfl) rfl rfl hl.1 rfl (lv_room (Nat.le_of_ble_eq_true rfl)) dX6_off_29 ⟨Nat.zero_le _, Nat.zero_le _⟩) hS (fun q _ h => hFc q h) hFc (fun r22 u t H1 locs ht hvm h hB hz1 hk1 hS => ?_)
            try dsimp only at h hB
            obtain ⟨hP, hD⟩ := joinU (wd := (w_X6_off cy a_o a_o_reader a_o_told a_o_clearer a_o_bestOne a_o_looseOne a_o_other a_o_bids a_o_now a_o_spare a_o_now_isTold a_o_now_least a_o_now_gateOff a_o_now_limit a_o_now_value a_o_now_kind a_o_now_most a_o_now_wishOff a_o_now_use o_bestKnown o_looseKnown o_traced o_now_wishes o_now_isTold o_now_gateOff o_now_wishOff)) (wr := [(a_o, .inr (6, [.ref a_o_reader, .ref a_o_told, .ref a_o_clearer, .ref a_o_bestOne, .ref a_o_looseOne, .ref a_o_other, .ref a_o_bids, .ref a_o_now, .ref a_o_spare, .int o_bestKnown, .int o_looseKnown, .long o_traced])), (a_o_now_gateOff, .inl (cy 3, 5, .inl o_now_gateOff)), (a_o_now_wishOff, .inl (cy 3, 4, .inl o_now_wishOff))]) hP hD [1, 2] [0, 3, 4] [a_o_now, a_o_now_isTold] hC hk1 ht hB rfl rfl rfl (N := 5) rfl (by decide) rfl rfl
            generalize H1 = H at hP hS ⊢
            refine lv_goto (tgt := 48) hx hb dX6_off_32 (by decide) ?_
            exact j_48_0 x1 x3 r22 o_bestKnown o_looseKnown o_now_gateOff o_now_wishOff h _ _ hP hD hS _ (lv_sub hl [0, 1, 3] rfl)
        · have h := h.2 c4
          refine lv_iconst (v := -1) hx hb dX6_off_18 (by decide) ?_
          exact hret (-1 : Int32) (o_bestKnown, o_looseKnown, o_now_gateOff, o_now_wishOff) _ _ _ _ h hP hD hS dX6_off_19
abbrev w_X6_tell (cy : Nat → ClassId) (a_o a_o_reader a_o_told a_o_clearer a_o_bestOne a_o_looseOne a_o_other a_o_bids a_o_now a_o_spare a_o_told_x a_o_told_price a_o_now_isTold a_o_now_least a_o_now_gateOff a_o_now_limit a_o_now_value a_o_now_kind a_o_now_most a_o_now_wishOff a_o_now_use : Nat) (o_bestKnown : Int32) (o_looseKnown : Int32) (o_traced : Int64) (o_told_x : Nat → Int64) (o_told_price : Nat → Int64) (o_now_wishes : Int32) (o_now_isTold : Nat → Int32) : va_W := [(a_o, .inr (6, [.ref a_o_reader, .ref a_o_told, .ref a_o_clearer, .ref a_o_bestOne, .ref a_o_looseOne, .ref a_o_other, .ref a_o_bids, .ref a_o_now, .ref a_o_spare, .int o_bestKnown, .int o_looseKnown, .long o_traced])), (a_o_told, .inr (5, [.ref a_o_told_x, .ref a_o_told_price])), (a_o_told_x, .inl (cy 2, 4, .inr (.inl o_told_x))), (a_o_told_price, .inl (cy 2, 5, .inr (.inl o_told_price))), (a_o_now, .inr (4, [.ref a_o_now_isTold, .ref a_o_now_least, .ref a_o_now_gateOff, .ref a_o_now_limit, .ref a_o_now_value, .ref a_o_now_kind, .ref a_o_now_most, .ref a_o_now_wishOff, .ref a_o_now_use, .int o_now_wishes])), (a_o_now_isTold, .inl (cy 3, 5, .inl o_now_isTold))]
set_option maxRecDepth 20000 in
theorem ggX6_tell_X4_letterOf : GoodIn wsX6_tell wsX4_letterOf := goodIn_r _ [15, 16, 38, 39, 40, 41, 42, 43, 44, 45, 46, 47] (by decide +kernel) (by decide +kernel)
set_option maxRecDepth 20000 in
theorem ggX6_tell_X5_canTell : GoodIn wsX6_tell wsX5_canTell := goodIn_r _ [20] (by decide +kernel) (by decide +kernel)
set_option maxRecDepth 20000 in
theorem ggX6_tell_X5_scaled : GoodIn wsX6_tell wsX5_scaled := goodIn_r _ [23] (by decide +kernel) (by decide +kernel)
set_option maxRecDepth 20000 in
theorem ggX6_tell_X6_isWish : GoodIn wsX6_tell wsX6_isWish := goodIn_r _ [9, 1, 10, 24, 25, 26, 27, 28, 29, 30, 31, 32, 33, 34, 35, 38, 39, 40, 41, 42, 43, 44, 45, 46, 47] (by decide +kernel) (by decide +kernel)
set_option maxRecDepth 20000 in
theorem gX6_tell_X4_letterOf : GoodIn wsX6_tell (wsV RX6 89 RX4 yX4_letterOf wsX4_letterOf) := goodIn_app (goodIn_of _ (by decide +kernel)) ggX6_tell_X4_letterOf
set_option maxRecDepth 20000 in
theorem gX6_tell_X5_canTell : GoodIn wsX6_tell (va_wsS RX6 168 yX5_canTell wsX5_canTell) := goodIn_app (goodIn_of _ (by decide +kernel)) ggX6_tell_X5_canTell
set_option maxRecDepth 20000 in
theorem gX6_tell_X5_scaled : GoodIn wsX6_tell (va_wsS RX6 173 yX5_scaled wsX5_scaled) := goodIn_app (goodIn_of _ (by decide +kernel)) ggX6_tell_X5_scaled
set_option maxRecDepth 20000 in
theorem gX6_tell_X6_isWish : GoodIn wsX6_tell (wsV RX6 108 RX6 yX6_isWish wsX6_isWish) := goodIn_app (goodIn_of _ (by decide +kernel)) ggX6_tell_X6_isWish
set_option maxHeartbeats 4000000 in
set_option maxRecDepth 100000 in
theorem c_X6_tell (l : Launch) (D : va_G) (cy : Nat → ClassId) (a_o a_o_reader a_o_told a_o_clearer a_o_bestOne a_o_looseOne a_o_other a_o_bids a_o_now a_o_spare a_o_told_x a_o_told_price a_o_now_isTold a_o_now_least a_o_now_gateOff a_o_now_limit a_o_now_value a_o_now_kind a_o_now_most a_o_now_wishOff a_o_now_use : Nat) (sz : Nat)  {o_bestKnown : Int32} {o_looseKnown : Int32} {o_traced : Int64} {o_told_x : Nat → Int64} {o_told_price : Nat → Int64} {o_now_wishes : Int32} {o_now_isTold : Nat → Int32} {x1 : Int32} {x2 : Int32} {x3 : Int32} {x4 : Int32} {post : Int32 → (Nat → Int64) → (Nat → Int64) → Prop} (h : wp_X6_tell o_told_x o_told_price o_now_wishes o_now_isTold x1 x2 x3 x4 post) : Met l yX6_tell wsX6_tell ({ frames := 1, cells := 0, slots := 0, locals := 23 }) (va_Pc [.ref a_o, .int x1, .int x2, .int x3, .int x4] (wI D cy sz (w_X6_tell cy a_o a_o_reader a_o_told a_o_clearer a_o_bestOne a_o_looseOne a_o_other a_o_bids a_o_now a_o_spare a_o_told_x a_o_told_price a_o_now_isTold a_o_now_least a_o_now_gateOff a_o_now_limit a_o_now_value a_o_now_kind a_o_now_most a_o_now_wishOff a_o_now_use o_bestKnown o_looseKnown o_traced o_told_x o_told_price o_now_wishes o_now_isTold))) (va_Qi (fun (r : Int32) (u : (Nat → Int64) × (Nat → Int64)) => post r u.1 u.2) (fun (u : (Nat → Int64) × (Nat → Int64)) t => wO D cy (va_A (w_X6_tell cy a_o a_o_reader a_o_told a_o_clearer a_o_bestOne a_o_looseOne a_o_other a_o_bids a_o_now a_o_spare a_o_told_x a_o_told_price a_o_now_isTold a_o_now_least a_o_now_gateOff a_o_now_limit a_o_now_value a_o_now_kind a_o_now_most a_o_now_wishOff a_o_now_use o_bestKnown o_looseKnown o_traced o_told_x o_told_price o_now_wishes o_now_isTold) sz) (w_X6_tell cy a_o a_o_reader a_o_told a_o_clearer a_o_bestOne a_o_looseOne a_o_other a_o_bids a_o_now a_o_spare a_o_told_x a_o_told_price a_o_now_isTold a_o_now_least a_o_now_gateOff a_o_now_limit a_o_now_value a_o_now_kind a_o_now_most a_o_now_wishOff a_o_now_use o_bestKnown o_looseKnown o_traced u.1 u.2 o_now_wishes o_now_isTold) t) (va_A (w_X6_tell cy a_o a_o_reader a_o_told a_o_clearer a_o_bestOne a_o_looseOne a_o_other a_o_bids a_o_now a_o_spare a_o_told_x a_o_told_price a_o_now_isTold a_o_now_least a_o_now_gateOff a_o_now_limit a_o_now_value a_o_now_kind a_o_now_most a_o_now_wishOff a_o_now_use o_bestKnown o_looseKnown o_traced o_told_x o_told_price o_now_wishes o_now_isTold) sz)) 0 0 (va_A (w_X6_tell cy a_o a_o_reader a_o_told a_o_clearer a_o_bestOne a_o_looseOne a_o_other a_o_bids a_o_now a_o_spare a_o_told_x a_o_told_price a_o_now_isTold a_o_now_least a_o_now_gateOff a_o_now_limit a_o_now_value a_o_now_kind a_o_now_most a_o_now_wishOff a_o_now_use o_bestKnown o_looseKnown o_traced o_told_x o_told_price o_now_wishes o_now_isTold) sz) := by
  refine contrI (S := (Nat → Int64) × (Nat → Int64)) (post := fun (r : Int32) (u : (Nat → Int64) × (Nat → Int64)) => post r u.1 u.2) (wOut := fun (u : (Nat → Int64) × (Nat → Int64)) => (w_X6_tell cy a_o a_o_reader a_o_told a_o_clearer a_o_bestOne a_o_looseOne a_o_other a_o_bids a_o_now a_o_spare a_o_told_x a_o_told_price a_o_now_isTold a_o_now_least a_o_now_gateOff a_o_now_limit a_o_now_value a_o_now_kind a_o_now_most a_o_now_wishOff a_o_now_use o_bestKnown o_looseKnown o_traced u.1 u.2 o_now_wishes o_now_isTold)) (cc := cX6_tell) (maxL := 6) (own := RX6) (by decide +kernel) rfl rfl ?_
  intro p e s m args below meth c A Q hx hb hml hown hts hK hN hP hD hS hA hret
  have in_X6 : ∀ w ∈ u_ws RX6 TX6 12, w ∈ wsX6_tell := by decide +kernel
  have fl_53 := hts (.fieldLink RX6 53 "DawnTable" "now" "LDawnTable$Table;") (by decide +kernel)
  have fl_19 := hts (.fieldLink RX6 19 "DawnTable" "told" "LDawnTable$Told;") (by decide +kernel)
  have in_X5 : ∀ w ∈ u_ws RX5 TX5 2, w ∈ wsX6_tell := by decide +kernel
  have fl_177 := hts (.fieldLink RX6 177 "DawnTable$Told" "price" "[J") (by decide +kernel)
  have fl_172 := hts (.fieldLink RX6 172 "DawnTable$Told" "x" "[J") (by decide +kernel)
  have j_39_0 : ∀ (x1 : Int32) (x3 : Int32) (x4 : Int32) (s0 : Int32) (o_told_x : Nat → Int64) (o_told_price : Nat → Int64), wj_X6_tell_39  x1 x3 x4 s0 o_told_x o_told_price o_now_wishes o_now_isTold  post → ∀ (H : Heap) (locs : List Loc), va_P D vwCl (w_X6_tell cy a_o a_o_reader a_o_told a_o_clearer a_o_bestOne a_o_looseOne a_o_other a_o_bids a_o_now a_o_spare a_o_told_x a_o_told_price a_o_now_isTold a_o_now_least a_o_now_gateOff a_o_now_limit a_o_now_value a_o_now_kind a_o_now_most a_o_now_wishOff a_o_now_use o_bestKnown o_looseKnown o_traced o_told_x o_told_price o_now_wishes o_now_isTold) H → va_D A (w_X6_tell cy a_o a_o_reader a_o_told a_o_clearer a_o_bestOne a_o_looseOne a_o_other a_o_bids a_o_now a_o_spare a_o_told_x a_o_told_price a_o_now_isTold a_o_now_least a_o_now_gateOff a_o_now_limit a_o_now_value a_o_now_kind a_o_now_most a_o_now_wishOff a_o_now_use o_bestKnown o_looseKnown o_traced o_told_x o_told_price o_now_wishes o_now_isTold) → va_S A s.heap H locs → ∀ (ls : Array Slot), lv_has ls 6 [(0, .ref a_o), (1, .int x1), (3, .int x3), (4, .int x4)] → W p l e ({ frames := 1, cells := 0, slots := 0, locals := 23 }) s m args below meth c H locs 0 0 Q (F0 m 39 ls [.int s0]) := by
    intro x1 x3 x4 s0 o_told_x o_told_price  h H locs hP hD hS ls hl
    unfold wj_X6_tell_39 at h
    refine lv_istore (lv' := [(5, .int s0), (0, .ref a_o), (1, .int x1), (3, .int x3), (4, .int x4)]) hx hb dX6_tell_39 hl (by decide) rfl (fun ls hl => ?_)
    refine lv_iload hx hb dX6_tell_41 (lv_at hl 0 rfl) ?_
    refine lv_if_lt (tgt := 55) hx hb dX6_tell_43 (by decide) (fun c5 => ?_) (fun c5 => ?_)
    · have h := h.1 c5
      refine lv_iconst (v := -1) hx hb dX6_tell_55 (by decide) ?_
      exact hret (-1 : Int32) (o_told_x, o_told_price) _ _ _ _ h hP hD hS dX6_tell_56
    · have h := h.2 c5
      refine lv_iload_n hx hb dX6_tell_46 rfl (lv_at hl 3 rfl) ?_
      refine lv_iload hx hb dX6_tell_47 (lv_at hl 4 rfl) ?_
      have hC : ([] : List Nat).map (fun i => ((w_X6_tell cy a_o a_o_reader a_o_told a_o_clearer a_o_bestOne a_o_looseOne a_o_other a_o_bids a_o_now a_o_spare a_o_told_x a_o_told_price a_o_now_isTold a_o_now_least a_o_now_gateOff a_o_now_limit a_o_now_value a_o_now_kind a_o_now_most a_o_now_wishOff a_o_now_use o_bestKnown o_looseKnown o_traced o_told_x o_told_price o_now_wishes o_now_isTold) : va_W)[i]?) = ((w_X5_canTell cy ) : va_W).map some := rfl
      obtain ⟨hPc, hDc⟩ := cutC hP hD [] (by decide) hC
      have hFc := va_free hD hS hA [] hC
      refine va_calli (va_runS (As := [.int x3, .int x4]) (rest := []) ⟨hx, hb, hml, hown, hts⟩ (c_X5_canTell l D cy _ h) (va_cwS 2 hts gX6_tell_X5_canTell rfl rfl rfl (by decide +kernel) ⟨Nat.le_of_ble_eq_true rfl, Nat.le_of_ble_eq_true rfl⟩) (preS hPc hDc hK hN) rfl rfl hl.1 rfl (lv_room (Nat.le_of_ble_eq_true rfl)) dX6_tell_49 ⟨Nat.zero_le _, Nat.zero_le _⟩) hS (fun q _ h => hFc q h) hFc (fun r6 u t H1 locs ht hvm h hB hz1 hk1 hS => ?_)
      try dsimp only at h hB
      obtain ⟨hP, hD⟩ := joinU (wd := (w_X6_tell cy a_o a_o_reader a_o_told a_o_clearer a_o_bestOne a_o_looseOne a_o_other a_o_bids a_o_now a_o_spare a_o_told_x a_o_told_price a_o_now_isTold a_o_now_least a_o_now_gateOff a_o_now_limit a_o_now_value a_o_now_kind a_o_now_most a_o_now_wishOff a_o_now_use o_bestKnown o_looseKnown o_traced o_told_x o_told_price o_now_wishes o_now_isTold)) (wr := [(a_o, .inr (6, [.ref a_o_reader, .ref a_o_told, .ref a_o_clearer, .ref a_o_bestOne, .ref a_o_looseOne, .ref a_o_other, .ref a_o_bids, .ref a_o_now, .ref a_o_spare, .int o_bestKnown, .int o_looseKnown, .long o_traced])), (a_o_told, .inr (5, [.ref a_o_told_x, .ref a_o_told_price])), (a_o_told_x, .inl (cy 2, 4, .inr (.inl o_told_x))), (a_o_told_price, .inl (cy 2, 5, .inr (.inl o_told_price))), (a_o_now, .inr (4, [.ref a_o_now_isTold, .ref a_o_now_least, .ref a_o_now_gateOff, .ref a_o_now_limit, .ref a_o_now_value, .ref a_o_now_kind, .ref a_o_now_most, .ref a_o_now_wishOff, .ref a_o_now_use, .int o_now_wishes])), (a_o_now_isTold, .inl (cy 3, 5, .inl o_now_isTold))]) hP hD [] [0, 1, 2, 3, 4, 5] [] hC hk1 ht hB rfl rfl rfl (N := 6) rfl (by decide) rfl rfl
      generalize H1 = H at hP hS ⊢
      refine lv_if_ne (tgt := 57) hx hb dX6_tell_52 (by decide) (fun c7 => ?_) (fun c7 => ?_)
      · have h := h.2 c7
        refine lv_iload_n hx hb dX6_tell_57 rfl (lv_at hl 2 rfl) ?_
        refine lv_if_ne (tgt := 80) hx hb dX6_tell_58 (by decide) (fun c8 => ?_) (fun c8 => ?_)
        · have h := h.2 c8
          refine lv_aload_n hx hb dX6_tell_80 rfl (lv_at hl 1 rfl) ?_
          refine va_get (D := D) (ci := 6) (v := .ref a_o_told) (C := RX6) (T := TX6) (N := 12) hx hb hts in_X6 hown hK hP 0 rfl rfl 1 (by decide) fl_19 (fun _ h9 => h9) rfl dX6_tell_81 ?_
          refine va_get (D := D) (ci := 5) (v := .ref a_o_told_price) (C := RX5) (T := TX5) (N := 2) hx hb hts in_X5 hown hK hP 1 rfl rfl 1 (by decide) fl_177 (fun _ h9 => h9) rfl dX6_tell_84 ?_
          refine lv_iload hx hb dX6_tell_87 (lv_at hl 0 rfl) ?_
          refine lv_iload_n hx hb dX6_tell_89 rfl (lv_at hl 3 rfl) ?_
          refine lv_iload hx hb dX6_tell_90 (lv_at hl 4 rfl) ?_
          have hC : ([] : List Nat).map (fun i => ((w_X6_tell cy a_o a_o_reader a_o_told a_o_clearer a_o_bestOne a_o_looseOne a_o_other a_o_bids a_o_now a_o_spare a_o_told_x a_o_told_price a_o_now_isTold a_o_now_least a_o_now_gateOff a_o_now_limit a_o_now_value a_o_now_kind a_o_now_most a_o_now_wishOff a_o_now_use o_bestKnown o_looseKnown o_traced o_told_x o_told_price o_now_wishes o_now_isTold) : va_W)[i]?) = ((w_X5_scaled cy ) : va_W).map some := rfl
          obtain ⟨hPc, hDc⟩ := cutC hP hD [] (by decide) hC
          have hFc := va_free hD hS hA [] hC
          refine va_calll (va_runS (As := [.int x3, .int x4]) (rest := [.int s0, .ref a_o_told_price]) ⟨hx, hb, hml, hown, hts⟩ (c_X5_scaled l D cy _ h) (va_cwS 2 hts gX6_tell_X5_scaled rfl rfl rfl (by decide +kernel) ⟨Nat.le_of_ble_eq_true rfl, Nat.le_of_ble_eq_true rfl⟩) (preS hPc hDc hK hN) rfl rfl hl.1 rfl (lv_room (Nat.le_of_ble_eq_true rfl)) dX6_tell_92 ⟨Nat.zero_le _, Nat.zero_le _⟩) hS (fun q _ h => hFc q h) hFc (fun r9 u t H1 locs ht hvm h hB hz1 hk1 hS => ?_)
          try dsimp only at h hB
          obtain ⟨hP, hD⟩ := joinU (wd := (w_X6_tell cy a_o a_o_reader a_o_told a_o_clearer a_o_bestOne a_o_looseOne a_o_other a_o_bids a_o_now a_o_spare a_o_told_x a_o_told_price a_o_now_isTold a_o_now_least a_o_now_gateOff a_o_now_limit a_o_now_value a_o_now_kind a_o_now_most a_o_now_wishOff a_o_now_use o_bestKnown o_looseKnown o_traced o_told_x o_told_price o_now_wishes o_now_isTold)) (wr := [(a_o, .inr (6, [.ref a_o_reader, .ref a_o_told, .ref a_o_clearer, .ref a_o_bestOne, .ref a_o_looseOne, .ref a_o_other, .ref a_o_bids, .ref a_o_now, .ref a_o_spare, .int o_bestKnown, .int o_looseKnown, .long o_traced])), (a_o_told, .inr (5, [.ref a_o_told_x, .ref a_o_told_price])), (a_o_told_x, .inl (cy 2, 4, .inr (.inl o_told_x))), (a_o_told_price, .inl (cy 2, 5, .inr (.inl o_told_price))), (a_o_now, .inr (4, [.ref a_o_now_isTold, .ref a_o_now_least, .ref a_o_now_gateOff, .ref a_o_now_limit, .ref a_o_now_value, .ref a_o_now_kind, .ref a_o_now_most, .ref a_o_now_wishOff, .ref a_o_now_use, .int o_now_wishes])), (a_o_now_isTold, .inl (cy 3, 5, .inl o_now_isTold))]) hP hD [] [0, 1, 2, 3, 4, 5] [] hC hk1 ht hB rfl rfl rfl (N := 6) rfl (by decide) rfl rfl
          generalize H1 = H at hP hS ⊢
          obtain ⟨i10, h⟩ := h
          refine va_last hx hb hK hP hD hS 3 2 rfl rfl i10 dX6_tell_95 (fun H locs hP hD hS => ?_)
          have hP : va_P D vwCl (w_X6_tell cy a_o a_o_reader a_o_told a_o_clearer a_o_bestOne a_o_looseOne a_o_other a_o_bids a_o_now a_o_spare a_o_told_x a_o_told_price a_o_now_isTold a_o_now_least a_o_now_gateOff a_o_now_limit a_o_now_value a_o_now_kind a_o_now_most a_o_now_wishOff a_o_now_use o_bestKnown o_looseKnown o_traced o_told_x (vp_updL o_told_price (s0).toNatClampNeg r9) o_now_wishes o_now_isTold) H := hP
          have hD : va_D A (w_X6_tell cy a_o a_o_reader a_o_told a_o_clearer a_o_bestOne a_o_looseOne a_o_other a_o_bids a_o_now a_o_spare a_o_told_x a_o_told_price a_o_now_isTold a_o_now_least a_o_now_gateOff a_o_now_limit a_o_now_value a_o_now_kind a_o_now_most a_o_now_wishOff a_o_now_use o_bestKnown o_looseKnown o_traced o_told_x (vp_updL o_told_price (s0).toNatClampNeg r9) o_now_wishes o_now_isTold) := hD
          refine lv_iconst (v := 1) hx hb dX6_tell_96 (by decide) ?_
          exact hret (1 : Int32) (o_told_x, (vp_updL o_told_price (s0).toNatClampNeg r9)) _ _ _ _ h hP hD hS dX6_tell_97
        · have h := h.1 c8
          refine lv_aload_n hx hb dX6_tell_61 rfl (lv_at hl 1 rfl) ?_
          refine va_get (D := D) (ci := 6) (v := .ref a_o_told) (C := RX6) (T := TX6) (N := 12) hx hb hts in_X6 hown hK hP 0 rfl rfl 1 (by decide) fl_19 (fun _ h9 => h9) rfl dX6_tell_62 ?_
          refine va_get (D := D) (ci := 5) (v := .ref a_o_told_x) (C := RX5) (T := TX5) (N := 2) hx hb hts in_X5 hown hK hP 1 rfl rfl 0 (by decide) fl_172 (fun _ h9 => h9) rfl dX6_tell_65 ?_
          refine lv_iload hx hb dX6_tell_68 (lv_at hl 0 rfl) ?_
          refine lv_iload_n hx hb dX6_tell_70 rfl (lv_at hl 3 rfl) ?_
          refine lv_iload hx hb dX6_tell_71 (lv_at hl 4 rfl) ?_
          have hC : ([] : List Nat).map (fun i => ((w_X6_tell cy a_o a_o_reader a_o_told a_o_clearer a_o_bestOne a_o_looseOne a_o_other a_o_bids a_o_now a_o_spare a_o_told_x a_o_told_price a_o_now_isTold a_o_now_least a_o_now_gateOff a_o_now_limit a_o_now_value a_o_now_kind a_o_now_most a_o_now_wishOff a_o_now_use o_bestKnown o_looseKnown o_traced o_told_x o_told_price o_now_wishes o_now_isTold) : va_W)[i]?) = ((w_X5_scaled cy ) : va_W).map some := rfl
          obtain ⟨hPc, hDc⟩ := cutC hP hD [] (by decide) hC
          have hFc := va_free hD hS hA [] hC
          refine va_calll (va_runS (As := [.int x3, .int x4]) (rest := [.int s0, .ref a_o_told_x]) ⟨hx, hb, hml, hown, hts⟩ (c_X5_scaled l D cy _ h) (va_cwS 2 hts gX6_tell_X5_scaled rfl rfl rfl (by decide +kernel) ⟨Nat.le_of_ble_eq_true rfl, Nat.le_of_ble_eq_true rfl⟩) (preS hPc hDc hK hN) rfl rfl hl.1 rfl (lv_room (Nat.le_of_ble_eq_true rfl)) dX6_tell_73 ⟨Nat.zero_le _, Nat.zero_le _⟩) hS (fun q _ h => hFc q h) hFc (fun r11 u t H1 locs ht hvm h hB hz1 hk1 hS => ?_)
          try dsimp only at h hB
          obtain ⟨hP, hD⟩ := joinU (wd := (w_X6_tell cy a_o a_o_reader a_o_told a_o_clearer a_o_bestOne a_o_looseOne a_o_other a_o_bids a_o_now a_o_spare a_o_told_x a_o_told_price a_o_now_isTold a_o_now_least a_o_now_gateOff a_o_now_limit a_o_now_value a_o_now_kind a_o_now_most a_o_now_wishOff a_o_now_use o_bestKnown o_looseKnown o_traced o_told_x o_told_price o_now_wishes o_now_isTold)) (wr := [(a_o, .inr (6, [.ref a_o_reader, .ref a_o_told, .ref a_o_clearer, .ref a_o_bestOne, .ref a_o_looseOne, .ref a_o_other, .ref a_o_bids, .ref a_o_now, .ref a_o_spare, .int o_bestKnown, .int o_looseKnown, .long o_traced])), (a_o_told, .inr (5, [.ref a_o_told_x, .ref a_o_told_price])), (a_o_told_x, .inl (cy 2, 4, .inr (.inl o_told_x))), (a_o_told_price, .inl (cy 2, 5, .inr (.inl o_told_price))), (a_o_now, .inr (4, [.ref a_o_now_isTold, .ref a_o_now_least, .ref a_o_now_gateOff, .ref a_o_now_limit, .ref a_o_now_value, .ref a_o_now_kind, .ref a_o_now_most, .ref a_o_now_wishOff, .ref a_o_now_use, .int o_now_wishes])), (a_o_now_isTold, .inl (cy 3, 5, .inl o_now_isTold))]) hP hD [] [0, 1, 2, 3, 4, 5] [] hC hk1 ht hB rfl rfl rfl (N := 6) rfl (by decide) rfl rfl
          generalize H1 = H at hP hS ⊢
          obtain ⟨i12, h⟩ := h
          refine va_last hx hb hK hP hD hS 2 2 rfl rfl i12 dX6_tell_76 (fun H locs hP hD hS => ?_)
          have hP : va_P D vwCl (w_X6_tell cy a_o a_o_reader a_o_told a_o_clearer a_o_bestOne a_o_looseOne a_o_other a_o_bids a_o_now a_o_spare a_o_told_x a_o_told_price a_o_now_isTold a_o_now_least a_o_now_gateOff a_o_now_limit a_o_now_value a_o_now_kind a_o_now_most a_o_now_wishOff a_o_now_use o_bestKnown o_looseKnown o_traced (vp_updL o_told_x (s0).toNatClampNeg r11) o_told_price o_now_wishes o_now_isTold) H := hP
          have hD : va_D A (w_X6_tell cy a_o a_o_reader a_o_told a_o_clearer a_o_bestOne a_o_looseOne a_o_other a_o_bids a_o_now a_o_spare a_o_told_x a_o_told_price a_o_now_isTold a_o_now_least a_o_now_gateOff a_o_now_limit a_o_now_value a_o_now_kind a_o_now_most a_o_now_wishOff a_o_now_use o_bestKnown o_looseKnown o_traced (vp_updL o_told_x (s0).toNatClampNeg r11) o_told_price o_now_wishes o_now_isTold) := hD
          refine lv_goto (tgt := 96) hx hb dX6_tell_77 (by decide) ?_
          refine lv_iconst (v := 1) hx hb dX6_tell_96 (by decide) ?_
          exact hret (1 : Int32) ((vp_updL o_told_x (s0).toNatClampNeg r11), o_told_price) _ _ _ _ h hP hD hS dX6_tell_97
      · have h := h.1 c7
        refine lv_iconst (v := -1) hx hb dX6_tell_55 (by decide) ?_
        exact hret (-1 : Int32) (o_told_x, o_told_price) _ _ _ _ h hP hD hS dX6_tell_56
  refine ent [.ref a_o, .int x1, .int x2, .int x3, .int x4] (Nat.le_of_ble_eq_true rfl) (fun ls hl => ?_)
  have hl : lv_has ls 6 [(0, .ref a_o), (1, .int x1), (2, .int x2), (3, .int x3), (4, .int x4)] := hl
  unfold wp_X6_tell at h
  refine lv_iload_n hx hb dX6_tell_0 rfl (lv_at hl 1 rfl) ?_
  refine lv_if_lt (tgt := 9) hx hb dX6_tell_1 (by decide) (fun c1 => ?_) (fun c1 => ?_)
  · have h := h.1 c1
    refine lv_iconst (v := -1) hx hb dX6_tell_9 (by decide) ?_
    exact hret (-1 : Int32) (o_told_x, o_told_price) _ _ _ _ h hP hD hS dX6_tell_10
  · have h := h.2 c1
    refine lv_iload_n hx hb dX6_tell_4 rfl (lv_at hl 1 rfl) ?_
    refine lv_iconst (v := 1) hx hb dX6_tell_5 (by decide) ?_
    refine lv_icmp_le (tgt := 11) hx hb dX6_tell_6 (by decide) (fun c2 => ?_) (fun c2 => ?_)
    · have h := h.1 c2
      refine lv_iload_n hx hb dX6_tell_11 rfl (lv_at hl 1 rfl) ?_
      refine lv_if_ne (tgt := 31) hx hb dX6_tell_12 (by decide) (fun c3 => ?_) (fun c3 => ?_)
      · have h := h.2 c3
        refine lv_aload_n hx hb dX6_tell_31 rfl (lv_at hl 0 rfl) ?_
        refine va_get (D := D) (ci := 6) (v := .ref a_o_now) (C := RX6) (T := TX6) (N := 12) hx hb hts in_X6 hown hK hP 0 rfl rfl 7 (by decide) fl_53 (fun _ h9 => h9) rfl dX6_tell_32 ?_
        refine lv_iload_n hx hb dX6_tell_35 rfl (lv_at hl 2 rfl) ?_
        have hC : ([4, 5] : List Nat).map (fun i => ((w_X6_tell cy a_o a_o_reader a_o_told a_o_clearer a_o_bestOne a_o_looseOne a_o_other a_o_bids a_o_now a_o_spare a_o_told_x a_o_told_price a_o_now_isTold a_o_now_least a_o_now_gateOff a_o_now_limit a_o_now_value a_o_now_kind a_o_now_most a_o_now_wishOff a_o_now_use o_bestKnown o_looseKnown o_traced o_told_x o_told_price o_now_wishes o_now_isTold) : va_W)[i]?) = ((w_X4_letterOf cy a_o_now a_o_now_isTold a_o_now_least a_o_now_gateOff a_o_now_limit a_o_now_value a_o_now_kind a_o_now_most a_o_now_wishOff a_o_now_use o_now_wishes o_now_isTold) : va_W).map some := rfl
        obtain ⟨hPc, hDc⟩ := cutC hP hD [4, 5] (by decide) hC
        have hFc := va_free hD hS hA [4, 5] hC
        refine va_calli (va_runV (As := [.int x2]) (rest := []) ⟨hx, hb, hml, hown, hts⟩ (c_X4_letterOf l D cy a_o_now a_o_now_isTold a_o_now_least a_o_now_gateOff a_o_now_limit a_o_now_value a_o_now_kind a_o_now_most a_o_now_wishOff a_o_now_use _ h) (cwV 1 hts gX6_tell_X4_letterOf rfl rfl rfl (by decide +kernel) ⟨Nat.le_of_ble_eq_true rfl, Nat.le_of_ble_eq_true rfl⟩) (preV hPc hDc hK hN (ci := 4) (q0 := 0) rfl rfl) rfl rfl hl.1 rfl (lv_room (Nat.le_of_ble_eq_true rfl)) dX6_tell_36 ⟨Nat.zero_le _, Nat.zero_le _⟩) hS (fun q _ h => hFc q h) hFc (fun r4 u t H1 locs ht hvm h hB hz1 hk1 hS => ?_)
        try dsimp only at h hB
        obtain ⟨hP, hD⟩ := joinU (wd := (w_X6_tell cy a_o a_o_reader a_o_told a_o_clearer a_o_bestOne a_o_looseOne a_o_other a_o_bids a_o_now a_o_spare a_o_told_x a_o_told_price a_o_now_isTold a_o_now_least a_o_now_gateOff a_o_now_limit a_o_now_value a_o_now_kind a_o_now_most a_o_now_wishOff a_o_now_use o_bestKnown o_looseKnown o_traced o_told_x o_told_price o_now_wishes o_now_isTold)) (wr := [(a_o, .inr (6, [.ref a_o_reader, .ref a_o_told, .ref a_o_clearer, .ref a_o_bestOne, .ref a_o_looseOne, .ref a_o_other, .ref a_o_bids, .ref a_o_now, .ref a_o_spare, .int o_bestKnown, .int o_looseKnown, .long o_traced])), (a_o_told, .inr (5, [.ref a_o_told_x, .ref a_o_told_price])), (a_o_told_x, .inl (cy 2, 4, .inr (.inl o_told_x))), (a_o_told_price, .inl (cy 2, 5, .inr (.inl o_told_price)))]) hP hD [4, 5] [0, 1, 2, 3] [a_o_now, a_o_now_isTold] hC hk1 ht hB rfl rfl rfl (N := 6) rfl (by decide) rfl rfl
        generalize H1 = H at hP hS ⊢
        exact j_39_0 x1 x3 x4 r4 o_told_x o_told_price h _ _ hP hD hS _ (lv_sub hl [0, 1, 3, 4] rfl)
      · have h := h.1 c3
        refine lv_aload_n hx hb dX6_tell_15 rfl (lv_at hl 0 rfl) ?_
        refine lv_iload_n hx hb dX6_tell_16 rfl (lv_at hl 2 rfl) ?_
        have hC : ([0, 4] : List Nat).map (fun i => ((w_X6_tell cy a_o a_o_reader a_o_told a_o_clearer a_o_bestOne a_o_looseOne a_o_other a_o_bids a_o_now a_o_spare a_o_told_x a_o_told_price a_o_now_isTold a_o_now_least a_o_now_gateOff a_o_now_limit a_o_now_value a_o_now_kind a_o_now_most a_o_now_wishOff a_o_now_use o_bestKnown o_looseKnown o_traced o_told_x o_told_price o_now_wishes o_now_isTold) : va_W)[i]?) = ((w_X6_isWish cy a_o a_o_reader a_o_told a_o_clearer a_o_bestOne a_o_looseOne a_o_other a_o_bids a_o_now a_o_spare a_o_now_isTold a_o_now_least a_o_now_gateOff a_o_now_limit a_o_now_value a_o_now_kind a_o_now_most a_o_now_wishOff a_o_now_use o_bestKnown o_looseKnown o_traced o_now_wishes) : va_W).map some := rfl
        obtain ⟨hPc, hDc⟩ := cutC hP hD [0, 4] (by decide) hC
        have hFc := va_free hD hS hA [0, 4] hC
        refine va_calli (va_runV (As := [.int x2]) (rest := []) ⟨hx, hb, hml, hown, hts⟩ (c_X6_isWish l D cy a_o a_o_reader a_o_told a_o_clearer a_o_bestOne a_o_looseOne a_o_other a_o_bids a_o_now a_o_spare a_o_now_isTold a_o_now_least a_o_now_gateOff a_o_now_limit a_o_now_value a_o_now_kind a_o_now_most a_o_now_wishOff a_o_now_use _ h) (cwV 1 hts gX6_tell_X6_isWish rfl rfl rfl (by decide +kernel) ⟨Nat.le_of_ble_eq_true rfl, Nat.le_of_ble_eq_true rfl⟩) (preV hPc hDc hK hN (ci := 6) (q0 := 0) rfl rfl) rfl rfl hl.1 rfl (lv_room (Nat.le_of_ble_eq_true rfl)) dX6_tell_17 ⟨Nat.zero_le _, Nat.zero_le _⟩) hS (fun q _ h => hFc q h) hFc (fun r13 u t H1 locs ht hvm h hB hz1 hk1 hS => ?_)
        try dsimp only at h hB
        obtain ⟨hP, hD⟩ := joinU (wd := (w_X6_tell cy a_o a_o_reader a_o_told a_o_clearer a_o_bestOne a_o_looseOne a_o_other a_o_bids a_o_now a_o_spare a_o_told_x a_o_told_price a_o_now_isTold a_o_now_least a_o_now_gateOff a_o_now_limit a_o_now_value a_o_now_kind a_o_now_most a_o_now_wishOff a_o_now_use o_bestKnown o_looseKnown o_traced o_told_x o_told_price o_now_wishes o_now_isTold)) (wr := [(a_o_told, .inr (5, [.ref a_o_told_x, .ref a_o_told_price])), (a_o_told_x, .inl (cy 2, 4, .inr (.inl o_told_x))), (a_o_told_price, .inl (cy 2, 5, .inr (.inl o_told_price))), (a_o_now_isTold, .inl (cy 3, 5, .inl o_now_isTold))]) hP hD [0, 4] [1, 2, 3, 5] [a_o, a_o_now] hC hk1 ht hB rfl rfl rfl (N := 6) rfl (by decide) rfl rfl
        generalize H1 = H at hP hS ⊢
        refine lv_if_eq (tgt := 27) hx hb dX6_tell_20 (by decide) (fun c14 => ?_) (fun c14 => ?_)
        · have h := h.1 c14
          refine lv_iconst (v := -1) hx hb dX6_tell_27 (by decide) ?_
          refine lv_goto (tgt := 39) hx hb dX6_tell_28 (by decide) ?_
          exact j_39_0 x1 x3 x4 (-1 : Int32) o_told_x o_told_price h _ _ hP hD hS _ (lv_sub hl [0, 1, 3, 4] rfl)
        · have h := h.2 c14
          refine lv_iload_n hx hb dX6_tell_23 rfl (lv_at hl 2 rfl) ?_
          refine lv_goto (tgt := 39) hx hb dX6_tell_24 (by decide) ?_
          exact j_39_0 x1 x3 x4 x2 o_told_x o_told_price h _ _ hP hD hS _ (lv_sub hl [0, 1, 3, 4] rfl)
    · have h := h.2 c2
      refine lv_iconst (v := -1) hx hb dX6_tell_9 (by decide) ?_
      exact hret (-1 : Int32) (o_told_x, o_told_price) _ _ _ _ h hP hD hS dX6_tell_10
abbrev w_X6_check (cy : Nat → ClassId) (a_o a_o_reader a_o_told a_o_clearer a_o_bestOne a_o_looseOne a_o_other a_o_bids a_o_now a_o_spare a_o_told_x a_o_told_price a_o_now_isTold a_o_now_least a_o_now_gateOff a_o_now_limit a_o_now_value a_o_now_kind a_o_now_most a_o_now_wishOff a_o_now_use : Nat) (r_o_now_use : Nat → Nat) (o_bestKnown : Int32) (o_looseKnown : Int32) (o_traced : Int64) (o_told_x : Nat → Int64) (o_told_price : Nat → Int64) (o_now_wishes : Int32) (o_now_isTold : Nat → Int32) (o_now_least : Nat → Int32) (o_now_gateOff : Nat → Int32) (o_now_limit : Nat → Int32) (o_now_value : Nat → Int32) (o_now_most : Nat → Int32) (o_now_wishOff : Nat → Int32) (o_now_use : Nat → Nat → Int32) : va_W := [(a_o, .inr (6, [.ref a_o_reader, .ref a_o_told, .ref a_o_clearer, .ref a_o_bestOne, .ref a_o_looseOne, .ref a_o_other, .ref a_o_bids, .ref a_o_now, .ref a_o_spare, .int o_bestKnown, .int o_looseKnown, .long o_traced])), (a_o_told, .inr (5, [.ref a_o_told_x, .ref a_o_told_price])), (a_o_told_x, .inl (cy 2, 4, .inr (.inl o_told_x))), (a_o_told_price, .inl (cy 2, 5, .inr (.inl o_told_price))), (a_o_now, .inr (4, [.ref a_o_now_isTold, .ref a_o_now_least, .ref a_o_now_gateOff, .ref a_o_now_limit, .ref a_o_now_value, .ref a_o_now_kind, .ref a_o_now_most, .ref a_o_now_wishOff, .ref a_o_now_use, .int o_now_wishes])), (a_o_now_isTold, .inl (cy 3, 5, .inl o_now_isTold)), (a_o_now_least, .inl (cy 3, 5, .inl o_now_least)), (a_o_now_gateOff, .inl (cy 3, 5, .inl o_now_gateOff)), (a_o_now_limit, .inl (cy 1, 5, .inl o_now_limit)), (a_o_now_value, .inl (cy 1, 4, .inl o_now_value)), (a_o_now_most, .inl (cy 1, 4, .inl o_now_most)), (a_o_now_wishOff, .inl (cy 3, 4, .inl o_now_wishOff)), (a_o_now_use, .inl (cy 4, 4, .inr (.inr (.inr (.inr (mref r_o_now_use 4))))))] ++ rows4 r_o_now_use (rowI (cy 1) 5 o_now_use) ++ []
set_option maxRecDepth 20000 in
theorem ggX6_check_X5_gatesHold : GoodIn wsX6_check wsX5_gatesHold := goodIn_r _ [16, 17, 11, 8, 18, 12, 19, 20, 21, 22, 23, 24, 25, 26, 59, 60, 61, 62, 63, 64, 65, 66, 67, 68, 69, 70] (by decide +kernel) (by decide +kernel)
set_option maxRecDepth 20000 in
theorem ggX6_check_X5_pricesFit : GoodIn wsX6_check wsX5_pricesFit := goodIn_r _ [30, 31, 32, 33, 19, 59, 60, 61, 62, 63, 64, 65, 66, 67, 68, 69, 70] (by decide +kernel) (by decide +kernel)
set_option maxRecDepth 20000 in
theorem ggX6_check_X5_sumsMeet : GoodIn wsX6_check wsX5_sumsMeet := goodIn_r _ [37, 8, 38, 12, 9, 10, 31, 17, 32, 39, 40, 41, 6, 42, 11, 18, 43, 44, 45, 46, 59, 60, 61, 62, 63, 64, 65, 66, 67, 68, 69, 70] (by decide +kernel) (by decide +kernel)
set_option maxRecDepth 20000 in
theorem ggX6_check_X5_withinBounds : GoodIn wsX6_check wsX5_withinBounds := goodIn_r _ [7, 8, 9, 10, 11, 12, 59, 60, 61, 62, 63, 64, 65, 66, 67, 68, 69, 70] (by decide +kernel) (by decide +kernel)
set_option maxRecDepth 20000 in
theorem gX6_check_X5_gatesHold : GoodIn wsX6_check (wsV RX6 184 RX5 yX5_gatesHold wsX5_gatesHold) := goodIn_app (goodIn_of _ (by decide +kernel)) ggX6_check_X5_gatesHold
set_option maxRecDepth 20000 in
theorem gX6_check_X5_pricesFit : GoodIn wsX6_check (wsV RX6 187 RX5 yX5_pricesFit wsX5_pricesFit) := goodIn_app (goodIn_of _ (by decide +kernel)) ggX6_check_X5_pricesFit
set_option maxRecDepth 20000 in
theorem gX6_check_X5_sumsMeet : GoodIn wsX6_check (wsV RX6 190 RX5 yX5_sumsMeet wsX5_sumsMeet) := goodIn_app (goodIn_of _ (by decide +kernel)) ggX6_check_X5_sumsMeet
set_option maxRecDepth 20000 in
theorem gX6_check_X5_withinBounds : GoodIn wsX6_check (wsV RX6 180 RX5 yX5_withinBounds wsX5_withinBounds) := goodIn_app (goodIn_of _ (by decide +kernel)) ggX6_check_X5_withinBounds
set_option maxHeartbeats 4000000 in
set_option maxRecDepth 100000 in
theorem c_X6_check (l : Launch) (D : va_G) (cy : Nat → ClassId) (a_o a_o_reader a_o_told a_o_clearer a_o_bestOne a_o_looseOne a_o_other a_o_bids a_o_now a_o_spare a_o_told_x a_o_told_price a_o_now_isTold a_o_now_least a_o_now_gateOff a_o_now_limit a_o_now_value a_o_now_kind a_o_now_most a_o_now_wishOff a_o_now_use : Nat) (r_o_now_use : Nat → Nat) (sz : Nat)  {o_bestKnown : Int32} {o_looseKnown : Int32} {o_traced : Int64} {o_told_x : Nat → Int64} {o_told_price : Nat → Int64} {o_now_wishes : Int32} {o_now_isTold : Nat → Int32} {o_now_least : Nat → Int32} {o_now_gateOff : Nat → Int32} {o_now_limit : Nat → Int32} {o_now_value : Nat → Int32} {o_now_most : Nat → Int32} {o_now_wishOff : Nat → Int32} {o_now_use : Nat → Nat → Int32}  {post : Int32 → Prop} (h : wp_X6_check o_told_x o_told_price o_now_wishes o_now_isTold o_now_least o_now_gateOff o_now_limit o_now_value o_now_most o_now_wishOff o_now_use post) : Met l yX6_check wsX6_check ({ frames := 3, cells := 0, slots := 0, locals := 89 }) (va_Pc [.ref a_o] (wI D cy sz (w_X6_check cy a_o a_o_reader a_o_told a_o_clearer a_o_bestOne a_o_looseOne a_o_other a_o_bids a_o_now a_o_spare a_o_told_x a_o_told_price a_o_now_isTold a_o_now_least a_o_now_gateOff a_o_now_limit a_o_now_value a_o_now_kind a_o_now_most a_o_now_wishOff a_o_now_use r_o_now_use o_bestKnown o_looseKnown o_traced o_told_x o_told_price o_now_wishes o_now_isTold o_now_least o_now_gateOff o_now_limit o_now_value o_now_most o_now_wishOff o_now_use))) (va_Qi (fun (r : Int32) (u : Unit) => post r ) (fun (u : Unit) t => wO D cy (va_A (w_X6_check cy a_o a_o_reader a_o_told a_o_clearer a_o_bestOne a_o_looseOne a_o_other a_o_bids a_o_now a_o_spare a_o_told_x a_o_told_price a_o_now_isTold a_o_now_least a_o_now_gateOff a_o_now_limit a_o_now_value a_o_now_kind a_o_now_most a_o_now_wishOff a_o_now_use r_o_now_use o_bestKnown o_looseKnown o_traced o_told_x o_told_price o_now_wishes o_now_isTold o_now_least o_now_gateOff o_now_limit o_now_value o_now_most o_now_wishOff o_now_use) sz) (w_X6_check cy a_o a_o_reader a_o_told a_o_clearer a_o_bestOne a_o_looseOne a_o_other a_o_bids a_o_now a_o_spare a_o_told_x a_o_told_price a_o_now_isTold a_o_now_least a_o_now_gateOff a_o_now_limit a_o_now_value a_o_now_kind a_o_now_most a_o_now_wishOff a_o_now_use r_o_now_use o_bestKnown o_looseKnown o_traced o_told_x o_told_price o_now_wishes o_now_isTold o_now_least o_now_gateOff o_now_limit o_now_value o_now_most o_now_wishOff o_now_use) t) (va_A (w_X6_check cy a_o a_o_reader a_o_told a_o_clearer a_o_bestOne a_o_looseOne a_o_other a_o_bids a_o_now a_o_spare a_o_told_x a_o_told_price a_o_now_isTold a_o_now_least a_o_now_gateOff a_o_now_limit a_o_now_value a_o_now_kind a_o_now_most a_o_now_wishOff a_o_now_use r_o_now_use o_bestKnown o_looseKnown o_traced o_told_x o_told_price o_now_wishes o_now_isTold o_now_least o_now_gateOff o_now_limit o_now_value o_now_most o_now_wishOff o_now_use) sz)) 0 0 (va_A (w_X6_check cy a_o a_o_reader a_o_told a_o_clearer a_o_bestOne a_o_looseOne a_o_other a_o_bids a_o_now a_o_spare a_o_told_x a_o_told_price a_o_now_isTold a_o_now_least a_o_now_gateOff a_o_now_limit a_o_now_value a_o_now_kind a_o_now_most a_o_now_wishOff a_o_now_use r_o_now_use o_bestKnown o_looseKnown o_traced o_told_x o_told_price o_now_wishes o_now_isTold o_now_least o_now_gateOff o_now_limit o_now_value o_now_most o_now_wishOff o_now_use) sz) := by
  refine contrI (S := Unit) (post := fun (r : Int32) (u : Unit) => post r ) (wOut := fun (u : Unit) => (w_X6_check cy a_o a_o_reader a_o_told a_o_clearer a_o_bestOne a_o_looseOne a_o_other a_o_bids a_o_now a_o_spare a_o_told_x a_o_told_price a_o_now_isTold a_o_now_least a_o_now_gateOff a_o_now_limit a_o_now_value a_o_now_kind a_o_now_most a_o_now_wishOff a_o_now_use r_o_now_use o_bestKnown o_looseKnown o_traced o_told_x o_told_price o_now_wishes o_now_isTold o_now_least o_now_gateOff o_now_limit o_now_value o_now_most o_now_wishOff o_now_use)) (cc := cX6_check) (maxL := 1) (own := RX6) (by decide +kernel) rfl rfl ?_
  intro p e s m args below meth c A Q hx hb hml hown hts hK hN hP hD hS hA hret
  have in_X6 : ∀ w ∈ u_ws RX6 TX6 12, w ∈ wsX6_check := by decide +kernel
  have fl_19 := hts (.fieldLink RX6 19 "DawnTable" "told" "LDawnTable$Told;") (by decide +kernel)
  have fl_53 := hts (.fieldLink RX6 53 "DawnTable" "now" "LDawnTable$Table;") (by decide +kernel)
  refine ent [.ref a_o] (Nat.le_of_ble_eq_true rfl) (fun ls hl => ?_)
  have hl : lv_has ls 1 [(0, .ref a_o)] := hl
  unfold wp_X6_check at h
  refine lv_aload_n hx hb dX6_check_0 rfl (lv_at hl 0 rfl) ?_
  refine va_get (D := D) (ci := 6) (v := .ref a_o_told) (C := RX6) (T := TX6) (N := 12) hx hb hts in_X6 hown hK hP 0 rfl rfl 1 (by decide) fl_19 (fun _ h9 => h9) rfl dX6_check_1 ?_
  refine lv_aload_n hx hb dX6_check_4 rfl (lv_at hl 0 rfl) ?_
  refine va_get (D := D) (ci := 6) (v := .ref a_o_now) (C := RX6) (T := TX6) (N := 12) hx hb hts in_X6 hown hK hP 0 rfl rfl 7 (by decide) fl_53 (fun _ h9 => h9) rfl dX6_check_5 ?_
  have hC : ([1, 2, 4, 10, 11] : List Nat).map (fun i => ((w_X6_check cy a_o a_o_reader a_o_told a_o_clearer a_o_bestOne a_o_looseOne a_o_other a_o_bids a_o_now a_o_spare a_o_told_x a_o_told_price a_o_now_isTold a_o_now_least a_o_now_gateOff a_o_now_limit a_o_now_value a_o_now_kind a_o_now_most a_o_now_wishOff a_o_now_use r_o_now_use o_bestKnown o_looseKnown o_traced o_told_x o_told_price o_now_wishes o_now_isTold o_now_least o_now_gateOff o_now_limit o_now_value o_now_most o_now_wishOff o_now_use) : va_W)[i]?) = ((w_X5_withinBounds cy a_o_told a_o_told_x a_o_told_price a_o_now a_o_now_isTold a_o_now_least a_o_now_gateOff a_o_now_limit a_o_now_value a_o_now_kind a_o_now_most a_o_now_wishOff a_o_now_use o_told_x o_now_wishes o_now_most o_now_wishOff) : va_W).map some := rfl
  obtain ⟨hPc, hDc⟩ := cutC hP hD [1, 2, 4, 10, 11] (by decide) hC
  have hFc := va_free hD hS hA [1, 2, 4, 10, 11] hC
  refine va_calli (va_runV (As := [.ref a_o_now]) (rest := []) ⟨hx, hb, hml, hown, hts⟩ (c_X5_withinBounds l D cy a_o_told a_o_told_x a_o_told_price a_o_now a_o_now_isTold a_o_now_least a_o_now_gateOff a_o_now_limit a_o_now_value a_o_now_kind a_o_now_most a_o_now_wishOff a_o_now_use _ h) (cwV 1 hts gX6_check_X5_withinBounds rfl rfl rfl (by decide +kernel) ⟨Nat.le_of_ble_eq_true rfl, Nat.le_of_ble_eq_true rfl⟩) (preV hPc hDc hK hN (ci := 5) (q0 := 0) rfl rfl) rfl rfl hl.1 rfl (lv_room (Nat.le_of_ble_eq_true rfl)) dX6_check_8 ⟨Nat.zero_le _, Nat.zero_le _⟩) hS (fun q _ h => hFc q h) hFc (fun r1 u t H1 locs ht hvm h hB hz1 hk1 hS => ?_)
  try dsimp only at h hB
  obtain ⟨hP, hD⟩ := joinU (wd := (w_X6_check cy a_o a_o_reader a_o_told a_o_clearer a_o_bestOne a_o_looseOne a_o_other a_o_bids a_o_now a_o_spare a_o_told_x a_o_told_price a_o_now_isTold a_o_now_least a_o_now_gateOff a_o_now_limit a_o_now_value a_o_now_kind a_o_now_most a_o_now_wishOff a_o_now_use r_o_now_use o_bestKnown o_looseKnown o_traced o_told_x o_told_price o_now_wishes o_now_isTold o_now_least o_now_gateOff o_now_limit o_now_value o_now_most o_now_wishOff o_now_use)) (wr := [(a_o, .inr (6, [.ref a_o_reader, .ref a_o_told, .ref a_o_clearer, .ref a_o_bestOne, .ref a_o_looseOne, .ref a_o_other, .ref a_o_bids, .ref a_o_now, .ref a_o_spare, .int o_bestKnown, .int o_looseKnown, .long o_traced])), (a_o_told_price, .inl (cy 2, 5, .inr (.inl o_told_price))), (a_o_now_isTold, .inl (cy 3, 5, .inl o_now_isTold)), (a_o_now_least, .inl (cy 3, 5, .inl o_now_least)), (a_o_now_gateOff, .inl (cy 3, 5, .inl o_now_gateOff)), (a_o_now_limit, .inl (cy 1, 5, .inl o_now_limit)), (a_o_now_value, .inl (cy 1, 4, .inl o_now_value)), (a_o_now_use, .inl (cy 4, 4, .inr (.inr (.inr (.inr (mref r_o_now_use 4)))))), (r_o_now_use 0, rowI (cy 1) 5 o_now_use 0), (r_o_now_use 1, rowI (cy 1) 5 o_now_use 1), (r_o_now_use 2, rowI (cy 1) 5 o_now_use 2), (r_o_now_use 3, rowI (cy 1) 5 o_now_use 3)]) hP hD [1, 2, 4, 10, 11] [0, 3, 5, 6, 7, 8, 9, 12, 13, 14, 15, 16] [a_o_told, a_o_told_x, a_o_now, a_o_now_most, a_o_now_wishOff] hC hk1 ht hB rfl rfl rfl (N := 17) rfl (by decide) rfl rfl
  generalize H1 = H at hP hS ⊢
  refine lv_if_ne (tgt := 16) hx hb dX6_check_11 (by decide) (fun c2 => ?_) (fun c2 => ?_)
  · have h := h.2 c2
    refine lv_aload_n hx hb dX6_check_16 rfl (lv_at hl 0 rfl) ?_
    refine va_get (D := D) (ci := 6) (v := .ref a_o_told) (C := RX6) (T := TX6) (N := 12) hx hb hts in_X6 hown hK hP 0 rfl rfl 1 (by decide) fl_19 (fun _ h9 => h9) rfl dX6_check_17 ?_
    refine lv_aload_n hx hb dX6_check_20 rfl (lv_at hl 0 rfl) ?_
    refine va_get (D := D) (ci := 6) (v := .ref a_o_now) (C := RX6) (T := TX6) (N := 12) hx hb hts in_X6 hown hK hP 0 rfl rfl 7 (by decide) fl_53 (fun _ h9 => h9) rfl dX6_check_21 ?_
    have hC : ([1, 2, 4, 5, 6, 7, 8, 12, 13, 14, 15, 16] : List Nat).map (fun i => ((w_X6_check cy a_o a_o_reader a_o_told a_o_clearer a_o_bestOne a_o_looseOne a_o_other a_o_bids a_o_now a_o_spare a_o_told_x a_o_told_price a_o_now_isTold a_o_now_least a_o_now_gateOff a_o_now_limit a_o_now_value a_o_now_kind a_o_now_most a_o_now_wishOff a_o_now_use r_o_now_use o_bestKnown o_looseKnown o_traced o_told_x o_told_price o_now_wishes o_now_isTold o_now_least o_now_gateOff o_now_limit o_now_value o_now_most o_now_wishOff o_now_use) : va_W)[i]?) = ((w_X5_gatesHold cy a_o_told a_o_told_x a_o_told_price a_o_now a_o_now_isTold a_o_now_least a_o_now_gateOff a_o_now_limit a_o_now_value a_o_now_kind a_o_now_most a_o_now_wishOff a_o_now_use r_o_now_use o_told_x o_now_wishes o_now_isTold o_now_least o_now_gateOff o_now_limit o_now_use) : va_W).map some := rfl
    obtain ⟨hPc, hDc⟩ := cutC hP hD [1, 2, 4, 5, 6, 7, 8, 12, 13, 14, 15, 16] (by decide) hC
    have hFc := va_free hD hS hA [1, 2, 4, 5, 6, 7, 8, 12, 13, 14, 15, 16] hC
    refine va_calli (va_runV (As := [.ref a_o_now]) (rest := []) ⟨hx, hb, hml, hown, hts⟩ (c_X5_gatesHold l D cy a_o_told a_o_told_x a_o_told_price a_o_now a_o_now_isTold a_o_now_least a_o_now_gateOff a_o_now_limit a_o_now_value a_o_now_kind a_o_now_most a_o_now_wishOff a_o_now_use r_o_now_use _ h) (cwV 1 hts gX6_check_X5_gatesHold rfl rfl rfl (by decide +kernel) ⟨Nat.le_of_ble_eq_true rfl, Nat.le_of_ble_eq_true rfl⟩) (preV hPc hDc hK hN (ci := 5) (q0 := 0) rfl rfl) rfl rfl hl.1 rfl (lv_room (Nat.le_of_ble_eq_true rfl)) dX6_check_24 ⟨Nat.zero_le _, Nat.zero_le _⟩) hS (fun q _ h => hFc q h) hFc (fun r3 u t H1 locs ht hvm h hB hz1 hk1 hS => ?_)
    try dsimp only at h hB
    obtain ⟨hP, hD⟩ := joinU (wd := (w_X6_check cy a_o a_o_reader a_o_told a_o_clearer a_o_bestOne a_o_looseOne a_o_other a_o_bids a_o_now a_o_spare a_o_told_x a_o_told_price a_o_now_isTold a_o_now_least a_o_now_gateOff a_o_now_limit a_o_now_value a_o_now_kind a_o_now_most a_o_now_wishOff a_o_now_use r_o_now_use o_bestKnown o_looseKnown o_traced o_told_x o_told_price o_now_wishes o_now_isTold o_now_least o_now_gateOff o_now_limit o_now_value o_now_most o_now_wishOff o_now_use)) (wr := [(a_o, .inr (6, [.ref a_o_reader, .ref a_o_told, .ref a_o_clearer, .ref a_o_bestOne, .ref a_o_looseOne, .ref a_o_other, .ref a_o_bids, .ref a_o_now, .ref a_o_spare, .int o_bestKnown, .int o_looseKnown, .long o_traced])), (a_o_told_price, .inl (cy 2, 5, .inr (.inl o_told_price))), (a_o_now_value, .inl (cy 1, 4, .inl o_now_value)), (a_o_now_most, .inl (cy 1, 4, .inl o_now_most)), (a_o_now_wishOff, .inl (cy 3, 4, .inl o_now_wishOff))]) hP hD [1, 2, 4, 5, 6, 7, 8, 12, 13, 14, 15, 16] [0, 3, 9, 10, 11] [a_o_told, a_o_told_x, a_o_now, a_o_now_isTold, a_o_now_least, a_o_now_gateOff, a_o_now_limit, a_o_now_use, r_o_now_use 0, r_o_now_use 1, r_o_now_use 2, r_o_now_use 3] hC hk1 ht hB rfl rfl rfl (N := 17) rfl (by decide) rfl rfl
    generalize H1 = H at hP hS ⊢
    refine lv_if_ne (tgt := 32) hx hb dX6_check_27 (by decide) (fun c4 => ?_) (fun c4 => ?_)
    · have h := h.2 c4
      refine lv_aload_n hx hb dX6_check_32 rfl (lv_at hl 0 rfl) ?_
      refine va_get (D := D) (ci := 6) (v := .ref a_o_told) (C := RX6) (T := TX6) (N := 12) hx hb hts in_X6 hown hK hP 0 rfl rfl 1 (by decide) fl_19 (fun _ h9 => h9) rfl dX6_check_33 ?_
      refine lv_aload_n hx hb dX6_check_36 rfl (lv_at hl 0 rfl) ?_
      refine va_get (D := D) (ci := 6) (v := .ref a_o_now) (C := RX6) (T := TX6) (N := 12) hx hb hts in_X6 hown hK hP 0 rfl rfl 7 (by decide) fl_53 (fun _ h9 => h9) rfl dX6_check_37 ?_
      have hC : ([1, 3, 4, 5, 6, 7] : List Nat).map (fun i => ((w_X6_check cy a_o a_o_reader a_o_told a_o_clearer a_o_bestOne a_o_looseOne a_o_other a_o_bids a_o_now a_o_spare a_o_told_x a_o_told_price a_o_now_isTold a_o_now_least a_o_now_gateOff a_o_now_limit a_o_now_value a_o_now_kind a_o_now_most a_o_now_wishOff a_o_now_use r_o_now_use o_bestKnown o_looseKnown o_traced o_told_x o_told_price o_now_wishes o_now_isTold o_now_least o_now_gateOff o_now_limit o_now_value o_now_most o_now_wishOff o_now_use) : va_W)[i]?) = ((w_X5_pricesFit cy a_o_told a_o_told_x a_o_told_price a_o_now a_o_now_isTold a_o_now_least a_o_now_gateOff a_o_now_limit a_o_now_value a_o_now_kind a_o_now_most a_o_now_wishOff a_o_now_use o_told_price o_now_wishes o_now_isTold o_now_least o_now_gateOff) : va_W).map some := rfl
      obtain ⟨hPc, hDc⟩ := cutC hP hD [1, 3, 4, 5, 6, 7] (by decide) hC
      have hFc := va_free hD hS hA [1, 3, 4, 5, 6, 7] hC
      refine va_calli (va_runV (As := [.ref a_o_now]) (rest := []) ⟨hx, hb, hml, hown, hts⟩ (c_X5_pricesFit l D cy a_o_told a_o_told_x a_o_told_price a_o_now a_o_now_isTold a_o_now_least a_o_now_gateOff a_o_now_limit a_o_now_value a_o_now_kind a_o_now_most a_o_now_wishOff a_o_now_use _ h) (cwV 1 hts gX6_check_X5_pricesFit rfl rfl rfl (by decide +kernel) ⟨Nat.le_of_ble_eq_true rfl, Nat.le_of_ble_eq_true rfl⟩) (preV hPc hDc hK hN (ci := 5) (q0 := 0) rfl rfl) rfl rfl hl.1 rfl (lv_room (Nat.le_of_ble_eq_true rfl)) dX6_check_40 ⟨Nat.zero_le _, Nat.zero_le _⟩) hS (fun q _ h => hFc q h) hFc (fun r5 u t H1 locs ht hvm h hB hz1 hk1 hS => ?_)
      try dsimp only at h hB
      obtain ⟨hP, hD⟩ := joinU (wd := (w_X6_check cy a_o a_o_reader a_o_told a_o_clearer a_o_bestOne a_o_looseOne a_o_other a_o_bids a_o_now a_o_spare a_o_told_x a_o_told_price a_o_now_isTold a_o_now_least a_o_now_gateOff a_o_now_limit a_o_now_value a_o_now_kind a_o_now_most a_o_now_wishOff a_o_now_use r_o_now_use o_bestKnown o_looseKnown o_traced o_told_x o_told_price o_now_wishes o_now_isTold o_now_least o_now_gateOff o_now_limit o_now_value o_now_most o_now_wishOff o_now_use)) (wr := [(a_o, .inr (6, [.ref a_o_reader, .ref a_o_told, .ref a_o_clearer, .ref a_o_bestOne, .ref a_o_looseOne, .ref a_o_other, .ref a_o_bids, .ref a_o_now, .ref a_o_spare, .int o_bestKnown, .int o_looseKnown, .long o_traced])), (a_o_told_x, .inl (cy 2, 4, .inr (.inl o_told_x))), (a_o_now_limit, .inl (cy 1, 5, .inl o_now_limit)), (a_o_now_value, .inl (cy 1, 4, .inl o_now_value)), (a_o_now_most, .inl (cy 1, 4, .inl o_now_most)), (a_o_now_wishOff, .inl (cy 3, 4, .inl o_now_wishOff)), (a_o_now_use, .inl (cy 4, 4, .inr (.inr (.inr (.inr (mref r_o_now_use 4)))))), (r_o_now_use 0, rowI (cy 1) 5 o_now_use 0), (r_o_now_use 1, rowI (cy 1) 5 o_now_use 1), (r_o_now_use 2, rowI (cy 1) 5 o_now_use 2), (r_o_now_use 3, rowI (cy 1) 5 o_now_use 3)]) hP hD [1, 3, 4, 5, 6, 7] [0, 2, 8, 9, 10, 11, 12, 13, 14, 15, 16] [a_o_told, a_o_told_price, a_o_now, a_o_now_isTold, a_o_now_least, a_o_now_gateOff] hC hk1 ht hB rfl rfl rfl (N := 17) rfl (by decide) rfl rfl
      generalize H1 = H at hP hS ⊢
      refine lv_if_ne (tgt := 48) hx hb dX6_check_43 (by decide) (fun c6 => ?_) (fun c6 => ?_)
      · have h := h.2 c6
        refine lv_aload_n hx hb dX6_check_48 rfl (lv_at hl 0 rfl) ?_
        refine va_get (D := D) (ci := 6) (v := .ref a_o_told) (C := RX6) (T := TX6) (N := 12) hx hb hts in_X6 hown hK hP 0 rfl rfl 1 (by decide) fl_19 (fun _ h9 => h9) rfl dX6_check_49 ?_
        refine lv_aload_n hx hb dX6_check_52 rfl (lv_at hl 0 rfl) ?_
        refine va_get (D := D) (ci := 6) (v := .ref a_o_now) (C := RX6) (T := TX6) (N := 12) hx hb hts in_X6 hown hK hP 0 rfl rfl 7 (by decide) fl_53 (fun _ h9 => h9) rfl dX6_check_53 ?_
        have hC : ([1, 2, 3, 4, 5, 8, 9, 10, 11, 12, 13, 14, 15, 16] : List Nat).map (fun i => ((w_X6_check cy a_o a_o_reader a_o_told a_o_clearer a_o_bestOne a_o_looseOne a_o_other a_o_bids a_o_now a_o_spare a_o_told_x a_o_told_price a_o_now_isTold a_o_now_least a_o_now_gateOff a_o_now_limit a_o_now_value a_o_now_kind a_o_now_most a_o_now_wishOff a_o_now_use r_o_now_use o_bestKnown o_looseKnown o_traced o_told_x o_told_price o_now_wishes o_now_isTold o_now_least o_now_gateOff o_now_limit o_now_value o_now_most o_now_wishOff o_now_use) : va_W)[i]?) = ((w_X5_sumsMeet cy a_o_told a_o_told_x a_o_told_price a_o_now a_o_now_isTold a_o_now_least a_o_now_gateOff a_o_now_limit a_o_now_value a_o_now_kind a_o_now_most a_o_now_wishOff a_o_now_use r_o_now_use o_told_x o_told_price o_now_wishes o_now_isTold o_now_limit o_now_value o_now_most o_now_wishOff o_now_use) : va_W).map some := rfl
        obtain ⟨hPc, hDc⟩ := cutC hP hD [1, 2, 3, 4, 5, 8, 9, 10, 11, 12, 13, 14, 15, 16] (by decide) hC
        have hFc := va_free hD hS hA [1, 2, 3, 4, 5, 8, 9, 10, 11, 12, 13, 14, 15, 16] hC
        refine va_calli (va_runV (As := [.ref a_o_now]) (rest := []) ⟨hx, hb, hml, hown, hts⟩ (c_X5_sumsMeet l D cy a_o_told a_o_told_x a_o_told_price a_o_now a_o_now_isTold a_o_now_least a_o_now_gateOff a_o_now_limit a_o_now_value a_o_now_kind a_o_now_most a_o_now_wishOff a_o_now_use r_o_now_use _ h) (cwV 1 hts gX6_check_X5_sumsMeet rfl rfl rfl (by decide +kernel) ⟨Nat.le_of_ble_eq_true rfl, Nat.le_of_ble_eq_true rfl⟩) (preV hPc hDc hK hN (ci := 5) (q0 := 0) rfl rfl) rfl rfl hl.1 rfl (lv_room (Nat.le_of_ble_eq_true rfl)) dX6_check_56 ⟨Nat.zero_le _, Nat.zero_le _⟩) hS (fun q _ h => hFc q h) hFc (fun r7 u t H1 locs ht hvm h hB hz1 hk1 hS => ?_)
        try dsimp only at h hB
        obtain ⟨hP, hD⟩ := joinU (wd := (w_X6_check cy a_o a_o_reader a_o_told a_o_clearer a_o_bestOne a_o_looseOne a_o_other a_o_bids a_o_now a_o_spare a_o_told_x a_o_told_price a_o_now_isTold a_o_now_least a_o_now_gateOff a_o_now_limit a_o_now_value a_o_now_kind a_o_now_most a_o_now_wishOff a_o_now_use r_o_now_use o_bestKnown o_looseKnown o_traced o_told_x o_told_price o_now_wishes o_now_isTold o_now_least o_now_gateOff o_now_limit o_now_value o_now_most o_now_wishOff o_now_use)) (wr := [(a_o, .inr (6, [.ref a_o_reader, .ref a_o_told, .ref a_o_clearer, .ref a_o_bestOne, .ref a_o_looseOne, .ref a_o_other, .ref a_o_bids, .ref a_o_now, .ref a_o_spare, .int o_bestKnown, .int o_looseKnown, .long o_traced])), (a_o_now_least, .inl (cy 3, 5, .inl o_now_least)), (a_o_now_gateOff, .inl (cy 3, 5, .inl o_now_gateOff))]) hP hD [1, 2, 3, 4, 5, 8, 9, 10, 11, 12, 13, 14, 15, 16] [0, 6, 7] [a_o_told, a_o_told_x, a_o_told_price, a_o_now, a_o_now_isTold, a_o_now_limit, a_o_now_value, a_o_now_most, a_o_now_wishOff, a_o_now_use, r_o_now_use 0, r_o_now_use 1, r_o_now_use 2, r_o_now_use 3] hC hk1 ht hB rfl rfl rfl (N := 17) rfl (by decide) rfl rfl
        generalize H1 = H at hP hS ⊢
        refine lv_if_eq (tgt := 66) hx hb dX6_check_59 (by decide) (fun c8 => ?_) (fun c8 => ?_)
        · have h := h.1 c8
          refine lv_iconst (v := 4) hx hb dX6_check_66 (by decide) ?_
          exact hret (4 : Int32) () _ _ _ _ h hP hD hS dX6_check_67
        · have h := h.2 c8
          refine lv_iconst (v := 0) hx hb dX6_check_62 (by decide) ?_
          refine lv_goto (tgt := 67) hx hb dX6_check_63 (by decide) ?_
          exact hret (0 : Int32) () _ _ _ _ h hP hD hS dX6_check_67
      · have h := h.1 c6
        refine lv_iconst (v := 3) hx hb dX6_check_46 (by decide) ?_
        exact hret (3 : Int32) () _ _ _ _ h hP hD hS dX6_check_47
    · have h := h.1 c4
      refine lv_iconst (v := 2) hx hb dX6_check_30 (by decide) ?_
      exact hret (2 : Int32) () _ _ _ _ h hP hD hS dX6_check_31
  · have h := h.1 c2
    refine lv_iconst (v := 1) hx hb dX6_check_14 (by decide) ?_
    exact hret (1 : Int32) () _ _ _ _ h hP hD hS dX6_check_15
abbrev w_X6_sumOfTable (cy : Nat → ClassId) (a_o a_o_reader a_o_told a_o_clearer a_o_bestOne a_o_looseOne a_o_other a_o_bids a_o_now a_o_spare a_o_now_isTold a_o_now_least a_o_now_gateOff a_o_now_limit a_o_now_value a_o_now_kind a_o_now_most a_o_now_wishOff a_o_now_use : Nat) (o_bestKnown : Int32) (o_looseKnown : Int32) (o_traced : Int64) (o_now_wishes : Int32) (o_now_isTold : Nat → Int32) : va_W := [(a_o, .inr (6, [.ref a_o_reader, .ref a_o_told, .ref a_o_clearer, .ref a_o_bestOne, .ref a_o_looseOne, .ref a_o_other, .ref a_o_bids, .ref a_o_now, .ref a_o_spare, .int o_bestKnown, .int o_looseKnown, .long o_traced])), (a_o_now, .inr (4, [.ref a_o_now_isTold, .ref a_o_now_least, .ref a_o_now_gateOff, .ref a_o_now_limit, .ref a_o_now_value, .ref a_o_now_kind, .ref a_o_now_most, .ref a_o_now_wishOff, .ref a_o_now_use, .int o_now_wishes])), (a_o_now_isTold, .inl (cy 3, 5, .inl o_now_isTold))]
set_option maxRecDepth 20000 in
theorem ggX6_sumOfTable_X4_gates : GoodIn wsX6_sumOfTable wsX4_gates := goodIn_r _ [8, 9, 10, 11, 12, 25, 26, 27, 28, 29, 30, 31, 32, 33, 34] (by decide +kernel) (by decide +kernel)
set_option maxRecDepth 20000 in
theorem gX6_sumOfTable_X4_gates : GoodIn wsX6_sumOfTable (wsV RX6 230 RX4 yX4_gates wsX4_gates) := goodIn_app (goodIn_of _ (by decide +kernel)) ggX6_sumOfTable_X4_gates
set_option maxHeartbeats 4000000 in
set_option maxRecDepth 100000 in
theorem c_X6_sumOfTable (l : Launch) (D : va_G) (cy : Nat → ClassId) (a_o a_o_reader a_o_told a_o_clearer a_o_bestOne a_o_looseOne a_o_other a_o_bids a_o_now a_o_spare a_o_now_isTold a_o_now_least a_o_now_gateOff a_o_now_limit a_o_now_value a_o_now_kind a_o_now_most a_o_now_wishOff a_o_now_use : Nat) (sz : Nat)  {o_bestKnown : Int32} {o_looseKnown : Int32} {o_traced : Int64} {o_now_wishes : Int32} {o_now_isTold : Nat → Int32}  {post : Int32 → Int64 → Prop} (h : wp_X6_sumOfTable o_traced o_now_wishes o_now_isTold post) : Met l yX6_sumOfTable wsX6_sumOfTable ({ frames := 2, cells := 0, slots := 0, locals := 42 }) (va_Pc [.ref a_o] (wI D cy sz (w_X6_sumOfTable cy a_o a_o_reader a_o_told a_o_clearer a_o_bestOne a_o_looseOne a_o_other a_o_bids a_o_now a_o_spare a_o_now_isTold a_o_now_least a_o_now_gateOff a_o_now_limit a_o_now_value a_o_now_kind a_o_now_most a_o_now_wishOff a_o_now_use o_bestKnown o_looseKnown o_traced o_now_wishes o_now_isTold))) (va_Qi (fun (r : Int32) (u : Int64) => post r u) (fun (u : Int64) t => wO D cy (va_A (w_X6_sumOfTable cy a_o a_o_reader a_o_told a_o_clearer a_o_bestOne a_o_looseOne a_o_other a_o_bids a_o_now a_o_spare a_o_now_isTold a_o_now_least a_o_now_gateOff a_o_now_limit a_o_now_value a_o_now_kind a_o_now_most a_o_now_wishOff a_o_now_use o_bestKnown o_looseKnown o_traced o_now_wishes o_now_isTold) sz) (w_X6_sumOfTable cy a_o a_o_reader a_o_told a_o_clearer a_o_bestOne a_o_looseOne a_o_other a_o_bids a_o_now a_o_spare a_o_now_isTold a_o_now_least a_o_now_gateOff a_o_now_limit a_o_now_value a_o_now_kind a_o_now_most a_o_now_wishOff a_o_now_use o_bestKnown o_looseKnown u o_now_wishes o_now_isTold) t) (va_A (w_X6_sumOfTable cy a_o a_o_reader a_o_told a_o_clearer a_o_bestOne a_o_looseOne a_o_other a_o_bids a_o_now a_o_spare a_o_now_isTold a_o_now_least a_o_now_gateOff a_o_now_limit a_o_now_value a_o_now_kind a_o_now_most a_o_now_wishOff a_o_now_use o_bestKnown o_looseKnown o_traced o_now_wishes o_now_isTold) sz)) 0 0 (va_A (w_X6_sumOfTable cy a_o a_o_reader a_o_told a_o_clearer a_o_bestOne a_o_looseOne a_o_other a_o_bids a_o_now a_o_spare a_o_now_isTold a_o_now_least a_o_now_gateOff a_o_now_limit a_o_now_value a_o_now_kind a_o_now_most a_o_now_wishOff a_o_now_use o_bestKnown o_looseKnown o_traced o_now_wishes o_now_isTold) sz) := by
  refine contrI (S := Int64) (post := fun (r : Int32) (u : Int64) => post r u) (wOut := fun (u : Int64) => (w_X6_sumOfTable cy a_o a_o_reader a_o_told a_o_clearer a_o_bestOne a_o_looseOne a_o_other a_o_bids a_o_now a_o_spare a_o_now_isTold a_o_now_least a_o_now_gateOff a_o_now_limit a_o_now_value a_o_now_kind a_o_now_most a_o_now_wishOff a_o_now_use o_bestKnown o_looseKnown u o_now_wishes o_now_isTold)) (cc := cX6_sumOfTable) (maxL := 1) (own := RX6) (by decide +kernel) rfl rfl ?_
  intro p e s m args below meth c A Q hx hb hml hown hts hK hN hP hD hS hA hret
  have in_X6 : ∀ w ∈ u_ws RX6 TX6 12, w ∈ wsX6_sumOfTable := by decide +kernel
  have fl_67 := hts (.fieldLink RX6 67 "DawnTable" "traced" "J") (by decide +kernel)
  have fl_53 := hts (.fieldLink RX6 53 "DawnTable" "now" "LDawnTable$Table;") (by decide +kernel)
  have in_X4 : ∀ w ∈ u_ws RX4 TX4 10, w ∈ wsX6_sumOfTable := by decide +kernel
  have fl_212 := hts (.fieldLink RX6 212 "DawnTable$Table" "wishes" "I") (by decide +kernel)
  refine ent [.ref a_o] (Nat.le_of_ble_eq_true rfl) (fun ls hl => ?_)
  have hl : lv_has ls 1 [(0, .ref a_o)] := hl
  unfold wp_X6_sumOfTable at h
  refine lv_aload_n hx hb dX6_sumOfTable_0 rfl (lv_at hl 0 rfl) ?_
  refine lv_dup hx hb dX6_sumOfTable_1 rfl ?_
  refine va_get (D := D) (ci := 6) (v := .long o_traced) (C := RX6) (T := TX6) (N := 12) hx hb hts in_X6 hown hK hP 0 rfl rfl 11 (by decide) fl_67 (fun _ h9 => h9) rfl dX6_sumOfTable_2 ?_
  refine lv_lconst (v := 1) hx hb dX6_sumOfTable_5 (by decide) ?_
  refine lv_ladd hx hb dX6_sumOfTable_6 ?_
  refine va_put (D := D) (ci := 6) (v := .long (o_traced + (1 : Int64))) (ty := .long) (C := RX6) (T := TX6) (N := 12) hx hb hts in_X6 tyX6 tyX6_ok nmX6 hown hK hP hD hS 0 rfl rfl 11 (by decide) fl_67 (fun _ h9 => h9) rfl (by decide +kernel) rfl rfl (Nat.le_of_ble_eq_true rfl) dX6_sumOfTable_7 (fun H locs hP hD hS => ?_)
  have hP : va_P D vwCl (w_X6_sumOfTable cy a_o a_o_reader a_o_told a_o_clearer a_o_bestOne a_o_looseOne a_o_other a_o_bids a_o_now a_o_spare a_o_now_isTold a_o_now_least a_o_now_gateOff a_o_now_limit a_o_now_value a_o_now_kind a_o_now_most a_o_now_wishOff a_o_now_use o_bestKnown o_looseKnown (o_traced + (1 : Int64)) o_now_wishes o_now_isTold) H := hP
  have hD : va_D A (w_X6_sumOfTable cy a_o a_o_reader a_o_told a_o_clearer a_o_bestOne a_o_looseOne a_o_other a_o_bids a_o_now a_o_spare a_o_now_isTold a_o_now_least a_o_now_gateOff a_o_now_limit a_o_now_value a_o_now_kind a_o_now_most a_o_now_wishOff a_o_now_use o_bestKnown o_looseKnown (o_traced + (1 : Int64)) o_now_wishes o_now_isTold) := hD
  refine lv_aload_n hx hb dX6_sumOfTable_10 rfl (lv_at hl 0 rfl) ?_
  refine va_get (D := D) (ci := 6) (v := .ref a_o_now) (C := RX6) (T := TX6) (N := 12) hx hb hts in_X6 hown hK hP 0 rfl rfl 7 (by decide) fl_53 (fun _ h9 => h9) rfl dX6_sumOfTable_11 ?_
  have hC : ([1, 2] : List Nat).map (fun i => ((w_X6_sumOfTable cy a_o a_o_reader a_o_told a_o_clearer a_o_bestOne a_o_looseOne a_o_other a_o_bids a_o_now a_o_spare a_o_now_isTold a_o_now_least a_o_now_gateOff a_o_now_limit a_o_now_value a_o_now_kind a_o_now_most a_o_now_wishOff a_o_now_use o_bestKnown o_looseKnown (o_traced + (1 : Int64)) o_now_wishes o_now_isTold) : va_W)[i]?) = ((w_X4_gates cy a_o_now a_o_now_isTold a_o_now_least a_o_now_gateOff a_o_now_limit a_o_now_value a_o_now_kind a_o_now_most a_o_now_wishOff a_o_now_use o_now_wishes o_now_isTold) : va_W).map some := rfl
  obtain ⟨hPc, hDc⟩ := cutC hP hD [1, 2] (by decide) hC
  have hFc := va_free hD hS hA [1, 2] hC
  refine va_calli (va_runV (As := []) (rest := []) ⟨hx, hb, hml, hown, hts⟩ (c_X4_gates l D cy a_o_now a_o_now_isTold a_o_now_least a_o_now_gateOff a_o_now_limit a_o_now_value a_o_now_kind a_o_now_most a_o_now_wishOff a_o_now_use _ h) (cwV 0 hts gX6_sumOfTable_X4_gates rfl rfl rfl (by decide +kernel) ⟨Nat.le_of_ble_eq_true rfl, Nat.le_of_ble_eq_true rfl⟩) (preV hPc hDc hK hN (ci := 4) (q0 := 0) rfl rfl) rfl rfl hl.1 rfl (lv_room (Nat.le_of_ble_eq_true rfl)) dX6_sumOfTable_14 ⟨Nat.zero_le _, Nat.zero_le _⟩) hS (fun q _ h => hFc q h) hFc (fun r1 u t H1 locs ht hvm h hB hz1 hk1 hS => ?_)
  try dsimp only at h hB
  obtain ⟨hP, hD⟩ := joinU (wd := (w_X6_sumOfTable cy a_o a_o_reader a_o_told a_o_clearer a_o_bestOne a_o_looseOne a_o_other a_o_bids a_o_now a_o_spare a_o_now_isTold a_o_now_least a_o_now_gateOff a_o_now_limit a_o_now_value a_o_now_kind a_o_now_most a_o_now_wishOff a_o_now_use o_bestKnown o_looseKnown (o_traced + (1 : Int64)) o_now_wishes o_now_isTold)) (wr := [(a_o, .inr (6, [.ref a_o_reader, .ref a_o_told, .ref a_o_clearer, .ref a_o_bestOne, .ref a_o_looseOne, .ref a_o_other, .ref a_o_bids, .ref a_o_now, .ref a_o_spare, .int o_bestKnown, .int o_looseKnown, .long (o_traced + (1 : Int64))]))]) hP hD [1, 2] [0] [a_o_now, a_o_now_isTold] hC hk1 ht hB rfl rfl rfl (N := 3) rfl (by decide) rfl rfl
  generalize H1 = H at hP hS ⊢
  refine lv_aload_n hx hb dX6_sumOfTable_17 rfl (lv_at hl 0 rfl) ?_
  refine va_get (D := D) (ci := 6) (v := .ref a_o_now) (C := RX6) (T := TX6) (N := 12) hx hb hts in_X6 hown hK hP 0 rfl rfl 7 (by decide) fl_53 (fun _ h9 => h9) rfl dX6_sumOfTable_18 ?_
  refine va_get (D := D) (ci := 4) (v := .int o_now_wishes) (C := RX4) (T := TX4) (N := 10) hx hb hts in_X4 hown hK hP 1 rfl rfl 9 (by decide) fl_212 (fun _ h9 => h9) rfl dX6_sumOfTable_21 ?_
  refine lv_iadd hx hb dX6_sumOfTable_24 ?_
  refine lv_iconst (v := 1) hx hb dX6_sumOfTable_25 (by decide) ?_
  refine lv_iadd hx hb dX6_sumOfTable_26 ?_
  exact hret ((r1 + o_now_wishes) + (1 : Int32)) ((o_traced + (1 : Int64))) _ _ _ _ h hP hD hS dX6_sumOfTable_27
abbrev w_X6_sumOfNet (cy : Nat → ClassId) (a_o a_o_reader a_o_told a_o_clearer a_o_bestOne a_o_looseOne a_o_other a_o_bids a_o_now a_o_spare a_o_now_isTold a_o_now_least a_o_now_gateOff a_o_now_limit a_o_now_value a_o_now_kind a_o_now_most a_o_now_wishOff a_o_now_use : Nat) (r_o_now_use : Nat → Nat) (o_bestKnown : Int32) (o_looseKnown : Int32) (o_traced : Int64) (o_now_wishes : Int32) (o_now_isTold : Nat → Int32) (o_now_use : Nat → Nat → Int32) : va_W := [(a_o, .inr (6, [.ref a_o_reader, .ref a_o_told, .ref a_o_clearer, .ref a_o_bestOne, .ref a_o_looseOne, .ref a_o_other, .ref a_o_bids, .ref a_o_now, .ref a_o_spare, .int o_bestKnown, .int o_looseKnown, .long o_traced])), (a_o_now, .inr (4, [.ref a_o_now_isTold, .ref a_o_now_least, .ref a_o_now_gateOff, .ref a_o_now_limit, .ref a_o_now_value, .ref a_o_now_kind, .ref a_o_now_most, .ref a_o_now_wishOff, .ref a_o_now_use, .int o_now_wishes])), (a_o_now_isTold, .inl (cy 3, 5, .inl o_now_isTold)), (a_o_now_use, .inl (cy 4, 4, .inr (.inr (.inr (.inr (mref r_o_now_use 4))))))] ++ rows4 r_o_now_use (rowI (cy 1) 5 o_now_use) ++ []
set_option maxRecDepth 20000 in
theorem ggX6_sumOfNet_X4_narrowWishes : GoodIn wsX6_sumOfNet wsX4_narrowWishes := goodIn_r _ [21, 22, 23, 16, 7, 17, 36, 37, 38, 39, 40, 41, 42, 43, 44, 45] (by decide +kernel) (by decide +kernel)
set_option maxRecDepth 20000 in
theorem ggX6_sumOfNet_X6_sumOfTable : GoodIn wsX6_sumOfNet wsX6_sumOfTable := goodIn_r _ [8, 1, 3, 9, 10, 11, 12, 13, 14, 15, 16, 7, 17, 24, 25, 26, 27, 28, 29, 30, 31, 32, 33, 34, 35, 36, 37, 38, 39, 40, 41, 42, 43, 44, 45] (by decide +kernel) (by decide +kernel)
set_option maxRecDepth 20000 in
theorem gX6_sumOfNet_X4_narrowWishes : GoodIn wsX6_sumOfNet (wsV RX6 259 RX4 yX4_narrowWishes wsX4_narrowWishes) := goodIn_app (goodIn_of _ (by decide +kernel)) ggX6_sumOfNet_X4_narrowWishes
set_option maxRecDepth 20000 in
theorem gX6_sumOfNet_X6_sumOfTable : GoodIn wsX6_sumOfNet (wsV RX6 215 RX6 yX6_sumOfTable wsX6_sumOfTable) := goodIn_app (goodIn_of _ (by decide +kernel)) ggX6_sumOfNet_X6_sumOfTable
set_option maxHeartbeats 4000000 in
set_option maxRecDepth 100000 in
theorem c_X6_sumOfNet (l : Launch) (D : va_G) (cy : Nat → ClassId) (a_o a_o_reader a_o_told a_o_clearer a_o_bestOne a_o_looseOne a_o_other a_o_bids a_o_now a_o_spare a_o_now_isTold a_o_now_least a_o_now_gateOff a_o_now_limit a_o_now_value a_o_now_kind a_o_now_most a_o_now_wishOff a_o_now_use : Nat) (r_o_now_use : Nat → Nat) (sz : Nat)  {o_bestKnown : Int32} {o_looseKnown : Int32} {o_traced : Int64} {o_now_wishes : Int32} {o_now_isTold : Nat → Int32} {o_now_use : Nat → Nat → Int32}  {post : Int32 → Int64 → Prop} (h : wp_X6_sumOfNet o_traced o_now_wishes o_now_isTold o_now_use post) : Met l yX6_sumOfNet wsX6_sumOfNet ({ frames := 3, cells := 0, slots := 0, locals := 62 }) (va_Pc [.ref a_o] (wI D cy sz (w_X6_sumOfNet cy a_o a_o_reader a_o_told a_o_clearer a_o_bestOne a_o_looseOne a_o_other a_o_bids a_o_now a_o_spare a_o_now_isTold a_o_now_least a_o_now_gateOff a_o_now_limit a_o_now_value a_o_now_kind a_o_now_most a_o_now_wishOff a_o_now_use r_o_now_use o_bestKnown o_looseKnown o_traced o_now_wishes o_now_isTold o_now_use))) (va_Qi (fun (r : Int32) (u : Int64) => post r u) (fun (u : Int64) t => wO D cy (va_A (w_X6_sumOfNet cy a_o a_o_reader a_o_told a_o_clearer a_o_bestOne a_o_looseOne a_o_other a_o_bids a_o_now a_o_spare a_o_now_isTold a_o_now_least a_o_now_gateOff a_o_now_limit a_o_now_value a_o_now_kind a_o_now_most a_o_now_wishOff a_o_now_use r_o_now_use o_bestKnown o_looseKnown o_traced o_now_wishes o_now_isTold o_now_use) sz) (w_X6_sumOfNet cy a_o a_o_reader a_o_told a_o_clearer a_o_bestOne a_o_looseOne a_o_other a_o_bids a_o_now a_o_spare a_o_now_isTold a_o_now_least a_o_now_gateOff a_o_now_limit a_o_now_value a_o_now_kind a_o_now_most a_o_now_wishOff a_o_now_use r_o_now_use o_bestKnown o_looseKnown u o_now_wishes o_now_isTold o_now_use) t) (va_A (w_X6_sumOfNet cy a_o a_o_reader a_o_told a_o_clearer a_o_bestOne a_o_looseOne a_o_other a_o_bids a_o_now a_o_spare a_o_now_isTold a_o_now_least a_o_now_gateOff a_o_now_limit a_o_now_value a_o_now_kind a_o_now_most a_o_now_wishOff a_o_now_use r_o_now_use o_bestKnown o_looseKnown o_traced o_now_wishes o_now_isTold o_now_use) sz)) 0 0 (va_A (w_X6_sumOfNet cy a_o a_o_reader a_o_told a_o_clearer a_o_bestOne a_o_looseOne a_o_other a_o_bids a_o_now a_o_spare a_o_now_isTold a_o_now_least a_o_now_gateOff a_o_now_limit a_o_now_value a_o_now_kind a_o_now_most a_o_now_wishOff a_o_now_use r_o_now_use o_bestKnown o_looseKnown o_traced o_now_wishes o_now_isTold o_now_use) sz) := by
  refine contrI (S := Int64) (post := fun (r : Int32) (u : Int64) => post r u) (wOut := fun (u : Int64) => (w_X6_sumOfNet cy a_o a_o_reader a_o_told a_o_clearer a_o_bestOne a_o_looseOne a_o_other a_o_bids a_o_now a_o_spare a_o_now_isTold a_o_now_least a_o_now_gateOff a_o_now_limit a_o_now_value a_o_now_kind a_o_now_most a_o_now_wishOff a_o_now_use r_o_now_use o_bestKnown o_looseKnown u o_now_wishes o_now_isTold o_now_use)) (cc := cX6_sumOfNet) (maxL := 1) (own := RX6) (by decide +kernel) rfl rfl ?_
  intro p e s m args below meth c A Q hx hb hml hown hts hK hN hP hD hS hA hret
  have in_X6 : ∀ w ∈ u_ws RX6 TX6 12, w ∈ wsX6_sumOfNet := by decide +kernel
  have fl_67 := hts (.fieldLink RX6 67 "DawnTable" "traced" "J") (by decide +kernel)
  have fl_53 := hts (.fieldLink RX6 53 "DawnTable" "now" "LDawnTable$Table;") (by decide +kernel)
  refine ent [.ref a_o] (Nat.le_of_ble_eq_true rfl) (fun ls hl => ?_)
  have hl : lv_has ls 1 [(0, .ref a_o)] := hl
  unfold wp_X6_sumOfNet at h
  refine lv_aload_n hx hb dX6_sumOfNet_0 rfl (lv_at hl 0 rfl) ?_
  refine lv_dup hx hb dX6_sumOfNet_1 rfl ?_
  refine va_get (D := D) (ci := 6) (v := .long o_traced) (C := RX6) (T := TX6) (N := 12) hx hb hts in_X6 hown hK hP 0 rfl rfl 11 (by decide) fl_67 (fun _ h9 => h9) rfl dX6_sumOfNet_2 ?_
  refine lv_ldc2 hx hb hown (hts (.constantLong RX6 257 (10)) (by decide +kernel)) dX6_sumOfNet_5 ?_
  refine lv_ladd hx hb dX6_sumOfNet_8 ?_
  refine va_put (D := D) (ci := 6) (v := .long (o_traced + (10 : Int64))) (ty := .long) (C := RX6) (T := TX6) (N := 12) hx hb hts in_X6 tyX6 tyX6_ok nmX6 hown hK hP hD hS 0 rfl rfl 11 (by decide) fl_67 (fun _ h9 => h9) rfl (by decide +kernel) rfl rfl (Nat.le_of_ble_eq_true rfl) dX6_sumOfNet_9 (fun H locs hP hD hS => ?_)
  have hP : va_P D vwCl (w_X6_sumOfNet cy a_o a_o_reader a_o_told a_o_clearer a_o_bestOne a_o_looseOne a_o_other a_o_bids a_o_now a_o_spare a_o_now_isTold a_o_now_least a_o_now_gateOff a_o_now_limit a_o_now_value a_o_now_kind a_o_now_most a_o_now_wishOff a_o_now_use r_o_now_use o_bestKnown o_looseKnown (o_traced + (10 : Int64)) o_now_wishes o_now_isTold o_now_use) H := hP
  have hD : va_D A (w_X6_sumOfNet cy a_o a_o_reader a_o_told a_o_clearer a_o_bestOne a_o_looseOne a_o_other a_o_bids a_o_now a_o_spare a_o_now_isTold a_o_now_least a_o_now_gateOff a_o_now_limit a_o_now_value a_o_now_kind a_o_now_most a_o_now_wishOff a_o_now_use r_o_now_use o_bestKnown o_looseKnown (o_traced + (10 : Int64)) o_now_wishes o_now_isTold o_now_use) := hD
  refine lv_aload_n hx hb dX6_sumOfNet_12 rfl (lv_at hl 0 rfl) ?_
  have hC : ([0, 1, 2] : List Nat).map (fun i => ((w_X6_sumOfNet cy a_o a_o_reader a_o_told a_o_clearer a_o_bestOne a_o_looseOne a_o_other a_o_bids a_o_now a_o_spare a_o_now_isTold a_o_now_least a_o_now_gateOff a_o_now_limit a_o_now_value a_o_now_kind a_o_now_most a_o_now_wishOff a_o_now_use r_o_now_use o_bestKnown o_looseKnown (o_traced + (10 : Int64)) o_now_wishes o_now_isTold o_now_use) : va_W)[i]?) = ((w_X6_sumOfTable cy a_o a_o_reader a_o_told a_o_clearer a_o_bestOne a_o_looseOne a_o_other a_o_bids a_o_now a_o_spare a_o_now_isTold a_o_now_least a_o_now_gateOff a_o_now_limit a_o_now_value a_o_now_kind a_o_now_most a_o_now_wishOff a_o_now_use o_bestKnown o_looseKnown (o_traced + (10 : Int64)) o_now_wishes o_now_isTold) : va_W).map some := rfl
  obtain ⟨hPc, hDc⟩ := cutC hP hD [0, 1, 2] (by decide) hC
  have hFc := va_free hD hS hA [0, 1, 2] hC
  refine va_calli (va_runV (As := []) (rest := []) ⟨hx, hb, hml, hown, hts⟩ (c_X6_sumOfTable l D cy a_o a_o_reader a_o_told a_o_clearer a_o_bestOne a_o_looseOne a_o_other a_o_bids a_o_now a_o_spare a_o_now_isTold a_o_now_least a_o_now_gateOff a_o_now_limit a_o_now_value a_o_now_kind a_o_now_most a_o_now_wishOff a_o_now_use _ h) (cwV 0 hts gX6_sumOfNet_X6_sumOfTable rfl rfl rfl (by decide +kernel) ⟨Nat.le_of_ble_eq_true rfl, Nat.le_of_ble_eq_true rfl⟩) (preV hPc hDc hK hN (ci := 6) (q0 := 0) rfl rfl) rfl rfl hl.1 rfl (lv_room (Nat.le_of_ble_eq_true rfl)) dX6_sumOfNet_13 ⟨Nat.zero_le _, Nat.zero_le _⟩) hS (fun q _ h => hFc q h) hFc (fun r2 u1 t H1 locs ht hvm h hB hz1 hk1 hS => ?_)
  try dsimp only at h hB
  obtain ⟨hP, hD⟩ := joinU (wd := (w_X6_sumOfNet cy a_o a_o_reader a_o_told a_o_clearer a_o_bestOne a_o_looseOne a_o_other a_o_bids a_o_now a_o_spare a_o_now_isTold a_o_now_least a_o_now_gateOff a_o_now_limit a_o_now_value a_o_now_kind a_o_now_most a_o_now_wishOff a_o_now_use r_o_now_use o_bestKnown o_looseKnown u1 o_now_wishes o_now_isTold o_now_use)) (wr := [(a_o_now_use, .inl (cy 4, 4, .inr (.inr (.inr (.inr (mref r_o_now_use 4)))))), (r_o_now_use 0, rowI (cy 1) 5 o_now_use 0), (r_o_now_use 1, rowI (cy 1) 5 o_now_use 1), (r_o_now_use 2, rowI (cy 1) 5 o_now_use 2), (r_o_now_use 3, rowI (cy 1) 5 o_now_use 3)]) hP hD [0, 1, 2] [3, 4, 5, 6, 7] [a_o, a_o_now, a_o_now_isTold] hC hk1 ht hB rfl rfl rfl (N := 8) rfl (by decide) rfl rfl
  generalize H1 = H at hP hS ⊢
  refine lv_aload_n hx hb dX6_sumOfNet_16 rfl (lv_at hl 0 rfl) ?_
  refine va_get (D := D) (ci := 6) (v := .ref a_o_now) (C := RX6) (T := TX6) (N := 12) hx hb hts in_X6 hown hK hP 0 rfl rfl 7 (by decide) fl_53 (fun _ h9 => h9) rfl dX6_sumOfNet_17 ?_
  have hC : ([1, 3, 4, 5, 6, 7] : List Nat).map (fun i => ((w_X6_sumOfNet cy a_o a_o_reader a_o_told a_o_clearer a_o_bestOne a_o_looseOne a_o_other a_o_bids a_o_now a_o_spare a_o_now_isTold a_o_now_least a_o_now_gateOff a_o_now_limit a_o_now_value a_o_now_kind a_o_now_most a_o_now_wishOff a_o_now_use r_o_now_use o_bestKnown o_looseKnown u1 o_now_wishes o_now_isTold o_now_use) : va_W)[i]?) = ((w_X4_narrowWishes cy a_o_now a_o_now_isTold a_o_now_least a_o_now_gateOff a_o_now_limit a_o_now_value a_o_now_kind a_o_now_most a_o_now_wishOff a_o_now_use r_o_now_use o_now_wishes o_now_use) : va_W).map some := rfl
  obtain ⟨hPc, hDc⟩ := cutC hP hD [1, 3, 4, 5, 6, 7] (by decide) hC
  have hFc := va_free hD hS hA [1, 3, 4, 5, 6, 7] hC
  refine va_calli (va_runV (As := []) (rest := [.int r2]) ⟨hx, hb, hml, hown, hts⟩ (c_X4_narrowWishes l D cy a_o_now a_o_now_isTold a_o_now_least a_o_now_gateOff a_o_now_limit a_o_now_value a_o_now_kind a_o_now_most a_o_now_wishOff a_o_now_use r_o_now_use _ h) (cwV 0 hts gX6_sumOfNet_X4_narrowWishes rfl rfl rfl (by decide +kernel) ⟨Nat.le_of_ble_eq_true rfl, Nat.le_of_ble_eq_true rfl⟩) (preV hPc hDc hK hN (ci := 4) (q0 := 0) rfl rfl) rfl rfl hl.1 rfl (lv_room (Nat.le_of_ble_eq_true rfl)) dX6_sumOfNet_20 ⟨Nat.zero_le _, Nat.zero_le _⟩) hS (fun q _ h => hFc q h) hFc (fun r3 u t H1 locs ht hvm h hB hz1 hk1 hS => ?_)
  try dsimp only at h hB
  obtain ⟨hP, hD⟩ := joinU (wd := (w_X6_sumOfNet cy a_o a_o_reader a_o_told a_o_clearer a_o_bestOne a_o_looseOne a_o_other a_o_bids a_o_now a_o_spare a_o_now_isTold a_o_now_least a_o_now_gateOff a_o_now_limit a_o_now_value a_o_now_kind a_o_now_most a_o_now_wishOff a_o_now_use r_o_now_use o_bestKnown o_looseKnown u1 o_now_wishes o_now_isTold o_now_use)) (wr := [(a_o, .inr (6, [.ref a_o_reader, .ref a_o_told, .ref a_o_clearer, .ref a_o_bestOne, .ref a_o_looseOne, .ref a_o_other, .ref a_o_bids, .ref a_o_now, .ref a_o_spare, .int o_bestKnown, .int o_looseKnown, .long u1])), (a_o_now_isTold, .inl (cy 3, 5, .inl o_now_isTold))]) hP hD [1, 3, 4, 5, 6, 7] [0, 2] [a_o_now, a_o_now_use, r_o_now_use 0, r_o_now_use 1, r_o_now_use 2, r_o_now_use 3] hC hk1 ht hB rfl rfl rfl (N := 8) rfl (by decide) rfl rfl
  generalize H1 = H at hP hS ⊢
  refine lv_isub hx hb dX6_sumOfNet_23 ?_
  exact hret (r2 - r3) (u1) _ _ _ _ h hP hD hS dX6_sumOfNet_24
abbrev w_X6_sumOfWhole (cy : Nat → ClassId) (a_o a_o_reader a_o_told a_o_clearer a_o_bestOne a_o_looseOne a_o_other a_o_bids a_o_now a_o_spare a_o_now_isTold a_o_now_least a_o_now_gateOff a_o_now_limit a_o_now_value a_o_now_kind a_o_now_most a_o_now_wishOff a_o_now_use : Nat) (o_bestKnown : Int32) (o_looseKnown : Int32) (o_traced : Int64) (o_now_wishes : Int32) (o_now_isTold : Nat → Int32) (o_now_kind : Nat → Int32) : va_W := [(a_o, .inr (6, [.ref a_o_reader, .ref a_o_told, .ref a_o_clearer, .ref a_o_bestOne, .ref a_o_looseOne, .ref a_o_other, .ref a_o_bids, .ref a_o_now, .ref a_o_spare, .int o_bestKnown, .int o_looseKnown, .long o_traced])), (a_o_now, .inr (4, [.ref a_o_now_isTold, .ref a_o_now_least, .ref a_o_now_gateOff, .ref a_o_now_limit, .ref a_o_now_value, .ref a_o_now_kind, .ref a_o_now_most, .ref a_o_now_wishOff, .ref a_o_now_use, .int o_now_wishes])), (a_o_now_isTold, .inl (cy 3, 5, .inl o_now_isTold)), (a_o_now_kind, .inl (cy 1, 4, .inl o_now_kind))]
set_option maxRecDepth 20000 in
theorem ggX6_sumOfWhole_X4_unpartedWishes : GoodIn wsX6_sumOfWhole wsX4_unpartedWishes := goodIn_r _ [21, 22, 23, 16, 7, 17, 36, 37, 38, 39, 40, 41, 42, 43, 44, 45] (by decide +kernel) (by decide +kernel)
set_option maxRecDepth 20000 in
theorem ggX6_sumOfWhole_X6_sumOfTable : GoodIn wsX6_sumOfWhole wsX6_sumOfTable := goodIn_r _ [8, 1, 3, 9, 10, 11, 12, 13, 14, 15, 16, 7, 17, 24, 25, 26, 27, 28, 29, 30, 31, 32, 33, 34, 35, 36, 37, 38, 39, 40, 41, 42, 43, 44, 45] (by decide +kernel) (by decide +kernel)
set_option maxRecDepth 20000 in
theorem gX6_sumOfWhole_X4_unpartedWishes : GoodIn wsX6_sumOfWhole (wsV RX6 264 RX4 yX4_unpartedWishes wsX4_unpartedWishes) := goodIn_app (goodIn_of _ (by decide +kernel)) ggX6_sumOfWhole_X4_unpartedWishes
set_option maxRecDepth 20000 in
theorem gX6_sumOfWhole_X6_sumOfTable : GoodIn wsX6_sumOfWhole (wsV RX6 215 RX6 yX6_sumOfTable wsX6_sumOfTable) := goodIn_app (goodIn_of _ (by decide +kernel)) ggX6_sumOfWhole_X6_sumOfTable
set_option maxHeartbeats 4000000 in
set_option maxRecDepth 100000 in
theorem c_X6_sumOfWhole (l : Launch) (D : va_G) (cy : Nat → ClassId) (a_o a_o_reader a_o_told a_o_clearer a_o_bestOne a_o_looseOne a_o_other a_o_bids a_o_now a_o_spare a_o_now_isTold a_o_now_least a_o_now_gateOff a_o_now_limit a_o_now_value a_o_now_kind a_o_now_most a_o_now_wishOff a_o_now_use : Nat) (sz : Nat)  {o_bestKnown : Int32} {o_looseKnown : Int32} {o_traced : Int64} {o_now_wishes : Int32} {o_now_isTold : Nat → Int32} {o_now_kind : Nat → Int32}  {post : Int32 → Int64 → Prop} (h : wp_X6_sumOfWhole o_traced o_now_wishes o_now_isTold o_now_kind post) : Met l yX6_sumOfWhole wsX6_sumOfWhole ({ frames := 3, cells := 0, slots := 0, locals := 62 }) (va_Pc [.ref a_o] (wI D cy sz (w_X6_sumOfWhole cy a_o a_o_reader a_o_told a_o_clearer a_o_bestOne a_o_looseOne a_o_other a_o_bids a_o_now a_o_spare a_o_now_isTold a_o_now_least a_o_now_gateOff a_o_now_limit a_o_now_value a_o_now_kind a_o_now_most a_o_now_wishOff a_o_now_use o_bestKnown o_looseKnown o_traced o_now_wishes o_now_isTold o_now_kind))) (va_Qi (fun (r : Int32) (u : Int64) => post r u) (fun (u : Int64) t => wO D cy (va_A (w_X6_sumOfWhole cy a_o a_o_reader a_o_told a_o_clearer a_o_bestOne a_o_looseOne a_o_other a_o_bids a_o_now a_o_spare a_o_now_isTold a_o_now_least a_o_now_gateOff a_o_now_limit a_o_now_value a_o_now_kind a_o_now_most a_o_now_wishOff a_o_now_use o_bestKnown o_looseKnown o_traced o_now_wishes o_now_isTold o_now_kind) sz) (w_X6_sumOfWhole cy a_o a_o_reader a_o_told a_o_clearer a_o_bestOne a_o_looseOne a_o_other a_o_bids a_o_now a_o_spare a_o_now_isTold a_o_now_least a_o_now_gateOff a_o_now_limit a_o_now_value a_o_now_kind a_o_now_most a_o_now_wishOff a_o_now_use o_bestKnown o_looseKnown u o_now_wishes o_now_isTold o_now_kind) t) (va_A (w_X6_sumOfWhole cy a_o a_o_reader a_o_told a_o_clearer a_o_bestOne a_o_looseOne a_o_other a_o_bids a_o_now a_o_spare a_o_now_isTold a_o_now_least a_o_now_gateOff a_o_now_limit a_o_now_value a_o_now_kind a_o_now_most a_o_now_wishOff a_o_now_use o_bestKnown o_looseKnown o_traced o_now_wishes o_now_isTold o_now_kind) sz)) 0 0 (va_A (w_X6_sumOfWhole cy a_o a_o_reader a_o_told a_o_clearer a_o_bestOne a_o_looseOne a_o_other a_o_bids a_o_now a_o_spare a_o_now_isTold a_o_now_least a_o_now_gateOff a_o_now_limit a_o_now_value a_o_now_kind a_o_now_most a_o_now_wishOff a_o_now_use o_bestKnown o_looseKnown o_traced o_now_wishes o_now_isTold o_now_kind) sz) := by
  refine contrI (S := Int64) (post := fun (r : Int32) (u : Int64) => post r u) (wOut := fun (u : Int64) => (w_X6_sumOfWhole cy a_o a_o_reader a_o_told a_o_clearer a_o_bestOne a_o_looseOne a_o_other a_o_bids a_o_now a_o_spare a_o_now_isTold a_o_now_least a_o_now_gateOff a_o_now_limit a_o_now_value a_o_now_kind a_o_now_most a_o_now_wishOff a_o_now_use o_bestKnown o_looseKnown u o_now_wishes o_now_isTold o_now_kind)) (cc := cX6_sumOfWhole) (maxL := 1) (own := RX6) (by decide +kernel) rfl rfl ?_
  intro p e s m args below meth c A Q hx hb hml hown hts hK hN hP hD hS hA hret
  have in_X6 : ∀ w ∈ u_ws RX6 TX6 12, w ∈ wsX6_sumOfWhole := by decide +kernel
  have fl_67 := hts (.fieldLink RX6 67 "DawnTable" "traced" "J") (by decide +kernel)
  have fl_53 := hts (.fieldLink RX6 53 "DawnTable" "now" "LDawnTable$Table;") (by decide +kernel)
  refine ent [.ref a_o] (Nat.le_of_ble_eq_true rfl) (fun ls hl => ?_)
  have hl : lv_has ls 1 [(0, .ref a_o)] := hl
  unfold wp_X6_sumOfWhole at h
  refine lv_aload_n hx hb dX6_sumOfWhole_0 rfl (lv_at hl 0 rfl) ?_
  refine lv_dup hx hb dX6_sumOfWhole_1 rfl ?_
  refine va_get (D := D) (ci := 6) (v := .long o_traced) (C := RX6) (T := TX6) (N := 12) hx hb hts in_X6 hown hK hP 0 rfl rfl 11 (by decide) fl_67 (fun _ h9 => h9) rfl dX6_sumOfWhole_2 ?_
  refine lv_ldc2 hx hb hown (hts (.constantLong RX6 262 (100)) (by decide +kernel)) dX6_sumOfWhole_5 ?_
  refine lv_ladd hx hb dX6_sumOfWhole_8 ?_
  refine va_put (D := D) (ci := 6) (v := .long (o_traced + (100 : Int64))) (ty := .long) (C := RX6) (T := TX6) (N := 12) hx hb hts in_X6 tyX6 tyX6_ok nmX6 hown hK hP hD hS 0 rfl rfl 11 (by decide) fl_67 (fun _ h9 => h9) rfl (by decide +kernel) rfl rfl (Nat.le_of_ble_eq_true rfl) dX6_sumOfWhole_9 (fun H locs hP hD hS => ?_)
  have hP : va_P D vwCl (w_X6_sumOfWhole cy a_o a_o_reader a_o_told a_o_clearer a_o_bestOne a_o_looseOne a_o_other a_o_bids a_o_now a_o_spare a_o_now_isTold a_o_now_least a_o_now_gateOff a_o_now_limit a_o_now_value a_o_now_kind a_o_now_most a_o_now_wishOff a_o_now_use o_bestKnown o_looseKnown (o_traced + (100 : Int64)) o_now_wishes o_now_isTold o_now_kind) H := hP
  have hD : va_D A (w_X6_sumOfWhole cy a_o a_o_reader a_o_told a_o_clearer a_o_bestOne a_o_looseOne a_o_other a_o_bids a_o_now a_o_spare a_o_now_isTold a_o_now_least a_o_now_gateOff a_o_now_limit a_o_now_value a_o_now_kind a_o_now_most a_o_now_wishOff a_o_now_use o_bestKnown o_looseKnown (o_traced + (100 : Int64)) o_now_wishes o_now_isTold o_now_kind) := hD
  refine lv_aload_n hx hb dX6_sumOfWhole_12 rfl (lv_at hl 0 rfl) ?_
  have hC : ([0, 1, 2] : List Nat).map (fun i => ((w_X6_sumOfWhole cy a_o a_o_reader a_o_told a_o_clearer a_o_bestOne a_o_looseOne a_o_other a_o_bids a_o_now a_o_spare a_o_now_isTold a_o_now_least a_o_now_gateOff a_o_now_limit a_o_now_value a_o_now_kind a_o_now_most a_o_now_wishOff a_o_now_use o_bestKnown o_looseKnown (o_traced + (100 : Int64)) o_now_wishes o_now_isTold o_now_kind) : va_W)[i]?) = ((w_X6_sumOfTable cy a_o a_o_reader a_o_told a_o_clearer a_o_bestOne a_o_looseOne a_o_other a_o_bids a_o_now a_o_spare a_o_now_isTold a_o_now_least a_o_now_gateOff a_o_now_limit a_o_now_value a_o_now_kind a_o_now_most a_o_now_wishOff a_o_now_use o_bestKnown o_looseKnown (o_traced + (100 : Int64)) o_now_wishes o_now_isTold) : va_W).map some := rfl
  obtain ⟨hPc, hDc⟩ := cutC hP hD [0, 1, 2] (by decide) hC
  have hFc := va_free hD hS hA [0, 1, 2] hC
  refine va_calli (va_runV (As := []) (rest := []) ⟨hx, hb, hml, hown, hts⟩ (c_X6_sumOfTable l D cy a_o a_o_reader a_o_told a_o_clearer a_o_bestOne a_o_looseOne a_o_other a_o_bids a_o_now a_o_spare a_o_now_isTold a_o_now_least a_o_now_gateOff a_o_now_limit a_o_now_value a_o_now_kind a_o_now_most a_o_now_wishOff a_o_now_use _ h) (cwV 0 hts gX6_sumOfWhole_X6_sumOfTable rfl rfl rfl (by decide +kernel) ⟨Nat.le_of_ble_eq_true rfl, Nat.le_of_ble_eq_true rfl⟩) (preV hPc hDc hK hN (ci := 6) (q0 := 0) rfl rfl) rfl rfl hl.1 rfl (lv_room (Nat.le_of_ble_eq_true rfl)) dX6_sumOfWhole_13 ⟨Nat.zero_le _, Nat.zero_le _⟩) hS (fun q _ h => hFc q h) hFc (fun r2 u1 t H1 locs ht hvm h hB hz1 hk1 hS => ?_)
  try dsimp only at h hB
  obtain ⟨hP, hD⟩ := joinU (wd := (w_X6_sumOfWhole cy a_o a_o_reader a_o_told a_o_clearer a_o_bestOne a_o_looseOne a_o_other a_o_bids a_o_now a_o_spare a_o_now_isTold a_o_now_least a_o_now_gateOff a_o_now_limit a_o_now_value a_o_now_kind a_o_now_most a_o_now_wishOff a_o_now_use o_bestKnown o_looseKnown u1 o_now_wishes o_now_isTold o_now_kind)) (wr := [(a_o_now_kind, .inl (cy 1, 4, .inl o_now_kind))]) hP hD [0, 1, 2] [3] [a_o, a_o_now, a_o_now_isTold] hC hk1 ht hB rfl rfl rfl (N := 4) rfl (by decide) rfl rfl
  generalize H1 = H at hP hS ⊢
  refine lv_iconst (v := 2) hx hb dX6_sumOfWhole_16 (by decide) ?_
  refine lv_aload_n hx hb dX6_sumOfWhole_17 rfl (lv_at hl 0 rfl) ?_
  refine va_get (D := D) (ci := 6) (v := .ref a_o_now) (C := RX6) (T := TX6) (N := 12) hx hb hts in_X6 hown hK hP 0 rfl rfl 7 (by decide) fl_53 (fun _ h9 => h9) rfl dX6_sumOfWhole_18 ?_
  have hC : ([1, 3] : List Nat).map (fun i => ((w_X6_sumOfWhole cy a_o a_o_reader a_o_told a_o_clearer a_o_bestOne a_o_looseOne a_o_other a_o_bids a_o_now a_o_spare a_o_now_isTold a_o_now_least a_o_now_gateOff a_o_now_limit a_o_now_value a_o_now_kind a_o_now_most a_o_now_wishOff a_o_now_use o_bestKnown o_looseKnown u1 o_now_wishes o_now_isTold o_now_kind) : va_W)[i]?) = ((w_X4_unpartedWishes cy a_o_now a_o_now_isTold a_o_now_least a_o_now_gateOff a_o_now_limit a_o_now_value a_o_now_kind a_o_now_most a_o_now_wishOff a_o_now_use o_now_wishes o_now_kind) : va_W).map some := rfl
  obtain ⟨hPc, hDc⟩ := cutC hP hD [1, 3] (by decide) hC
  have hFc := va_free hD hS hA [1, 3] hC
  refine va_calli (va_runV (As := []) (rest := [.int (2 : Int32), .int r2]) ⟨hx, hb, hml, hown, hts⟩ (c_X4_unpartedWishes l D cy a_o_now a_o_now_isTold a_o_now_least a_o_now_gateOff a_o_now_limit a_o_now_value a_o_now_kind a_o_now_most a_o_now_wishOff a_o_now_use _ h) (cwV 0 hts gX6_sumOfWhole_X4_unpartedWishes rfl rfl rfl (by decide +kernel) ⟨Nat.le_of_ble_eq_true rfl, Nat.le_of_ble_eq_true rfl⟩) (preV hPc hDc hK hN (ci := 4) (q0 := 0) rfl rfl) rfl rfl hl.1 rfl (lv_room (Nat.le_of_ble_eq_true rfl)) dX6_sumOfWhole_21 ⟨Nat.zero_le _, Nat.zero_le _⟩) hS (fun q _ h => hFc q h) hFc (fun r3 u t H1 locs ht hvm h hB hz1 hk1 hS => ?_)
  try dsimp only at h hB
  obtain ⟨hP, hD⟩ := joinU (wd := (w_X6_sumOfWhole cy a_o a_o_reader a_o_told a_o_clearer a_o_bestOne a_o_looseOne a_o_other a_o_bids a_o_now a_o_spare a_o_now_isTold a_o_now_least a_o_now_gateOff a_o_now_limit a_o_now_value a_o_now_kind a_o_now_most a_o_now_wishOff a_o_now_use o_bestKnown o_looseKnown u1 o_now_wishes o_now_isTold o_now_kind)) (wr := [(a_o, .inr (6, [.ref a_o_reader, .ref a_o_told, .ref a_o_clearer, .ref a_o_bestOne, .ref a_o_looseOne, .ref a_o_other, .ref a_o_bids, .ref a_o_now, .ref a_o_spare, .int o_bestKnown, .int o_looseKnown, .long u1])), (a_o_now_isTold, .inl (cy 3, 5, .inl o_now_isTold))]) hP hD [1, 3] [0, 2] [a_o_now, a_o_now_kind] hC hk1 ht hB rfl rfl rfl (N := 4) rfl (by decide) rfl rfl
  generalize H1 = H at hP hS ⊢
  refine lv_imul hx hb dX6_sumOfWhole_24 ?_
  refine lv_iadd hx hb dX6_sumOfWhole_25 ?_
  exact hret (r2 + ((2 : Int32) * r3)) (u1) _ _ _ _ h hP hD hS dX6_sumOfWhole_26
abbrev w_X6_sumOfCut (cy : Nat → ClassId) (a_o a_o_reader a_o_told a_o_clearer a_o_bestOne a_o_looseOne a_o_other a_o_bids a_o_now a_o_spare a_o_now_isTold a_o_now_least a_o_now_gateOff a_o_now_limit a_o_now_value a_o_now_kind a_o_now_most a_o_now_wishOff a_o_now_use : Nat) (o_bestKnown : Int32) (o_looseKnown : Int32) (o_traced : Int64) (o_now_wishes : Int32) (o_now_isTold : Nat → Int32) (o_now_kind : Nat → Int32) : va_W := [(a_o, .inr (6, [.ref a_o_reader, .ref a_o_told, .ref a_o_clearer, .ref a_o_bestOne, .ref a_o_looseOne, .ref a_o_other, .ref a_o_bids, .ref a_o_now, .ref a_o_spare, .int o_bestKnown, .int o_looseKnown, .long o_traced])), (a_o_now, .inr (4, [.ref a_o_now_isTold, .ref a_o_now_least, .ref a_o_now_gateOff, .ref a_o_now_limit, .ref a_o_now_value, .ref a_o_now_kind, .ref a_o_now_most, .ref a_o_now_wishOff, .ref a_o_now_use, .int o_now_wishes])), (a_o_now_isTold, .inl (cy 3, 5, .inl o_now_isTold)), (a_o_now_kind, .inl (cy 1, 4, .inl o_now_kind))]
set_option maxRecDepth 20000 in
theorem ggX6_sumOfCut_X6_sumOfWhole : GoodIn wsX6_sumOfCut wsX6_sumOfWhole := goodIn_r _ [7, 1, 8, 9, 10, 11, 12, 6, 13, 14, 15, 16, 17, 18, 19, 20, 21, 22, 23, 24, 25, 26, 27, 28, 29, 30, 31, 32, 33, 34, 35, 36, 37, 38, 39, 40, 41, 42, 43, 44, 45, 46, 47, 48, 49, 50] (by decide +kernel) (by decide +kernel)
set_option maxRecDepth 20000 in
theorem gX6_sumOfCut_X6_sumOfWhole : GoodIn wsX6_sumOfCut (wsV RX6 221 RX6 yX6_sumOfWhole wsX6_sumOfWhole) := goodIn_app (goodIn_of _ (by decide +kernel)) ggX6_sumOfCut_X6_sumOfWhole
set_option maxHeartbeats 4000000 in
set_option maxRecDepth 100000 in
theorem c_X6_sumOfCut (l : Launch) (D : va_G) (cy : Nat → ClassId) (a_o a_o_reader a_o_told a_o_clearer a_o_bestOne a_o_looseOne a_o_other a_o_bids a_o_now a_o_spare a_o_now_isTold a_o_now_least a_o_now_gateOff a_o_now_limit a_o_now_value a_o_now_kind a_o_now_most a_o_now_wishOff a_o_now_use : Nat) (sz : Nat)  {o_bestKnown : Int32} {o_looseKnown : Int32} {o_traced : Int64} {o_now_wishes : Int32} {o_now_isTold : Nat → Int32} {o_now_kind : Nat → Int32}  {post : Int32 → Int64 → Prop} (h : wp_X6_sumOfCut o_traced o_now_wishes o_now_isTold o_now_kind post) : Met l yX6_sumOfCut wsX6_sumOfCut ({ frames := 4, cells := 0, slots := 0, locals := 82 }) (va_Pc [.ref a_o] (wI D cy sz (w_X6_sumOfCut cy a_o a_o_reader a_o_told a_o_clearer a_o_bestOne a_o_looseOne a_o_other a_o_bids a_o_now a_o_spare a_o_now_isTold a_o_now_least a_o_now_gateOff a_o_now_limit a_o_now_value a_o_now_kind a_o_now_most a_o_now_wishOff a_o_now_use o_bestKnown o_looseKnown o_traced o_now_wishes o_now_isTold o_now_kind))) (va_Qi (fun (r : Int32) (u : Int64) => post r u) (fun (u : Int64) t => wO D cy (va_A (w_X6_sumOfCut cy a_o a_o_reader a_o_told a_o_clearer a_o_bestOne a_o_looseOne a_o_other a_o_bids a_o_now a_o_spare a_o_now_isTold a_o_now_least a_o_now_gateOff a_o_now_limit a_o_now_value a_o_now_kind a_o_now_most a_o_now_wishOff a_o_now_use o_bestKnown o_looseKnown o_traced o_now_wishes o_now_isTold o_now_kind) sz) (w_X6_sumOfCut cy a_o a_o_reader a_o_told a_o_clearer a_o_bestOne a_o_looseOne a_o_other a_o_bids a_o_now a_o_spare a_o_now_isTold a_o_now_least a_o_now_gateOff a_o_now_limit a_o_now_value a_o_now_kind a_o_now_most a_o_now_wishOff a_o_now_use o_bestKnown o_looseKnown u o_now_wishes o_now_isTold o_now_kind) t) (va_A (w_X6_sumOfCut cy a_o a_o_reader a_o_told a_o_clearer a_o_bestOne a_o_looseOne a_o_other a_o_bids a_o_now a_o_spare a_o_now_isTold a_o_now_least a_o_now_gateOff a_o_now_limit a_o_now_value a_o_now_kind a_o_now_most a_o_now_wishOff a_o_now_use o_bestKnown o_looseKnown o_traced o_now_wishes o_now_isTold o_now_kind) sz)) 0 0 (va_A (w_X6_sumOfCut cy a_o a_o_reader a_o_told a_o_clearer a_o_bestOne a_o_looseOne a_o_other a_o_bids a_o_now a_o_spare a_o_now_isTold a_o_now_least a_o_now_gateOff a_o_now_limit a_o_now_value a_o_now_kind a_o_now_most a_o_now_wishOff a_o_now_use o_bestKnown o_looseKnown o_traced o_now_wishes o_now_isTold o_now_kind) sz) := by
  refine contrI (S := Int64) (post := fun (r : Int32) (u : Int64) => post r u) (wOut := fun (u : Int64) => (w_X6_sumOfCut cy a_o a_o_reader a_o_told a_o_clearer a_o_bestOne a_o_looseOne a_o_other a_o_bids a_o_now a_o_spare a_o_now_isTold a_o_now_least a_o_now_gateOff a_o_now_limit a_o_now_value a_o_now_kind a_o_now_most a_o_now_wishOff a_o_now_use o_bestKnown o_looseKnown u o_now_wishes o_now_isTold o_now_kind)) (cc := cX6_sumOfCut) (maxL := 2) (own := RX6) (by decide +kernel) rfl rfl ?_
  intro p e s m args below meth c A Q hx hb hml hown hts hK hN hP hD hS hA hret
  have in_X6 : ∀ w ∈ u_ws RX6 TX6 12, w ∈ wsX6_sumOfCut := by decide +kernel
  have fl_67 := hts (.fieldLink RX6 67 "DawnTable" "traced" "J") (by decide +kernel)
  refine ent [.ref a_o] (Nat.le_of_ble_eq_true rfl) (fun ls hl => ?_)
  have hl : lv_has ls 2 [(0, .ref a_o)] := hl
  unfold wp_X6_sumOfCut at h
  refine lv_aload_n hx hb dX6_sumOfCut_0 rfl (lv_at hl 0 rfl) ?_
  refine lv_dup hx hb dX6_sumOfCut_1 rfl ?_
  refine va_get (D := D) (ci := 6) (v := .long o_traced) (C := RX6) (T := TX6) (N := 12) hx hb hts in_X6 hown hK hP 0 rfl rfl 11 (by decide) fl_67 (fun _ h9 => h9) rfl dX6_sumOfCut_2 ?_
  refine lv_ldc2 hx hb hown (hts (.constantLong RX6 267 (1000)) (by decide +kernel)) dX6_sumOfCut_5 ?_
  refine lv_ladd hx hb dX6_sumOfCut_8 ?_
  refine va_put (D := D) (ci := 6) (v := .long (o_traced + (1000 : Int64))) (ty := .long) (C := RX6) (T := TX6) (N := 12) hx hb hts in_X6 tyX6 tyX6_ok nmX6 hown hK hP hD hS 0 rfl rfl 11 (by decide) fl_67 (fun _ h9 => h9) rfl (by decide +kernel) rfl rfl (Nat.le_of_ble_eq_true rfl) dX6_sumOfCut_9 (fun H locs hP hD hS => ?_)
  have hP : va_P D vwCl (w_X6_sumOfCut cy a_o a_o_reader a_o_told a_o_clearer a_o_bestOne a_o_looseOne a_o_other a_o_bids a_o_now a_o_spare a_o_now_isTold a_o_now_least a_o_now_gateOff a_o_now_limit a_o_now_value a_o_now_kind a_o_now_most a_o_now_wishOff a_o_now_use o_bestKnown o_looseKnown (o_traced + (1000 : Int64)) o_now_wishes o_now_isTold o_now_kind) H := hP
  have hD : va_D A (w_X6_sumOfCut cy a_o a_o_reader a_o_told a_o_clearer a_o_bestOne a_o_looseOne a_o_other a_o_bids a_o_now a_o_spare a_o_now_isTold a_o_now_least a_o_now_gateOff a_o_now_limit a_o_now_value a_o_now_kind a_o_now_most a_o_now_wishOff a_o_now_use o_bestKnown o_looseKnown (o_traced + (1000 : Int64)) o_now_wishes o_now_isTold o_now_kind) := hD
  refine lv_aload_n hx hb dX6_sumOfCut_12 rfl (lv_at hl 0 rfl) ?_
  have hC : ([0, 1, 2, 3] : List Nat).map (fun i => ((w_X6_sumOfCut cy a_o a_o_reader a_o_told a_o_clearer a_o_bestOne a_o_looseOne a_o_other a_o_bids a_o_now a_o_spare a_o_now_isTold a_o_now_least a_o_now_gateOff a_o_now_limit a_o_now_value a_o_now_kind a_o_now_most a_o_now_wishOff a_o_now_use o_bestKnown o_looseKnown (o_traced + (1000 : Int64)) o_now_wishes o_now_isTold o_now_kind) : va_W)[i]?) = ((w_X6_sumOfWhole cy a_o a_o_reader a_o_told a_o_clearer a_o_bestOne a_o_looseOne a_o_other a_o_bids a_o_now a_o_spare a_o_now_isTold a_o_now_least a_o_now_gateOff a_o_now_limit a_o_now_value a_o_now_kind a_o_now_most a_o_now_wishOff a_o_now_use o_bestKnown o_looseKnown (o_traced + (1000 : Int64)) o_now_wishes o_now_isTold o_now_kind) : va_W).map some := rfl
  obtain ⟨hPc, hDc⟩ := cutC hP hD [0, 1, 2, 3] (by decide) hC
  have hFc := va_free hD hS hA [0, 1, 2, 3] hC
  refine va_calli (va_runV (As := []) (rest := []) ⟨hx, hb, hml, hown, hts⟩ (c_X6_sumOfWhole l D cy a_o a_o_reader a_o_told a_o_clearer a_o_bestOne a_o_looseOne a_o_other a_o_bids a_o_now a_o_spare a_o_now_isTold a_o_now_least a_o_now_gateOff a_o_now_limit a_o_now_value a_o_now_kind a_o_now_most a_o_now_wishOff a_o_now_use _ h) (cwV 0 hts gX6_sumOfCut_X6_sumOfWhole rfl rfl rfl (by decide +kernel) ⟨Nat.le_of_ble_eq_true rfl, Nat.le_of_ble_eq_true rfl⟩) (preV hPc hDc hK hN (ci := 6) (q0 := 0) rfl rfl) rfl rfl hl.1 rfl (lv_room (Nat.le_of_ble_eq_true rfl)) dX6_sumOfCut_13 ⟨Nat.zero_le _, Nat.zero_le _⟩) hS (fun q _ h => hFc q h) hFc (fun r2 u1 t H1 locs ht hvm h hB hz1 hk1 hS => ?_)
  try dsimp only at h hB
  obtain ⟨hP, hD⟩ := joinU (wd := (w_X6_sumOfCut cy a_o a_o_reader a_o_told a_o_clearer a_o_bestOne a_o_looseOne a_o_other a_o_bids a_o_now a_o_spare a_o_now_isTold a_o_now_least a_o_now_gateOff a_o_now_limit a_o_now_value a_o_now_kind a_o_now_most a_o_now_wishOff a_o_now_use o_bestKnown o_looseKnown u1 o_now_wishes o_now_isTold o_now_kind)) (wr := []) hP hD [0, 1, 2, 3] [] [a_o, a_o_now, a_o_now_isTold, a_o_now_kind] hC hk1 ht hB rfl rfl rfl (N := 4) rfl (by decide) rfl rfl
  generalize H1 = H at hP hS ⊢
  refine lv_istore_n (lv' := [(1, .int r2), (0, .ref a_o)]) hx hb dX6_sumOfCut_16 rfl hl (by decide) rfl (fun ls hl => ?_)
  refine lv_iload_n hx hb dX6_sumOfCut_17 rfl (lv_at hl 0 rfl) ?_
  refine lv_iload_n hx hb dX6_sumOfCut_18 rfl (lv_at hl 0 rfl) ?_
  refine lv_imul hx hb dX6_sumOfCut_19 ?_
  refine lv_bipush (v := 97) hx hb dX6_sumOfCut_20 (by decide) ?_
  refine lv_irem hx hb dX6_sumOfCut_22 (by decide) ?_
  exact hret ((r2 * r2) - (r2 * r2) / (97 : Int32) * (97 : Int32)) (u1) _ _ _ _ h hP hD hS dX6_sumOfCut_23
abbrev w_X6_sumOfChanged (cy : Nat → ClassId) (a_o a_o_reader a_o_told a_o_clearer a_o_bestOne a_o_looseOne a_o_other a_o_bids a_o_now a_o_spare a_o_now_isTold a_o_now_least a_o_now_gateOff a_o_now_limit a_o_now_value a_o_now_kind a_o_now_most a_o_now_wishOff a_o_now_use : Nat) (o_bestKnown : Int32) (o_looseKnown : Int32) (o_traced : Int64) (o_now_wishes : Int32) (o_now_isTold : Nat → Int32) (o_now_gateOff : Nat → Int32) (o_now_wishOff : Nat → Int32) : va_W := [(a_o, .inr (6, [.ref a_o_reader, .ref a_o_told, .ref a_o_clearer, .ref a_o_bestOne, .ref a_o_looseOne, .ref a_o_other, .ref a_o_bids, .ref a_o_now, .ref a_o_spare, .int o_bestKnown, .int o_looseKnown, .long o_traced])), (a_o_now, .inr (4, [.ref a_o_now_isTold, .ref a_o_now_least, .ref a_o_now_gateOff, .ref a_o_now_limit, .ref a_o_now_value, .ref a_o_now_kind, .ref a_o_now_most, .ref a_o_now_wishOff, .ref a_o_now_use, .int o_now_wishes])), (a_o_now_isTold, .inl (cy 3, 5, .inl o_now_isTold)), (a_o_now_gateOff, .inl (cy 3, 5, .inl o_now_gateOff)), (a_o_now_wishOff, .inl (cy 3, 4, .inl o_now_wishOff))]
set_option maxRecDepth 20000 in
theorem ggX6_sumOfChanged_X4_gatesOff : GoodIn wsX6_sumOfChanged wsX4_gatesOff := goodIn_r _ [21, 15, 22, 16, 7, 17, 41, 42, 43, 44, 45, 46, 47, 48, 49, 50] (by decide +kernel) (by decide +kernel)
set_option maxRecDepth 20000 in
theorem ggX6_sumOfChanged_X4_wishesOff : GoodIn wsX6_sumOfChanged wsX4_wishesOff := goodIn_r _ [26, 27, 28, 16, 7, 17, 41, 42, 43, 44, 45, 46, 47, 48, 49, 50] (by decide +kernel) (by decide +kernel)
set_option maxRecDepth 20000 in
theorem ggX6_sumOfChanged_X6_sumOfTable : GoodIn wsX6_sumOfChanged wsX6_sumOfTable := goodIn_r _ [8, 1, 3, 9, 10, 11, 12, 13, 14, 15, 16, 7, 17, 29, 30, 31, 32, 33, 34, 35, 36, 37, 38, 39, 40, 41, 42, 43, 44, 45, 46, 47, 48, 49, 50] (by decide +kernel) (by decide +kernel)
set_option maxRecDepth 20000 in
theorem gX6_sumOfChanged_X4_gatesOff : GoodIn wsX6_sumOfChanged (wsV RX6 233 RX4 yX4_gatesOff wsX4_gatesOff) := goodIn_app (goodIn_of _ (by decide +kernel)) ggX6_sumOfChanged_X4_gatesOff
set_option maxRecDepth 20000 in
theorem gX6_sumOfChanged_X4_wishesOff : GoodIn wsX6_sumOfChanged (wsV RX6 236 RX4 yX4_wishesOff wsX4_wishesOff) := goodIn_app (goodIn_of _ (by decide +kernel)) ggX6_sumOfChanged_X4_wishesOff
set_option maxRecDepth 20000 in
theorem gX6_sumOfChanged_X6_sumOfTable : GoodIn wsX6_sumOfChanged (wsV RX6 215 RX6 yX6_sumOfTable wsX6_sumOfTable) := goodIn_app (goodIn_of _ (by decide +kernel)) ggX6_sumOfChanged_X6_sumOfTable
set_option maxHeartbeats 4000000 in
set_option maxRecDepth 100000 in
theorem c_X6_sumOfChanged (l : Launch) (D : va_G) (cy : Nat → ClassId) (a_o a_o_reader a_o_told a_o_clearer a_o_bestOne a_o_looseOne a_o_other a_o_bids a_o_now a_o_spare a_o_now_isTold a_o_now_least a_o_now_gateOff a_o_now_limit a_o_now_value a_o_now_kind a_o_now_most a_o_now_wishOff a_o_now_use : Nat) (sz : Nat)  {o_bestKnown : Int32} {o_looseKnown : Int32} {o_traced : Int64} {o_now_wishes : Int32} {o_now_isTold : Nat → Int32} {o_now_gateOff : Nat → Int32} {o_now_wishOff : Nat → Int32}  {post : Int32 → Int64 → Prop} (h : wp_X6_sumOfChanged o_traced o_now_wishes o_now_isTold o_now_gateOff o_now_wishOff post) : Met l yX6_sumOfChanged wsX6_sumOfChanged ({ frames := 3, cells := 0, slots := 0, locals := 62 }) (va_Pc [.ref a_o] (wI D cy sz (w_X6_sumOfChanged cy a_o a_o_reader a_o_told a_o_clearer a_o_bestOne a_o_looseOne a_o_other a_o_bids a_o_now a_o_spare a_o_now_isTold a_o_now_least a_o_now_gateOff a_o_now_limit a_o_now_value a_o_now_kind a_o_now_most a_o_now_wishOff a_o_now_use o_bestKnown o_looseKnown o_traced o_now_wishes o_now_isTold o_now_gateOff o_now_wishOff))) (va_Qi (fun (r : Int32) (u : Int64) => post r u) (fun (u : Int64) t => wO D cy (va_A (w_X6_sumOfChanged cy a_o a_o_reader a_o_told a_o_clearer a_o_bestOne a_o_looseOne a_o_other a_o_bids a_o_now a_o_spare a_o_now_isTold a_o_now_least a_o_now_gateOff a_o_now_limit a_o_now_value a_o_now_kind a_o_now_most a_o_now_wishOff a_o_now_use o_bestKnown o_looseKnown o_traced o_now_wishes o_now_isTold o_now_gateOff o_now_wishOff) sz) (w_X6_sumOfChanged cy a_o a_o_reader a_o_told a_o_clearer a_o_bestOne a_o_looseOne a_o_other a_o_bids a_o_now a_o_spare a_o_now_isTold a_o_now_least a_o_now_gateOff a_o_now_limit a_o_now_value a_o_now_kind a_o_now_most a_o_now_wishOff a_o_now_use o_bestKnown o_looseKnown u o_now_wishes o_now_isTold o_now_gateOff o_now_wishOff) t) (va_A (w_X6_sumOfChanged cy a_o a_o_reader a_o_told a_o_clearer a_o_bestOne a_o_looseOne a_o_other a_o_bids a_o_now a_o_spare a_o_now_isTold a_o_now_least a_o_now_gateOff a_o_now_limit a_o_now_value a_o_now_kind a_o_now_most a_o_now_wishOff a_o_now_use o_bestKnown o_looseKnown o_traced o_now_wishes o_now_isTold o_now_gateOff o_now_wishOff) sz)) 0 0 (va_A (w_X6_sumOfChanged cy a_o a_o_reader a_o_told a_o_clearer a_o_bestOne a_o_looseOne a_o_other a_o_bids a_o_now a_o_spare a_o_now_isTold a_o_now_least a_o_now_gateOff a_o_now_limit a_o_now_value a_o_now_kind a_o_now_most a_o_now_wishOff a_o_now_use o_bestKnown o_looseKnown o_traced o_now_wishes o_now_isTold o_now_gateOff o_now_wishOff) sz) := by
  refine contrI (S := Int64) (post := fun (r : Int32) (u : Int64) => post r u) (wOut := fun (u : Int64) => (w_X6_sumOfChanged cy a_o a_o_reader a_o_told a_o_clearer a_o_bestOne a_o_looseOne a_o_other a_o_bids a_o_now a_o_spare a_o_now_isTold a_o_now_least a_o_now_gateOff a_o_now_limit a_o_now_value a_o_now_kind a_o_now_most a_o_now_wishOff a_o_now_use o_bestKnown o_looseKnown u o_now_wishes o_now_isTold o_now_gateOff o_now_wishOff)) (cc := cX6_sumOfChanged) (maxL := 1) (own := RX6) (by decide +kernel) rfl rfl ?_
  intro p e s m args below meth c A Q hx hb hml hown hts hK hN hP hD hS hA hret
  have in_X6 : ∀ w ∈ u_ws RX6 TX6 12, w ∈ wsX6_sumOfChanged := by decide +kernel
  have fl_67 := hts (.fieldLink RX6 67 "DawnTable" "traced" "J") (by decide +kernel)
  have fl_53 := hts (.fieldLink RX6 53 "DawnTable" "now" "LDawnTable$Table;") (by decide +kernel)
  refine ent [.ref a_o] (Nat.le_of_ble_eq_true rfl) (fun ls hl => ?_)
  have hl : lv_has ls 1 [(0, .ref a_o)] := hl
  unfold wp_X6_sumOfChanged at h
  refine lv_aload_n hx hb dX6_sumOfChanged_0 rfl (lv_at hl 0 rfl) ?_
  refine lv_dup hx hb dX6_sumOfChanged_1 rfl ?_
  refine va_get (D := D) (ci := 6) (v := .long o_traced) (C := RX6) (T := TX6) (N := 12) hx hb hts in_X6 hown hK hP 0 rfl rfl 11 (by decide) fl_67 (fun _ h9 => h9) rfl dX6_sumOfChanged_2 ?_
  refine lv_ldc2 hx hb hown (hts (.constantLong RX6 269 (10000)) (by decide +kernel)) dX6_sumOfChanged_5 ?_
  refine lv_ladd hx hb dX6_sumOfChanged_8 ?_
  refine va_put (D := D) (ci := 6) (v := .long (o_traced + (10000 : Int64))) (ty := .long) (C := RX6) (T := TX6) (N := 12) hx hb hts in_X6 tyX6 tyX6_ok nmX6 hown hK hP hD hS 0 rfl rfl 11 (by decide) fl_67 (fun _ h9 => h9) rfl (by decide +kernel) rfl rfl (Nat.le_of_ble_eq_true rfl) dX6_sumOfChanged_9 (fun H locs hP hD hS => ?_)
  have hP : va_P D vwCl (w_X6_sumOfChanged cy a_o a_o_reader a_o_told a_o_clearer a_o_bestOne a_o_looseOne a_o_other a_o_bids a_o_now a_o_spare a_o_now_isTold a_o_now_least a_o_now_gateOff a_o_now_limit a_o_now_value a_o_now_kind a_o_now_most a_o_now_wishOff a_o_now_use o_bestKnown o_looseKnown (o_traced + (10000 : Int64)) o_now_wishes o_now_isTold o_now_gateOff o_now_wishOff) H := hP
  have hD : va_D A (w_X6_sumOfChanged cy a_o a_o_reader a_o_told a_o_clearer a_o_bestOne a_o_looseOne a_o_other a_o_bids a_o_now a_o_spare a_o_now_isTold a_o_now_least a_o_now_gateOff a_o_now_limit a_o_now_value a_o_now_kind a_o_now_most a_o_now_wishOff a_o_now_use o_bestKnown o_looseKnown (o_traced + (10000 : Int64)) o_now_wishes o_now_isTold o_now_gateOff o_now_wishOff) := hD
  refine lv_aload_n hx hb dX6_sumOfChanged_12 rfl (lv_at hl 0 rfl) ?_
  have hC : ([0, 1, 2] : List Nat).map (fun i => ((w_X6_sumOfChanged cy a_o a_o_reader a_o_told a_o_clearer a_o_bestOne a_o_looseOne a_o_other a_o_bids a_o_now a_o_spare a_o_now_isTold a_o_now_least a_o_now_gateOff a_o_now_limit a_o_now_value a_o_now_kind a_o_now_most a_o_now_wishOff a_o_now_use o_bestKnown o_looseKnown (o_traced + (10000 : Int64)) o_now_wishes o_now_isTold o_now_gateOff o_now_wishOff) : va_W)[i]?) = ((w_X6_sumOfTable cy a_o a_o_reader a_o_told a_o_clearer a_o_bestOne a_o_looseOne a_o_other a_o_bids a_o_now a_o_spare a_o_now_isTold a_o_now_least a_o_now_gateOff a_o_now_limit a_o_now_value a_o_now_kind a_o_now_most a_o_now_wishOff a_o_now_use o_bestKnown o_looseKnown (o_traced + (10000 : Int64)) o_now_wishes o_now_isTold) : va_W).map some := rfl
  obtain ⟨hPc, hDc⟩ := cutC hP hD [0, 1, 2] (by decide) hC
  have hFc := va_free hD hS hA [0, 1, 2] hC
  refine va_calli (va_runV (As := []) (rest := []) ⟨hx, hb, hml, hown, hts⟩ (c_X6_sumOfTable l D cy a_o a_o_reader a_o_told a_o_clearer a_o_bestOne a_o_looseOne a_o_other a_o_bids a_o_now a_o_spare a_o_now_isTold a_o_now_least a_o_now_gateOff a_o_now_limit a_o_now_value a_o_now_kind a_o_now_most a_o_now_wishOff a_o_now_use _ h) (cwV 0 hts gX6_sumOfChanged_X6_sumOfTable rfl rfl rfl (by decide +kernel) ⟨Nat.le_of_ble_eq_true rfl, Nat.le_of_ble_eq_true rfl⟩) (preV hPc hDc hK hN (ci := 6) (q0 := 0) rfl rfl) rfl rfl hl.1 rfl (lv_room (Nat.le_of_ble_eq_true rfl)) dX6_sumOfChanged_13 ⟨Nat.zero_le _, Nat.zero_le _⟩) hS (fun q _ h => hFc q h) hFc (fun r2 u1 t H1 locs ht hvm h hB hz1 hk1 hS => ?_)
  try dsimp only at h hB
  obtain ⟨hP, hD⟩ := joinU (wd := (w_X6_sumOfChanged cy a_o a_o_reader a_o_told a_o_clearer a_o_bestOne a_o_looseOne a_o_other a_o_bids a_o_now a_o_spare a_o_now_isTold a_o_now_least a_o_now_gateOff a_o_now_limit a_o_now_value a_o_now_kind a_o_now_most a_o_now_wishOff a_o_now_use o_bestKnown o_looseKnown u1 o_now_wishes o_now_isTold o_now_gateOff o_now_wishOff)) (wr := [(a_o_now_gateOff, .inl (cy 3, 5, .inl o_now_gateOff)), (a_o_now_wishOff, .inl (cy 3, 4, .inl o_now_wishOff))]) hP hD [0, 1, 2] [3, 4] [a_o, a_o_now, a_o_now_isTold] hC hk1 ht hB rfl rfl rfl (N := 5) rfl (by decide) rfl rfl
  generalize H1 = H at hP hS ⊢
  refine lv_aload_n hx hb dX6_sumOfChanged_16 rfl (lv_at hl 0 rfl) ?_
  refine va_get (D := D) (ci := 6) (v := .ref a_o_now) (C := RX6) (T := TX6) (N := 12) hx hb hts in_X6 hown hK hP 0 rfl rfl 7 (by decide) fl_53 (fun _ h9 => h9) rfl dX6_sumOfChanged_17 ?_
  have hC : ([1, 2, 3] : List Nat).map (fun i => ((w_X6_sumOfChanged cy a_o a_o_reader a_o_told a_o_clearer a_o_bestOne a_o_looseOne a_o_other a_o_bids a_o_now a_o_spare a_o_now_isTold a_o_now_least a_o_now_gateOff a_o_now_limit a_o_now_value a_o_now_kind a_o_now_most a_o_now_wishOff a_o_now_use o_bestKnown o_looseKnown u1 o_now_wishes o_now_isTold o_now_gateOff o_now_wishOff) : va_W)[i]?) = ((w_X4_gatesOff cy a_o_now a_o_now_isTold a_o_now_least a_o_now_gateOff a_o_now_limit a_o_now_value a_o_now_kind a_o_now_most a_o_now_wishOff a_o_now_use o_now_wishes o_now_isTold o_now_gateOff) : va_W).map some := rfl
  obtain ⟨hPc, hDc⟩ := cutC hP hD [1, 2, 3] (by decide) hC
  have hFc := va_free hD hS hA [1, 2, 3] hC
  refine va_calli (va_runV (As := []) (rest := [.int r2]) ⟨hx, hb, hml, hown, hts⟩ (c_X4_gatesOff l D cy a_o_now a_o_now_isTold a_o_now_least a_o_now_gateOff a_o_now_limit a_o_now_value a_o_now_kind a_o_now_most a_o_now_wishOff a_o_now_use _ h) (cwV 0 hts gX6_sumOfChanged_X4_gatesOff rfl rfl rfl (by decide +kernel) ⟨Nat.le_of_ble_eq_true rfl, Nat.le_of_ble_eq_true rfl⟩) (preV hPc hDc hK hN (ci := 4) (q0 := 0) rfl rfl) rfl rfl hl.1 rfl (lv_room (Nat.le_of_ble_eq_true rfl)) dX6_sumOfChanged_20 ⟨Nat.zero_le _, Nat.zero_le _⟩) hS (fun q _ h => hFc q h) hFc (fun r3 u t H1 locs ht hvm h hB hz1 hk1 hS => ?_)
  try dsimp only at h hB
  obtain ⟨hP, hD⟩ := joinU (wd := (w_X6_sumOfChanged cy a_o a_o_reader a_o_told a_o_clearer a_o_bestOne a_o_looseOne a_o_other a_o_bids a_o_now a_o_spare a_o_now_isTold a_o_now_least a_o_now_gateOff a_o_now_limit a_o_now_value a_o_now_kind a_o_now_most a_o_now_wishOff a_o_now_use o_bestKnown o_looseKnown u1 o_now_wishes o_now_isTold o_now_gateOff o_now_wishOff)) (wr := [(a_o, .inr (6, [.ref a_o_reader, .ref a_o_told, .ref a_o_clearer, .ref a_o_bestOne, .ref a_o_looseOne, .ref a_o_other, .ref a_o_bids, .ref a_o_now, .ref a_o_spare, .int o_bestKnown, .int o_looseKnown, .long u1])), (a_o_now_wishOff, .inl (cy 3, 4, .inl o_now_wishOff))]) hP hD [1, 2, 3] [0, 4] [a_o_now, a_o_now_isTold, a_o_now_gateOff] hC hk1 ht hB rfl rfl rfl (N := 5) rfl (by decide) rfl rfl
  generalize H1 = H at hP hS ⊢
  refine lv_iadd hx hb dX6_sumOfChanged_23 ?_
  refine lv_aload_n hx hb dX6_sumOfChanged_24 rfl (lv_at hl 0 rfl) ?_
  refine va_get (D := D) (ci := 6) (v := .ref a_o_now) (C := RX6) (T := TX6) (N := 12) hx hb hts in_X6 hown hK hP 0 rfl rfl 7 (by decide) fl_53 (fun _ h9 => h9) rfl dX6_sumOfChanged_25 ?_
  have hC : ([1, 4] : List Nat).map (fun i => ((w_X6_sumOfChanged cy a_o a_o_reader a_o_told a_o_clearer a_o_bestOne a_o_looseOne a_o_other a_o_bids a_o_now a_o_spare a_o_now_isTold a_o_now_least a_o_now_gateOff a_o_now_limit a_o_now_value a_o_now_kind a_o_now_most a_o_now_wishOff a_o_now_use o_bestKnown o_looseKnown u1 o_now_wishes o_now_isTold o_now_gateOff o_now_wishOff) : va_W)[i]?) = ((w_X4_wishesOff cy a_o_now a_o_now_isTold a_o_now_least a_o_now_gateOff a_o_now_limit a_o_now_value a_o_now_kind a_o_now_most a_o_now_wishOff a_o_now_use o_now_wishes o_now_wishOff) : va_W).map some := rfl
  obtain ⟨hPc, hDc⟩ := cutC hP hD [1, 4] (by decide) hC
  have hFc := va_free hD hS hA [1, 4] hC
  refine va_calli (va_runV (As := []) (rest := [.int (r2 + r3)]) ⟨hx, hb, hml, hown, hts⟩ (c_X4_wishesOff l D cy a_o_now a_o_now_isTold a_o_now_least a_o_now_gateOff a_o_now_limit a_o_now_value a_o_now_kind a_o_now_most a_o_now_wishOff a_o_now_use _ h) (cwV 0 hts gX6_sumOfChanged_X4_wishesOff rfl rfl rfl (by decide +kernel) ⟨Nat.le_of_ble_eq_true rfl, Nat.le_of_ble_eq_true rfl⟩) (preV hPc hDc hK hN (ci := 4) (q0 := 0) rfl rfl) rfl rfl hl.1 rfl (lv_room (Nat.le_of_ble_eq_true rfl)) dX6_sumOfChanged_28 ⟨Nat.zero_le _, Nat.zero_le _⟩) hS (fun q _ h => hFc q h) hFc (fun r4 u t H1 locs ht hvm h hB hz1 hk1 hS => ?_)
  try dsimp only at h hB
  obtain ⟨hP, hD⟩ := joinU (wd := (w_X6_sumOfChanged cy a_o a_o_reader a_o_told a_o_clearer a_o_bestOne a_o_looseOne a_o_other a_o_bids a_o_now a_o_spare a_o_now_isTold a_o_now_least a_o_now_gateOff a_o_now_limit a_o_now_value a_o_now_kind a_o_now_most a_o_now_wishOff a_o_now_use o_bestKnown o_looseKnown u1 o_now_wishes o_now_isTold o_now_gateOff o_now_wishOff)) (wr := [(a_o, .inr (6, [.ref a_o_reader, .ref a_o_told, .ref a_o_clearer, .ref a_o_bestOne, .ref a_o_looseOne, .ref a_o_other, .ref a_o_bids, .ref a_o_now, .ref a_o_spare, .int o_bestKnown, .int o_looseKnown, .long u1])), (a_o_now_isTold, .inl (cy 3, 5, .inl o_now_isTold)), (a_o_now_gateOff, .inl (cy 3, 5, .inl o_now_gateOff))]) hP hD [1, 4] [0, 2, 3] [a_o_now, a_o_now_wishOff] hC hk1 ht hB rfl rfl rfl (N := 5) rfl (by decide) rfl rfl
  generalize H1 = H at hP hS ⊢
  refine lv_iadd hx hb dX6_sumOfChanged_31 ?_
  exact hret ((r2 + r3) + r4) (u1) _ _ _ _ h hP hD hS dX6_sumOfChanged_32
abbrev w_X6_labour (cy : Nat → ClassId) (a_o a_o_reader a_o_told a_o_clearer a_o_bestOne a_o_looseOne a_o_other a_o_bids a_o_now a_o_spare a_o_now_isTold a_o_now_least a_o_now_gateOff a_o_now_limit a_o_now_value a_o_now_kind a_o_now_most a_o_now_wishOff a_o_now_use : Nat) (r_o_now_use : Nat → Nat) (o_bestKnown : Int32) (o_looseKnown : Int32) (o_traced : Int64) (o_now_wishes : Int32) (o_now_isTold : Nat → Int32) (o_now_gateOff : Nat → Int32) (o_now_kind : Nat → Int32) (o_now_wishOff : Nat → Int32) (o_now_use : Nat → Nat → Int32) : va_W := [(a_o, .inr (6, [.ref a_o_reader, .ref a_o_told, .ref a_o_clearer, .ref a_o_bestOne, .ref a_o_looseOne, .ref a_o_other, .ref a_o_bids, .ref a_o_now, .ref a_o_spare, .int o_bestKnown, .int o_looseKnown, .long o_traced])), (a_o_now, .inr (4, [.ref a_o_now_isTold, .ref a_o_now_least, .ref a_o_now_gateOff, .ref a_o_now_limit, .ref a_o_now_value, .ref a_o_now_kind, .ref a_o_now_most, .ref a_o_now_wishOff, .ref a_o_now_use, .int o_now_wishes])), (a_o_now_isTold, .inl (cy 3, 5, .inl o_now_isTold)), (a_o_now_gateOff, .inl (cy 3, 5, .inl o_now_gateOff)), (a_o_now_kind, .inl (cy 1, 4, .inl o_now_kind)), (a_o_now_wishOff, .inl (cy 3, 4, .inl o_now_wishOff)), (a_o_now_use, .inl (cy 4, 4, .inr (.inr (.inr (.inr (mref r_o_now_use 4))))))] ++ rows4 r_o_now_use (rowI (cy 1) 5 o_now_use) ++ []
set_option maxRecDepth 20000 in
theorem ggX6_labour_X6_sumOfChanged : GoodIn wsX6_labour wsX6_sumOfChanged := goodIn_r _ [46, 6, 47, 7, 1, 2, 3, 4, 5, 8, 9, 10, 11, 12, 13, 14, 15, 16, 48, 49, 50, 51, 52, 53, 54, 55, 56, 26, 57, 58, 59, 60, 61, 62, 63, 64, 65, 66, 67, 68, 69, 70, 71, 72, 73, 74, 75, 76, 77, 78, 79] (by decide +kernel) (by decide +kernel)
set_option maxRecDepth 20000 in
theorem ggX6_labour_X6_sumOfCut : GoodIn wsX6_labour wsX6_sumOfCut := goodIn_r _ [41, 6, 42, 28, 29, 30, 4, 31, 32, 7, 1, 2, 3, 5, 8, 9, 10, 11, 12, 13, 14, 15, 16, 33, 34, 35, 36, 26, 37, 58, 59, 60, 61, 62, 63, 64, 65, 66, 67, 68, 69, 70, 71, 72, 73, 74, 75, 76, 77, 78, 79] (by decide +kernel) (by decide +kernel)
set_option maxRecDepth 20000 in
theorem ggX6_labour_X6_sumOfNet : GoodIn wsX6_labour wsX6_sumOfNet := goodIn_r _ [20, 6, 21, 7, 1, 2, 3, 4, 5, 8, 9, 10, 11, 12, 13, 14, 15, 16, 22, 23, 24, 25, 26, 27, 58, 59, 60, 61, 62, 63, 64, 65, 66, 67, 68, 69, 70, 71, 72, 73, 74, 75, 76, 77, 78, 79] (by decide +kernel) (by decide +kernel)
set_option maxRecDepth 20000 in
theorem ggX6_labour_X6_sumOfTable : GoodIn wsX6_labour wsX6_sumOfTable := goodIn_r _ [5, 6, 7, 8, 9, 10, 11, 12, 13, 14, 15, 4, 16, 58, 59, 60, 61, 62, 63, 64, 65, 66, 67, 68, 69, 70, 71, 72, 73, 74, 75, 76, 77, 78, 79] (by decide +kernel) (by decide +kernel)
set_option maxRecDepth 20000 in
theorem ggX6_labour_X6_sumOfWhole : GoodIn wsX6_labour wsX6_sumOfWhole := goodIn_r _ [31, 6, 32, 7, 1, 2, 3, 4, 5, 8, 9, 10, 11, 12, 13, 14, 15, 16, 33, 34, 35, 36, 26, 37, 58, 59, 60, 61, 62, 63, 64, 65, 66, 67, 68, 69, 70, 71, 72, 73, 74, 75, 76, 77, 78, 79] (by decide +kernel) (by decide +kernel)
set_option maxRecDepth 20000 in
theorem gX6_labour_X6_sumOfChanged : GoodIn wsX6_labour (wsV RX6 227 RX6 yX6_sumOfChanged wsX6_sumOfChanged) := goodIn_app (goodIn_of _ (by decide +kernel)) ggX6_labour_X6_sumOfChanged
set_option maxRecDepth 20000 in
theorem gX6_labour_X6_sumOfCut : GoodIn wsX6_labour (wsV RX6 224 RX6 yX6_sumOfCut wsX6_sumOfCut) := goodIn_app (goodIn_of _ (by decide +kernel)) ggX6_labour_X6_sumOfCut
set_option maxRecDepth 20000 in
theorem gX6_labour_X6_sumOfNet : GoodIn wsX6_labour (wsV RX6 218 RX6 yX6_sumOfNet wsX6_sumOfNet) := goodIn_app (goodIn_of _ (by decide +kernel)) ggX6_labour_X6_sumOfNet
set_option maxRecDepth 20000 in
theorem gX6_labour_X6_sumOfTable : GoodIn wsX6_labour (wsV RX6 215 RX6 yX6_sumOfTable wsX6_sumOfTable) := goodIn_app (goodIn_of _ (by decide +kernel)) ggX6_labour_X6_sumOfTable
set_option maxRecDepth 20000 in
theorem gX6_labour_X6_sumOfWhole : GoodIn wsX6_labour (wsV RX6 221 RX6 yX6_sumOfWhole wsX6_sumOfWhole) := goodIn_app (goodIn_of _ (by decide +kernel)) ggX6_labour_X6_sumOfWhole
set_option maxHeartbeats 4000000 in
set_option maxRecDepth 100000 in
theorem c_X6_labour (l : Launch) (D : va_G) (cy : Nat → ClassId) (a_o a_o_reader a_o_told a_o_clearer a_o_bestOne a_o_looseOne a_o_other a_o_bids a_o_now a_o_spare a_o_now_isTold a_o_now_least a_o_now_gateOff a_o_now_limit a_o_now_value a_o_now_kind a_o_now_most a_o_now_wishOff a_o_now_use : Nat) (r_o_now_use : Nat → Nat) (sz : Nat)  {o_bestKnown : Int32} {o_looseKnown : Int32} {o_traced : Int64} {o_now_wishes : Int32} {o_now_isTold : Nat → Int32} {o_now_gateOff : Nat → Int32} {o_now_kind : Nat → Int32} {o_now_wishOff : Nat → Int32} {o_now_use : Nat → Nat → Int32} {x1 : Int32} {post : Int32 → Int64 → Prop} (h : wp_X6_labour o_traced o_now_wishes o_now_isTold o_now_gateOff o_now_kind o_now_wishOff o_now_use x1 post) : Met l yX6_labour wsX6_labour ({ frames := 5, cells := 0, slots := 0, locals := 103 }) (va_Pc [.ref a_o, .int x1] (wI D cy sz (w_X6_labour cy a_o a_o_reader a_o_told a_o_clearer a_o_bestOne a_o_looseOne a_o_other a_o_bids a_o_now a_o_spare a_o_now_isTold a_o_now_least a_o_now_gateOff a_o_now_limit a_o_now_value a_o_now_kind a_o_now_most a_o_now_wishOff a_o_now_use r_o_now_use o_bestKnown o_looseKnown o_traced o_now_wishes o_now_isTold o_now_gateOff o_now_kind o_now_wishOff o_now_use))) (va_Qi (fun (r : Int32) (u : Int64) => post r u) (fun (u : Int64) t => wO D cy (va_A (w_X6_labour cy a_o a_o_reader a_o_told a_o_clearer a_o_bestOne a_o_looseOne a_o_other a_o_bids a_o_now a_o_spare a_o_now_isTold a_o_now_least a_o_now_gateOff a_o_now_limit a_o_now_value a_o_now_kind a_o_now_most a_o_now_wishOff a_o_now_use r_o_now_use o_bestKnown o_looseKnown o_traced o_now_wishes o_now_isTold o_now_gateOff o_now_kind o_now_wishOff o_now_use) sz) (w_X6_labour cy a_o a_o_reader a_o_told a_o_clearer a_o_bestOne a_o_looseOne a_o_other a_o_bids a_o_now a_o_spare a_o_now_isTold a_o_now_least a_o_now_gateOff a_o_now_limit a_o_now_value a_o_now_kind a_o_now_most a_o_now_wishOff a_o_now_use r_o_now_use o_bestKnown o_looseKnown u o_now_wishes o_now_isTold o_now_gateOff o_now_kind o_now_wishOff o_now_use) t) (va_A (w_X6_labour cy a_o a_o_reader a_o_told a_o_clearer a_o_bestOne a_o_looseOne a_o_other a_o_bids a_o_now a_o_spare a_o_now_isTold a_o_now_least a_o_now_gateOff a_o_now_limit a_o_now_value a_o_now_kind a_o_now_most a_o_now_wishOff a_o_now_use r_o_now_use o_bestKnown o_looseKnown o_traced o_now_wishes o_now_isTold o_now_gateOff o_now_kind o_now_wishOff o_now_use) sz)) 0 0 (va_A (w_X6_labour cy a_o a_o_reader a_o_told a_o_clearer a_o_bestOne a_o_looseOne a_o_other a_o_bids a_o_now a_o_spare a_o_now_isTold a_o_now_least a_o_now_gateOff a_o_now_limit a_o_now_value a_o_now_kind a_o_now_most a_o_now_wishOff a_o_now_use r_o_now_use o_bestKnown o_looseKnown o_traced o_now_wishes o_now_isTold o_now_gateOff o_now_kind o_now_wishOff o_now_use) sz) := by
  refine contrI (S := Int64) (post := fun (r : Int32) (u : Int64) => post r u) (wOut := fun (u : Int64) => (w_X6_labour cy a_o a_o_reader a_o_told a_o_clearer a_o_bestOne a_o_looseOne a_o_other a_o_bids a_o_now a_o_spare a_o_now_isTold a_o_now_least a_o_now_gateOff a_o_now_limit a_o_now_value a_o_now_kind a_o_now_most a_o_now_wishOff a_o_now_use r_o_now_use o_bestKnown o_looseKnown u o_now_wishes o_now_isTold o_now_gateOff o_now_kind o_now_wishOff o_now_use)) (cc := cX6_labour) (maxL := 2) (own := RX6) (by decide +kernel) rfl rfl ?_
  intro p e s m args below meth c A Q hx hb hml hown hts hK hN hP hD hS hA hret
  refine ent [.ref a_o, .int x1] (Nat.le_of_ble_eq_true rfl) (fun ls hl => ?_)
  have hl : lv_has ls 2 [(0, .ref a_o), (1, .int x1)] := hl
  unfold wp_X6_labour at h
  refine lv_iload_n hx hb dX6_labour_0 rfl (lv_at hl 1 rfl) ?_
  by_cases c1 : x1 = (0 : Int32)
  · have h := h.1 c1
    refine lv_tableIn (off := 35) (tgt := 36) hx hb dX6_labour_1 (by rw [c1]; decide) (by rw [c1]; decide) (by rw [c1]; decide) (by decide) ?_
    refine lv_aload_n hx hb dX6_labour_36 rfl (lv_at hl 0 rfl) ?_
    have hC : ([0, 1, 2] : List Nat).map (fun i => ((w_X6_labour cy a_o a_o_reader a_o_told a_o_clearer a_o_bestOne a_o_looseOne a_o_other a_o_bids a_o_now a_o_spare a_o_now_isTold a_o_now_least a_o_now_gateOff a_o_now_limit a_o_now_value a_o_now_kind a_o_now_most a_o_now_wishOff a_o_now_use r_o_now_use o_bestKnown o_looseKnown o_traced o_now_wishes o_now_isTold o_now_gateOff o_now_kind o_now_wishOff o_now_use) : va_W)[i]?) = ((w_X6_sumOfTable cy a_o a_o_reader a_o_told a_o_clearer a_o_bestOne a_o_looseOne a_o_other a_o_bids a_o_now a_o_spare a_o_now_isTold a_o_now_least a_o_now_gateOff a_o_now_limit a_o_now_value a_o_now_kind a_o_now_most a_o_now_wishOff a_o_now_use o_bestKnown o_looseKnown o_traced o_now_wishes o_now_isTold) : va_W).map some := rfl
    obtain ⟨hPc, hDc⟩ := cutC hP hD [0, 1, 2] (by decide) hC
    have hFc := va_free hD hS hA [0, 1, 2] hC
    refine va_calli (va_runV (As := []) (rest := []) ⟨hx, hb, hml, hown, hts⟩ (c_X6_sumOfTable l D cy a_o a_o_reader a_o_told a_o_clearer a_o_bestOne a_o_looseOne a_o_other a_o_bids a_o_now a_o_spare a_o_now_isTold a_o_now_least a_o_now_gateOff a_o_now_limit a_o_now_value a_o_now_kind a_o_now_most a_o_now_wishOff a_o_now_use _ h) (cwV 0 hts gX6_labour_X6_sumOfTable rfl rfl rfl (by decide +kernel) ⟨Nat.le_of_ble_eq_true rfl, Nat.le_of_ble_eq_true rfl⟩) (preV hPc hDc hK hN (ci := 6) (q0 := 0) rfl rfl) rfl rfl hl.1 rfl (lv_room (Nat.le_of_ble_eq_true rfl)) dX6_labour_37 ⟨Nat.zero_le _, Nat.zero_le _⟩) hS (fun q _ h => hFc q h) hFc (fun r3 u2 t H1 locs ht hvm h hB hz1 hk1 hS => ?_)
    try dsimp only at h hB
    obtain ⟨hP, hD⟩ := joinU (wd := (w_X6_labour cy a_o a_o_reader a_o_told a_o_clearer a_o_bestOne a_o_looseOne a_o_other a_o_bids a_o_now a_o_spare a_o_now_isTold a_o_now_least a_o_now_gateOff a_o_now_limit a_o_now_value a_o_now_kind a_o_now_most a_o_now_wishOff a_o_now_use r_o_now_use o_bestKnown o_looseKnown u2 o_now_wishes o_now_isTold o_now_gateOff o_now_kind o_now_wishOff o_now_use)) (wr := [(a_o_now_gateOff, .inl (cy 3, 5, .inl o_now_gateOff)), (a_o_now_kind, .inl (cy 1, 4, .inl o_now_kind)), (a_o_now_wishOff, .inl (cy 3, 4, .inl o_now_wishOff)), (a_o_now_use, .inl (cy 4, 4, .inr (.inr (.inr (.inr (mref r_o_now_use 4)))))), (r_o_now_use 0, rowI (cy 1) 5 o_now_use 0), (r_o_now_use 1, rowI (cy 1) 5 o_now_use 1), (r_o_now_use 2, rowI (cy 1) 5 o_now_use 2), (r_o_now_use 3, rowI (cy 1) 5 o_now_use 3)]) hP hD [0, 1, 2] [3, 4, 5, 6, 7, 8, 9, 10] [a_o, a_o_now, a_o_now_isTold] hC hk1 ht hB rfl rfl rfl (N := 11) rfl (by decide) rfl rfl
    generalize H1 = H at hP hS ⊢
    exact hret r3 (u2) _ _ _ _ h hP hD hS dX6_labour_40
  · have h := h.2 c1
    have n_1_0 := c1
    by_cases c4 : x1 = (1 : Int32)
    · have h := h.1 c4
      refine lv_tableIn (off := 40) (tgt := 41) hx hb dX6_labour_1 (by rw [c4]; decide) (by rw [c4]; decide) (by rw [c4]; decide) (by decide) ?_
      refine lv_aload_n hx hb dX6_labour_41 rfl (lv_at hl 0 rfl) ?_
      have hC : ([0, 1, 2, 6, 7, 8, 9, 10] : List Nat).map (fun i => ((w_X6_labour cy a_o a_o_reader a_o_told a_o_clearer a_o_bestOne a_o_looseOne a_o_other a_o_bids a_o_now a_o_spare a_o_now_isTold a_o_now_least a_o_now_gateOff a_o_now_limit a_o_now_value a_o_now_kind a_o_now_most a_o_now_wishOff a_o_now_use r_o_now_use o_bestKnown o_looseKnown o_traced o_now_wishes o_now_isTold o_now_gateOff o_now_kind o_now_wishOff o_now_use) : va_W)[i]?) = ((w_X6_sumOfNet cy a_o a_o_reader a_o_told a_o_clearer a_o_bestOne a_o_looseOne a_o_other a_o_bids a_o_now a_o_spare a_o_now_isTold a_o_now_least a_o_now_gateOff a_o_now_limit a_o_now_value a_o_now_kind a_o_now_most a_o_now_wishOff a_o_now_use r_o_now_use o_bestKnown o_looseKnown o_traced o_now_wishes o_now_isTold o_now_use) : va_W).map some := rfl
      obtain ⟨hPc, hDc⟩ := cutC hP hD [0, 1, 2, 6, 7, 8, 9, 10] (by decide) hC
      have hFc := va_free hD hS hA [0, 1, 2, 6, 7, 8, 9, 10] hC
      refine va_calli (va_runV (As := []) (rest := []) ⟨hx, hb, hml, hown, hts⟩ (c_X6_sumOfNet l D cy a_o a_o_reader a_o_told a_o_clearer a_o_bestOne a_o_looseOne a_o_other a_o_bids a_o_now a_o_spare a_o_now_isTold a_o_now_least a_o_now_gateOff a_o_now_limit a_o_now_value a_o_now_kind a_o_now_most a_o_now_wishOff a_o_now_use r_o_now_use _ h) (cwV 0 hts gX6_labour_X6_sumOfNet rfl rfl rfl (by decide +kernel) ⟨Nat.le_of_ble_eq_true rfl, Nat.le_of_ble_eq_true rfl⟩) (preV hPc hDc hK hN (ci := 6) (q0 := 0) rfl rfl) rfl rfl hl.1 rfl (lv_room (Nat.le_of_ble_eq_true rfl)) dX6_labour_42 ⟨Nat.zero_le _, Nat.zero_le _⟩) hS (fun q _ h => hFc q h) hFc (fun r6 u5 t H1 locs ht hvm h hB hz1 hk1 hS => ?_)
      try dsimp only at h hB
      obtain ⟨hP, hD⟩ := joinU (wd := (w_X6_labour cy a_o a_o_reader a_o_told a_o_clearer a_o_bestOne a_o_looseOne a_o_other a_o_bids a_o_now a_o_spare a_o_now_isTold a_o_now_least a_o_now_gateOff a_o_now_limit a_o_now_value a_o_now_kind a_o_now_most a_o_now_wishOff a_o_now_use r_o_now_use o_bestKnown o_looseKnown u5 o_now_wishes o_now_isTold o_now_gateOff o_now_kind o_now_wishOff o_now_use)) (wr := [(a_o_now_gateOff, .inl (cy 3, 5, .inl o_now_gateOff)), (a_o_now_kind, .inl (cy 1, 4, .inl o_now_kind)), (a_o_now_wishOff, .inl (cy 3, 4, .inl o_now_wishOff))]) hP hD [0, 1, 2, 6, 7, 8, 9, 10] [3, 4, 5] [a_o, a_o_now, a_o_now_isTold, a_o_now_use, r_o_now_use 0, r_o_now_use 1, r_o_now_use 2, r_o_now_use 3] hC hk1 ht hB rfl rfl rfl (N := 11) rfl (by decide) rfl rfl
      generalize H1 = H at hP hS ⊢
      exact hret r6 (u5) _ _ _ _ h hP hD hS dX6_labour_45
    · have h := h.2 c4
      have n_1_1 := c4
      by_cases c7 : x1 = (2 : Int32)
      · have h := h.1 c7
        refine lv_tableIn (off := 45) (tgt := 46) hx hb dX6_labour_1 (by rw [c7]; decide) (by rw [c7]; decide) (by rw [c7]; decide) (by decide) ?_
        refine lv_aload_n hx hb dX6_labour_46 rfl (lv_at hl 0 rfl) ?_
        have hC : ([0, 1, 2, 4] : List Nat).map (fun i => ((w_X6_labour cy a_o a_o_reader a_o_told a_o_clearer a_o_bestOne a_o_looseOne a_o_other a_o_bids a_o_now a_o_spare a_o_now_isTold a_o_now_least a_o_now_gateOff a_o_now_limit a_o_now_value a_o_now_kind a_o_now_most a_o_now_wishOff a_o_now_use r_o_now_use o_bestKnown o_looseKnown o_traced o_now_wishes o_now_isTold o_now_gateOff o_now_kind o_now_wishOff o_now_use) : va_W)[i]?) = ((w_X6_sumOfWhole cy a_o a_o_reader a_o_told a_o_clearer a_o_bestOne a_o_looseOne a_o_other a_o_bids a_o_now a_o_spare a_o_now_isTold a_o_now_least a_o_now_gateOff a_o_now_limit a_o_now_value a_o_now_kind a_o_now_most a_o_now_wishOff a_o_now_use o_bestKnown o_looseKnown o_traced o_now_wishes o_now_isTold o_now_kind) : va_W).map some := rfl
        obtain ⟨hPc, hDc⟩ := cutC hP hD [0, 1, 2, 4] (by decide) hC
        have hFc := va_free hD hS hA [0, 1, 2, 4] hC
        refine va_calli (va_runV (As := []) (rest := []) ⟨hx, hb, hml, hown, hts⟩ (c_X6_sumOfWhole l D cy a_o a_o_reader a_o_told a_o_clearer a_o_bestOne a_o_looseOne a_o_other a_o_bids a_o_now a_o_spare a_o_now_isTold a_o_now_least a_o_now_gateOff a_o_now_limit a_o_now_value a_o_now_kind a_o_now_most a_o_now_wishOff a_o_now_use _ h) (cwV 0 hts gX6_labour_X6_sumOfWhole rfl rfl rfl (by decide +kernel) ⟨Nat.le_of_ble_eq_true rfl, Nat.le_of_ble_eq_true rfl⟩) (preV hPc hDc hK hN (ci := 6) (q0 := 0) rfl rfl) rfl rfl hl.1 rfl (lv_room (Nat.le_of_ble_eq_true rfl)) dX6_labour_47 ⟨Nat.zero_le _, Nat.zero_le _⟩) hS (fun q _ h => hFc q h) hFc (fun r9 u8 t H1 locs ht hvm h hB hz1 hk1 hS => ?_)
        try dsimp only at h hB
        obtain ⟨hP, hD⟩ := joinU (wd := (w_X6_labour cy a_o a_o_reader a_o_told a_o_clearer a_o_bestOne a_o_looseOne a_o_other a_o_bids a_o_now a_o_spare a_o_now_isTold a_o_now_least a_o_now_gateOff a_o_now_limit a_o_now_value a_o_now_kind a_o_now_most a_o_now_wishOff a_o_now_use r_o_now_use o_bestKnown o_looseKnown u8 o_now_wishes o_now_isTold o_now_gateOff o_now_kind o_now_wishOff o_now_use)) (wr := [(a_o_now_gateOff, .inl (cy 3, 5, .inl o_now_gateOff)), (a_o_now_wishOff, .inl (cy 3, 4, .inl o_now_wishOff)), (a_o_now_use, .inl (cy 4, 4, .inr (.inr (.inr (.inr (mref r_o_now_use 4)))))), (r_o_now_use 0, rowI (cy 1) 5 o_now_use 0), (r_o_now_use 1, rowI (cy 1) 5 o_now_use 1), (r_o_now_use 2, rowI (cy 1) 5 o_now_use 2), (r_o_now_use 3, rowI (cy 1) 5 o_now_use 3)]) hP hD [0, 1, 2, 4] [3, 5, 6, 7, 8, 9, 10] [a_o, a_o_now, a_o_now_isTold, a_o_now_kind] hC hk1 ht hB rfl rfl rfl (N := 11) rfl (by decide) rfl rfl
        generalize H1 = H at hP hS ⊢
        exact hret r9 (u8) _ _ _ _ h hP hD hS dX6_labour_50
      · have h := h.2 c7
        have n_1_2 := c7
        by_cases c10 : x1 = (3 : Int32)
        · have h := h.1 c10
          refine lv_tableIn (off := 50) (tgt := 51) hx hb dX6_labour_1 (by rw [c10]; decide) (by rw [c10]; decide) (by rw [c10]; decide) (by decide) ?_
          refine lv_aload_n hx hb dX6_labour_51 rfl (lv_at hl 0 rfl) ?_
          have hC : ([0, 1, 2, 4] : List Nat).map (fun i => ((w_X6_labour cy a_o a_o_reader a_o_told a_o_clearer a_o_bestOne a_o_looseOne a_o_other a_o_bids a_o_now a_o_spare a_o_now_isTold a_o_now_least a_o_now_gateOff a_o_now_limit a_o_now_value a_o_now_kind a_o_now_most a_o_now_wishOff a_o_now_use r_o_now_use o_bestKnown o_looseKnown o_traced o_now_wishes o_now_isTold o_now_gateOff o_now_kind o_now_wishOff o_now_use) : va_W)[i]?) = ((w_X6_sumOfCut cy a_o a_o_reader a_o_told a_o_clearer a_o_bestOne a_o_looseOne a_o_other a_o_bids a_o_now a_o_spare a_o_now_isTold a_o_now_least a_o_now_gateOff a_o_now_limit a_o_now_value a_o_now_kind a_o_now_most a_o_now_wishOff a_o_now_use o_bestKnown o_looseKnown o_traced o_now_wishes o_now_isTold o_now_kind) : va_W).map some := rfl
          obtain ⟨hPc, hDc⟩ := cutC hP hD [0, 1, 2, 4] (by decide) hC
          have hFc := va_free hD hS hA [0, 1, 2, 4] hC
          refine va_calli (va_runV (As := []) (rest := []) ⟨hx, hb, hml, hown, hts⟩ (c_X6_sumOfCut l D cy a_o a_o_reader a_o_told a_o_clearer a_o_bestOne a_o_looseOne a_o_other a_o_bids a_o_now a_o_spare a_o_now_isTold a_o_now_least a_o_now_gateOff a_o_now_limit a_o_now_value a_o_now_kind a_o_now_most a_o_now_wishOff a_o_now_use _ h) (cwV 0 hts gX6_labour_X6_sumOfCut rfl rfl rfl (by decide +kernel) ⟨Nat.le_of_ble_eq_true rfl, Nat.le_of_ble_eq_true rfl⟩) (preV hPc hDc hK hN (ci := 6) (q0 := 0) rfl rfl) rfl rfl hl.1 rfl (lv_room (Nat.le_of_ble_eq_true rfl)) dX6_labour_52 ⟨Nat.zero_le _, Nat.zero_le _⟩) hS (fun q _ h => hFc q h) hFc (fun r12 u11 t H1 locs ht hvm h hB hz1 hk1 hS => ?_)
          try dsimp only at h hB
          obtain ⟨hP, hD⟩ := joinU (wd := (w_X6_labour cy a_o a_o_reader a_o_told a_o_clearer a_o_bestOne a_o_looseOne a_o_other a_o_bids a_o_now a_o_spare a_o_now_isTold a_o_now_least a_o_now_gateOff a_o_now_limit a_o_now_value a_o_now_kind a_o_now_most a_o_now_wishOff a_o_now_use r_o_now_use o_bestKnown o_looseKnown u11 o_now_wishes o_now_isTold o_now_gateOff o_now_kind o_now_wishOff o_now_use)) (wr := [(a_o_now_gateOff, .inl (cy 3, 5, .inl o_now_gateOff)), (a_o_now_wishOff, .inl (cy 3, 4, .inl o_now_wishOff)), (a_o_now_use, .inl (cy 4, 4, .inr (.inr (.inr (.inr (mref r_o_now_use 4)))))), (r_o_now_use 0, rowI (cy 1) 5 o_now_use 0), (r_o_now_use 1, rowI (cy 1) 5 o_now_use 1), (r_o_now_use 2, rowI (cy 1) 5 o_now_use 2), (r_o_now_use 3, rowI (cy 1) 5 o_now_use 3)]) hP hD [0, 1, 2, 4] [3, 5, 6, 7, 8, 9, 10] [a_o, a_o_now, a_o_now_isTold, a_o_now_kind] hC hk1 ht hB rfl rfl rfl (N := 11) rfl (by decide) rfl rfl
          generalize H1 = H at hP hS ⊢
          exact hret r12 (u11) _ _ _ _ h hP hD hS dX6_labour_55
        · have h := h.2 c10
          have n_1_3 := c10
          by_cases c13 : x1 = (4 : Int32)
          · have h := h.1 c13
            refine lv_tableIn (off := 55) (tgt := 56) hx hb dX6_labour_1 (by rw [c13]; decide) (by rw [c13]; decide) (by rw [c13]; decide) (by decide) ?_
            refine lv_aload_n hx hb dX6_labour_56 rfl (lv_at hl 0 rfl) ?_
            have hC : ([0, 1, 2, 3, 5] : List Nat).map (fun i => ((w_X6_labour cy a_o a_o_reader a_o_told a_o_clearer a_o_bestOne a_o_looseOne a_o_other a_o_bids a_o_now a_o_spare a_o_now_isTold a_o_now_least a_o_now_gateOff a_o_now_limit a_o_now_value a_o_now_kind a_o_now_most a_o_now_wishOff a_o_now_use r_o_now_use o_bestKnown o_looseKnown o_traced o_now_wishes o_now_isTold o_now_gateOff o_now_kind o_now_wishOff o_now_use) : va_W)[i]?) = ((w_X6_sumOfChanged cy a_o a_o_reader a_o_told a_o_clearer a_o_bestOne a_o_looseOne a_o_other a_o_bids a_o_now a_o_spare a_o_now_isTold a_o_now_least a_o_now_gateOff a_o_now_limit a_o_now_value a_o_now_kind a_o_now_most a_o_now_wishOff a_o_now_use o_bestKnown o_looseKnown o_traced o_now_wishes o_now_isTold o_now_gateOff o_now_wishOff) : va_W).map some := rfl
            obtain ⟨hPc, hDc⟩ := cutC hP hD [0, 1, 2, 3, 5] (by decide) hC
            have hFc := va_free hD hS hA [0, 1, 2, 3, 5] hC
            refine va_calli (va_runV (As := []) (rest := []) ⟨hx, hb, hml, hown, hts⟩ (c_X6_sumOfChanged l D cy a_o a_o_reader a_o_told a_o_clearer a_o_bestOne a_o_looseOne a_o_other a_o_bids a_o_now a_o_spare a_o_now_isTold a_o_now_least a_o_now_gateOff a_o_now_limit a_o_now_value a_o_now_kind a_o_now_most a_o_now_wishOff a_o_now_use _ h) (cwV 0 hts gX6_labour_X6_sumOfChanged rfl rfl rfl (by decide +kernel) ⟨Nat.le_of_ble_eq_true rfl, Nat.le_of_ble_eq_true rfl⟩) (preV hPc hDc hK hN (ci := 6) (q0 := 0) rfl rfl) rfl rfl hl.1 rfl (lv_room (Nat.le_of_ble_eq_true rfl)) dX6_labour_57 ⟨Nat.zero_le _, Nat.zero_le _⟩) hS (fun q _ h => hFc q h) hFc (fun r15 u14 t H1 locs ht hvm h hB hz1 hk1 hS => ?_)
            try dsimp only at h hB
            obtain ⟨hP, hD⟩ := joinU (wd := (w_X6_labour cy a_o a_o_reader a_o_told a_o_clearer a_o_bestOne a_o_looseOne a_o_other a_o_bids a_o_now a_o_spare a_o_now_isTold a_o_now_least a_o_now_gateOff a_o_now_limit a_o_now_value a_o_now_kind a_o_now_most a_o_now_wishOff a_o_now_use r_o_now_use o_bestKnown o_looseKnown u14 o_now_wishes o_now_isTold o_now_gateOff o_now_kind o_now_wishOff o_now_use)) (wr := [(a_o_now_kind, .inl (cy 1, 4, .inl o_now_kind)), (a_o_now_use, .inl (cy 4, 4, .inr (.inr (.inr (.inr (mref r_o_now_use 4)))))), (r_o_now_use 0, rowI (cy 1) 5 o_now_use 0), (r_o_now_use 1, rowI (cy 1) 5 o_now_use 1), (r_o_now_use 2, rowI (cy 1) 5 o_now_use 2), (r_o_now_use 3, rowI (cy 1) 5 o_now_use 3)]) hP hD [0, 1, 2, 3, 5] [4, 6, 7, 8, 9, 10] [a_o, a_o_now, a_o_now_isTold, a_o_now_gateOff, a_o_now_wishOff] hC hk1 ht hB rfl rfl rfl (N := 11) rfl (by decide) rfl rfl
            generalize H1 = H at hP hS ⊢
            exact hret r15 (u14) _ _ _ _ h hP hD hS dX6_labour_60
          · have h := h.2 c13
            have n_1_4 := c13
            refine lv_tableOut (tgt := 61) hx hb dX6_labour_1 (sw_out5 n_1_0 n_1_1 n_1_2 n_1_3 n_1_4) (by decide) ?_
            refine lv_iconst (v := -1) hx hb dX6_labour_61 (by decide) ?_
            exact hret (-1 : Int32) (o_traced) _ _ _ _ h hP hD hS dX6_labour_62
abbrev w_X6_count (cy : Nat → ClassId) (a_o a_o_reader a_o_told a_o_clearer a_o_bestOne a_o_looseOne a_o_other a_o_bids a_o_now a_o_spare a_o_reader_text a_o_now_isTold a_o_now_least a_o_now_gateOff a_o_now_limit a_o_now_value a_o_now_kind a_o_now_most a_o_now_wishOff a_o_now_use : Nat) (o_bestKnown : Int32) (o_looseKnown : Int32) (o_traced : Int64) (o_reader_length : Int32) (o_reader_at : Int32) (o_reader_start : Int32) (o_reader_token : Int32) (o_reader_number : Int32) (o_now_wishes : Int32) (o_now_isTold : Nat → Int32) (o_now_gateOff : Nat → Int32) (o_now_wishOff : Nat → Int32) : va_W := [(a_o, .inr (6, [.ref a_o_reader, .ref a_o_told, .ref a_o_clearer, .ref a_o_bestOne, .ref a_o_looseOne, .ref a_o_other, .ref a_o_bids, .ref a_o_now, .ref a_o_spare, .int o_bestKnown, .int o_looseKnown, .long o_traced])), (a_o_reader, .inr (3, [.ref a_o_reader_text, .int o_reader_length, .int o_reader_at, .int o_reader_start, .int o_reader_token, .int o_reader_number])), (a_o_now, .inr (4, [.ref a_o_now_isTold, .ref a_o_now_least, .ref a_o_now_gateOff, .ref a_o_now_limit, .ref a_o_now_value, .ref a_o_now_kind, .ref a_o_now_most, .ref a_o_now_wishOff, .ref a_o_now_use, .int o_now_wishes])), (a_o_now_isTold, .inl (cy 3, 5, .inl o_now_isTold)), (a_o_now_gateOff, .inl (cy 3, 5, .inl o_now_gateOff)), (a_o_now_wishOff, .inl (cy 3, 4, .inl o_now_wishOff))]
set_option maxRecDepth 20000 in
theorem ggX6_count_X4_gates : GoodIn wsX6_count wsX4_gates := goodIn_r _ [9, 10, 11, 12, 13, 37, 38, 39, 40, 41, 42, 43, 44, 45, 46] (by decide +kernel) (by decide +kernel)
set_option maxRecDepth 20000 in
theorem ggX6_count_X4_gatesOff : GoodIn wsX6_count wsX4_gatesOff := goodIn_r _ [17, 10, 18, 11, 12, 13, 37, 38, 39, 40, 41, 42, 43, 44, 45, 46] (by decide +kernel) (by decide +kernel)
set_option maxRecDepth 20000 in
theorem ggX6_count_X4_wishesOff : GoodIn wsX6_count wsX4_wishesOff := goodIn_r _ [22, 23, 24, 11, 12, 13, 37, 38, 39, 40, 41, 42, 43, 44, 45, 46] (by decide +kernel) (by decide +kernel)
set_option maxRecDepth 20000 in
theorem gX6_count_X4_gates : GoodIn wsX6_count (wsV RX6 230 RX4 yX4_gates wsX4_gates) := goodIn_app (goodIn_of _ (by decide +kernel)) ggX6_count_X4_gates
set_option maxRecDepth 20000 in
theorem gX6_count_X4_gatesOff : GoodIn wsX6_count (wsV RX6 233 RX4 yX4_gatesOff wsX4_gatesOff) := goodIn_app (goodIn_of _ (by decide +kernel)) ggX6_count_X4_gatesOff
set_option maxRecDepth 20000 in
theorem gX6_count_X4_wishesOff : GoodIn wsX6_count (wsV RX6 236 RX4 yX4_wishesOff wsX4_wishesOff) := goodIn_app (goodIn_of _ (by decide +kernel)) ggX6_count_X4_wishesOff
set_option maxHeartbeats 4000000 in
set_option maxRecDepth 100000 in
theorem c_X6_count (l : Launch) (D : va_G) (cy : Nat → ClassId) (a_o a_o_reader a_o_told a_o_clearer a_o_bestOne a_o_looseOne a_o_other a_o_bids a_o_now a_o_spare a_o_reader_text a_o_now_isTold a_o_now_least a_o_now_gateOff a_o_now_limit a_o_now_value a_o_now_kind a_o_now_most a_o_now_wishOff a_o_now_use : Nat) (sz : Nat)  {o_bestKnown : Int32} {o_looseKnown : Int32} {o_traced : Int64} {o_reader_length : Int32} {o_reader_at : Int32} {o_reader_start : Int32} {o_reader_token : Int32} {o_reader_number : Int32} {o_now_wishes : Int32} {o_now_isTold : Nat → Int32} {o_now_gateOff : Nat → Int32} {o_now_wishOff : Nat → Int32} {x1 : Int32} {post : Int32 → Prop} (h : wp_X6_count o_reader_length o_now_wishes o_now_isTold o_now_gateOff o_now_wishOff x1 post) : Met l yX6_count wsX6_count ({ frames := 2, cells := 0, slots := 0, locals := 42 }) (va_Pc [.ref a_o, .int x1] (wI D cy sz (w_X6_count cy a_o a_o_reader a_o_told a_o_clearer a_o_bestOne a_o_looseOne a_o_other a_o_bids a_o_now a_o_spare a_o_reader_text a_o_now_isTold a_o_now_least a_o_now_gateOff a_o_now_limit a_o_now_value a_o_now_kind a_o_now_most a_o_now_wishOff a_o_now_use o_bestKnown o_looseKnown o_traced o_reader_length o_reader_at o_reader_start o_reader_token o_reader_number o_now_wishes o_now_isTold o_now_gateOff o_now_wishOff))) (va_Qi (fun (r : Int32) (u : Unit) => post r ) (fun (u : Unit) t => wO D cy (va_A (w_X6_count cy a_o a_o_reader a_o_told a_o_clearer a_o_bestOne a_o_looseOne a_o_other a_o_bids a_o_now a_o_spare a_o_reader_text a_o_now_isTold a_o_now_least a_o_now_gateOff a_o_now_limit a_o_now_value a_o_now_kind a_o_now_most a_o_now_wishOff a_o_now_use o_bestKnown o_looseKnown o_traced o_reader_length o_reader_at o_reader_start o_reader_token o_reader_number o_now_wishes o_now_isTold o_now_gateOff o_now_wishOff) sz) (w_X6_count cy a_o a_o_reader a_o_told a_o_clearer a_o_bestOne a_o_looseOne a_o_other a_o_bids a_o_now a_o_spare a_o_reader_text a_o_now_isTold a_o_now_least a_o_now_gateOff a_o_now_limit a_o_now_value a_o_now_kind a_o_now_most a_o_now_wishOff a_o_now_use o_bestKnown o_looseKnown o_traced o_reader_length o_reader_at o_reader_start o_reader_token o_reader_number o_now_wishes o_now_isTold o_now_gateOff o_now_wishOff) t) (va_A (w_X6_count cy a_o a_o_reader a_o_told a_o_clearer a_o_bestOne a_o_looseOne a_o_other a_o_bids a_o_now a_o_spare a_o_reader_text a_o_now_isTold a_o_now_least a_o_now_gateOff a_o_now_limit a_o_now_value a_o_now_kind a_o_now_most a_o_now_wishOff a_o_now_use o_bestKnown o_looseKnown o_traced o_reader_length o_reader_at o_reader_start o_reader_token o_reader_number o_now_wishes o_now_isTold o_now_gateOff o_now_wishOff) sz)) 0 0 (va_A (w_X6_count cy a_o a_o_reader a_o_told a_o_clearer a_o_bestOne a_o_looseOne a_o_other a_o_bids a_o_now a_o_spare a_o_reader_text a_o_now_isTold a_o_now_least a_o_now_gateOff a_o_now_limit a_o_now_value a_o_now_kind a_o_now_most a_o_now_wishOff a_o_now_use o_bestKnown o_looseKnown o_traced o_reader_length o_reader_at o_reader_start o_reader_token o_reader_number o_now_wishes o_now_isTold o_now_gateOff o_now_wishOff) sz) := by
  refine contrI (S := Unit) (post := fun (r : Int32) (u : Unit) => post r ) (wOut := fun (u : Unit) => (w_X6_count cy a_o a_o_reader a_o_told a_o_clearer a_o_bestOne a_o_looseOne a_o_other a_o_bids a_o_now a_o_spare a_o_reader_text a_o_now_isTold a_o_now_least a_o_now_gateOff a_o_now_limit a_o_now_value a_o_now_kind a_o_now_most a_o_now_wishOff a_o_now_use o_bestKnown o_looseKnown o_traced o_reader_length o_reader_at o_reader_start o_reader_token o_reader_number o_now_wishes o_now_isTold o_now_gateOff o_now_wishOff)) (cc := cX6_count) (maxL := 2) (own := RX6) (by decide +kernel) rfl rfl ?_
  intro p e s m args below meth c A Q hx hb hml hown hts hK hN hP hD hS hA hret
  have in_X6 : ∀ w ∈ u_ws RX6 TX6 12, w ∈ wsX6_count := by decide +kernel
  have fl_53 := hts (.fieldLink RX6 53 "DawnTable" "now" "LDawnTable$Table;") (by decide +kernel)
  have in_X4 : ∀ w ∈ u_ws RX4 TX4 10, w ∈ wsX6_count := by decide +kernel
  have fl_212 := hts (.fieldLink RX6 212 "DawnTable$Table" "wishes" "I") (by decide +kernel)
  have fl_10 := hts (.fieldLink RX6 10 "DawnTable" "reader" "LDawnTable$Reader;") (by decide +kernel)
  have in_X3 : ∀ w ∈ u_ws RX3 TX3 6, w ∈ wsX6_count := by decide +kernel
  have fl_75 := hts (.fieldLink RX6 75 "DawnTable$Reader" "length" "I") (by decide +kernel)
  refine ent [.ref a_o, .int x1] (Nat.le_of_ble_eq_true rfl) (fun ls hl => ?_)
  have hl : lv_has ls 2 [(0, .ref a_o), (1, .int x1)] := hl
  unfold wp_X6_count at h
  refine lv_iload_n hx hb dX6_count_0 rfl (lv_at hl 1 rfl) ?_
  by_cases c1 : x1 = (0 : Int32)
  · have h := h.1 c1
    refine lv_tableIn (off := 35) (tgt := 36) hx hb dX6_count_1 (by rw [c1]; decide) (by rw [c1]; decide) (by rw [c1]; decide) (by decide) ?_
    refine lv_aload_n hx hb dX6_count_36 rfl (lv_at hl 0 rfl) ?_
    refine va_get (D := D) (ci := 6) (v := .ref a_o_now) (C := RX6) (T := TX6) (N := 12) hx hb hts in_X6 hown hK hP 0 rfl rfl 7 (by decide) fl_53 (fun _ h9 => h9) rfl dX6_count_37 ?_
    have hC : ([2, 3] : List Nat).map (fun i => ((w_X6_count cy a_o a_o_reader a_o_told a_o_clearer a_o_bestOne a_o_looseOne a_o_other a_o_bids a_o_now a_o_spare a_o_reader_text a_o_now_isTold a_o_now_least a_o_now_gateOff a_o_now_limit a_o_now_value a_o_now_kind a_o_now_most a_o_now_wishOff a_o_now_use o_bestKnown o_looseKnown o_traced o_reader_length o_reader_at o_reader_start o_reader_token o_reader_number o_now_wishes o_now_isTold o_now_gateOff o_now_wishOff) : va_W)[i]?) = ((w_X4_gates cy a_o_now a_o_now_isTold a_o_now_least a_o_now_gateOff a_o_now_limit a_o_now_value a_o_now_kind a_o_now_most a_o_now_wishOff a_o_now_use o_now_wishes o_now_isTold) : va_W).map some := rfl
    obtain ⟨hPc, hDc⟩ := cutC hP hD [2, 3] (by decide) hC
    have hFc := va_free hD hS hA [2, 3] hC
    refine va_calli (va_runV (As := []) (rest := []) ⟨hx, hb, hml, hown, hts⟩ (c_X4_gates l D cy a_o_now a_o_now_isTold a_o_now_least a_o_now_gateOff a_o_now_limit a_o_now_value a_o_now_kind a_o_now_most a_o_now_wishOff a_o_now_use _ h) (cwV 0 hts gX6_count_X4_gates rfl rfl rfl (by decide +kernel) ⟨Nat.le_of_ble_eq_true rfl, Nat.le_of_ble_eq_true rfl⟩) (preV hPc hDc hK hN (ci := 4) (q0 := 0) rfl rfl) rfl rfl hl.1 rfl (lv_room (Nat.le_of_ble_eq_true rfl)) dX6_count_40 ⟨Nat.zero_le _, Nat.zero_le _⟩) hS (fun q _ h => hFc q h) hFc (fun r2 u t H1 locs ht hvm h hB hz1 hk1 hS => ?_)
    try dsimp only at h hB
    obtain ⟨hP, hD⟩ := joinU (wd := (w_X6_count cy a_o a_o_reader a_o_told a_o_clearer a_o_bestOne a_o_looseOne a_o_other a_o_bids a_o_now a_o_spare a_o_reader_text a_o_now_isTold a_o_now_least a_o_now_gateOff a_o_now_limit a_o_now_value a_o_now_kind a_o_now_most a_o_now_wishOff a_o_now_use o_bestKnown o_looseKnown o_traced o_reader_length o_reader_at o_reader_start o_reader_token o_reader_number o_now_wishes o_now_isTold o_now_gateOff o_now_wishOff)) (wr := [(a_o, .inr (6, [.ref a_o_reader, .ref a_o_told, .ref a_o_clearer, .ref a_o_bestOne, .ref a_o_looseOne, .ref a_o_other, .ref a_o_bids, .ref a_o_now, .ref a_o_spare, .int o_bestKnown, .int o_looseKnown, .long o_traced])), (a_o_reader, .inr (3, [.ref a_o_reader_text, .int o_reader_length, .int o_reader_at, .int o_reader_start, .int o_reader_token, .int o_reader_number])), (a_o_now_gateOff, .inl (cy 3, 5, .inl o_now_gateOff)), (a_o_now_wishOff, .inl (cy 3, 4, .inl o_now_wishOff))]) hP hD [2, 3] [0, 1, 4, 5] [a_o_now, a_o_now_isTold] hC hk1 ht hB rfl rfl rfl (N := 6) rfl (by decide) rfl rfl
    generalize H1 = H at hP hS ⊢
    exact hret r2 () _ _ _ _ h hP hD hS dX6_count_43
  · have h := h.2 c1
    have n_1_0 := c1
    by_cases c3 : x1 = (1 : Int32)
    · have h := h.1 c3
      refine lv_tableIn (off := 43) (tgt := 44) hx hb dX6_count_1 (by rw [c3]; decide) (by rw [c3]; decide) (by rw [c3]; decide) (by decide) ?_
      refine lv_aload_n hx hb dX6_count_44 rfl (lv_at hl 0 rfl) ?_
      refine va_get (D := D) (ci := 6) (v := .ref a_o_now) (C := RX6) (T := TX6) (N := 12) hx hb hts in_X6 hown hK hP 0 rfl rfl 7 (by decide) fl_53 (fun _ h9 => h9) rfl dX6_count_45 ?_
      refine va_get (D := D) (ci := 4) (v := .int o_now_wishes) (C := RX4) (T := TX4) (N := 10) hx hb hts in_X4 hown hK hP 2 rfl rfl 9 (by decide) fl_212 (fun _ h9 => h9) rfl dX6_count_48 ?_
      exact hret o_now_wishes () _ _ _ _ h hP hD hS dX6_count_51
    · have h := h.2 c3
      have n_1_1 := c3
      by_cases c4 : x1 = (2 : Int32)
      · have h := h.1 c4
        refine lv_tableIn (off := 51) (tgt := 52) hx hb dX6_count_1 (by rw [c4]; decide) (by rw [c4]; decide) (by rw [c4]; decide) (by decide) ?_
        refine lv_aload_n hx hb dX6_count_52 rfl (lv_at hl 0 rfl) ?_
        refine va_get (D := D) (ci := 6) (v := .ref a_o_now) (C := RX6) (T := TX6) (N := 12) hx hb hts in_X6 hown hK hP 0 rfl rfl 7 (by decide) fl_53 (fun _ h9 => h9) rfl dX6_count_53 ?_
        have hC : ([2, 3, 4] : List Nat).map (fun i => ((w_X6_count cy a_o a_o_reader a_o_told a_o_clearer a_o_bestOne a_o_looseOne a_o_other a_o_bids a_o_now a_o_spare a_o_reader_text a_o_now_isTold a_o_now_least a_o_now_gateOff a_o_now_limit a_o_now_value a_o_now_kind a_o_now_most a_o_now_wishOff a_o_now_use o_bestKnown o_looseKnown o_traced o_reader_length o_reader_at o_reader_start o_reader_token o_reader_number o_now_wishes o_now_isTold o_now_gateOff o_now_wishOff) : va_W)[i]?) = ((w_X4_gatesOff cy a_o_now a_o_now_isTold a_o_now_least a_o_now_gateOff a_o_now_limit a_o_now_value a_o_now_kind a_o_now_most a_o_now_wishOff a_o_now_use o_now_wishes o_now_isTold o_now_gateOff) : va_W).map some := rfl
        obtain ⟨hPc, hDc⟩ := cutC hP hD [2, 3, 4] (by decide) hC
        have hFc := va_free hD hS hA [2, 3, 4] hC
        refine va_calli (va_runV (As := []) (rest := []) ⟨hx, hb, hml, hown, hts⟩ (c_X4_gatesOff l D cy a_o_now a_o_now_isTold a_o_now_least a_o_now_gateOff a_o_now_limit a_o_now_value a_o_now_kind a_o_now_most a_o_now_wishOff a_o_now_use _ h) (cwV 0 hts gX6_count_X4_gatesOff rfl rfl rfl (by decide +kernel) ⟨Nat.le_of_ble_eq_true rfl, Nat.le_of_ble_eq_true rfl⟩) (preV hPc hDc hK hN (ci := 4) (q0 := 0) rfl rfl) rfl rfl hl.1 rfl (lv_room (Nat.le_of_ble_eq_true rfl)) dX6_count_56 ⟨Nat.zero_le _, Nat.zero_le _⟩) hS (fun q _ h => hFc q h) hFc (fun r5 u t H1 locs ht hvm h hB hz1 hk1 hS => ?_)
        try dsimp only at h hB
        obtain ⟨hP, hD⟩ := joinU (wd := (w_X6_count cy a_o a_o_reader a_o_told a_o_clearer a_o_bestOne a_o_looseOne a_o_other a_o_bids a_o_now a_o_spare a_o_reader_text a_o_now_isTold a_o_now_least a_o_now_gateOff a_o_now_limit a_o_now_value a_o_now_kind a_o_now_most a_o_now_wishOff a_o_now_use o_bestKnown o_looseKnown o_traced o_reader_length o_reader_at o_reader_start o_reader_token o_reader_number o_now_wishes o_now_isTold o_now_gateOff o_now_wishOff)) (wr := [(a_o, .inr (6, [.ref a_o_reader, .ref a_o_told, .ref a_o_clearer, .ref a_o_bestOne, .ref a_o_looseOne, .ref a_o_other, .ref a_o_bids, .ref a_o_now, .ref a_o_spare, .int o_bestKnown, .int o_looseKnown, .long o_traced])), (a_o_reader, .inr (3, [.ref a_o_reader_text, .int o_reader_length, .int o_reader_at, .int o_reader_start, .int o_reader_token, .int o_reader_number])), (a_o_now_wishOff, .inl (cy 3, 4, .inl o_now_wishOff))]) hP hD [2, 3, 4] [0, 1, 5] [a_o_now, a_o_now_isTold, a_o_now_gateOff] hC hk1 ht hB rfl rfl rfl (N := 6) rfl (by decide) rfl rfl
        generalize H1 = H at hP hS ⊢
        exact hret r5 () _ _ _ _ h hP hD hS dX6_count_59
      · have h := h.2 c4
        have n_1_2 := c4
        by_cases c6 : x1 = (3 : Int32)
        · have h := h.1 c6
          refine lv_tableIn (off := 59) (tgt := 60) hx hb dX6_count_1 (by rw [c6]; decide) (by rw [c6]; decide) (by rw [c6]; decide) (by decide) ?_
          refine lv_aload_n hx hb dX6_count_60 rfl (lv_at hl 0 rfl) ?_
          refine va_get (D := D) (ci := 6) (v := .ref a_o_now) (C := RX6) (T := TX6) (N := 12) hx hb hts in_X6 hown hK hP 0 rfl rfl 7 (by decide) fl_53 (fun _ h9 => h9) rfl dX6_count_61 ?_
          have hC : ([2, 5] : List Nat).map (fun i => ((w_X6_count cy a_o a_o_reader a_o_told a_o_clearer a_o_bestOne a_o_looseOne a_o_other a_o_bids a_o_now a_o_spare a_o_reader_text a_o_now_isTold a_o_now_least a_o_now_gateOff a_o_now_limit a_o_now_value a_o_now_kind a_o_now_most a_o_now_wishOff a_o_now_use o_bestKnown o_looseKnown o_traced o_reader_length o_reader_at o_reader_start o_reader_token o_reader_number o_now_wishes o_now_isTold o_now_gateOff o_now_wishOff) : va_W)[i]?) = ((w_X4_wishesOff cy a_o_now a_o_now_isTold a_o_now_least a_o_now_gateOff a_o_now_limit a_o_now_value a_o_now_kind a_o_now_most a_o_now_wishOff a_o_now_use o_now_wishes o_now_wishOff) : va_W).map some := rfl
          obtain ⟨hPc, hDc⟩ := cutC hP hD [2, 5] (by decide) hC
          have hFc := va_free hD hS hA [2, 5] hC
          refine va_calli (va_runV (As := []) (rest := []) ⟨hx, hb, hml, hown, hts⟩ (c_X4_wishesOff l D cy a_o_now a_o_now_isTold a_o_now_least a_o_now_gateOff a_o_now_limit a_o_now_value a_o_now_kind a_o_now_most a_o_now_wishOff a_o_now_use _ h) (cwV 0 hts gX6_count_X4_wishesOff rfl rfl rfl (by decide +kernel) ⟨Nat.le_of_ble_eq_true rfl, Nat.le_of_ble_eq_true rfl⟩) (preV hPc hDc hK hN (ci := 4) (q0 := 0) rfl rfl) rfl rfl hl.1 rfl (lv_room (Nat.le_of_ble_eq_true rfl)) dX6_count_64 ⟨Nat.zero_le _, Nat.zero_le _⟩) hS (fun q _ h => hFc q h) hFc (fun r7 u t H1 locs ht hvm h hB hz1 hk1 hS => ?_)
          try dsimp only at h hB
          obtain ⟨hP, hD⟩ := joinU (wd := (w_X6_count cy a_o a_o_reader a_o_told a_o_clearer a_o_bestOne a_o_looseOne a_o_other a_o_bids a_o_now a_o_spare a_o_reader_text a_o_now_isTold a_o_now_least a_o_now_gateOff a_o_now_limit a_o_now_value a_o_now_kind a_o_now_most a_o_now_wishOff a_o_now_use o_bestKnown o_looseKnown o_traced o_reader_length o_reader_at o_reader_start o_reader_token o_reader_number o_now_wishes o_now_isTold o_now_gateOff o_now_wishOff)) (wr := [(a_o, .inr (6, [.ref a_o_reader, .ref a_o_told, .ref a_o_clearer, .ref a_o_bestOne, .ref a_o_looseOne, .ref a_o_other, .ref a_o_bids, .ref a_o_now, .ref a_o_spare, .int o_bestKnown, .int o_looseKnown, .long o_traced])), (a_o_reader, .inr (3, [.ref a_o_reader_text, .int o_reader_length, .int o_reader_at, .int o_reader_start, .int o_reader_token, .int o_reader_number])), (a_o_now_isTold, .inl (cy 3, 5, .inl o_now_isTold)), (a_o_now_gateOff, .inl (cy 3, 5, .inl o_now_gateOff))]) hP hD [2, 5] [0, 1, 3, 4] [a_o_now, a_o_now_wishOff] hC hk1 ht hB rfl rfl rfl (N := 6) rfl (by decide) rfl rfl
          generalize H1 = H at hP hS ⊢
          exact hret r7 () _ _ _ _ h hP hD hS dX6_count_67
        · have h := h.2 c6
          have n_1_3 := c6
          by_cases c8 : x1 = (4 : Int32)
          · have h := h.1 c8
            refine lv_tableIn (off := 67) (tgt := 68) hx hb dX6_count_1 (by rw [c8]; decide) (by rw [c8]; decide) (by rw [c8]; decide) (by decide) ?_
            refine lv_aload_n hx hb dX6_count_68 rfl (lv_at hl 0 rfl) ?_
            refine va_get (D := D) (ci := 6) (v := .ref a_o_reader) (C := RX6) (T := TX6) (N := 12) hx hb hts in_X6 hown hK hP 0 rfl rfl 0 (by decide) fl_10 (fun _ h9 => h9) rfl dX6_count_69 ?_
            refine va_get (D := D) (ci := 3) (v := .int o_reader_length) (C := RX3) (T := TX3) (N := 6) hx hb hts in_X3 hown hK hP 1 rfl rfl 1 (by decide) fl_75 (fun _ h9 => h9) rfl dX6_count_72 ?_
            exact hret o_reader_length () _ _ _ _ h hP hD hS dX6_count_75
          · have h := h.2 c8
            have n_1_4 := c8
            refine lv_tableOut (tgt := 76) hx hb dX6_count_1 (sw_out5 n_1_0 n_1_1 n_1_2 n_1_3 n_1_4) (by decide) ?_
            refine lv_iconst (v := -1) hx hb dX6_count_76 (by decide) ?_
            exact hret (-1 : Int32) () _ _ _ _ h hP hD hS dX6_count_77
abbrev w_X6_trace (cy : Nat → ClassId) (a_o a_o_reader a_o_told a_o_clearer a_o_bestOne a_o_looseOne a_o_other a_o_bids a_o_now a_o_spare : Nat) (o_bestKnown : Int32) (o_looseKnown : Int32) (o_traced : Int64) : va_W := [(a_o, .inr (6, [.ref a_o_reader, .ref a_o_told, .ref a_o_clearer, .ref a_o_bestOne, .ref a_o_looseOne, .ref a_o_other, .ref a_o_bids, .ref a_o_now, .ref a_o_spare, .int o_bestKnown, .int o_looseKnown, .long o_traced]))]
set_option maxHeartbeats 4000000 in
set_option maxRecDepth 100000 in
theorem c_X6_trace (l : Launch) (D : va_G) (cy : Nat → ClassId) (a_o a_o_reader a_o_told a_o_clearer a_o_bestOne a_o_looseOne a_o_other a_o_bids a_o_now a_o_spare : Nat) (sz : Nat)  {o_bestKnown : Int32} {o_looseKnown : Int32} {o_traced : Int64}  {post : Int64 → Prop} (h : wp_X6_trace o_traced post) : Met l yX6_trace wsX6_trace ({ frames := 0, cells := 0, slots := 0, locals := 0 }) (va_Pc [.ref a_o] (wI D cy sz (w_X6_trace cy a_o a_o_reader a_o_told a_o_clearer a_o_bestOne a_o_looseOne a_o_other a_o_bids a_o_now a_o_spare o_bestKnown o_looseKnown o_traced))) (va_Ql (fun (r : Int64) (u : Unit) => post r ) (fun (u : Unit) t => wO D cy (va_A (w_X6_trace cy a_o a_o_reader a_o_told a_o_clearer a_o_bestOne a_o_looseOne a_o_other a_o_bids a_o_now a_o_spare o_bestKnown o_looseKnown o_traced) sz) (w_X6_trace cy a_o a_o_reader a_o_told a_o_clearer a_o_bestOne a_o_looseOne a_o_other a_o_bids a_o_now a_o_spare o_bestKnown o_looseKnown o_traced) t) (va_A (w_X6_trace cy a_o a_o_reader a_o_told a_o_clearer a_o_bestOne a_o_looseOne a_o_other a_o_bids a_o_now a_o_spare o_bestKnown o_looseKnown o_traced) sz)) 0 0 (va_A (w_X6_trace cy a_o a_o_reader a_o_told a_o_clearer a_o_bestOne a_o_looseOne a_o_other a_o_bids a_o_now a_o_spare o_bestKnown o_looseKnown o_traced) sz) := by
  refine contrL (S := Unit) (post := fun (r : Int64) (u : Unit) => post r ) (wOut := fun (u : Unit) => (w_X6_trace cy a_o a_o_reader a_o_told a_o_clearer a_o_bestOne a_o_looseOne a_o_other a_o_bids a_o_now a_o_spare o_bestKnown o_looseKnown o_traced)) (cc := cX6_trace) (maxL := 1) (own := RX6) (by decide +kernel) rfl rfl ?_
  intro p e s m args below meth c A Q hx hb hml hown hts hK hN hP hD hS hA hret
  have in_X6 : ∀ w ∈ u_ws RX6 TX6 12, w ∈ wsX6_trace := by decide +kernel
  have fl_67 := hts (.fieldLink RX6 67 "DawnTable" "traced" "J") (by decide +kernel)
  refine ent [.ref a_o] (Nat.le_of_ble_eq_true rfl) (fun ls hl => ?_)
  have hl : lv_has ls 1 [(0, .ref a_o)] := hl
  unfold wp_X6_trace at h
  refine lv_aload_n hx hb dX6_trace_0 rfl (lv_at hl 0 rfl) ?_
  refine va_get (D := D) (ci := 6) (v := .long o_traced) (C := RX6) (T := TX6) (N := 12) hx hb hts in_X6 hown hK hP 0 rfl rfl 11 (by decide) fl_67 (fun _ h9 => h9) rfl dX6_trace_1 ?_
  exact hret o_traced () _ _ _ _ h hP hD hS dX6_trace_4
