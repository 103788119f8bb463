abbrev w_X5_forget (cy : Nat → ClassId) (a_o a_o_x a_o_price : Nat) (o_x : Nat → Int64) (o_price : Nat → Int64) : va_W := [(a_o, .inr (5, [.ref a_o_x, .ref a_o_price])), (a_o_x, .inl (cy 2, 4, .inr (.inl o_x))), (a_o_price, .inl (cy 2, 5, .inr (.inl o_price)))]
set_option maxRecDepth 20000 in
theorem ggX5_forget_J7_fill_d0a16 : GoodIn wsX5_forget wsJ7_fill_d0a16 := goodIn_r _ [6] (by decide +kernel) (by decide +kernel)
set_option maxRecDepth 20000 in
theorem gX5_forget_J7_fill_d0a16 : GoodIn wsX5_forget (va_wsS RX5 18 yJ7_fill_d0a16 wsJ7_fill_d0a16) := goodIn_app (goodIn_of _ (by decide +kernel)) ggX5_forget_J7_fill_d0a16
set_option maxHeartbeats 4000000 in
set_option maxRecDepth 100000 in
theorem c_X5_forget (l : Launch) (D : va_G) (cy : Nat → ClassId) (a_o a_o_x a_o_price : Nat) (sz : Nat)  {o_x : Nat → Int64} {o_price : Nat → Int64}  {post : (Nat → Int64) → (Nat → Int64) → Prop} (h : wp_X5_forget o_x o_price post) : Met l yX5_forget wsX5_forget ({ frames := 1, cells := 0, slots := 0, locals := 24 }) (va_Pc [.ref a_o] (wI D cy sz (w_X5_forget cy a_o a_o_x a_o_price o_x o_price))) (va_Qv (fun (u : (Nat → Int64) × (Nat → Int64)) => post u.1 u.2) (fun (u : (Nat → Int64) × (Nat → Int64)) t => wO D cy (va_A (w_X5_forget cy a_o a_o_x a_o_price o_x o_price) sz) (w_X5_forget cy a_o a_o_x a_o_price u.1 u.2) t) (va_A (w_X5_forget cy a_o a_o_x a_o_price o_x o_price) sz)) 0 0 (va_A (w_X5_forget cy a_o a_o_x a_o_price o_x o_price) sz) := by
  refine contrV (S := (Nat → Int64) × (Nat → Int64)) (post := fun (u : (Nat → Int64) × (Nat → Int64)) => post u.1 u.2) (wOut := fun (u : (Nat → Int64) × (Nat → Int64)) => (w_X5_forget cy a_o a_o_x a_o_price u.1 u.2)) (cc := cX5_forget) (maxL := 1) (own := RX5) (by decide +kernel) rfl rfl ?_
  intro p e s m args below meth c A Q hx hb hml hown hts hK hN hP hD hS hA hret
  have in_X5 : ∀ w ∈ u_ws RX5 TX5 2, w ∈ wsX5_forget := by decide +kernel
  have fl_9 := hts (.fieldLink RX5 9 "DawnTable$Told" "x" "[J") (by decide +kernel)
  have fl_15 := hts (.fieldLink RX5 15 "DawnTable$Told" "price" "[J") (by decide +kernel)
  refine ent [.ref a_o] (Nat.le_of_ble_eq_true rfl) (fun ls hl => ?_)
  have hl : lv_has ls 1 [(0, .ref a_o)] := hl
  unfold wp_X5_forget at h
  refine lv_aload_n hx hb dX5_forget_0 rfl (lv_at hl 0 rfl) ?_
  refine va_get (D := D) (ci := 5) (v := .ref a_o_x) (C := RX5) (T := TX5) (N := 2) hx hb hts in_X5 hown hK hP 0 rfl rfl 0 (by decide) fl_9 (fun _ h9 => h9) rfl dX5_forget_1 ?_
  refine lv_lconst (v := 0) hx hb dX5_forget_4 (by decide) ?_
  have hC : ([1] : List Nat).map (fun i => ((w_X5_forget cy a_o a_o_x a_o_price o_x o_price) : va_W)[i]?) = ((w_J7_fill_d0a16 cy a_o_x 4 o_x) : va_W).map some := rfl
  obtain ⟨hPc, hDc⟩ := cutC hP hD [1] (by decide) hC
  have hFc := va_free hD hS hA [1] hC
  refine va_callv (va_runS (As := [.ref a_o_x, .long (0 : Int64)]) (rest := []) ⟨hx, hb, hml, hown, hts⟩ (c_J7_fill_d0a16 l D cy a_o_x 4 _ h) (va_cwS 2 hts gX5_forget_J7_fill_d0a16 rfl rfl rfl (by decide +kernel) ⟨Nat.le_of_ble_eq_true rfl, Nat.le_of_ble_eq_true rfl⟩) (preS hPc hDc hK hN) rfl rfl hl.1 rfl (lv_room (Nat.le_of_ble_eq_true rfl)) dX5_forget_5 ⟨Nat.zero_le _, Nat.zero_le _⟩) hS (fun q _ h => hFc q h) hFc (fun u1 t H1 locs ht hvm h hB hz1 hk1 hS => ?_)
  try dsimp only at h hB
  obtain ⟨hP, hD⟩ := joinU (wd := (w_X5_forget cy a_o a_o_x a_o_price u1 o_price)) (wr := [(a_o, .inr (5, [.ref a_o_x, .ref a_o_price])), (a_o_price, .inl (cy 2, 5, .inr (.inl o_price)))]) hP hD [1] [0, 2] [a_o_x] hC hk1 ht hB rfl rfl rfl (N := 3) rfl (by decide) rfl rfl
  generalize H1 = H at hP hS ⊢
  refine lv_aload_n hx hb dX5_forget_8 rfl (lv_at hl 0 rfl) ?_
  refine va_get (D := D) (ci := 5) (v := .ref a_o_price) (C := RX5) (T := TX5) (N := 2) hx hb hts in_X5 hown hK hP 0 rfl rfl 1 (by decide) fl_15 (fun _ h9 => h9) rfl dX5_forget_9 ?_
  refine lv_lconst (v := 0) hx hb dX5_forget_12 (by decide) ?_
  have hC : ([2] : List Nat).map (fun i => ((w_X5_forget cy a_o a_o_x a_o_price u1 o_price) : va_W)[i]?) = ((w_J7_fill_d0a16 cy a_o_price 5 o_price) : va_W).map some := rfl
  obtain ⟨hPc, hDc⟩ := cutC hP hD [2] (by decide) hC
  have hFc := va_free hD hS hA [2] hC
  refine va_callv (va_runS (As := [.ref a_o_price, .long (0 : Int64)]) (rest := []) ⟨hx, hb, hml, hown, hts⟩ (c_J7_fill_d0a16 l D cy a_o_price 5 _ h) (va_cwS 2 hts gX5_forget_J7_fill_d0a16 rfl rfl rfl (by decide +kernel) ⟨Nat.le_of_ble_eq_true rfl, Nat.le_of_ble_eq_true rfl⟩) (preS hPc hDc hK hN) rfl rfl hl.1 rfl (lv_room (Nat.le_of_ble_eq_true rfl)) dX5_forget_13 ⟨Nat.zero_le _, Nat.zero_le _⟩) hS (fun q _ h => hFc q h) hFc (fun u2 t H1 locs ht hvm h hB hz1 hk1 hS => ?_)
  try dsimp only at h hB
  obtain ⟨hP, hD⟩ := joinU (wd := (w_X5_forget cy a_o a_o_x a_o_price u1 u2)) (wr := [(a_o, .inr (5, [.ref a_o_x, .ref a_o_price])), (a_o_x, .inl (cy 2, 4, .inr (.inl u1)))]) hP hD [2] [0, 1] [a_o_price] hC hk1 ht hB rfl rfl rfl (N := 3) rfl (by decide) rfl rfl
  generalize H1 = H at hP hS ⊢
  exact hret (u1, u2) _ _ _ _ h hP hD hS dX5_forget_16
abbrev w_X5_canTell (cy : Nat → ClassId)  : va_W := []
set_option maxHeartbeats 4000000 in
set_option maxRecDepth 100000 in
theorem c_X5_canTell (l : Launch) (D : va_G) (cy : Nat → ClassId) (sz : Nat)   {x0 : Int32} {x1 : Int32} {post : Int32 → Prop} (h : wp_X5_canTell x0 x1 post) : Met l yX5_canTell wsX5_canTell ({ frames := 0, cells := 0, slots := 0, locals := 0 }) (va_Pc [.int x0, .int x1] (wI D cy sz (w_X5_canTell cy ))) (va_Qi (fun (r : Int32) (u : Unit) => post r ) (fun (u : Unit) t => wO D cy (va_A (w_X5_canTell cy ) sz) (w_X5_canTell cy ) t) (va_A (w_X5_canTell cy ) sz)) 0 0 (va_A (w_X5_canTell cy ) sz) := by
  refine contrZ (S := Unit) (post := fun (r : Int32) (u : Unit) => post r ) (wOut := fun (u : Unit) => (w_X5_canTell cy )) (cc := cX5_canTell) (maxL := 2) (own := RX5) (by decide +kernel) rfl rfl ?_
  intro p e s m args below meth c A Q hx hb hml hown hts hK hN hP hD hS hA hret
  refine ent [.int x0, .int x1] (Nat.le_of_ble_eq_true rfl) (fun ls hl => ?_)
  have hl : lv_has ls 2 [(0, .int x0), (1, .int x1)] := hl
  unfold wp_X5_canTell at h
  refine lv_iload_n hx hb dX5_canTell_0 rfl (lv_at hl 0 rfl) ?_
  refine lv_sipush (v := -999) hx hb dX5_canTell_1 (by decide) ?_
  refine lv_icmp_lt (tgt := 29) hx hb dX5_canTell_4 (by decide) (fun c1 => ?_) (fun c1 => ?_)
  · have h := h.1 c1
    refine lv_iconst (v := 0) hx hb dX5_canTell_29 (by decide) ?_
    exact hret (0 : Int32) () _ _ _ _ rfl h hP hD hS dX5_canTell_30
  · have h := h.2 c1
    refine lv_iload_n hx hb dX5_canTell_7 rfl (lv_at hl 0 rfl) ?_
    refine lv_sipush (v := 999) hx hb dX5_canTell_8 (by decide) ?_
    refine lv_icmp_gt (tgt := 29) hx hb dX5_canTell_11 (by decide) (fun c2 => ?_) (fun c2 => ?_)
    · have h := h.1 c2
      refine lv_iconst (v := 0) hx hb dX5_canTell_29 (by decide) ?_
      exact hret (0 : Int32) () _ _ _ _ rfl h hP hD hS dX5_canTell_30
    · have h := h.2 c2
      refine lv_iload_n hx hb dX5_canTell_14 rfl (lv_at hl 1 rfl) ?_
      refine lv_iconst (v := 1) hx hb dX5_canTell_15 (by decide) ?_
      refine lv_icmp_lt (tgt := 29) hx hb dX5_canTell_16 (by decide) (fun c3 => ?_) (fun c3 => ?_)
      · have h := h.1 c3
        refine lv_iconst (v := 0) hx hb dX5_canTell_29 (by decide) ?_
        exact hret (0 : Int32) () _ _ _ _ rfl h hP hD hS dX5_canTell_30
      · have h := h.2 c3
        refine lv_iload_n hx hb dX5_canTell_19 rfl (lv_at hl 1 rfl) ?_
        refine lv_bipush (v := 12) hx hb dX5_canTell_20 (by decide) ?_
        refine lv_icmp_gt (tgt := 29) hx hb dX5_canTell_22 (by decide) (fun c4 => ?_) (fun c4 => ?_)
        · have h := h.1 c4
          refine lv_iconst (v := 0) hx hb dX5_canTell_29 (by decide) ?_
          exact hret (0 : Int32) () _ _ _ _ rfl h hP hD hS dX5_canTell_30
        · have h := h.2 c4
          refine lv_iconst (v := 1) hx hb dX5_canTell_25 (by decide) ?_
          refine lv_goto (tgt := 30) hx hb dX5_canTell_26 (by decide) ?_
          exact hret (1 : Int32) () _ _ _ _ rfl h hP hD hS dX5_canTell_30
abbrev w_X5_scaled (cy : Nat → ClassId)  : va_W := []
set_option maxHeartbeats 4000000 in
set_option maxRecDepth 100000 in
theorem c_X5_scaled (l : Launch) (D : va_G) (cy : Nat → ClassId) (sz : Nat)   {x0 : Int32} {x1 : Int32} {post : Int64 → Prop} (h : wp_X5_scaled x0 x1 post) : Met l yX5_scaled wsX5_scaled ({ frames := 0, cells := 0, slots := 0, locals := 0 }) (va_Pc [.int x0, .int x1] (wI D cy sz (w_X5_scaled cy ))) (va_Ql (fun (r : Int64) (u : Unit) => post r ) (fun (u : Unit) t => wO D cy (va_A (w_X5_scaled cy ) sz) (w_X5_scaled cy ) t) (va_A (w_X5_scaled cy ) sz)) 0 0 (va_A (w_X5_scaled cy ) sz) := by
  refine contrL (S := Unit) (post := fun (r : Int64) (u : Unit) => post r ) (wOut := fun (u : Unit) => (w_X5_scaled cy )) (cc := cX5_scaled) (maxL := 2) (own := RX5) (by decide +kernel) rfl rfl ?_
  intro p e s m args below meth c A Q hx hb hml hown hts hK hN hP hD hS hA hret
  refine ent [.int x0, .int x1] (Nat.le_of_ble_eq_true rfl) (fun ls hl => ?_)
  have hl : lv_has ls 2 [(0, .int x0), (1, .int x1)] := hl
  unfold wp_X5_scaled at h
  refine lv_iload_n hx hb dX5_scaled_0 rfl (lv_at hl 1 rfl) ?_
  refine lv_if_ne (tgt := 8) hx hb dX5_scaled_1 (by decide) (fun c1 => ?_) (fun c1 => ?_)
  · have h := h.2 c1
    refine lv_iload_n hx hb dX5_scaled_8 rfl (lv_at hl 0 rfl) ?_
    refine lv_i2l hx hb dX5_scaled_9 rfl ?_
    refine lv_sipush (v := 27720) hx hb dX5_scaled_10 (by decide) ?_
    refine lv_iload_n hx hb dX5_scaled_13 rfl (lv_at hl 1 rfl) ?_
    obtain ⟨z2, h⟩ := h
    refine lv_idiv hx hb dX5_scaled_14 z2 ?_
    refine lv_i2l hx hb dX5_scaled_15 rfl ?_
    refine lv_lmul hx hb dX5_scaled_16 ?_
    exact hret ((x0).toInt64 * (((27720 : Int32) / x1)).toInt64) () _ _ _ _ h hP hD hS dX5_scaled_17
  · have h := h.1 c1
    refine lv_lconst (v := 0) hx hb dX5_scaled_4 (by decide) ?_
    refine lv_goto (tgt := 17) hx hb dX5_scaled_5 (by decide) ?_
    exact hret (0 : Int64) () _ _ _ _ h hP hD hS dX5_scaled_17
abbrev w_X5_withinBounds (cy : Nat → ClassId) (a_o a_o_x a_o_price a_p1 a_p1_isTold a_p1_least a_p1_gateOff a_p1_limit a_p1_value a_p1_kind a_p1_most a_p1_wishOff a_p1_use : Nat) (o_x : Nat → Int64) (p1_wishes : Int32) (p1_most : Nat → Int32) (p1_wishOff : Nat → Int32) : va_W := [(a_o, .inr (5, [.ref a_o_x, .ref a_o_price])), (a_o_x, .inl (cy 2, 4, .inr (.inl o_x))), (a_p1, .inr (4, [.ref a_p1_isTold, .ref a_p1_least, .ref a_p1_gateOff, .ref a_p1_limit, .ref a_p1_value, .ref a_p1_kind, .ref a_p1_most, .ref a_p1_wishOff, .ref a_p1_use, .int p1_wishes])), (a_p1_most, .inl (cy 1, 4, .inl p1_most)), (a_p1_wishOff, .inl (cy 3, 4, .inl p1_wishOff))]
set_option maxHeartbeats 4000000 in
set_option maxRecDepth 100000 in
theorem c_X5_withinBounds (l : Launch) (D : va_G) (cy : Nat → ClassId) (a_o a_o_x a_o_price a_p1 a_p1_isTold a_p1_least a_p1_gateOff a_p1_limit a_p1_value a_p1_kind a_p1_most a_p1_wishOff a_p1_use : Nat) (sz : Nat)  {o_x : Nat → Int64} {p1_wishes : Int32} {p1_most : Nat → Int32} {p1_wishOff : Nat → Int32}  {post : Int32 → Prop} (h : wp_X5_withinBounds o_x p1_wishes p1_most p1_wishOff post) : Met l yX5_withinBounds wsX5_withinBounds ({ frames := 0, cells := 0, slots := 0, locals := 0 }) (va_Pc [.ref a_o, .ref a_p1] (wI D cy sz (w_X5_withinBounds cy a_o a_o_x a_o_price a_p1 a_p1_isTold a_p1_least a_p1_gateOff a_p1_limit a_p1_value a_p1_kind a_p1_most a_p1_wishOff a_p1_use o_x p1_wishes p1_most p1_wishOff))) (va_Qi (fun (r : Int32) (u : Unit) => post r ) (fun (u : Unit) t => wO D cy (va_A (w_X5_withinBounds cy a_o a_o_x a_o_price a_p1 a_p1_isTold a_p1_least a_p1_gateOff a_p1_limit a_p1_value a_p1_kind a_p1_most a_p1_wishOff a_p1_use o_x p1_wishes p1_most p1_wishOff) sz) (w_X5_withinBounds cy a_o a_o_x a_o_price a_p1 a_p1_isTold a_p1_least a_p1_gateOff a_p1_limit a_p1_value a_p1_kind a_p1_most a_p1_wishOff a_p1_use o_x p1_wishes p1_most p1_wishOff) t) (va_A (w_X5_withinBounds cy a_o a_o_x a_o_price a_p1 a_p1_isTold a_p1_least a_p1_gateOff a_p1_limit a_p1_value a_p1_kind a_p1_most a_p1_wishOff a_p1_use o_x p1_wishes p1_most p1_wishOff) sz)) 0 0 (va_A (w_X5_withinBounds cy a_o a_o_x a_o_price a_p1 a_p1_isTold a_p1_least a_p1_gateOff a_p1_limit a_p1_value a_p1_kind a_p1_most a_p1_wishOff a_p1_use o_x p1_wishes p1_most p1_wishOff) sz) := by
  refine contrZ (S := Unit) (post := fun (r : Int32) (u : Unit) => post r ) (wOut := fun (u : Unit) => (w_X5_withinBounds cy a_o a_o_x a_o_price a_p1 a_p1_isTold a_p1_least a_p1_gateOff a_p1_limit a_p1_value a_p1_kind a_p1_most a_p1_wishOff a_p1_use o_x p1_wishes p1_most p1_wishOff)) (cc := cX5_withinBounds) (maxL := 5) (own := RX5) (by decide +kernel) rfl rfl ?_
  intro p e s m args below meth c A Q hx hb hml hown hts hK hN hP hD hS hA hret
  have in_X4 : ∀ w ∈ u_ws RX4 TX4 10, w ∈ wsX5_withinBounds := by decide +kernel
  have fl_24 := hts (.fieldLink RX5 24 "DawnTable$Table" "wishes" "I") (by decide +kernel)
  have fl_30 := hts (.fieldLink RX5 30 "DawnTable$Table" "wishOff" "[Z") (by decide +kernel)
  have fl_34 := hts (.fieldLink RX5 34 "DawnTable$Table" "most" "[I") (by decide +kernel)
  have in_X5 : ∀ w ∈ u_ws RX5 TX5 2, w ∈ wsX5_withinBounds := by decide +kernel
  have fl_9 := hts (.fieldLink RX5 9 "DawnTable$Told" "x" "[J") (by decide +kernel)
  have j_34_0 : ∀ (x2 : Int32) (s0 : Int64), ∀ (kb : Int32 → Prop), (∀ (x2 : Int32), kb x2 → ∀ (H : Heap) (locs : List Loc), va_P D vwCl (w_X5_withinBounds cy a_o a_o_x a_o_price a_p1 a_p1_isTold a_p1_least a_p1_gateOff a_p1_limit a_p1_value a_p1_kind a_p1_most a_p1_wishOff a_p1_use o_x p1_wishes p1_most p1_wishOff) H → va_D A (w_X5_withinBounds cy a_o a_o_x a_o_price a_p1 a_p1_isTold a_p1_least a_p1_gateOff a_p1_limit a_p1_value a_p1_kind a_p1_most a_p1_wishOff a_p1_use o_x p1_wishes p1_most p1_wishOff) → va_S A s.heap H locs → ∀ (ls : Array Slot), lv_has ls 5 [(0, .ref a_o), (1, .ref a_p1), (2, .int x2)] → W p l e ({ frames := 0, cells := 0, slots := 0, locals := 0 }) s m args below meth c H locs 0 0 Q (F0 m 2 ls [])) → ∀ (kx0 : Prop), (kx0  → ∀ (H : Heap) (locs : List Loc), va_P D vwCl (w_X5_withinBounds cy a_o a_o_x a_o_price a_p1 a_p1_isTold a_p1_least a_p1_gateOff a_p1_limit a_p1_value a_p1_kind a_p1_most a_p1_wishOff a_p1_use o_x p1_wishes p1_most p1_wishOff) H → va_D A (w_X5_withinBounds cy a_o a_o_x a_o_price a_p1 a_p1_isTold a_p1_least a_p1_gateOff a_p1_limit a_p1_value a_p1_kind a_p1_most a_p1_wishOff a_p1_use o_x p1_wishes p1_most p1_wishOff) → va_S A s.heap H locs → ∀ (ls : Array Slot), lv_has ls 5 [] → W p l e ({ frames := 0, cells := 0, slots := 0, locals := 0 }) s m args below meth c H locs 0 0 Q (F0 m 65 ls [])) → ∀ (kx1 : Prop), (kx1  → ∀ (H : Heap) (locs : List Loc), va_P D vwCl (w_X5_withinBounds cy a_o a_o_x a_o_price a_p1 a_p1_isTold a_p1_least a_p1_gateOff a_p1_limit a_p1_value a_p1_kind a_p1_most a_p1_wishOff a_p1_use o_x p1_wishes p1_most p1_wishOff) H → va_D A (w_X5_withinBounds cy a_o a_o_x a_o_price a_p1 a_p1_isTold a_p1_least a_p1_gateOff a_p1_limit a_p1_value a_p1_kind a_p1_most a_p1_wishOff a_p1_use o_x p1_wishes p1_most p1_wishOff) → va_S A s.heap H locs → ∀ (ls : Array Slot), lv_has ls 5 [] → W p l e ({ frames := 0, cells := 0, slots := 0, locals := 0 }) s m args below meth c H locs 0 0 Q (F0 m 57 ls [])) → wj_X5_withinBounds_34  x2 s0 o_x p1_wishes p1_most p1_wishOff kb kx0 kx1 post → ∀ (H : Heap) (locs : List Loc), va_P D vwCl (w_X5_withinBounds cy a_o a_o_x a_o_price a_p1 a_p1_isTold a_p1_least a_p1_gateOff a_p1_limit a_p1_value a_p1_kind a_p1_most a_p1_wishOff a_p1_use o_x p1_wishes p1_most p1_wishOff) H → va_D A (w_X5_withinBounds cy a_o a_o_x a_o_price a_p1 a_p1_isTold a_p1_least a_p1_gateOff a_p1_limit a_p1_value a_p1_kind a_p1_most a_p1_wishOff a_p1_use o_x p1_wishes p1_most p1_wishOff) → va_S A s.heap H locs → ∀ (ls : Array Slot), lv_has ls 5 [(0, .ref a_o), (1, .ref a_p1), (2, .int x2)] → W p l e ({ frames := 0, cells := 0, slots := 0, locals := 0 }) s m args below meth c H locs 0 0 Q (F0 m 34 ls [.long s0]) := by
    intro x2 s0 kb hkb kx0 hkx0 kx1 hkx1  h H locs hP hD hS ls hl
    unfold wj_X5_withinBounds_34 at h
    refine lv_lstore_n (lv' := [(3, .long s0), (0, .ref a_o), (1, .ref a_p1), (2, .int x2)]) hx hb dX5_withinBounds_34 rfl hl (by decide) rfl (fun ls hl => ?_)
    refine lv_aload_n hx hb dX5_withinBounds_35 rfl (lv_at hl 1 rfl) ?_
    refine va_get (D := D) (ci := 5) (v := .ref a_o_x) (C := RX5) (T := TX5) (N := 2) hx hb hts in_X5 hown hK hP 0 rfl rfl 0 (by decide) fl_9 (fun _ h9 => h9) rfl dX5_withinBounds_36 ?_
    refine lv_iload_n hx hb dX5_withinBounds_39 rfl (lv_at hl 3 rfl) ?_
    obtain ⟨i4, h⟩ := h
    refine va_lald hx hb hK hP 1 2 rfl rfl i4 dX5_withinBounds_40 ?_
    refine lv_lconst (v := 0) hx hb dX5_withinBounds_41 (by decide) ?_
    refine W.lcmp hx hb dX5_withinBounds_42 ?_
    refine lv_if_lt (tgt := 57) hx hb dX5_withinBounds_43 (by decide) (fun c5 => ?_) (fun c5 => ?_)
    · have h := h.1 (lc_lt.mp c5)
      exact hkx1 h _ _ hP hD hS _ (lv_sub hl [] rfl)
    · have h := h.2 (fun z => c5 (lc_lt.mpr z))
      refine lv_aload_n hx hb dX5_withinBounds_46 rfl (lv_at hl 1 rfl) ?_
      refine va_get (D := D) (ci := 5) (v := .ref a_o_x) (C := RX5) (T := TX5) (N := 2) hx hb hts in_X5 hown hK hP 0 rfl rfl 0 (by decide) fl_9 (fun _ h9 => h9) rfl dX5_withinBounds_47 ?_
      refine lv_iload_n hx hb dX5_withinBounds_50 rfl (lv_at hl 3 rfl) ?_
      refine va_lald hx hb hK hP 1 2 rfl rfl i4 dX5_withinBounds_51 ?_
      refine lv_lload_n hx hb dX5_withinBounds_52 rfl (lv_at hl 0 rfl) ?_
      refine W.lcmp hx hb dX5_withinBounds_53 ?_
      refine lv_if_le (tgt := 59) hx hb dX5_withinBounds_54 (by decide) (fun c6 => ?_) (fun c6 => ?_)
      · have h := h.1 (lc_le.mp c6)
        refine lv_iinc (v := (x2 + (1 : Int32))) (lv' := [(2, .int (x2 + (1 : Int32))), (3, .long s0), (0, .ref a_o), (1, .ref a_p1)]) hx hb dX5_withinBounds_59 hl (k := 3) rfl (congrArg (fun z => x2 + z) (by decide : Int32.ofInt (1) = (1 : Int32))) (by decide) rfl (fun ls hl => ?_)
        refine lv_goto (tgt := 2) hx hb dX5_withinBounds_62 (by decide) ?_
        exact hkb (x2 + (1 : Int32)) h _ _ hP hD hS _ (lv_sub hl [2, 3, 0] rfl)
      · have h := h.2 (fun z => c6 (lc_le.mpr z))
        exact hkx1 h _ _ hP hD hS _ (lv_sub hl [] rfl)
  have l_2 : ∀ (kx0 : Prop), (kx0  → ∀ (H : Heap) (locs : List Loc), va_P D vwCl (w_X5_withinBounds cy a_o a_o_x a_o_price a_p1 a_p1_isTold a_p1_least a_p1_gateOff a_p1_limit a_p1_value a_p1_kind a_p1_most a_p1_wishOff a_p1_use o_x p1_wishes p1_most p1_wishOff) H → va_D A (w_X5_withinBounds cy a_o a_o_x a_o_price a_p1 a_p1_isTold a_p1_least a_p1_gateOff a_p1_limit a_p1_value a_p1_kind a_p1_most a_p1_wishOff a_p1_use o_x p1_wishes p1_most p1_wishOff) → va_S A s.heap H locs → ∀ (ls : Array Slot), lv_has ls 5 [] → W p l e ({ frames := 0, cells := 0, slots := 0, locals := 0 }) s m args below meth c H locs 0 0 Q (F0 m 65 ls [])) → ∀ (kx1 : Prop), (kx1  → ∀ (H : Heap) (locs : List Loc), va_P D vwCl (w_X5_withinBounds cy a_o a_o_x a_o_price a_p1 a_p1_isTold a_p1_least a_p1_gateOff a_p1_limit a_p1_value a_p1_kind a_p1_most a_p1_wishOff a_p1_use o_x p1_wishes p1_most p1_wishOff) H → va_D A (w_X5_withinBounds cy a_o a_o_x a_o_price a_p1 a_p1_isTold a_p1_least a_p1_gateOff a_p1_limit a_p1_value a_p1_kind a_p1_most a_p1_wishOff a_p1_use o_x p1_wishes p1_most p1_wishOff) → va_S A s.heap H locs → ∀ (ls : Array Slot), lv_has ls 5 [] → W p l e ({ frames := 0, cells := 0, slots := 0, locals := 0 }) s m args below meth c H locs 0 0 Q (F0 m 57 ls [])) → ∀ (n : Nat) (x2 : Int32), wl_X5_withinBounds_2 o_x p1_wishes p1_most p1_wishOff kx0 kx1 post n x2 → ∀ (H : Heap) (locs : List Loc), va_P D vwCl (w_X5_withinBounds cy a_o a_o_x a_o_price a_p1 a_p1_isTold a_p1_least a_p1_gateOff a_p1_limit a_p1_value a_p1_kind a_p1_most a_p1_wishOff a_p1_use o_x p1_wishes p1_most p1_wishOff) H → va_D A (w_X5_withinBounds cy a_o a_o_x a_o_price a_p1 a_p1_isTold a_p1_least a_p1_gateOff a_p1_limit a_p1_value a_p1_kind a_p1_most a_p1_wishOff a_p1_use o_x p1_wishes p1_most p1_wishOff) → va_S A s.heap H locs → ∀ (ls : Array Slot), lv_has ls 5 [(0, .ref a_o), (1, .ref a_p1), (2, .int x2)] → W p l e ({ frames := 0, cells := 0, slots := 0, locals := 0 }) s m args below meth c H locs 0 0 Q (F0 m 2 ls []) := by
    intro  kx0 hkx0 kx1 hkx1  n
    induction n with
    | zero => intro x2 h; exact h.elim
    | succ n hkb =>
      intro x2 h H locs hP hD hS ls hl
      replace h : ws_X5_withinBounds_2 o_x p1_wishes p1_most p1_wishOff (wl_X5_withinBounds_2 o_x p1_wishes p1_most p1_wishOff kx0 kx1 post n) kx0 kx1 post x2 := h
      generalize wl_X5_withinBounds_2 o_x p1_wishes p1_most p1_wishOff kx0 kx1 post n = kb at h hkb
      unfold ws_X5_withinBounds_2 at h
      refine lv_iload_n hx hb dX5_withinBounds_2 rfl (lv_at hl 2 rfl) ?_
      refine lv_aload_n hx hb dX5_withinBounds_3 rfl (lv_at hl 1 rfl) ?_
      refine va_get (D := D) (ci := 4) (v := .int p1_wishes) (C := RX4) (T := TX4) (N := 10) hx hb hts in_X4 hown hK hP 2 rfl rfl 9 (by decide) fl_24 (fun _ h9 => h9) rfl dX5_withinBounds_4 ?_
      refine lv_icmp_ge (tgt := 65) hx hb dX5_withinBounds_7 (by decide) (fun c1 => ?_) (fun c1 => ?_)
      · have h := h.1 c1
        exact hkx0 h _ _ hP hD hS _ (lv_sub hl [] rfl)
      · have h := h.2 c1
        refine lv_aload_n hx hb dX5_withinBounds_10 rfl (lv_at hl 1 rfl) ?_
        refine va_get (D := D) (ci := 4) (v := .ref a_p1_wishOff) (C := RX4) (T := TX4) (N := 10) hx hb hts in_X4 hown hK hP 2 rfl rfl 7 (by decide) fl_30 (fun _ h9 => h9) rfl dX5_withinBounds_11 ?_
        refine lv_iload_n hx hb dX5_withinBounds_14 rfl (lv_at hl 2 rfl) ?_
        obtain ⟨i2, h⟩ := h
        refine va_zald hx hb hK hP 4 3 rfl rfl i2 dX5_withinBounds_15 ?_
        refine lv_if_eq (tgt := 23) hx hb dX5_withinBounds_16 (by decide) (fun c3 => ?_) (fun c3 => ?_)
        · have h := h.1 c3
          refine lv_aload_n hx hb dX5_withinBounds_23 rfl (lv_at hl 1 rfl) ?_
          refine va_get (D := D) (ci := 4) (v := .ref a_p1_most) (C := RX4) (T := TX4) (N := 10) hx hb hts in_X4 hown hK hP 2 rfl rfl 6 (by decide) fl_34 (fun _ h9 => h9) rfl dX5_withinBounds_24 ?_
          refine lv_iload_n hx hb dX5_withinBounds_27 rfl (lv_at hl 2 rfl) ?_
          refine va_iald hx hb hK hP 3 1 rfl rfl i2 dX5_withinBounds_28 ?_
          refine lv_i2l hx hb dX5_withinBounds_29 rfl ?_
          refine lv_ldc2 hx hb hown (hts (.constantLong RX5 38 (27720)) (by decide +kernel)) dX5_withinBounds_30 ?_
          refine lv_lmul hx hb dX5_withinBounds_33 ?_
          exact j_34_0 x2 (((p1_most (x2).toNatClampNeg)).toInt64 * (27720 : Int64)) kb hkb kx0 hkx0 kx1 hkx1 h _ _ hP hD hS _ (lv_sub hl [0, 1, 2] rfl)
        · have h := h.2 c3
          refine lv_lconst (v := 0) hx hb dX5_withinBounds_19 (by decide) ?_
          refine lv_goto (tgt := 34) hx hb dX5_withinBounds_20 (by decide) ?_
          exact j_34_0 x2 (0 : Int64) kb hkb kx0 hkx0 kx1 hkx1 h _ _ hP hD hS _ (lv_sub hl [0, 1, 2] rfl)
  refine ent [.ref a_o, .ref a_p1] (Nat.le_of_ble_eq_true rfl) (fun ls hl => ?_)
  have hl : lv_has ls 5 [(0, .ref a_o), (1, .ref a_p1)] := hl
  unfold wp_X5_withinBounds at h
  refine lv_iconst (v := 0) hx hb dX5_withinBounds_0 (by decide) ?_
  refine lv_istore_n (lv' := [(2, .int (0 : Int32)), (0, .ref a_o), (1, .ref a_p1)]) hx hb dX5_withinBounds_1 rfl hl (by decide) rfl (fun ls hl => ?_)
  obtain ⟨n7, h⟩ := h
  refine l_2  _ ?_ _ ?_ n7 (0 : Int32) h _ _ hP hD hS _ (lv_sub hl [1, 2, 0] rfl)
  · intro  h H locs hP hD hS ls hl
    refine lv_iconst (v := 1) hx hb dX5_withinBounds_65 (by decide) ?_
    exact hret (1 : Int32) () _ _ _ _ rfl h hP hD hS dX5_withinBounds_66
  · intro  h H locs hP hD hS ls hl
    refine lv_iconst (v := 0) hx hb dX5_withinBounds_57 (by decide) ?_
    exact hret (0 : Int32) () _ _ _ _ rfl h hP hD hS dX5_withinBounds_58
abbrev w_X5_gatesHold (cy : Nat → ClassId) (a_o a_o_x a_o_price a_p1 a_p1_isTold a_p1_least a_p1_gateOff a_p1_limit a_p1_value a_p1_kind a_p1_most a_p1_wishOff a_p1_use : Nat) (r_p1_use : Nat → Nat) (o_x : Nat → Int64) (p1_wishes : Int32) (p1_isTold : Nat → Int32) (p1_least : Nat → Int32) (p1_gateOff : Nat → Int32) (p1_limit : Nat → Int32) (p1_use : Nat → Nat → Int32) : va_W := [(a_o, .inr (5, [.ref a_o_x, .ref a_o_price])), (a_o_x, .inl (cy 2, 4, .inr (.inl o_x))), (a_p1, .inr (4, [.ref a_p1_isTold, .ref a_p1_least, .ref a_p1_gateOff, .ref a_p1_limit, .ref a_p1_value, .ref a_p1_kind, .ref a_p1_most, .ref a_p1_wishOff, .ref a_p1_use, .int p1_wishes])), (a_p1_isTold, .inl (cy 3, 5, .inl p1_isTold)), (a_p1_least, .inl (cy 3, 5, .inl p1_least)), (a_p1_gateOff, .inl (cy 3, 5, .inl p1_gateOff)), (a_p1_limit, .inl (cy 1, 5, .inl p1_limit)), (a_p1_use, .inl (cy 4, 4, .inr (.inr (.inr (.inr (mref r_p1_use 4))))))] ++ rows4 r_p1_use (rowI (cy 1) 5 p1_use) ++ []
set_option maxRecDepth 20000 in
theorem ggX5_gatesHold_X4_heldGates : GoodIn wsX5_gatesHold wsX4_heldGates := goodIn_r _ [11, 12, 13, 14, 15, 16, 17, 18, 19, 20, 21, 22, 23] (by decide +kernel) (by decide +kernel)
set_option maxRecDepth 20000 in
theorem gX5_gatesHold_X4_heldGates : GoodIn wsX5_gatesHold (wsV RX5 40 RX4 yX4_heldGates wsX4_heldGates) := goodIn_app (goodIn_of _ (by decide +kernel)) ggX5_gatesHold_X4_heldGates
set_option maxHeartbeats 4000000 in
set_option maxRecDepth 100000 in
theorem c_X5_gatesHold (l : Launch) (D : va_G) (cy : Nat → ClassId) (a_o a_o_x a_o_price a_p1 a_p1_isTold a_p1_least a_p1_gateOff a_p1_limit a_p1_value a_p1_kind a_p1_most a_p1_wishOff a_p1_use : Nat) (r_p1_use : Nat → Nat) (sz : Nat)  {o_x : Nat → Int64} {p1_wishes : Int32} {p1_isTold : Nat → Int32} {p1_least : Nat → Int32} {p1_gateOff : Nat → Int32} {p1_limit : Nat → Int32} {p1_use : Nat → Nat → Int32}  {post : Int32 → Prop} (h : wp_X5_gatesHold o_x p1_wishes p1_isTold p1_least p1_gateOff p1_limit p1_use post) : Met l yX5_gatesHold wsX5_gatesHold ({ frames := 1, cells := 0, slots := 0, locals := 22 }) (va_Pc [.ref a_o, .ref a_p1] (wI D cy sz (w_X5_gatesHold cy a_o a_o_x a_o_price a_p1 a_p1_isTold a_p1_least a_p1_gateOff a_p1_limit a_p1_value a_p1_kind a_p1_most a_p1_wishOff a_p1_use r_p1_use o_x p1_wishes p1_isTold p1_least p1_gateOff p1_limit p1_use))) (va_Qi (fun (r : Int32) (u : Unit) => post r ) (fun (u : Unit) t => wO D cy (va_A (w_X5_gatesHold cy a_o a_o_x a_o_price a_p1 a_p1_isTold a_p1_least a_p1_gateOff a_p1_limit a_p1_value a_p1_kind a_p1_most a_p1_wishOff a_p1_use r_p1_use o_x p1_wishes p1_isTold p1_least p1_gateOff p1_limit p1_use) sz) (w_X5_gatesHold cy a_o a_o_x a_o_price a_p1 a_p1_isTold a_p1_least a_p1_gateOff a_p1_limit a_p1_value a_p1_kind a_p1_most a_p1_wishOff a_p1_use r_p1_use o_x p1_wishes p1_isTold p1_least p1_gateOff p1_limit p1_use) t) (va_A (w_X5_gatesHold cy a_o a_o_x a_o_price a_p1 a_p1_isTold a_p1_least a_p1_gateOff a_p1_limit a_p1_value a_p1_kind a_p1_most a_p1_wishOff a_p1_use r_p1_use o_x p1_wishes p1_isTold p1_least p1_gateOff p1_limit p1_use) sz)) 0 0 (va_A (w_X5_gatesHold cy a_o a_o_x a_o_price a_p1 a_p1_isTold a_p1_least a_p1_gateOff a_p1_limit a_p1_value a_p1_kind a_p1_most a_p1_wishOff a_p1_use r_p1_use o_x p1_wishes p1_isTold p1_least p1_gateOff p1_limit p1_use) sz) := by
  refine contrZ (S := Unit) (post := fun (r : Int32) (u : Unit) => post r ) (wOut := fun (u : Unit) => (w_X5_gatesHold cy a_o a_o_x a_o_price a_p1 a_p1_isTold a_p1_least a_p1_gateOff a_p1_limit a_p1_value a_p1_kind a_p1_most a_p1_wishOff a_p1_use r_p1_use o_x p1_wishes p1_isTold p1_least p1_gateOff p1_limit p1_use)) (cc := cX5_gatesHold) (maxL := 7) (own := RX5) (by decide +kernel) rfl rfl ?_
  intro p e s m args below meth c A Q hx hb hml hown hts hK hN hP hD hS hA hret
  have in_X4 : ∀ w ∈ u_ws RX4 TX4 10, w ∈ wsX5_gatesHold := by decide +kernel
  have fl_44 := hts (.fieldLink RX5 44 "DawnTable$Table" "limit" "[I") (by decide +kernel)
  have fl_24 := hts (.fieldLink RX5 24 "DawnTable$Table" "wishes" "I") (by decide +kernel)
  have fl_47 := hts (.fieldLink RX5 47 "DawnTable$Table" "use" "[[I") (by decide +kernel)
  have in_X5 : ∀ w ∈ u_ws RX5 TX5 2, w ∈ wsX5_gatesHold := by decide +kernel
  have fl_9 := hts (.fieldLink RX5 9 "DawnTable$Told" "x" "[J") (by decide +kernel)
  have fl_51 := hts (.fieldLink RX5 51 "DawnTable$Table" "least" "[Z") (by decide +kernel)
  have l_40 : ∀ (x2 : Int32) (x3 : Int32), ∀ (kx0 : Int64 → Prop), (∀ (x4 : Int64), kx0 x4 → ∀ (H : Heap) (locs : List Loc), va_P D vwCl (w_X5_gatesHold cy a_o a_o_x a_o_price a_p1 a_p1_isTold a_p1_least a_p1_gateOff a_p1_limit a_p1_value a_p1_kind a_p1_most a_p1_wishOff a_p1_use r_p1_use o_x p1_wishes p1_isTold p1_least p1_gateOff p1_limit p1_use) H → va_D A (w_X5_gatesHold cy a_o a_o_x a_o_price a_p1 a_p1_isTold a_p1_least a_p1_gateOff a_p1_limit a_p1_value a_p1_kind a_p1_most a_p1_wishOff a_p1_use r_p1_use o_x p1_wishes p1_isTold p1_least p1_gateOff p1_limit p1_use) → va_S A s.heap H locs → ∀ (ls : Array Slot), lv_has ls 7 [(0, .ref a_o), (1, .ref a_p1), (2, .int x2), (3, .int x3), (4, .long x4)] → W p l e ({ frames := 1, cells := 0, slots := 0, locals := 22 }) s m args below meth c H locs 0 0 Q (F0 m 78 ls [])) → ∀ (n : Nat) (x4 : Int64) (x6 : Int32), wl_X5_gatesHold_40 x2 x3 o_x p1_wishes p1_isTold p1_least p1_gateOff p1_limit p1_use kx0 post n x4 x6 → ∀ (H : Heap) (locs : List Loc), va_P D vwCl (w_X5_gatesHold cy a_o a_o_x a_o_price a_p1 a_p1_isTold a_p1_least a_p1_gateOff a_p1_limit a_p1_value a_p1_kind a_p1_most a_p1_wishOff a_p1_use r_p1_use o_x p1_wishes p1_isTold p1_least p1_gateOff p1_limit p1_use) H → va_D A (w_X5_gatesHold cy a_o a_o_x a_o_price a_p1 a_p1_isTold a_p1_least a_p1_gateOff a_p1_limit a_p1_value a_p1_kind a_p1_most a_p1_wishOff a_p1_use r_p1_use o_x p1_wishes p1_isTold p1_least p1_gateOff p1_limit p1_use) → va_S A s.heap H locs → ∀ (ls : Array Slot), lv_has ls 7 [(0, .ref a_o), (1, .ref a_p1), (2, .int x2), (3, .int x3), (4, .long x4), (6, .int x6)] → W p l e ({ frames := 1, cells := 0, slots := 0, locals := 22 }) s m args below meth c H locs 0 0 Q (F0 m 40 ls []) := by
    intro x2 x3 kx0 hkx0  n
    induction n with
    | zero => intro x4 x6 h; exact h.elim
    | succ n hkb =>
      intro x4 x6 h H locs hP hD hS ls hl
      replace h : ws_X5_gatesHold_40 x2 x3 o_x p1_wishes p1_isTold p1_least p1_gateOff p1_limit p1_use (wl_X5_gatesHold_40 x2 x3 o_x p1_wishes p1_isTold p1_least p1_gateOff p1_limit p1_use kx0 post n) kx0 post x4 x6 := h
      generalize wl_X5_gatesHold_40 x2 x3 o_x p1_wishes p1_isTold p1_least p1_gateOff p1_limit p1_use kx0 post n = kb at h hkb
      unfold ws_X5_gatesHold_40 at h
      refine lv_iload hx hb dX5_gatesHold_40 (lv_at hl 5 rfl) ?_
      refine lv_aload_n hx hb dX5_gatesHold_42 rfl (lv_at hl 1 rfl) ?_
      refine va_get (D := D) (ci := 4) (v := .int p1_wishes) (C := RX4) (T := TX4) (N := 10) hx hb hts in_X4 hown hK hP 2 rfl rfl 9 (by decide) fl_24 (fun _ h9 => h9) rfl dX5_gatesHold_43 ?_
      refine lv_icmp_ge (tgt := 78) hx hb dX5_gatesHold_46 (by decide) (fun c6 => ?_) (fun c6 => ?_)
      · have h := h.1 c6
        exact hkx0 x4 h _ _ hP hD hS _ (lv_sub hl [0, 1, 2, 3, 4] rfl)
      · have h := h.2 c6
        refine lv_lload hx hb dX5_gatesHold_49 (lv_at hl 4 rfl) ?_
        refine lv_aload_n hx hb dX5_gatesHold_51 rfl (lv_at hl 1 rfl) ?_
        refine va_get (D := D) (ci := 4) (v := .ref a_p1_use) (C := RX4) (T := TX4) (N := 10) hx hb hts in_X4 hown hK hP 2 rfl rfl 8 (by decide) fl_47 (fun _ h9 => h9) rfl dX5_gatesHold_52 ?_
        refine lv_iload hx hb dX5_gatesHold_55 (lv_at hl 5 rfl) ?_
        obtain ⟨i7, h⟩ := h
        refine mx_ald hx hb hK hP 7 4 rfl rfl i7 dX5_gatesHold_57 ?_
        refine lv_iload_n hx hb dX5_gatesHold_58 rfl (lv_at hl 3 rfl) ?_
        obtain ⟨i8, h⟩ := h
        refine va_iald hx hb hK hP (8 + (x6).toNatClampNeg) 1 (gI0 (in_lt i7)) rfl i8 dX5_gatesHold_59 ?_
        refine lv_i2l hx hb dX5_gatesHold_60 rfl ?_
        refine lv_aload_n hx hb dX5_gatesHold_61 rfl (lv_at hl 0 rfl) ?_
        refine va_get (D := D) (ci := 5) (v := .ref a_o_x) (C := RX5) (T := TX5) (N := 2) hx hb hts in_X5 hown hK hP 0 rfl rfl 0 (by decide) fl_9 (fun _ h9 => h9) rfl dX5_gatesHold_62 ?_
        refine lv_iload hx hb dX5_gatesHold_65 (lv_at hl 5 rfl) ?_
        refine va_lald hx hb hK hP 1 2 rfl rfl i7 dX5_gatesHold_67 ?_
        refine lv_lmul hx hb dX5_gatesHold_68 ?_
        refine lv_ladd hx hb dX5_gatesHold_69 ?_
        refine lv_topl (fun v9 ev9 => ?_)
        have h := h v9 ev9
        refine lv_lstore (lv' := [(4, .long v9), (0, .ref a_o), (1, .ref a_p1), (2, .int x2), (3, .int x3), (6, .int x6)]) hx hb dX5_gatesHold_70 hl (by decide) rfl (fun ls hl => ?_)
        refine lv_iinc (v := (x6 + (1 : Int32))) (lv' := [(6, .int (x6 + (1 : Int32))), (4, .long v9), (0, .ref a_o), (1, .ref a_p1), (2, .int x2), (3, .int x3)]) hx hb dX5_gatesHold_72 hl (k := 5) rfl (congrArg (fun z => x6 + z) (by decide : Int32.ofInt (1) = (1 : Int32))) (by decide) rfl (fun ls hl => ?_)
        refine lv_goto (tgt := 40) hx hb dX5_gatesHold_75 (by decide) ?_
        exact hkb v9 (x6 + (1 : Int32)) h _ _ hP hD hS _ (lv_sub hl [2, 3, 4, 5, 1, 0] rfl)
  have l_7 : ∀ (x2 : Int32), ∀ (kx0 : Prop), (kx0  → ∀ (H : Heap) (locs : List Loc), va_P D vwCl (w_X5_gatesHold cy a_o a_o_x a_o_price a_p1 a_p1_isTold a_p1_least a_p1_gateOff a_p1_limit a_p1_value a_p1_kind a_p1_most a_p1_wishOff a_p1_use r_p1_use o_x p1_wishes p1_isTold p1_least p1_gateOff p1_limit p1_use) H → va_D A (w_X5_gatesHold cy a_o a_o_x a_o_price a_p1 a_p1_isTold a_p1_least a_p1_gateOff a_p1_limit a_p1_value a_p1_kind a_p1_most a_p1_wishOff a_p1_use r_p1_use o_x p1_wishes p1_isTold p1_least p1_gateOff p1_limit p1_use) → va_S A s.heap H locs → ∀ (ls : Array Slot), lv_has ls 7 [] → W p l e ({ frames := 1, cells := 0, slots := 0, locals := 22 }) s m args below meth c H locs 0 0 Q (F0 m 112 ls [])) → ∀ (kx1 : Prop), (kx1  → ∀ (H : Heap) (locs : List Loc), va_P D vwCl (w_X5_gatesHold cy a_o a_o_x a_o_price a_p1 a_p1_isTold a_p1_least a_p1_gateOff a_p1_limit a_p1_value a_p1_kind a_p1_most a_p1_wishOff a_p1_use r_p1_use o_x p1_wishes p1_isTold p1_least p1_gateOff p1_limit p1_use) H → va_D A (w_X5_gatesHold cy a_o a_o_x a_o_price a_p1 a_p1_isTold a_p1_least a_p1_gateOff a_p1_limit a_p1_value a_p1_kind a_p1_most a_p1_wishOff a_p1_use r_p1_use o_x p1_wishes p1_isTold p1_least p1_gateOff p1_limit p1_use) → va_S A s.heap H locs → ∀ (ls : Array Slot), lv_has ls 7 [] → W p l e ({ frames := 1, cells := 0, slots := 0, locals := 22 }) s m args below meth c H locs 0 0 Q (F0 m 104 ls [])) → ∀ (n : Nat) (x3 : Int32), wl_X5_gatesHold_7 x2 o_x p1_wishes p1_isTold p1_least p1_gateOff p1_limit p1_use kx0 kx1 post n x3 → ∀ (H : Heap) (locs : List Loc), va_P D vwCl (w_X5_gatesHold cy a_o a_o_x a_o_price a_p1 a_p1_isTold a_p1_least a_p1_gateOff a_p1_limit a_p1_value a_p1_kind a_p1_most a_p1_wishOff a_p1_use r_p1_use o_x p1_wishes p1_isTold p1_least p1_gateOff p1_limit p1_use) H → va_D A (w_X5_gatesHold cy a_o a_o_x a_o_price a_p1 a_p1_isTold a_p1_least a_p1_gateOff a_p1_limit a_p1_value a_p1_kind a_p1_most a_p1_wishOff a_p1_use r_p1_use o_x p1_wishes p1_isTold p1_least p1_gateOff p1_limit p1_use) → va_S A s.heap H locs → ∀ (ls : Array Slot), lv_has ls 7 [(0, .ref a_o), (1, .ref a_p1), (2, .int x2), (3, .int x3)] → W p l e ({ frames := 1, cells := 0, slots := 0, locals := 22 }) s m args below meth c H locs 0 0 Q (F0 m 7 ls []) := by
    intro x2 kx0 hkx0 kx1 hkx1  n
    induction n with
    | zero => intro x3 h; exact h.elim
    | succ n hkb =>
      intro x3 h H locs hP hD hS ls hl
      replace h : ws_X5_gatesHold_7 x2 o_x p1_wishes p1_isTold p1_least p1_gateOff p1_limit p1_use (wl_X5_gatesHold_7 x2 o_x p1_wishes p1_isTold p1_least p1_gateOff p1_limit p1_use kx0 kx1 post n) kx0 kx1 post x3 := h
      generalize wl_X5_gatesHold_7 x2 o_x p1_wishes p1_isTold p1_least p1_gateOff p1_limit p1_use kx0 kx1 post n = kb at h hkb
      unfold ws_X5_gatesHold_7 at h
      refine lv_iload_n hx hb dX5_gatesHold_7 rfl (lv_at hl 3 rfl) ?_
      refine lv_iconst (v := 5) hx hb dX5_gatesHold_8 (by decide) ?_
      refine lv_icmp_ge (tgt := 112) hx hb dX5_gatesHold_9 (by decide) (fun c2 => ?_) (fun c2 => ?_)
      · have h := h.1 c2
        exact hkx0 h _ _ hP hD hS _ (lv_sub hl [] rfl)
      · have h := h.2 c2
        refine lv_iload_n hx hb dX5_gatesHold_12 rfl (lv_at hl 2 rfl) ?_
        refine lv_iload_n hx hb dX5_gatesHold_13 rfl (lv_at hl 3 rfl) ?_
        refine lv_ishr hx hb dX5_gatesHold_14 ?_
        refine lv_iconst (v := 1) hx hb dX5_gatesHold_15 (by decide) ?_
        refine lv_iand hx hb dX5_gatesHold_16 ?_
        refine lv_if_ne (tgt := 23) hx hb dX5_gatesHold_17 (by decide) (fun c3 => ?_) (fun c3 => ?_)
        · have h := h.2 c3
          refine lv_aload_n hx hb dX5_gatesHold_23 rfl (lv_at hl 1 rfl) ?_
          refine va_get (D := D) (ci := 4) (v := .ref a_p1_limit) (C := RX4) (T := TX4) (N := 10) hx hb hts in_X4 hown hK hP 2 rfl rfl 3 (by decide) fl_44 (fun _ h9 => h9) rfl dX5_gatesHold_24 ?_
          refine lv_iload_n hx hb dX5_gatesHold_27 rfl (lv_at hl 3 rfl) ?_
          obtain ⟨i4, h⟩ := h
          refine va_iald hx hb hK hP 6 1 rfl rfl i4 dX5_gatesHold_28 ?_
          refine lv_i2l hx hb dX5_gatesHold_29 rfl ?_
          refine lv_lneg hx hb dX5_gatesHold_30 ?_
          refine lv_ldc2 hx hb hown (hts (.constantLong RX5 38 (27720)) (by decide +kernel)) dX5_gatesHold_31 ?_
          refine lv_lmul hx hb dX5_gatesHold_34 ?_
          refine lv_topl (fun v5 ev5 => ?_)
          have h := h v5 ev5
          refine lv_lstore (lv' := [(4, .long v5), (0, .ref a_o), (1, .ref a_p1), (2, .int x2), (3, .int x3)]) hx hb dX5_gatesHold_35 hl (by decide) rfl (fun ls hl => ?_)
          refine lv_iconst (v := 0) hx hb dX5_gatesHold_37 (by decide) ?_
          refine lv_istore (lv' := [(6, .int (0 : Int32)), (4, .long v5), (0, .ref a_o), (1, .ref a_p1), (2, .int x2), (3, .int x3)]) hx hb dX5_gatesHold_38 hl (by decide) rfl (fun ls hl => ?_)
          obtain ⟨n15, h⟩ := h
          refine l_40 x2 x3 _ ?_ n15 v5 (0 : Int32) h _ _ hP hD hS _ (lv_sub hl [2, 3, 4, 5, 1, 0] rfl)
          · intro x4_10 h H locs hP hD hS ls hl
            refine lv_aload_n hx hb dX5_gatesHold_78 rfl (lv_at hl 1 rfl) ?_
            refine va_get (D := D) (ci := 4) (v := .ref a_p1_least) (C := RX4) (T := TX4) (N := 10) hx hb hts in_X4 hown hK hP 2 rfl rfl 1 (by decide) fl_51 (fun _ h9 => h9) rfl dX5_gatesHold_79 ?_
            refine lv_iload_n hx hb dX5_gatesHold_82 rfl (lv_at hl 3 rfl) ?_
            obtain ⟨i11, h⟩ := h
            refine va_zald hx hb hK hP 4 3 rfl rfl i11 dX5_gatesHold_83 ?_
            refine lv_if_eq (tgt := 97) hx hb dX5_gatesHold_84 (by decide) (fun c12 => ?_) (fun c12 => ?_)
            · have h := h.1 c12
              refine lv_lload hx hb dX5_gatesHold_97 (lv_at hl 4 rfl) ?_
              refine lv_lconst (v := 0) hx hb dX5_gatesHold_99 (by decide) ?_
              refine W.lcmp hx hb dX5_gatesHold_100 ?_
              refine lv_if_le (tgt := 106) hx hb dX5_gatesHold_101 (by decide) (fun c13 => ?_) (fun c13 => ?_)
              · have h := h.1 (lc_le.mp c13)
                refine lv_iinc (v := (x3 + (1 : Int32))) (lv' := [(3, .int (x3 + (1 : Int32))), (0, .ref a_o), (1, .ref a_p1), (2, .int x2), (4, .long x4_10)]) hx hb dX5_gatesHold_106 hl (k := 3) rfl (congrArg (fun z => x3 + z) (by decide : Int32.ofInt (1) = (1 : Int32))) (by decide) rfl (fun ls hl => ?_)
                refine lv_goto (tgt := 7) hx hb dX5_gatesHold_109 (by decide) ?_
                exact hkb (x3 + (1 : Int32)) h _ _ hP hD hS _ (lv_sub hl [1, 2, 3, 0] rfl)
              · have h := h.2 (fun z => c13 (lc_le.mpr z))
                exact hkx1 h _ _ hP hD hS _ (lv_sub hl [] rfl)
            · have h := h.2 c12
              refine lv_lload hx hb dX5_gatesHold_87 (lv_at hl 4 rfl) ?_
              refine lv_lconst (v := 0) hx hb dX5_gatesHold_89 (by decide) ?_
              refine W.lcmp hx hb dX5_gatesHold_90 ?_
              refine lv_if_ge (tgt := 106) hx hb dX5_gatesHold_91 (by decide) (fun c14 => ?_) (fun c14 => ?_)
              · have h := h.1 (lc_ge.mp c14)
                refine lv_iinc (v := (x3 + (1 : Int32))) (lv' := [(3, .int (x3 + (1 : Int32))), (0, .ref a_o), (1, .ref a_p1), (2, .int x2), (4, .long x4_10)]) hx hb dX5_gatesHold_106 hl (k := 3) rfl (congrArg (fun z => x3 + z) (by decide : Int32.ofInt (1) = (1 : Int32))) (by decide) rfl (fun ls hl => ?_)
                refine lv_goto (tgt := 7) hx hb dX5_gatesHold_109 (by decide) ?_
                exact hkb (x3 + (1 : Int32)) h _ _ hP hD hS _ (lv_sub hl [1, 2, 3, 0] rfl)
              · have h := h.2 (fun z => c14 (lc_ge.mpr z))
                refine lv_goto (tgt := 104) hx hb dX5_gatesHold_94 (by decide) ?_
                exact hkx1 h _ _ hP hD hS _ (lv_sub hl [] rfl)
        · have h := h.1 c3
          refine lv_goto (tgt := 106) hx hb dX5_gatesHold_20 (by decide) ?_
          refine lv_iinc (v := (x3 + (1 : Int32))) (lv' := [(3, .int (x3 + (1 : Int32))), (0, .ref a_o), (1, .ref a_p1), (2, .int x2)]) hx hb dX5_gatesHold_106 hl (k := 3) rfl (congrArg (fun z => x3 + z) (by decide : Int32.ofInt (1) = (1 : Int32))) (by decide) rfl (fun ls hl => ?_)
          refine lv_goto (tgt := 7) hx hb dX5_gatesHold_109 (by decide) ?_
          exact hkb (x3 + (1 : Int32)) h _ _ hP hD hS _ (lv_sub hl [1, 2, 3, 0] rfl)
  refine ent [.ref a_o, .ref a_p1] (Nat.le_of_ble_eq_true rfl) (fun ls hl => ?_)
  have hl : lv_has ls 7 [(0, .ref a_o), (1, .ref a_p1)] := hl
  unfold wp_X5_gatesHold at h
  refine lv_aload_n hx hb dX5_gatesHold_0 rfl (lv_at hl 1 rfl) ?_
  have hC : ([2, 3, 5] : List Nat).map (fun i => ((w_X5_gatesHold cy a_o a_o_x a_o_price a_p1 a_p1_isTold a_p1_least a_p1_gateOff a_p1_limit a_p1_value a_p1_kind a_p1_most a_p1_wishOff a_p1_use r_p1_use o_x p1_wishes p1_isTold p1_least p1_gateOff p1_limit p1_use) : va_W)[i]?) = ((w_X4_heldGates cy a_p1 a_p1_isTold a_p1_least a_p1_gateOff a_p1_limit a_p1_value a_p1_kind a_p1_most a_p1_wishOff a_p1_use p1_wishes p1_isTold p1_gateOff) : va_W).map some := rfl
  obtain ⟨hPc, hDc⟩ := cutC hP hD [2, 3, 5] (by decide) hC
  have hFc := va_free hD hS hA [2, 3, 5] hC
  refine va_calli (va_runV (As := []) (rest := []) ⟨hx, hb, hml, hown, hts⟩ (c_X4_heldGates l D cy a_p1 a_p1_isTold a_p1_least a_p1_gateOff a_p1_limit a_p1_value a_p1_kind a_p1_most a_p1_wishOff a_p1_use _ h) (cwV 0 hts gX5_gatesHold_X4_heldGates rfl rfl rfl (by decide +kernel) ⟨Nat.le_of_ble_eq_true rfl, Nat.le_of_ble_eq_true rfl⟩) (preV hPc hDc hK hN (ci := 4) (q0 := 0) rfl rfl) rfl rfl hl.1 rfl (lv_room (Nat.le_of_ble_eq_true rfl)) dX5_gatesHold_1 ⟨Nat.zero_le _, Nat.zero_le _⟩) hS (fun q _ h => hFc q h) hFc (fun r1 u t H1 locs ht hvm h hB hz1 hk1 hS => ?_)
  try dsimp only at h hB
  obtain ⟨hP, hD⟩ := joinU (wd := (w_X5_gatesHold cy a_o a_o_x a_o_price a_p1 a_p1_isTold a_p1_least a_p1_gateOff a_p1_limit a_p1_value a_p1_kind a_p1_most a_p1_wishOff a_p1_use r_p1_use o_x p1_wishes p1_isTold p1_least p1_gateOff p1_limit p1_use)) (wr := [(a_o, .inr (5, [.ref a_o_x, .ref a_o_price])), (a_o_x, .inl (cy 2, 4, .inr (.inl o_x))), (a_p1_least, .inl (cy 3, 5, .inl p1_least)), (a_p1_limit, .inl (cy 1, 5, .inl p1_limit)), (a_p1_use, .inl (cy 4, 4, .inr (.inr (.inr (.inr (mref r_p1_use 4)))))), (r_p1_use 0, rowI (cy 1) 5 p1_use 0), (r_p1_use 1, rowI (cy 1) 5 p1_use 1), (r_p1_use 2, rowI (cy 1) 5 p1_use 2), (r_p1_use 3, rowI (cy 1) 5 p1_use 3)]) hP hD [2, 3, 5] [0, 1, 4, 6, 7, 8, 9, 10, 11] [a_p1, a_p1_isTold, a_p1_gateOff] hC hk1 ht hB rfl rfl rfl (N := 12) rfl (by decide) rfl rfl
  generalize H1 = H at hP hS ⊢
  refine lv_istore_n (lv' := [(2, .int r1), (0, .ref a_o), (1, .ref a_p1)]) hx hb dX5_gatesHold_4 rfl hl (by decide) rfl (fun ls hl => ?_)
  refine lv_iconst (v := 0) hx hb dX5_gatesHold_5 (by decide) ?_
  refine lv_istore_n (lv' := [(3, .int (0 : Int32)), (2, .int r1), (0, .ref a_o), (1, .ref a_p1)]) hx hb dX5_gatesHold_6 rfl hl (by decide) rfl (fun ls hl => ?_)
  obtain ⟨n16, h⟩ := h
  refine l_7 r1 _ ?_ _ ?_ n16 (0 : Int32) h _ _ hP hD hS _ (lv_sub hl [2, 3, 1, 0] rfl)
  · intro  h H locs hP hD hS ls hl
    refine lv_iconst (v := 1) hx hb dX5_gatesHold_112 (by decide) ?_
    exact hret (1 : Int32) () _ _ _ _ rfl h hP hD hS dX5_gatesHold_113
  · intro  h H locs hP hD hS ls hl
    refine lv_iconst (v := 0) hx hb dX5_gatesHold_104 (by decide) ?_
    exact hret (0 : Int32) () _ _ _ _ rfl h hP hD hS dX5_gatesHold_105
abbrev w_X5_pricesFit (cy : Nat → ClassId) (a_o a_o_x a_o_price a_p1 a_p1_isTold a_p1_least a_p1_gateOff a_p1_limit a_p1_value a_p1_kind a_p1_most a_p1_wishOff a_p1_use : Nat) (o_price : Nat → Int64) (p1_wishes : Int32) (p1_isTold : Nat → Int32) (p1_least : Nat → Int32) (p1_gateOff : Nat → Int32) : va_W := [(a_o, .inr (5, [.ref a_o_x, .ref a_o_price])), (a_o_price, .inl (cy 2, 5, .inr (.inl o_price))), (a_p1, .inr (4, [.ref a_p1_isTold, .ref a_p1_least, .ref a_p1_gateOff, .ref a_p1_limit, .ref a_p1_value, .ref a_p1_kind, .ref a_p1_most, .ref a_p1_wishOff, .ref a_p1_use, .int p1_wishes])), (a_p1_isTold, .inl (cy 3, 5, .inl p1_isTold)), (a_p1_least, .inl (cy 3, 5, .inl p1_least)), (a_p1_gateOff, .inl (cy 3, 5, .inl p1_gateOff))]
set_option maxHeartbeats 4000000 in
set_option maxRecDepth 100000 in
theorem c_X5_pricesFit (l : Launch) (D : va_G) (cy : Nat → ClassId) (a_o a_o_x a_o_price a_p1 a_p1_isTold a_p1_least a_p1_gateOff a_p1_limit a_p1_value a_p1_kind a_p1_most a_p1_wishOff a_p1_use : Nat) (sz : Nat)  {o_price : Nat → Int64} {p1_wishes : Int32} {p1_isTold : Nat → Int32} {p1_least : Nat → Int32} {p1_gateOff : Nat → Int32}  {post : Int32 → Prop} (h : wp_X5_pricesFit o_price p1_isTold p1_least p1_gateOff post) : Met l yX5_pricesFit wsX5_pricesFit ({ frames := 0, cells := 0, slots := 0, locals := 0 }) (va_Pc [.ref a_o, .ref a_p1] (wI D cy sz (w_X5_pricesFit cy a_o a_o_x a_o_price a_p1 a_p1_isTold a_p1_least a_p1_gateOff a_p1_limit a_p1_value a_p1_kind a_p1_most a_p1_wishOff a_p1_use o_price p1_wishes p1_isTold p1_least p1_gateOff))) (va_Qi (fun (r : Int32) (u : Unit) => post r ) (fun (u : Unit) t => wO D cy (va_A (w_X5_pricesFit cy a_o a_o_x a_o_price a_p1 a_p1_isTold a_p1_least a_p1_gateOff a_p1_limit a_p1_value a_p1_kind a_p1_most a_p1_wishOff a_p1_use o_price p1_wishes p1_isTold p1_least p1_gateOff) sz) (w_X5_pricesFit cy a_o a_o_x a_o_price a_p1 a_p1_isTold a_p1_least a_p1_gateOff a_p1_limit a_p1_value a_p1_kind a_p1_most a_p1_wishOff a_p1_use o_price p1_wishes p1_isTold p1_least p1_gateOff) t) (va_A (w_X5_pricesFit cy a_o a_o_x a_o_price a_p1 a_p1_isTold a_p1_least a_p1_gateOff a_p1_limit a_p1_value a_p1_kind a_p1_most a_p1_wishOff a_p1_use o_price p1_wishes p1_isTold p1_least p1_gateOff) sz)) 0 0 (va_A (w_X5_pricesFit cy a_o a_o_x a_o_price a_p1 a_p1_isTold a_p1_least a_p1_gateOff a_p1_limit a_p1_value a_p1_kind a_p1_most a_p1_wishOff a_p1_use o_price p1_wishes p1_isTold p1_least p1_gateOff) sz) := by
  refine contrZ (S := Unit) (post := fun (r : Int32) (u : Unit) => post r ) (wOut := fun (u : Unit) => (w_X5_pricesFit cy a_o a_o_x a_o_price a_p1 a_p1_isTold a_p1_least a_p1_gateOff a_p1_limit a_p1_value a_p1_kind a_p1_most a_p1_wishOff a_p1_use o_price p1_wishes p1_isTold p1_least p1_gateOff)) (cc := cX5_pricesFit) (maxL := 5) (own := RX5) (by decide +kernel) rfl rfl ?_
  intro p e s m args below meth c A Q hx hb hml hown hts hK hN hP hD hS hA hret
  have in_X4 : ∀ w ∈ u_ws RX4 TX4 10, w ∈ wsX5_pricesFit := by decide +kernel
  have fl_54 := hts (.fieldLink RX5 54 "DawnTable$Table" "isTold" "[Z") (by decide +kernel)
  have in_X5 : ∀ w ∈ u_ws RX5 TX5 2, w ∈ wsX5_pricesFit := by decide +kernel
  have fl_15 := hts (.fieldLink RX5 15 "DawnTable$Told" "price" "[J") (by decide +kernel)
  have fl_57 := hts (.fieldLink RX5 57 "DawnTable$Table" "gateOff" "[Z") (by decide +kernel)
  have fl_51 := hts (.fieldLink RX5 51 "DawnTable$Table" "least" "[Z") (by decide +kernel)
  have j_43_0 : ∀ (x2 : Int32) (x3 : Int64), ∀ (kb : Int32 → Prop), (∀ (x2 : Int32), kb x2 → ∀ (H : Heap) (locs : List Loc), va_P D vwCl (w_X5_pricesFit cy a_o a_o_x a_o_price a_p1 a_p1_isTold a_p1_least a_p1_gateOff a_p1_limit a_p1_value a_p1_kind a_p1_most a_p1_wishOff a_p1_use o_price p1_wishes p1_isTold p1_least p1_gateOff) H → va_D A (w_X5_pricesFit cy a_o a_o_x a_o_price a_p1 a_p1_isTold a_p1_least a_p1_gateOff a_p1_limit a_p1_value a_p1_kind a_p1_most a_p1_wishOff a_p1_use o_price p1_wishes p1_isTold p1_least p1_gateOff) → va_S A s.heap H locs → ∀ (ls : Array Slot), lv_has ls 5 [(0, .ref a_o), (1, .ref a_p1), (2, .int x2)] → W p l e ({ frames := 0, cells := 0, slots := 0, locals := 0 }) s m args below meth c H locs 0 0 Q (F0 m 2 ls [])) → ∀ (kx0 : Prop), (kx0  → ∀ (H : Heap) (locs : List Loc), va_P D vwCl (w_X5_pricesFit cy a_o a_o_x a_o_price a_p1 a_p1_isTold a_p1_least a_p1_gateOff a_p1_limit a_p1_value a_p1_kind a_p1_most a_p1_wishOff a_p1_use o_price p1_wishes p1_isTold p1_least p1_gateOff) H → va_D A (w_X5_pricesFit cy a_o a_o_x a_o_price a_p1 a_p1_isTold a_p1_least a_p1_gateOff a_p1_limit a_p1_value a_p1_kind a_p1_most a_p1_wishOff a_p1_use o_price p1_wishes p1_isTold p1_least p1_gateOff) → va_S A s.heap H locs → ∀ (ls : Array Slot), lv_has ls 5 [] → W p l e ({ frames := 0, cells := 0, slots := 0, locals := 0 }) s m args below meth c H locs 0 0 Q (F0 m 75 ls [])) → ∀ (kx1 : Prop), (kx1  → ∀ (H : Heap) (locs : List Loc), va_P D vwCl (w_X5_pricesFit cy a_o a_o_x a_o_price a_p1 a_p1_isTold a_p1_least a_p1_gateOff a_p1_limit a_p1_value a_p1_kind a_p1_most a_p1_wishOff a_p1_use o_price p1_wishes p1_isTold p1_least p1_gateOff) H → va_D A (w_X5_pricesFit cy a_o a_o_x a_o_price a_p1 a_p1_isTold a_p1_least a_p1_gateOff a_p1_limit a_p1_value a_p1_kind a_p1_most a_p1_wishOff a_p1_use o_price p1_wishes p1_isTold p1_least p1_gateOff) → va_S A s.heap H locs → ∀ (ls : Array Slot), lv_has ls 5 [] → W p l e ({ frames := 0, cells := 0, slots := 0, locals := 0 }) s m args below meth c H locs 0 0 Q (F0 m 67 ls [])) → ∀ (kx2 : Prop), (kx2  → ∀ (H : Heap) (locs : List Loc), va_P D vwCl (w_X5_pricesFit cy a_o a_o_x a_o_price a_p1 a_p1_isTold a_p1_least a_p1_gateOff a_p1_limit a_p1_value a_p1_kind a_p1_most a_p1_wishOff a_p1_use o_price p1_wishes p1_isTold p1_least p1_gateOff) H → va_D A (w_X5_pricesFit cy a_o a_o_x a_o_price a_p1 a_p1_isTold a_p1_least a_p1_gateOff a_p1_limit a_p1_value a_p1_kind a_p1_most a_p1_wishOff a_p1_use o_price p1_wishes p1_isTold p1_least p1_gateOff) → va_S A s.heap H locs → ∀ (ls : Array Slot), lv_has ls 5 [] → W p l e ({ frames := 0, cells := 0, slots := 0, locals := 0 }) s m args below meth c H locs 0 0 Q (F0 m 41 ls [])) → wj_X5_pricesFit_43  x2 x3 o_price p1_isTold p1_least p1_gateOff kb kx0 kx1 kx2 post → ∀ (H : Heap) (locs : List Loc), va_P D vwCl (w_X5_pricesFit cy a_o a_o_x a_o_price a_p1 a_p1_isTold a_p1_least a_p1_gateOff a_p1_limit a_p1_value a_p1_kind a_p1_most a_p1_wishOff a_p1_use o_price p1_wishes p1_isTold p1_least p1_gateOff) H → va_D A (w_X5_pricesFit cy a_o a_o_x a_o_price a_p1 a_p1_isTold a_p1_least a_p1_gateOff a_p1_limit a_p1_value a_p1_kind a_p1_most a_p1_wishOff a_p1_use o_price p1_wishes p1_isTold p1_least p1_gateOff) → va_S A s.heap H locs → ∀ (ls : Array Slot), lv_has ls 5 [(0, .ref a_o), (1, .ref a_p1), (2, .int x2), (3, .long x3)] → W p l e ({ frames := 0, cells := 0, slots := 0, locals := 0 }) s m args below meth c H locs 0 0 Q (F0 m 43 ls []) := by
    intro x2 x3 kb hkb kx0 hkx0 kx1 hkx1 kx2 hkx2  h H locs hP hD hS ls hl
    unfold wj_X5_pricesFit_43 at h
    refine lv_aload_n hx hb dX5_pricesFit_43 rfl (lv_at hl 1 rfl) ?_
    refine va_get (D := D) (ci := 4) (v := .ref a_p1_least) (C := RX4) (T := TX4) (N := 10) hx hb hts in_X4 hown hK hP 2 rfl rfl 1 (by decide) fl_51 (fun _ h9 => h9) rfl dX5_pricesFit_44 ?_
    refine lv_iload_n hx hb dX5_pricesFit_47 rfl (lv_at hl 2 rfl) ?_
    obtain ⟨i5, h⟩ := h
    refine va_zald hx hb hK hP 4 3 rfl rfl i5 dX5_pricesFit_48 ?_
    refine lv_if_eq (tgt := 61) hx hb dX5_pricesFit_49 (by decide) (fun c6 => ?_) (fun c6 => ?_)
    · have h := h.1 c6
      refine lv_lload_n hx hb dX5_pricesFit_61 rfl (lv_at hl 3 rfl) ?_
      refine lv_lconst (v := 0) hx hb dX5_pricesFit_62 (by decide) ?_
      refine W.lcmp hx hb dX5_pricesFit_63 ?_
      refine lv_if_ge (tgt := 69) hx hb dX5_pricesFit_64 (by decide) (fun c7 => ?_) (fun c7 => ?_)
      · have h := h.1 (lc_ge.mp c7)
        refine lv_iinc (v := (x2 + (1 : Int32))) (lv' := [(2, .int (x2 + (1 : Int32))), (0, .ref a_o), (1, .ref a_p1), (3, .long x3)]) hx hb dX5_pricesFit_69 hl (k := 2) rfl (congrArg (fun z => x2 + z) (by decide : Int32.ofInt (1) = (1 : Int32))) (by decide) rfl (fun ls hl => ?_)
        refine lv_goto (tgt := 2) hx hb dX5_pricesFit_72 (by decide) ?_
        exact hkb (x2 + (1 : Int32)) h _ _ hP hD hS _ (lv_sub hl [1, 2, 0] rfl)
      · have h := h.2 (fun z => c7 (lc_ge.mpr z))
        exact hkx1 h _ _ hP hD hS _ (lv_sub hl [] rfl)
    · have h := h.2 c6
      refine lv_lload_n hx hb dX5_pricesFit_52 rfl (lv_at hl 3 rfl) ?_
      refine lv_lconst (v := 0) hx hb dX5_pricesFit_53 (by decide) ?_
      refine W.lcmp hx hb dX5_pricesFit_54 ?_
      refine lv_if_le (tgt := 69) hx hb dX5_pricesFit_55 (by decide) (fun c8 => ?_) (fun c8 => ?_)
      · have h := h.1 (lc_le.mp c8)
        refine lv_iinc (v := (x2 + (1 : Int32))) (lv' := [(2, .int (x2 + (1 : Int32))), (0, .ref a_o), (1, .ref a_p1), (3, .long x3)]) hx hb dX5_pricesFit_69 hl (k := 2) rfl (congrArg (fun z => x2 + z) (by decide : Int32.ofInt (1) = (1 : Int32))) (by decide) rfl (fun ls hl => ?_)
        refine lv_goto (tgt := 2) hx hb dX5_pricesFit_72 (by decide) ?_
        exact hkb (x2 + (1 : Int32)) h _ _ hP hD hS _ (lv_sub hl [1, 2, 0] rfl)
      · have h := h.2 (fun z => c8 (lc_le.mpr z))
        refine lv_goto (tgt := 67) hx hb dX5_pricesFit_58 (by decide) ?_
        exact hkx1 h _ _ hP hD hS _ (lv_sub hl [] rfl)
  have l_2 : ∀ (kx0 : Prop), (kx0  → ∀ (H : Heap) (locs : List Loc), va_P D vwCl (w_X5_pricesFit cy a_o a_o_x a_o_price a_p1 a_p1_isTold a_p1_least a_p1_gateOff a_p1_limit a_p1_value a_p1_kind a_p1_most a_p1_wishOff a_p1_use o_price p1_wishes p1_isTold p1_least p1_gateOff) H → va_D A (w_X5_pricesFit cy a_o a_o_x a_o_price a_p1 a_p1_isTold a_p1_least a_p1_gateOff a_p1_limit a_p1_value a_p1_kind a_p1_most a_p1_wishOff a_p1_use o_price p1_wishes p1_isTold p1_least p1_gateOff) → va_S A s.heap H locs → ∀ (ls : Array Slot), lv_has ls 5 [] → W p l e ({ frames := 0, cells := 0, slots := 0, locals := 0 }) s m args below meth c H locs 0 0 Q (F0 m 75 ls [])) → ∀ (kx1 : Prop), (kx1  → ∀ (H : Heap) (locs : List Loc), va_P D vwCl (w_X5_pricesFit cy a_o a_o_x a_o_price a_p1 a_p1_isTold a_p1_least a_p1_gateOff a_p1_limit a_p1_value a_p1_kind a_p1_most a_p1_wishOff a_p1_use o_price p1_wishes p1_isTold p1_least p1_gateOff) H → va_D A (w_X5_pricesFit cy a_o a_o_x a_o_price a_p1 a_p1_isTold a_p1_least a_p1_gateOff a_p1_limit a_p1_value a_p1_kind a_p1_most a_p1_wishOff a_p1_use o_price p1_wishes p1_isTold p1_least p1_gateOff) → va_S A s.heap H locs → ∀ (ls : Array Slot), lv_has ls 5 [] → W p l e ({ frames := 0, cells := 0, slots := 0, locals := 0 }) s m args below meth c H locs 0 0 Q (F0 m 67 ls [])) → ∀ (kx2 : Prop), (kx2  → ∀ (H : Heap) (locs : List Loc), va_P D vwCl (w_X5_pricesFit cy a_o a_o_x a_o_price a_p1 a_p1_isTold a_p1_least a_p1_gateOff a_p1_limit a_p1_value a_p1_kind a_p1_most a_p1_wishOff a_p1_use o_price p1_wishes p1_isTold p1_least p1_gateOff) H → va_D A (w_X5_pricesFit cy a_o a_o_x a_o_price a_p1 a_p1_isTold a_p1_least a_p1_gateOff a_p1_limit a_p1_value a_p1_kind a_p1_most a_p1_wishOff a_p1_use o_price p1_wishes p1_isTold p1_least p1_gateOff) → va_S A s.heap H locs → ∀ (ls : Array Slot), lv_has ls 5 [] → W p l e ({ frames := 0, cells := 0, slots := 0, locals := 0 }) s m args below meth c H locs 0 0 Q (F0 m 41 ls [])) → ∀ (n : Nat) (x2 : Int32), wl_X5_pricesFit_2 o_price p1_isTold p1_least p1_gateOff kx0 kx1 kx2 post n x2 → ∀ (H : Heap) (locs : List Loc), va_P D vwCl (w_X5_pricesFit cy a_o a_o_x a_o_price a_p1 a_p1_isTold a_p1_least a_p1_gateOff a_p1_limit a_p1_value a_p1_kind a_p1_most a_p1_wishOff a_p1_use o_price p1_wishes p1_isTold p1_least p1_gateOff) H → va_D A (w_X5_pricesFit cy a_o a_o_x a_o_price a_p1 a_p1_isTold a_p1_least a_p1_gateOff a_p1_limit a_p1_value a_p1_kind a_p1_most a_p1_wishOff a_p1_use o_price p1_wishes p1_isTold p1_least p1_gateOff) → va_S A s.heap H locs → ∀ (ls : Array Slot), lv_has ls 5 [(0, .ref a_o), (1, .ref a_p1), (2, .int x2)] → W p l e ({ frames := 0, cells := 0, slots := 0, locals := 0 }) s m args below meth c H locs 0 0 Q (F0 m 2 ls []) := by
    intro  kx0 hkx0 kx1 hkx1 kx2 hkx2  n
    induction n with
    | zero => intro x2 h; exact h.elim
    | succ n hkb =>
      intro x2 h H locs hP hD hS ls hl
      replace h : ws_X5_pricesFit_2 o_price p1_isTold p1_least p1_gateOff (wl_X5_pricesFit_2 o_price p1_isTold p1_least p1_gateOff kx0 kx1 kx2 post n) kx0 kx1 kx2 post x2 := h
      generalize wl_X5_pricesFit_2 o_price p1_isTold p1_least p1_gateOff kx0 kx1 kx2 post n = kb at h hkb
      unfold ws_X5_pricesFit_2 at h
      refine lv_iload_n hx hb dX5_pricesFit_2 rfl (lv_at hl 2 rfl) ?_
      refine lv_iconst (v := 5) hx hb dX5_pricesFit_3 (by decide) ?_
      refine lv_icmp_ge (tgt := 75) hx hb dX5_pricesFit_4 (by decide) (fun c1 => ?_) (fun c1 => ?_)
      · have h := h.1 c1
        exact hkx0 h _ _ hP hD hS _ (lv_sub hl [] rfl)
      · have h := h.2 c1
        refine lv_aload_n hx hb dX5_pricesFit_7 rfl (lv_at hl 1 rfl) ?_
        refine va_get (D := D) (ci := 4) (v := .ref a_p1_isTold) (C := RX4) (T := TX4) (N := 10) hx hb hts in_X4 hown hK hP 2 rfl rfl 0 (by decide) fl_54 (fun _ h9 => h9) rfl dX5_pricesFit_8 ?_
        refine lv_iload_n hx hb dX5_pricesFit_11 rfl (lv_at hl 2 rfl) ?_
        obtain ⟨i2, h⟩ := h
        refine va_zald hx hb hK hP 3 3 rfl rfl i2 dX5_pricesFit_12 ?_
        refine lv_if_ne (tgt := 19) hx hb dX5_pricesFit_13 (by decide) (fun c3 => ?_) (fun c3 => ?_)
        · have h := h.2 c3
          refine lv_aload_n hx hb dX5_pricesFit_19 rfl (lv_at hl 0 rfl) ?_
          refine va_get (D := D) (ci := 5) (v := .ref a_o_price) (C := RX5) (T := TX5) (N := 2) hx hb hts in_X5 hown hK hP 0 rfl rfl 1 (by decide) fl_15 (fun _ h9 => h9) rfl dX5_pricesFit_20 ?_
          refine lv_iload_n hx hb dX5_pricesFit_23 rfl (lv_at hl 2 rfl) ?_
          refine va_lald hx hb hK hP 1 2 rfl rfl i2 dX5_pricesFit_24 ?_
          refine lv_lstore_n (lv' := [(3, .long (o_price (x2).toNatClampNeg)), (0, .ref a_o), (1, .ref a_p1), (2, .int x2)]) hx hb dX5_pricesFit_25 rfl hl (by decide) rfl (fun ls hl => ?_)
          refine lv_aload_n hx hb dX5_pricesFit_26 rfl (lv_at hl 2 rfl) ?_
          refine va_get (D := D) (ci := 4) (v := .ref a_p1_gateOff) (C := RX4) (T := TX4) (N := 10) hx hb hts in_X4 hown hK hP 2 rfl rfl 2 (by decide) fl_57 (fun _ h9 => h9) rfl dX5_pricesFit_27 ?_
          refine lv_iload_n hx hb dX5_pricesFit_30 rfl (lv_at hl 3 rfl) ?_
          refine va_zald hx hb hK hP 5 3 rfl rfl i2 dX5_pricesFit_31 ?_
          refine lv_if_eq (tgt := 43) hx hb dX5_pricesFit_32 (by decide) (fun c4 => ?_) (fun c4 => ?_)
          · have h := h.1 c4
            exact j_43_0 x2 (o_price (x2).toNatClampNeg) kb hkb kx0 hkx0 kx1 hkx1 kx2 hkx2 h _ _ hP hD hS _ (lv_sub hl [1, 2, 3, 0] rfl)
          · have h := h.2 c4
            refine lv_lload_n hx hb dX5_pricesFit_35 rfl (lv_at hl 0 rfl) ?_
            refine lv_lconst (v := 0) hx hb dX5_pricesFit_36 (by decide) ?_
            refine W.lcmp hx hb dX5_pricesFit_37 ?_
            refine lv_if_eq (tgt := 43) hx hb dX5_pricesFit_38 (by decide) (fun c9 => ?_) (fun c9 => ?_)
            · have h := h.1 (lc_eq.mp c9)
              exact j_43_0 x2 (o_price (x2).toNatClampNeg) kb hkb kx0 hkx0 kx1 hkx1 kx2 hkx2 h _ _ hP hD hS _ (lv_sub hl [1, 2, 3, 0] rfl)
            · have h := h.2 (fun z => c9 (lc_eq.mpr z))
              exact hkx2 h _ _ hP hD hS _ (lv_sub hl [] rfl)
        · have h := h.1 c3
          refine lv_goto (tgt := 69) hx hb dX5_pricesFit_16 (by decide) ?_
          refine lv_iinc (v := (x2 + (1 : Int32))) (lv' := [(2, .int (x2 + (1 : Int32))), (0, .ref a_o), (1, .ref a_p1)]) hx hb dX5_pricesFit_69 hl (k := 2) rfl (congrArg (fun z => x2 + z) (by decide : Int32.ofInt (1) = (1 : Int32))) (by decide) rfl (fun ls hl => ?_)
          refine lv_goto (tgt := 2) hx hb dX5_pricesFit_72 (by decide) ?_
          exact hkb (x2 + (1 : Int32)) h _ _ hP hD hS _ (lv_sub hl [1, 2, 0] rfl)
  refine ent [.ref a_o, .ref a_p1] (Nat.le_of_ble_eq_true rfl) (fun ls hl => ?_)
  have hl : lv_has ls 5 [(0, .ref a_o), (1, .ref a_p1)] := hl
  unfold wp_X5_pricesFit at h
  refine lv_iconst (v := 0) hx hb dX5_pricesFit_0 (by decide) ?_
  refine lv_istore_n (lv' := [(2, .int (0 : Int32)), (0, .ref a_o), (1, .ref a_p1)]) hx hb dX5_pricesFit_1 rfl hl (by decide) rfl (fun ls hl => ?_)
  obtain ⟨n10, h⟩ := h
  refine l_2  _ ?_ _ ?_ _ ?_ n10 (0 : Int32) h _ _ hP hD hS _ (lv_sub hl [1, 2, 0] rfl)
  · intro  h H locs hP hD hS ls hl
    refine lv_iconst (v := 1) hx hb dX5_pricesFit_75 (by decide) ?_
    exact hret (1 : Int32) () _ _ _ _ rfl h hP hD hS dX5_pricesFit_76
  · intro  h H locs hP hD hS ls hl
    refine lv_iconst (v := 0) hx hb dX5_pricesFit_67 (by decide) ?_
    exact hret (0 : Int32) () _ _ _ _ rfl h hP hD hS dX5_pricesFit_68
  · intro  h H locs hP hD hS ls hl
    refine lv_iconst (v := 0) hx hb dX5_pricesFit_41 (by decide) ?_
    exact hret (0 : Int32) () _ _ _ _ rfl h hP hD hS dX5_pricesFit_42
abbrev w_X5_rest (cy : Nat → ClassId) (a_o a_o_x a_o_price a_p1 a_p1_isTold a_p1_least a_p1_gateOff a_p1_limit a_p1_value a_p1_kind a_p1_most a_p1_wishOff a_p1_use : Nat) (r_p1_use : Nat → Nat) (o_price : Nat → Int64) (p1_wishes : Int32) (p1_value : Nat → Int32) (p1_use : Nat → Nat → Int32) : va_W := [(a_o, .inr (5, [.ref a_o_x, .ref a_o_price])), (a_o_price, .inl (cy 2, 5, .inr (.inl o_price))), (a_p1, .inr (4, [.ref a_p1_isTold, .ref a_p1_least, .ref a_p1_gateOff, .ref a_p1_limit, .ref a_p1_value, .ref a_p1_kind, .ref a_p1_most, .ref a_p1_wishOff, .ref a_p1_use, .int p1_wishes])), (a_p1_value, .inl (cy 1, 4, .inl p1_value)), (a_p1_use, .inl (cy 4, 4, .inr (.inr (.inr (.inr (mref r_p1_use 4))))))] ++ rows4 r_p1_use (rowI (cy 1) 5 p1_use) ++ []
set_option maxHeartbeats 4000000 in
set_option maxRecDepth 100000 in
theorem c_X5_rest (l : Launch) (D : va_G) (cy : Nat → ClassId) (a_o a_o_x a_o_price a_p1 a_p1_isTold a_p1_least a_p1_gateOff a_p1_limit a_p1_value a_p1_kind a_p1_most a_p1_wishOff a_p1_use : Nat) (r_p1_use : Nat → Nat) (sz : Nat)  {o_price : Nat → Int64} {p1_wishes : Int32} {p1_value : Nat → Int32} {p1_use : Nat → Nat → Int32} {x2 : Int32} {post : Int64 → Prop} (h : wp_X5_rest o_price p1_value p1_use x2 post) : Met l yX5_rest wsX5_rest ({ frames := 1, cells := 0, slots := 0, locals := 40 }) (va_Pc [.ref a_o, .ref a_p1, .int x2] (wI D cy sz (w_X5_rest cy a_o a_o_x a_o_price a_p1 a_p1_isTold a_p1_least a_p1_gateOff a_p1_limit a_p1_value a_p1_kind a_p1_most a_p1_wishOff a_p1_use r_p1_use o_price p1_wishes p1_value p1_use))) (va_Ql (fun (r : Int64) (u : Unit) => post r ) (fun (u : Unit) t => wO D cy (va_A (w_X5_rest cy a_o a_o_x a_o_price a_p1 a_p1_isTold a_p1_least a_p1_gateOff a_p1_limit a_p1_value a_p1_kind a_p1_most a_p1_wishOff a_p1_use r_p1_use o_price p1_wishes p1_value p1_use) sz) (w_X5_rest cy a_o a_o_x a_o_price a_p1 a_p1_isTold a_p1_least a_p1_gateOff a_p1_limit a_p1_value a_p1_kind a_p1_most a_p1_wishOff a_p1_use r_p1_use o_price p1_wishes p1_value p1_use) t) (va_A (w_X5_rest cy a_o a_o_x a_o_price a_p1 a_p1_isTold a_p1_least a_p1_gateOff a_p1_limit a_p1_value a_p1_kind a_p1_most a_p1_wishOff a_p1_use r_p1_use o_price p1_wishes p1_value p1_use) sz)) 0 0 (va_A (w_X5_rest cy a_o a_o_x a_o_price a_p1 a_p1_isTold a_p1_least a_p1_gateOff a_p1_limit a_p1_value a_p1_kind a_p1_most a_p1_wishOff a_p1_use r_p1_use o_price p1_wishes p1_value p1_use) sz) := by
  refine contrL (S := Unit) (post := fun (r : Int64) (u : Unit) => post r ) (wOut := fun (u : Unit) => (w_X5_rest cy a_o a_o_x a_o_price a_p1 a_p1_isTold a_p1_least a_p1_gateOff a_p1_limit a_p1_value a_p1_kind a_p1_most a_p1_wishOff a_p1_use r_p1_use o_price p1_wishes p1_value p1_use)) (cc := cX5_rest) (maxL := 6) (own := RX5) (by decide +kernel) rfl rfl ?_
  intro p e s m args below meth c A Q hx hb hml hown hts hK hN hP hD hS hA hret
  have in_X4 : ∀ w ∈ u_ws RX4 TX4 10, w ∈ wsX5_rest := by decide +kernel
  have fl_60 := hts (.fieldLink RX5 60 "DawnTable$Table" "value" "[I") (by decide +kernel)
  have fl_47 := hts (.fieldLink RX5 47 "DawnTable$Table" "use" "[[I") (by decide +kernel)
  have in_X5 : ∀ w ∈ u_ws RX5 TX5 2, w ∈ wsX5_rest := by decide +kernel
  have fl_15 := hts (.fieldLink RX5 15 "DawnTable$Told" "price" "[J") (by decide +kernel)
  have l_15 : ∀ (x2 : Int32), ∀ (kx0 : Int64 → Prop), (∀ (x3 : Int64), kx0 x3 → ∀ (H : Heap) (locs : List Loc), va_P D vwCl (w_X5_rest cy a_o a_o_x a_o_price a_p1 a_p1_isTold a_p1_least a_p1_gateOff a_p1_limit a_p1_value a_p1_kind a_p1_most a_p1_wishOff a_p1_use r_p1_use o_price p1_wishes p1_value p1_use) H → va_D A (w_X5_rest cy a_o a_o_x a_o_price a_p1 a_p1_isTold a_p1_least a_p1_gateOff a_p1_limit a_p1_value a_p1_kind a_p1_most a_p1_wishOff a_p1_use r_p1_use o_price p1_wishes p1_value p1_use) → va_S A s.heap H locs → ∀ (ls : Array Slot), lv_has ls 6 [(3, .long x3)] → W p l e ({ frames := 1, cells := 0, slots := 0, locals := 40 }) s m args below meth c H locs 0 0 Q (F0 m 48 ls [])) → ∀ (n : Nat) (x3 : Int64) (x5 : Int32), wl_X5_rest_15 x2 o_price p1_value p1_use kx0 post n x3 x5 → ∀ (H : Heap) (locs : List Loc), va_P D vwCl (w_X5_rest cy a_o a_o_x a_o_price a_p1 a_p1_isTold a_p1_least a_p1_gateOff a_p1_limit a_p1_value a_p1_kind a_p1_most a_p1_wishOff a_p1_use r_p1_use o_price p1_wishes p1_value p1_use) H → va_D A (w_X5_rest cy a_o a_o_x a_o_price a_p1 a_p1_isTold a_p1_least a_p1_gateOff a_p1_limit a_p1_value a_p1_kind a_p1_most a_p1_wishOff a_p1_use r_p1_use o_price p1_wishes p1_value p1_use) → va_S A s.heap H locs → ∀ (ls : Array Slot), lv_has ls 6 [(0, .ref a_o), (1, .ref a_p1), (2, .int x2), (3, .long x3), (5, .int x5)] → W p l e ({ frames := 1, cells := 0, slots := 0, locals := 40 }) s m args below meth c H locs 0 0 Q (F0 m 15 ls []) := by
    intro x2 kx0 hkx0  n
    induction n with
    | zero => intro x3 x5 h; exact h.elim
    | succ n hkb =>
      intro x3 x5 h H locs hP hD hS ls hl
      replace h : ws_X5_rest_15 x2 o_price p1_value p1_use (wl_X5_rest_15 x2 o_price p1_value p1_use kx0 post n) kx0 post x3 x5 := h
      generalize wl_X5_rest_15 x2 o_price p1_value p1_use kx0 post n = kb at h hkb
      unfold ws_X5_rest_15 at h
      refine lv_iload hx hb dX5_rest_15 (lv_at hl 4 rfl) ?_
      refine lv_iconst (v := 5) hx hb dX5_rest_17 (by decide) ?_
      refine lv_icmp_ge (tgt := 48) hx hb dX5_rest_18 (by decide) (fun c2 => ?_) (fun c2 => ?_)
      · have h := h.1 c2
        exact hkx0 x3 h _ _ hP hD hS _ (lv_sub hl [3] rfl)
      · have h := h.2 c2
        refine lv_lload_n hx hb dX5_rest_21 rfl (lv_at hl 3 rfl) ?_
        refine lv_aload_n hx hb dX5_rest_22 rfl (lv_at hl 1 rfl) ?_
        refine va_get (D := D) (ci := 4) (v := .ref a_p1_use) (C := RX4) (T := TX4) (N := 10) hx hb hts in_X4 hown hK hP 2 rfl rfl 8 (by decide) fl_47 (fun _ h9 => h9) rfl dX5_rest_23 ?_
        refine lv_iload_n hx hb dX5_rest_26 rfl (lv_at hl 2 rfl) ?_
        obtain ⟨i3, h⟩ := h
        refine mx_ald hx hb hK hP 4 4 rfl rfl i3 dX5_rest_27 ?_
        refine lv_iload hx hb dX5_rest_28 (lv_at hl 4 rfl) ?_
        obtain ⟨i4, h⟩ := h
        refine va_iald hx hb hK hP (5 + (x2).toNatClampNeg) 1 (gI0 (in_lt i3)) rfl i4 dX5_rest_30 ?_
        refine lv_i2l hx hb dX5_rest_31 rfl ?_
        refine lv_aload_n hx hb dX5_rest_32 rfl (lv_at hl 0 rfl) ?_
        refine va_get (D := D) (ci := 5) (v := .ref a_o_price) (C := RX5) (T := TX5) (N := 2) hx hb hts in_X5 hown hK hP 0 rfl rfl 1 (by decide) fl_15 (fun _ h9 => h9) rfl dX5_rest_33 ?_
        refine lv_iload hx hb dX5_rest_36 (lv_at hl 4 rfl) ?_
        refine va_lald hx hb hK hP 1 2 rfl rfl i4 dX5_rest_38 ?_
        refine lv_lmul hx hb dX5_rest_39 ?_
        refine lv_lsub hx hb dX5_rest_40 ?_
        refine lv_topl (fun v5 ev5 => ?_)
        have h := h v5 ev5
        refine lv_lstore_n (lv' := [(3, .long v5), (0, .ref a_o), (1, .ref a_p1), (2, .int x2), (5, .int x5)]) hx hb dX5_rest_41 rfl hl (by decide) rfl (fun ls hl => ?_)
        refine lv_iinc (v := (x5 + (1 : Int32))) (lv' := [(5, .int (x5 + (1 : Int32))), (3, .long v5), (0, .ref a_o), (1, .ref a_p1), (2, .int x2)]) hx hb dX5_rest_42 hl (k := 4) rfl (congrArg (fun z => x5 + z) (by decide : Int32.ofInt (1) = (1 : Int32))) (by decide) rfl (fun ls hl => ?_)
        refine lv_goto (tgt := 15) hx hb dX5_rest_45 (by decide) ?_
        exact hkb v5 (x5 + (1 : Int32)) h _ _ hP hD hS _ (lv_sub hl [2, 3, 4, 1, 0] rfl)
  refine ent [.ref a_o, .ref a_p1, .int x2] (Nat.le_of_ble_eq_true rfl) (fun ls hl => ?_)
  have hl : lv_has ls 6 [(0, .ref a_o), (1, .ref a_p1), (2, .int x2)] := hl
  unfold wp_X5_rest at h
  refine lv_aload_n hx hb dX5_rest_0 rfl (lv_at hl 1 rfl) ?_
  refine va_get (D := D) (ci := 4) (v := .ref a_p1_value) (C := RX4) (T := TX4) (N := 10) hx hb hts in_X4 hown hK hP 2 rfl rfl 4 (by decide) fl_60 (fun _ h9 => h9) rfl dX5_rest_1 ?_
  refine lv_iload_n hx hb dX5_rest_4 rfl (lv_at hl 2 rfl) ?_
  obtain ⟨i1, h⟩ := h
  refine va_iald hx hb hK hP 3 1 rfl rfl i1 dX5_rest_5 ?_
  refine lv_i2l hx hb dX5_rest_6 rfl ?_
  refine lv_ldc2 hx hb hown (hts (.constantLong RX5 38 (27720)) (by decide +kernel)) dX5_rest_7 ?_
  refine lv_lmul hx hb dX5_rest_10 ?_
  refine lv_lstore_n (lv' := [(3, .long (((p1_value (x2).toNatClampNeg)).toInt64 * (27720 : Int64))), (0, .ref a_o), (1, .ref a_p1), (2, .int x2)]) hx hb dX5_rest_11 rfl hl (by decide) rfl (fun ls hl => ?_)
  refine lv_iconst (v := 0) hx hb dX5_rest_12 (by decide) ?_
  refine lv_istore (lv' := [(5, .int (0 : Int32)), (3, .long (((p1_value (x2).toNatClampNeg)).toInt64 * (27720 : Int64))), (0, .ref a_o), (1, .ref a_p1), (2, .int x2)]) hx hb dX5_rest_13 hl (by decide) rfl (fun ls hl => ?_)
  obtain ⟨n7, h⟩ := h
  refine l_15 x2 _ ?_ n7 (((p1_value (x2).toNatClampNeg)).toInt64 * (27720 : Int64)) (0 : Int32) h _ _ hP hD hS _ (lv_sub hl [2, 3, 4, 1, 0] rfl)
  · intro x3_6 h H locs hP hD hS ls hl
    refine lv_lload_n hx hb dX5_rest_48 rfl (lv_at hl 0 rfl) ?_
    refine lv_lconst (v := 0) hx hb dX5_rest_49 (by decide) ?_
    refine va_mmax_long hx hb (hml.trans hl.1.symm) hown (hts (.methodLink RX5 67 Lib.MathLoose.max_long.x) (by decide +kernel)) (hts (.static Lib.MathLoose.max_long.x) (by decide +kernel)) (hts (.initialized "java/lang/Math") (by decide +kernel)) (hts (.code Lib.MathLoose.max_long.x Lib.MathLoose.max_long.code 4 (some .long)) (by decide +kernel)) (Nat.le_of_ble_eq_true rfl) (Nat.le_of_ble_eq_true rfl) (Nat.le_of_ble_eq_true rfl) (Nat.le_of_ble_eq_true rfl) dX5_rest_50 ?_
    exact hret (if (0 : Int64) < x3_6 then x3_6 else (0 : Int64)) () _ _ _ _ h hP hD hS dX5_rest_53
abbrev w_X5_sumsMeet (cy : Nat → ClassId) (a_o a_o_x a_o_price a_p1 a_p1_isTold a_p1_least a_p1_gateOff a_p1_limit a_p1_value a_p1_kind a_p1_most a_p1_wishOff a_p1_use : Nat) (r_p1_use : Nat → Nat) (o_x : Nat → Int64) (o_price : Nat → Int64) (p1_wishes : Int32) (p1_isTold : Nat → Int32) (p1_limit : Nat → Int32) (p1_value : Nat → Int32) (p1_most : Nat → Int32) (p1_wishOff : Nat → Int32) (p1_use : Nat → Nat → Int32) : va_W := [(a_o, .inr (5, [.ref a_o_x, .ref a_o_price])), (a_o_x, .inl (cy 2, 4, .inr (.inl o_x))), (a_o_price, .inl (cy 2, 5, .inr (.inl o_price))), (a_p1, .inr (4, [.ref a_p1_isTold, .ref a_p1_least, .ref a_p1_gateOff, .ref a_p1_limit, .ref a_p1_value, .ref a_p1_kind, .ref a_p1_most, .ref a_p1_wishOff, .ref a_p1_use, .int p1_wishes])), (a_p1_isTold, .inl (cy 3, 5, .inl p1_isTold)), (a_p1_limit, .inl (cy 1, 5, .inl p1_limit)), (a_p1_value, .inl (cy 1, 4, .inl p1_value)), (a_p1_most, .inl (cy 1, 4, .inl p1_most)), (a_p1_wishOff, .inl (cy 3, 4, .inl p1_wishOff)), (a_p1_use, .inl (cy 4, 4, .inr (.inr (.inr (.inr (mref r_p1_use 4))))))] ++ rows4 r_p1_use (rowI (cy 1) 5 p1_use) ++ []
set_option maxRecDepth 20000 in
theorem ggX5_sumsMeet_X5_rest : GoodIn wsX5_sumsMeet wsX5_rest := goodIn_r _ [13, 2, 14, 15, 8, 16, 17, 18, 19, 20, 21, 22, 23, 24, 25, 26, 27, 28, 29, 30, 31] (by decide +kernel) (by decide +kernel)
set_option maxRecDepth 20000 in
theorem gX5_sumsMeet_X5_rest : GoodIn wsX5_sumsMeet (wsV RX5 63 RX5 yX5_rest wsX5_rest) := goodIn_app (goodIn_of _ (by decide +kernel)) ggX5_sumsMeet_X5_rest
set_option maxHeartbeats 4000000 in
set_option maxRecDepth 100000 in
theorem c_X5_sumsMeet (l : Launch) (D : va_G) (cy : Nat → ClassId) (a_o a_o_x a_o_price a_p1 a_p1_isTold a_p1_least a_p1_gateOff a_p1_limit a_p1_value a_p1_kind a_p1_most a_p1_wishOff a_p1_use : Nat) (r_p1_use : Nat → Nat) (sz : Nat)  {o_x : Nat → Int64} {o_price : Nat → Int64} {p1_wishes : Int32} {p1_isTold : Nat → Int32} {p1_limit : Nat → Int32} {p1_value : Nat → Int32} {p1_most : Nat → Int32} {p1_wishOff : Nat → Int32} {p1_use : Nat → Nat → Int32}  {post : Int32 → Prop} (h : wp_X5_sumsMeet o_x o_price p1_wishes p1_isTold p1_limit p1_value p1_most p1_wishOff p1_use post) : Met l yX5_sumsMeet wsX5_sumsMeet ({ frames := 2, cells := 0, slots := 0, locals := 65 }) (va_Pc [.ref a_o, .ref a_p1] (wI D cy sz (w_X5_sumsMeet cy a_o a_o_x a_o_price a_p1 a_p1_isTold a_p1_least a_p1_gateOff a_p1_limit a_p1_value a_p1_kind a_p1_most a_p1_wishOff a_p1_use r_p1_use o_x o_price p1_wishes p1_isTold p1_limit p1_value p1_most p1_wishOff p1_use))) (va_Qi (fun (r : Int32) (u : Unit) => post r ) (fun (u : Unit) t => wO D cy (va_A (w_X5_sumsMeet cy a_o a_o_x a_o_price a_p1 a_p1_isTold a_p1_least a_p1_gateOff a_p1_limit a_p1_value a_p1_kind a_p1_most a_p1_wishOff a_p1_use r_p1_use o_x o_price p1_wishes p1_isTold p1_limit p1_value p1_most p1_wishOff p1_use) sz) (w_X5_sumsMeet cy a_o a_o_x a_o_price a_p1 a_p1_isTold a_p1_least a_p1_gateOff a_p1_limit a_p1_value a_p1_kind a_p1_most a_p1_wishOff a_p1_use r_p1_use o_x o_price p1_wishes p1_isTold p1_limit p1_value p1_most p1_wishOff p1_use) t) (va_A (w_X5_sumsMeet cy a_o a_o_x a_o_price a_p1 a_p1_isTold a_p1_least a_p1_gateOff a_p1_limit a_p1_value a_p1_kind a_p1_most a_p1_wishOff a_p1_use r_p1_use o_x o_price p1_wishes p1_isTold p1_limit p1_value p1_most p1_wishOff p1_use) sz)) 0 0 (va_A (w_X5_sumsMeet cy a_o a_o_x a_o_price a_p1 a_p1_isTold a_p1_least a_p1_gateOff a_p1_limit a_p1_value a_p1_kind a_p1_most a_p1_wishOff a_p1_use r_p1_use o_x o_price p1_wishes p1_isTold p1_limit p1_value p1_most p1_wishOff p1_use) sz) := by
  refine contrZ (S := Unit) (post := fun (r : Int32) (u : Unit) => post r ) (wOut := fun (u : Unit) => (w_X5_sumsMeet cy a_o a_o_x a_o_price a_p1 a_p1_isTold a_p1_least a_p1_gateOff a_p1_limit a_p1_value a_p1_kind a_p1_most a_p1_wishOff a_p1_use r_p1_use o_x o_price p1_wishes p1_isTold p1_limit p1_value p1_most p1_wishOff p1_use)) (cc := cX5_sumsMeet) (maxL := 5) (own := RX5) (by decide +kernel) rfl rfl ?_
  intro p e s m args below meth c A Q hx hb hml hown hts hK hN hP hD hS hA hret
  have in_X4 : ∀ w ∈ u_ws RX4 TX4 10, w ∈ wsX5_sumsMeet := by decide +kernel
  have fl_24 := hts (.fieldLink RX5 24 "DawnTable$Table" "wishes" "I") (by decide +kernel)
  have fl_60 := hts (.fieldLink RX5 60 "DawnTable$Table" "value" "[I") (by decide +kernel)
  have in_X5 : ∀ w ∈ u_ws RX5 TX5 2, w ∈ wsX5_sumsMeet := by decide +kernel
  have fl_9 := hts (.fieldLink RX5 9 "DawnTable$Told" "x" "[J") (by decide +kernel)
  have fl_30 := hts (.fieldLink RX5 30 "DawnTable$Table" "wishOff" "[Z") (by decide +kernel)
  have fl_34 := hts (.fieldLink RX5 34 "DawnTable$Table" "most" "[I") (by decide +kernel)
  have fl_54 := hts (.fieldLink RX5 54 "DawnTable$Table" "isTold" "[Z") (by decide +kernel)
  have fl_44 := hts (.fieldLink RX5 44 "DawnTable$Table" "limit" "[I") (by decide +kernel)
  have fl_15 := hts (.fieldLink RX5 15 "DawnTable$Told" "price" "[J") (by decide +kernel)
  have l_5 : ∀ (kx0 : Int64 → Prop), (∀ (x2 : Int64), kx0 x2 → ∀ (H : Heap) (locs : List Loc), va_P D vwCl (w_X5_sumsMeet cy a_o a_o_x a_o_price a_p1 a_p1_isTold a_p1_least a_p1_gateOff a_p1_limit a_p1_value a_p1_kind a_p1_most a_p1_wishOff a_p1_use r_p1_use o_x o_price p1_wishes p1_isTold p1_limit p1_value p1_most p1_wishOff p1_use) H → va_D A (w_X5_sumsMeet cy a_o a_o_x a_o_price a_p1 a_p1_isTold a_p1_least a_p1_gateOff a_p1_limit a_p1_value a_p1_kind a_p1_most a_p1_wishOff a_p1_use r_p1_use o_x o_price p1_wishes p1_isTold p1_limit p1_value p1_most p1_wishOff p1_use) → va_S A s.heap H locs → ∀ (ls : Array Slot), lv_has ls 5 [(0, .ref a_o), (1, .ref a_p1), (2, .long x2)] → W p l e ({ frames := 2, cells := 0, slots := 0, locals := 65 }) s m args below meth c H locs 0 0 Q (F0 m 68 ls [])) → ∀ (n : Nat) (x2 : Int64) (x4 : Int32), wl_X5_sumsMeet_5 o_x o_price p1_wishes p1_isTold p1_limit p1_value p1_most p1_wishOff p1_use kx0 post n x2 x4 → ∀ (H : Heap) (locs : List Loc), va_P D vwCl (w_X5_sumsMeet cy a_o a_o_x a_o_price a_p1 a_p1_isTold a_p1_least a_p1_gateOff a_p1_limit a_p1_value a_p1_kind a_p1_most a_p1_wishOff a_p1_use r_p1_use o_x o_price p1_wishes p1_isTold p1_limit p1_value p1_most p1_wishOff p1_use) H → va_D A (w_X5_sumsMeet cy a_o a_o_x a_o_price a_p1 a_p1_isTold a_p1_least a_p1_gateOff a_p1_limit a_p1_value a_p1_kind a_p1_most a_p1_wishOff a_p1_use r_p1_use o_x o_price p1_wishes p1_isTold p1_limit p1_value p1_most p1_wishOff p1_use) → va_S A s.heap H locs → ∀ (ls : Array Slot), lv_has ls 5 [(0, .ref a_o), (1, .ref a_p1), (2, .long x2), (4, .int x4)] → W p l e ({ frames := 2, cells := 0, slots := 0, locals := 65 }) s m args below meth c H locs 0 0 Q (F0 m 5 ls []) := by
    intro  kx0 hkx0  n
    induction n with
    | zero => intro x2 x4 h; exact h.elim
    | succ n hkb =>
      intro x2 x4 h H locs hP hD hS ls hl
      replace h : ws_X5_sumsMeet_5 o_x o_price p1_wishes p1_isTold p1_limit p1_value p1_most p1_wishOff p1_use (wl_X5_sumsMeet_5 o_x o_price p1_wishes p1_isTold p1_limit p1_value p1_most p1_wishOff p1_use kx0 post n) kx0 post x2 x4 := h
      generalize wl_X5_sumsMeet_5 o_x o_price p1_wishes p1_isTold p1_limit p1_value p1_most p1_wishOff p1_use kx0 post n = kb at h hkb
      unfold ws_X5_sumsMeet_5 at h
      refine lv_iload hx hb dX5_sumsMeet_5 (lv_at hl 3 rfl) ?_
      refine lv_aload_n hx hb dX5_sumsMeet_7 rfl (lv_at hl 1 rfl) ?_
      refine va_get (D := D) (ci := 4) (v := .int p1_wishes) (C := RX4) (T := TX4) (N := 10) hx hb hts in_X4 hown hK hP 3 rfl rfl 9 (by decide) fl_24 (fun _ h9 => h9) rfl dX5_sumsMeet_8 ?_
      refine lv_icmp_ge (tgt := 68) hx hb dX5_sumsMeet_11 (by decide) (fun c1 => ?_) (fun c1 => ?_)
      · have h := h.1 c1
        exact hkx0 x2 h _ _ hP hD hS _ (lv_sub hl [0, 1, 2] rfl)
      · have h := h.2 c1
        refine lv_lload_n hx hb dX5_sumsMeet_14 rfl (lv_at hl 2 rfl) ?_
        refine lv_aload_n hx hb dX5_sumsMeet_15 rfl (lv_at hl 1 rfl) ?_
        refine va_get (D := D) (ci := 4) (v := .ref a_p1_value) (C := RX4) (T := TX4) (N := 10) hx hb hts in_X4 hown hK hP 3 rfl rfl 4 (by decide) fl_60 (fun _ h9 => h9) rfl dX5_sumsMeet_16 ?_
        refine lv_iload hx hb dX5_sumsMeet_19 (lv_at hl 3 rfl) ?_
        obtain ⟨i2, h⟩ := h
        refine va_iald hx hb hK hP 6 1 rfl rfl i2 dX5_sumsMeet_21 ?_
        refine lv_i2l hx hb dX5_sumsMeet_22 rfl ?_
        refine lv_aload_n hx hb dX5_sumsMeet_23 rfl (lv_at hl 0 rfl) ?_
        refine va_get (D := D) (ci := 5) (v := .ref a_o_x) (C := RX5) (T := TX5) (N := 2) hx hb hts in_X5 hown hK hP 0 rfl rfl 0 (by decide) fl_9 (fun _ h9 => h9) rfl dX5_sumsMeet_24 ?_
        refine lv_iload hx hb dX5_sumsMeet_27 (lv_at hl 3 rfl) ?_
        refine va_lald hx hb hK hP 1 2 rfl rfl i2 dX5_sumsMeet_29 ?_
        refine lv_lmul hx hb dX5_sumsMeet_30 ?_
        refine lv_lsub hx hb dX5_sumsMeet_31 ?_
        refine lv_topl (fun v3 ev3 => ?_)
        have h := h v3 ev3
        refine lv_lstore_n (lv' := [(2, .long v3), (0, .ref a_o), (1, .ref a_p1), (4, .int x4)]) hx hb dX5_sumsMeet_32 rfl hl (by decide) rfl (fun ls hl => ?_)
        refine lv_aload_n hx hb dX5_sumsMeet_33 rfl (lv_at hl 2 rfl) ?_
        refine va_get (D := D) (ci := 4) (v := .ref a_p1_wishOff) (C := RX4) (T := TX4) (N := 10) hx hb hts in_X4 hown hK hP 3 rfl rfl 7 (by decide) fl_30 (fun _ h9 => h9) rfl dX5_sumsMeet_34 ?_
        refine lv_iload hx hb dX5_sumsMeet_37 (lv_at hl 3 rfl) ?_
        refine va_zald hx hb hK hP 8 3 rfl rfl i2 dX5_sumsMeet_39 ?_
        refine lv_if_ne (tgt := 62) hx hb dX5_sumsMeet_40 (by decide) (fun c4 => ?_) (fun c4 => ?_)
        · have h := h.2 c4
          refine lv_iinc (v := (x4 + (1 : Int32))) (lv' := [(4, .int (x4 + (1 : Int32))), (2, .long v3), (0, .ref a_o), (1, .ref a_p1)]) hx hb dX5_sumsMeet_62 hl (k := 3) rfl (congrArg (fun z => x4 + z) (by decide : Int32.ofInt (1) = (1 : Int32))) (by decide) rfl (fun ls hl => ?_)
          refine lv_goto (tgt := 5) hx hb dX5_sumsMeet_65 (by decide) ?_
          exact hkb v3 (x4 + (1 : Int32)) h _ _ hP hD hS _ (lv_sub hl [2, 3, 1, 0] rfl)
        · have h := h.1 c4
          refine lv_lload_n hx hb dX5_sumsMeet_43 rfl (lv_at hl 0 rfl) ?_
          refine lv_aload_n hx hb dX5_sumsMeet_44 rfl (lv_at hl 2 rfl) ?_
          refine va_get (D := D) (ci := 4) (v := .ref a_p1_most) (C := RX4) (T := TX4) (N := 10) hx hb hts in_X4 hown hK hP 3 rfl rfl 6 (by decide) fl_34 (fun _ h9 => h9) rfl dX5_sumsMeet_45 ?_
          refine lv_iload hx hb dX5_sumsMeet_48 (lv_at hl 3 rfl) ?_
          refine va_iald hx hb hK hP 7 1 rfl rfl i2 dX5_sumsMeet_50 ?_
          refine lv_i2l hx hb dX5_sumsMeet_51 rfl ?_
          refine lv_aload_n hx hb dX5_sumsMeet_52 rfl (lv_at hl 1 rfl) ?_
          refine lv_aload_n hx hb dX5_sumsMeet_53 rfl (lv_at hl 2 rfl) ?_
          refine lv_iload hx hb dX5_sumsMeet_54 (lv_at hl 3 rfl) ?_
          have hC : ([0, 2, 3, 6, 9, 10, 11, 12, 13] : List Nat).map (fun i => ((w_X5_sumsMeet cy a_o a_o_x a_o_price a_p1 a_p1_isTold a_p1_least a_p1_gateOff a_p1_limit a_p1_value a_p1_kind a_p1_most a_p1_wishOff a_p1_use r_p1_use o_x o_price p1_wishes p1_isTold p1_limit p1_value p1_most p1_wishOff p1_use) : va_W)[i]?) = ((w_X5_rest cy a_o a_o_x a_o_price a_p1 a_p1_isTold a_p1_least a_p1_gateOff a_p1_limit a_p1_value a_p1_kind a_p1_most a_p1_wishOff a_p1_use r_p1_use o_price p1_wishes p1_value p1_use) : va_W).map some := rfl
          obtain ⟨hPc, hDc⟩ := cutC hP hD [0, 2, 3, 6, 9, 10, 11, 12, 13] (by decide) hC
          have hFc := va_free hD hS hA [0, 2, 3, 6, 9, 10, 11, 12, 13] hC
          refine va_calll (va_runV (As := [.ref a_p1, .int x4]) (rest := [.long (((p1_most (x4).toNatClampNeg)).toInt64), .long v3]) ⟨hx, hb, hml, hown, hts⟩ (c_X5_rest l D cy a_o a_o_x a_o_price a_p1 a_p1_isTold a_p1_least a_p1_gateOff a_p1_limit a_p1_value a_p1_kind a_p1_most a_p1_wishOff a_p1_use r_p1_use _ h) (cwV 2 hts gX5_sumsMeet_X5_rest rfl rfl rfl (by decide +kernel) ⟨Nat.le_of_ble_eq_true rfl, Nat.le_of_ble_eq_true rfl⟩) (preV hPc hDc hK hN (ci := 5) (q0 := 0) rfl rfl) rfl rfl hl.1 rfl (lv_room (Nat.le_of_ble_eq_true rfl)) dX5_sumsMeet_56 ⟨Nat.zero_le _, Nat.zero_le _⟩) hS (fun q _ h => hFc q h) hFc (fun r5 u t H1 locs ht hvm h hB hz1 hk1 hS => ?_)
          try dsimp only at h hB
          obtain ⟨hP, hD⟩ := joinU (wd := (w_X5_sumsMeet cy a_o a_o_x a_o_price a_p1 a_p1_isTold a_p1_least a_p1_gateOff a_p1_limit a_p1_value a_p1_kind a_p1_most a_p1_wishOff a_p1_use r_p1_use o_x o_price p1_wishes p1_isTold p1_limit p1_value p1_most p1_wishOff p1_use)) (wr := [(a_o_x, .inl (cy 2, 4, .inr (.inl o_x))), (a_p1_isTold, .inl (cy 3, 5, .inl p1_isTold)), (a_p1_limit, .inl (cy 1, 5, .inl p1_limit)), (a_p1_most, .inl (cy 1, 4, .inl p1_most)), (a_p1_wishOff, .inl (cy 3, 4, .inl p1_wishOff))]) hP hD [0, 2, 3, 6, 9, 10, 11, 12, 13] [1, 4, 5, 7, 8] [a_o, a_o_price, a_p1, a_p1_value, a_p1_use, r_p1_use 0, r_p1_use 1, r_p1_use 2, r_p1_use 3] hC hk1 ht hB rfl rfl rfl (N := 14) rfl (by decide) rfl rfl
          generalize H1 = H at hP hS ⊢
          refine lv_lmul hx hb dX5_sumsMeet_59 ?_
          refine lv_ladd hx hb dX5_sumsMeet_60 ?_
          refine lv_lstore_n (lv' := [(2, .long (v3 + (((p1_most (x4).toNatClampNeg)).toInt64 * r5))), (0, .ref a_o), (1, .ref a_p1), (4, .int x4)]) hx hb dX5_sumsMeet_61 rfl hl (by decide) rfl (fun ls hl => ?_)
          refine lv_iinc (v := (x4 + (1 : Int32))) (lv' := [(4, .int (x4 + (1 : Int32))), (2, .long (v3 + (((p1_most (x4).toNatClampNeg)).toInt64 * r5))), (0, .ref a_o), (1, .ref a_p1)]) hx hb dX5_sumsMeet_62 hl (k := 3) rfl (congrArg (fun z => x4 + z) (by decide : Int32.ofInt (1) = (1 : Int32))) (by decide) rfl (fun ls hl => ?_)
          refine lv_goto (tgt := 5) hx hb dX5_sumsMeet_65 (by decide) ?_
          exact hkb (v3 + (((p1_most (x4).toNatClampNeg)).toInt64 * r5)) (x4 + (1 : Int32)) h _ _ hP hD hS _ (lv_sub hl [2, 3, 1, 0] rfl)
  have l_71 : ∀ (kx0 : Int64 → Prop), (∀ (x2 : Int64), kx0 x2 → ∀ (H : Heap) (locs : List Loc), va_P D vwCl (w_X5_sumsMeet cy a_o a_o_x a_o_price a_p1 a_p1_isTold a_p1_least a_p1_gateOff a_p1_limit a_p1_value a_p1_kind a_p1_most a_p1_wishOff a_p1_use r_p1_use o_x o_price p1_wishes p1_isTold p1_limit p1_value p1_most p1_wishOff p1_use) H → va_D A (w_X5_sumsMeet cy a_o a_o_x a_o_price a_p1 a_p1_isTold a_p1_least a_p1_gateOff a_p1_limit a_p1_value a_p1_kind a_p1_most a_p1_wishOff a_p1_use r_p1_use o_x o_price p1_wishes p1_isTold p1_limit p1_value p1_most p1_wishOff p1_use) → va_S A s.heap H locs → ∀ (ls : Array Slot), lv_has ls 5 [(2, .long x2)] → W p l e ({ frames := 2, cells := 0, slots := 0, locals := 65 }) s m args below meth c H locs 0 0 Q (F0 m 112 ls [])) → ∀ (n : Nat) (x2 : Int64) (x4 : Int32), wl_X5_sumsMeet_71 o_x o_price p1_wishes p1_isTold p1_limit p1_value p1_most p1_wishOff p1_use kx0 post n x2 x4 → ∀ (H : Heap) (locs : List Loc), va_P D vwCl (w_X5_sumsMeet cy a_o a_o_x a_o_price a_p1 a_p1_isTold a_p1_least a_p1_gateOff a_p1_limit a_p1_value a_p1_kind a_p1_most a_p1_wishOff a_p1_use r_p1_use o_x o_price p1_wishes p1_isTold p1_limit p1_value p1_most p1_wishOff p1_use) H → va_D A (w_X5_sumsMeet cy a_o a_o_x a_o_price a_p1 a_p1_isTold a_p1_least a_p1_gateOff a_p1_limit a_p1_value a_p1_kind a_p1_most a_p1_wishOff a_p1_use r_p1_use o_x o_price p1_wishes p1_isTold p1_limit p1_value p1_most p1_wishOff p1_use) → va_S A s.heap H locs → ∀ (ls : Array Slot), lv_has ls 5 [(0, .ref a_o), (1, .ref a_p1), (2, .long x2), (4, .int x4)] → W p l e ({ frames := 2, cells := 0, slots := 0, locals := 65 }) s m args below meth c H locs 0 0 Q (F0 m 71 ls []) := by
    intro  kx0 hkx0  n
    induction n with
    | zero => intro x2 x4 h; exact h.elim
    | succ n hkb =>
      intro x2 x4 h H locs hP hD hS ls hl
      replace h : ws_X5_sumsMeet_71 o_x o_price p1_wishes p1_isTold p1_limit p1_value p1_most p1_wishOff p1_use (wl_X5_sumsMeet_71 o_x o_price p1_wishes p1_isTold p1_limit p1_value p1_most p1_wishOff p1_use kx0 post n) kx0 post x2 x4 := h
      generalize wl_X5_sumsMeet_71 o_x o_price p1_wishes p1_isTold p1_limit p1_value p1_most p1_wishOff p1_use kx0 post n = kb at h hkb
      unfold ws_X5_sumsMeet_71 at h
      refine lv_iload hx hb dX5_sumsMeet_71 (lv_at hl 3 rfl) ?_
      refine lv_iconst (v := 5) hx hb dX5_sumsMeet_73 (by decide) ?_
      refine lv_icmp_ge (tgt := 112) hx hb dX5_sumsMeet_74 (by decide) (fun c7 => ?_) (fun c7 => ?_)
      · have h := h.1 c7
        exact hkx0 x2 h _ _ hP hD hS _ (lv_sub hl [2] rfl)
      · have h := h.2 c7
        refine lv_aload_n hx hb dX5_sumsMeet_77 rfl (lv_at hl 1 rfl) ?_
        refine va_get (D := D) (ci := 4) (v := .ref a_p1_isTold) (C := RX4) (T := TX4) (N := 10) hx hb hts in_X4 hown hK hP 3 rfl rfl 0 (by decide) fl_54 (fun _ h9 => h9) rfl dX5_sumsMeet_78 ?_
        refine lv_iload hx hb dX5_sumsMeet_81 (lv_at hl 3 rfl) ?_
        obtain ⟨i8, h⟩ := h
        refine va_zald hx hb hK hP 4 3 rfl rfl i8 dX5_sumsMeet_83 ?_
        refine lv_if_eq (tgt := 106) hx hb dX5_sumsMeet_84 (by decide) (fun c9 => ?_) (fun c9 => ?_)
        · have h := h.1 c9
          refine lv_iinc (v := (x4 + (1 : Int32))) (lv' := [(4, .int (x4 + (1 : Int32))), (0, .ref a_o), (1, .ref a_p1), (2, .long x2)]) hx hb dX5_sumsMeet_106 hl (k := 3) rfl (congrArg (fun z => x4 + z) (by decide : Int32.ofInt (1) = (1 : Int32))) (by decide) rfl (fun ls hl => ?_)
          refine lv_goto (tgt := 71) hx hb dX5_sumsMeet_109 (by decide) ?_
          exact hkb x2 (x4 + (1 : Int32)) h _ _ hP hD hS _ (lv_sub hl [1, 2, 3, 0] rfl)
        · have h := h.2 c9
          refine lv_lload_n hx hb dX5_sumsMeet_87 rfl (lv_at hl 2 rfl) ?_
          refine lv_aload_n hx hb dX5_sumsMeet_88 rfl (lv_at hl 1 rfl) ?_
          refine va_get (D := D) (ci := 4) (v := .ref a_p1_limit) (C := RX4) (T := TX4) (N := 10) hx hb hts in_X4 hown hK hP 3 rfl rfl 3 (by decide) fl_44 (fun _ h9 => h9) rfl dX5_sumsMeet_89 ?_
          refine lv_iload hx hb dX5_sumsMeet_92 (lv_at hl 3 rfl) ?_
          refine va_iald hx hb hK hP 5 1 rfl rfl i8 dX5_sumsMeet_94 ?_
          refine lv_i2l hx hb dX5_sumsMeet_95 rfl ?_
          refine lv_aload_n hx hb dX5_sumsMeet_96 rfl (lv_at hl 0 rfl) ?_
          refine va_get (D := D) (ci := 5) (v := .ref a_o_price) (C := RX5) (T := TX5) (N := 2) hx hb hts in_X5 hown hK hP 0 rfl rfl 1 (by decide) fl_15 (fun _ h9 => h9) rfl dX5_sumsMeet_97 ?_
          refine lv_iload hx hb dX5_sumsMeet_100 (lv_at hl 3 rfl) ?_
          refine va_lald hx hb hK hP 2 2 rfl rfl i8 dX5_sumsMeet_102 ?_
          refine lv_lmul hx hb dX5_sumsMeet_103 ?_
          refine lv_ladd hx hb dX5_sumsMeet_104 ?_
          refine lv_topl (fun v10 ev10 => ?_)
          have h := h v10 ev10
          refine lv_lstore_n (lv' := [(2, .long v10), (0, .ref a_o), (1, .ref a_p1), (4, .int x4)]) hx hb dX5_sumsMeet_105 rfl hl (by decide) rfl (fun ls hl => ?_)
          refine lv_iinc (v := (x4 + (1 : Int32))) (lv' := [(4, .int (x4 + (1 : Int32))), (2, .long v10), (0, .ref a_o), (1, .ref a_p1)]) hx hb dX5_sumsMeet_106 hl (k := 3) rfl (congrArg (fun z => x4 + z) (by decide : Int32.ofInt (1) = (1 : Int32))) (by decide) rfl (fun ls hl => ?_)
          refine lv_goto (tgt := 71) hx hb dX5_sumsMeet_109 (by decide) ?_
          exact hkb v10 (x4 + (1 : Int32)) h _ _ hP hD hS _ (lv_sub hl [2, 3, 1, 0] rfl)
  refine ent [.ref a_o, .ref a_p1] (Nat.le_of_ble_eq_true rfl) (fun ls hl => ?_)
  have hl : lv_has ls 5 [(0, .ref a_o), (1, .ref a_p1)] := hl
  unfold wp_X5_sumsMeet at h
  refine lv_lconst (v := 0) hx hb dX5_sumsMeet_0 (by decide) ?_
  refine lv_lstore_n (lv' := [(2, .long (0 : Int64)), (0, .ref a_o), (1, .ref a_p1)]) hx hb dX5_sumsMeet_1 rfl hl (by decide) rfl (fun ls hl => ?_)
  refine lv_iconst (v := 0) hx hb dX5_sumsMeet_2 (by decide) ?_
  refine lv_istore (lv' := [(4, .int (0 : Int32)), (2, .long (0 : Int64)), (0, .ref a_o), (1, .ref a_p1)]) hx hb dX5_sumsMeet_3 hl (by decide) rfl (fun ls hl => ?_)
  obtain ⟨n14, h⟩ := h
  refine l_5  _ ?_ n14 (0 : Int64) (0 : Int32) h _ _ hP hD hS _ (lv_sub hl [2, 3, 1, 0] rfl)
  · intro x2_6 h H locs hP hD hS ls hl
    refine lv_iconst (v := 0) hx hb dX5_sumsMeet_68 (by decide) ?_
    refine lv_istore (lv' := [(4, .int (0 : Int32)), (0, .ref a_o), (1, .ref a_p1), (2, .long x2_6)]) hx hb dX5_sumsMeet_69 hl (by decide) rfl (fun ls hl => ?_)
    obtain ⟨n13, h⟩ := h
    refine l_71  _ ?_ n13 x2_6 (0 : Int32) h _ _ hP hD hS _ (lv_sub hl [1, 2, 3, 0] rfl)
    · intro x2_11 h H locs hP hD hS ls hl
      refine lv_lload_n hx hb dX5_sumsMeet_112 rfl (lv_at hl 0 rfl) ?_
      refine lv_lconst (v := 0) hx hb dX5_sumsMeet_113 (by decide) ?_
      refine W.lcmp hx hb dX5_sumsMeet_114 ?_
      refine lv_if_ne (tgt := 122) hx hb dX5_sumsMeet_115 (by decide) (fun c12 => ?_) (fun c12 => ?_)
      · have h := h.2 (fun z => c12 (lc_eq.mpr z))
        refine lv_iconst (v := 0) hx hb dX5_sumsMeet_122 (by decide) ?_
        exact hret (0 : Int32) () _ _ _ _ rfl h hP hD hS dX5_sumsMeet_123
      · have h := h.1 (lc_eq.mp c12)
        refine lv_iconst (v := 1) hx hb dX5_sumsMeet_118 (by decide) ?_
        refine lv_goto (tgt := 123) hx hb dX5_sumsMeet_119 (by decide) ?_
        exact hret (1 : Int32) () _ _ _ _ rfl h hP hD hS dX5_sumsMeet_123
