abbrev w_X3_isWord (cy : Nat → ClassId) (a_o a_o_text : Nat) (o_length : Int32) (o_at : Int32) (o_start : Int32) (o_token : Int32) (o_number : Int32) (o_text : Nat → Int32) : va_W := [(a_o, .inr (3, [.ref a_o_text, .int o_length, .int o_at, .int o_start, .int o_token, .int o_number])), (a_o_text, .inl (cy 0, 300, .inl o_text))]
set_option maxRecDepth 20000 in
theorem ggX3_isWord_J0_charAt_5068e : GoodIn wsX3_isWord wsJ0_charAt_5068e := goodIn_r _ [19, 9, 20, 21, 22, 7, 23, 14, 15, 24, 25, 26, 27, 28, 29, 30, 31, 32, 33, 34, 35, 36, 37, 38, 39, 40, 41, 42, 43, 44, 45, 46, 47, 48, 49, 50, 51, 52] (by decide +kernel) (by decide +kernel)
set_option maxRecDepth 20000 in
theorem ggX3_isWord_J0_length_8abf5 : GoodIn wsX3_isWord wsJ0_length_8abf5 := goodIn_r _ [8, 9, 10, 11, 12, 7, 13, 14, 15] (by decide +kernel) (by decide +kernel)
set_option maxRecDepth 20000 in
theorem gX3_isWord_J0_charAt_5068e : GoodIn wsX3_isWord (wsV RX3 115 RJ0 yJ0_charAt_5068e wsJ0_charAt_5068e) := goodIn_app (goodIn_of _ (by decide +kernel)) ggX3_isWord_J0_charAt_5068e
set_option maxRecDepth 20000 in
theorem gX3_isWord_J0_length_8abf5 : GoodIn wsX3_isWord (wsV RX3 110 RJ0 yJ0_length_8abf5 wsJ0_length_8abf5) := goodIn_app (goodIn_of _ (by decide +kernel)) ggX3_isWord_J0_length_8abf5
set_option maxHeartbeats 4000000 in
set_option maxRecDepth 100000 in
theorem c_X3_isWord (l : Launch) (D : va_G) (cy : Nat → ClassId) (K : (Nat → Nat) × (Nat → Nat)) (a_o a_o_text : Nat) (sz : Nat)  {o_length : Int32} {o_at : Int32} {o_start : Int32} {o_token : Int32} {o_number : Int32} {o_text : Nat → Int32} {k1 : Nat} {post : Int32 → Prop} (hk_k1 : k1 < 7) (h : wp_X3_isWord o_at o_start o_text k1 post) : Met l yX3_isWord wsX3_isWord ({ frames := 4, cells := 0, slots := 0, locals := 85 }) (va_Pc [.ref a_o, .ref (K.1 k1)] (wIs D cy sz (w_X3_isWord cy a_o a_o_text o_length o_at o_start o_token o_number o_text) K)) (va_Qi (fun (r : Int32) (u : Unit) => post r ) (fun (u : Unit) t => wO D cy (va_A (w_X3_isWord cy a_o a_o_text o_length o_at o_start o_token o_number o_text) sz) (w_X3_isWord cy a_o a_o_text o_length o_at o_start o_token o_number o_text) t) (va_A (w_X3_isWord cy a_o a_o_text o_length o_at o_start o_token o_number o_text) sz)) 0 0 (va_A (w_X3_isWord cy a_o a_o_text o_length o_at o_start o_token o_number o_text) sz) := by
  refine contrZs (S := Unit) (post := fun (r : Int32) (u : Unit) => post r ) (wOut := fun (u : Unit) => (w_X3_isWord cy a_o a_o_text o_length o_at o_start o_token o_number o_text)) (cc := cX3_isWord) (maxL := 3) (own := RX3) (by decide +kernel) rfl rfl ?_
  intro p e s m args below meth c A Q hx hb hml hown hts hK hN hP hD hS hA hSW hSR hret
  have in_X3 : ∀ w ∈ u_ws RX3 TX3 6, w ∈ wsX3_isWord := by decide +kernel
  have fl_19 := hts (.fieldLink RX3 19 "DawnTable$Reader" "at" "I") (by decide +kernel)
  have fl_22 := hts (.fieldLink RX3 22 "DawnTable$Reader" "start" "I") (by decide +kernel)
  have fl_11 := hts (.fieldLink RX3 11 "DawnTable$Reader" "text" "[B") (by decide +kernel)
  have l_20 : ∀ (kx0 : Prop), (kx0  → ∀ (H : Heap) (locs : List Loc), va_P D vwCl (w_X3_isWord cy a_o a_o_text o_length o_at o_start o_token o_number o_text) H → va_D A (w_X3_isWord cy a_o a_o_text o_length o_at o_start o_token o_number o_text) → va_S A s.heap H locs → ∀ (ls : Array Slot), lv_has ls 3 [] → W p l e ({ frames := 4, cells := 0, slots := 0, locals := 85 }) s m args below meth c H locs 0 0 Q (F0 m 55 ls [])) → ∀ (kx1 : Prop), (kx1  → ∀ (H : Heap) (locs : List Loc), va_P D vwCl (w_X3_isWord cy a_o a_o_text o_length o_at o_start o_token o_number o_text) H → va_D A (w_X3_isWord cy a_o a_o_text o_length o_at o_start o_token o_number o_text) → va_S A s.heap H locs → ∀ (ls : Array Slot), lv_has ls 3 [] → W p l e ({ frames := 4, cells := 0, slots := 0, locals := 85 }) s m args below meth c H locs 0 0 Q (F0 m 47 ls [])) → ∀ (n : Nat) (x2 : Int32), wl_X3_isWord_20 k1 o_at o_start o_text kx0 kx1 post n x2 → ∀ (H : Heap) (locs : List Loc), va_P D vwCl (w_X3_isWord cy a_o a_o_text o_length o_at o_start o_token o_number o_text) H → va_D A (w_X3_isWord cy a_o a_o_text o_length o_at o_start o_token o_number o_text) → va_S A s.heap H locs → ∀ (ls : Array Slot), lv_has ls 3 [(0, .ref a_o), (1, .ref (K.1 k1)), (2, .int x2)] → W p l e ({ frames := 4, cells := 0, slots := 0, locals := 85 }) s m args below meth c H locs 0 0 Q (F0 m 20 ls []) := by
    intro  kx0 hkx0 kx1 hkx1  n
    induction n with
    | zero => intro x2 h; exact h.elim
    | succ n hkb =>
      intro x2 h H locs hP hD hS ls hl
      replace h : ws_X3_isWord_20 k1 o_at o_start o_text (wl_X3_isWord_20 k1 o_at o_start o_text kx0 kx1 post n) kx0 kx1 post x2 := h
      generalize wl_X3_isWord_20 k1 o_at o_start o_text kx0 kx1 post n = kb at h hkb
      unfold ws_X3_isWord_20 at h
      refine lv_iload_n hx hb dX3_isWord_20 rfl (lv_at hl 2 rfl) ?_
      refine lv_aload_n hx hb dX3_isWord_21 rfl (lv_at hl 1 rfl) ?_
      obtain ⟨hPc, hDc⟩ := cutC (wc := []) hP hD [] (by decide) rfl
      have hFc := va_free (wc := []) hD hS hA [] rfl
      refine va_calli (va_runV (As := []) (rest := [.int x2]) ⟨hx, hb, hml, hown, hts⟩ (c_strlen l D cy K _ hk_k1) (cwV 0 hts gX3_isWord_J0_length_8abf5 rfl rfl rfl (by decide +kernel) ⟨Nat.le_of_ble_eq_true rfl, Nat.le_of_ble_eq_true rfl⟩) (preVk hPc hDc hK hN hSW hSR hS hFc hk_k1) rfl rfl hl.1 rfl (lv_room (Nat.le_of_ble_eq_true rfl)) dX3_isWord_22 ⟨Nat.zero_le _, Nat.zero_le _⟩) hS (fun q _ h => hFc q h) hFc (fun r3 u t H1 locs ht hvm h9 hB hz1 hk1 hS => ?_)
      obtain ⟨hP, hD⟩ := joinC (wd := (w_X3_isWord cy a_o a_o_text o_length o_at o_start o_token o_number o_text)) hP hD [] [0, 1] rfl rfl (by decide) (by decide) hk1 hFc ht hB [0, 1] (by decide) rfl
      generalize H1 = H at hP hS ⊢
      subst h9
      refine lv_icmp_ge (tgt := 55) hx hb dX3_isWord_25 (by decide) (fun c4 => ?_) (fun c4 => ?_)
      · have h := h.1 c4
        exact hkx0 h _ _ hP hD hS _ (lv_sub hl [] rfl)
      · have h := h.2 c4
        refine lv_aload_n hx hb dX3_isWord_28 rfl (lv_at hl 0 rfl) ?_
        refine va_get (D := D) (ci := 3) (v := .ref a_o_text) (C := RX3) (T := TX3) (N := 6) hx hb hts in_X3 hown hK hP 0 rfl rfl 0 (by decide) fl_11 (fun _ h9 => h9) rfl dX3_isWord_29 ?_
        refine lv_aload_n hx hb dX3_isWord_32 rfl (lv_at hl 0 rfl) ?_
        refine va_get (D := D) (ci := 3) (v := .int o_start) (C := RX3) (T := TX3) (N := 6) hx hb hts in_X3 hown hK hP 0 rfl rfl 3 (by decide) fl_22 (fun _ h9 => h9) rfl dX3_isWord_33 ?_
        refine lv_iload_n hx hb dX3_isWord_36 rfl (lv_at hl 2 rfl) ?_
        refine lv_iadd hx hb dX3_isWord_37 ?_
        obtain ⟨i5, h⟩ := h
        refine va_bald hx hb hK hP 1 0 rfl rfl i5 dX3_isWord_38 ?_
        refine lv_aload_n hx hb dX3_isWord_39 rfl (lv_at hl 1 rfl) ?_
        refine lv_iload_n hx hb dX3_isWord_40 rfl (lv_at hl 2 rfl) ?_
        obtain ⟨i6, h⟩ := h
        obtain ⟨hPc, hDc⟩ := cutC (wc := []) hP hD [] (by decide) rfl
        have hFc := va_free (wc := []) hD hS hA [] rfl
        refine va_calli (va_runV (As := [.int x2]) (rest := [.int (o_text ((o_start + x2)).toNatClampNeg)]) ⟨hx, hb, hml, hown, hts⟩ (c_charAt l D cy K _ hk_k1 i6) (cwV 1 hts gX3_isWord_J0_charAt_5068e rfl rfl rfl (by decide +kernel) ⟨Nat.le_of_ble_eq_true rfl, Nat.le_of_ble_eq_true rfl⟩) (preVk hPc hDc hK hN hSW hSR hS hFc hk_k1) rfl rfl hl.1 rfl (lv_room (Nat.le_of_ble_eq_true rfl)) dX3_isWord_41 ⟨Nat.zero_le _, Nat.zero_le _⟩) hS (fun q _ h => hFc q h) hFc (fun r7 u t H1 locs ht hvm h9 hB hz1 hk1 hS => ?_)
        obtain ⟨hP, hD⟩ := joinC (wd := (w_X3_isWord cy a_o a_o_text o_length o_at o_start o_token o_number o_text)) hP hD [] [0, 1] rfl rfl (by decide) (by decide) hk1 hFc ht hB [0, 1] (by decide) rfl
        generalize H1 = H at hP hS ⊢
        subst h9
        refine lv_icmp_eq (tgt := 49) hx hb dX3_isWord_44 (by decide) (fun c8 => ?_) (fun c8 => ?_)
        · have h := h.1 c8
          refine lv_iinc (v := (x2 + (1 : Int32))) (lv' := [(2, .int (x2 + (1 : Int32))), (0, .ref a_o), (1, .ref (K.1 k1))]) hx hb dX3_isWord_49 hl (k := 2) rfl (congrArg (fun z => x2 + z) (by decide : Int32.ofInt (1) = (1 : Int32))) (by decide) rfl (fun ls hl => ?_)
          refine lv_goto (tgt := 20) hx hb dX3_isWord_52 (by decide) ?_
          exact hkb (x2 + (1 : Int32)) h _ _ hP hD hS _ (lv_sub hl [1, 2, 0] rfl)
        · have h := h.2 c8
          exact hkx1 h _ _ hP hD hS _ (lv_sub hl [] rfl)
  refine ent [.ref a_o, .ref (K.1 k1)] (Nat.le_of_ble_eq_true rfl) (fun ls hl => ?_)
  have hl : lv_has ls 3 [(0, .ref a_o), (1, .ref (K.1 k1))] := hl
  unfold wp_X3_isWord at h
  refine lv_aload_n hx hb dX3_isWord_0 rfl (lv_at hl 0 rfl) ?_
  refine va_get (D := D) (ci := 3) (v := .int o_at) (C := RX3) (T := TX3) (N := 6) hx hb hts in_X3 hown hK hP 0 rfl rfl 2 (by decide) fl_19 (fun _ h9 => h9) rfl dX3_isWord_1 ?_
  refine lv_aload_n hx hb dX3_isWord_4 rfl (lv_at hl 0 rfl) ?_
  refine va_get (D := D) (ci := 3) (v := .int o_start) (C := RX3) (T := TX3) (N := 6) hx hb hts in_X3 hown hK hP 0 rfl rfl 3 (by decide) fl_22 (fun _ h9 => h9) rfl dX3_isWord_5 ?_
  refine lv_isub hx hb dX3_isWord_8 ?_
  refine lv_aload_n hx hb dX3_isWord_9 rfl (lv_at hl 1 rfl) ?_
  obtain ⟨hPc, hDc⟩ := cutC (wc := []) hP hD [] (by decide) rfl
  have hFc := va_free (wc := []) hD hS hA [] rfl
  refine va_calli (va_runV (As := []) (rest := [.int (o_at - o_start)]) ⟨hx, hb, hml, hown, hts⟩ (c_strlen l D cy K _ hk_k1) (cwV 0 hts gX3_isWord_J0_length_8abf5 rfl rfl rfl (by decide +kernel) ⟨Nat.le_of_ble_eq_true rfl, Nat.le_of_ble_eq_true rfl⟩) (preVk hPc hDc hK hN hSW hSR hS hFc hk_k1) rfl rfl hl.1 rfl (lv_room (Nat.le_of_ble_eq_true rfl)) dX3_isWord_10 ⟨Nat.zero_le _, Nat.zero_le _⟩) hS (fun q _ h => hFc q h) hFc (fun r1 u t H1 locs ht hvm h9 hB hz1 hk1 hS => ?_)
  obtain ⟨hP, hD⟩ := joinC (wd := (w_X3_isWord cy a_o a_o_text o_length o_at o_start o_token o_number o_text)) hP hD [] [0, 1] rfl rfl (by decide) (by decide) hk1 hFc ht hB [0, 1] (by decide) rfl
  generalize H1 = H at hP hS ⊢
  subst h9
  refine lv_icmp_eq (tgt := 18) hx hb dX3_isWord_13 (by decide) (fun c2 => ?_) (fun c2 => ?_)
  · have h := h.1 c2
    refine lv_iconst (v := 0) hx hb dX3_isWord_18 (by decide) ?_
    refine lv_istore_n (lv' := [(2, .int (0 : Int32)), (0, .ref a_o), (1, .ref (K.1 k1))]) hx hb dX3_isWord_19 rfl hl (by decide) rfl (fun ls hl => ?_)
    obtain ⟨n9, h⟩ := h
    refine l_20  _ ?_ _ ?_ n9 (0 : Int32) h _ _ hP hD hS _ (lv_sub hl [1, 2, 0] rfl)
    · intro  h H locs hP hD hS ls hl
      refine lv_iconst (v := 1) hx hb dX3_isWord_55 (by decide) ?_
      exact hret (1 : Int32) () _ _ _ _ rfl h hP hD hS dX3_isWord_56
    · intro  h H locs hP hD hS ls hl
      refine lv_iconst (v := 0) hx hb dX3_isWord_47 (by decide) ?_
      exact hret (0 : Int32) () _ _ _ _ rfl h hP hD hS dX3_isWord_48
  · have h := h.2 c2
    refine lv_iconst (v := 0) hx hb dX3_isWord_16 (by decide) ?_
    exact hret (0 : Int32) () _ _ _ _ rfl h hP hD hS dX3_isWord_17
abbrev w_X3_readWord (cy : Nat → ClassId) (a_o a_o_text : Nat) (o_length : Int32) (o_at : Int32) (o_start : Int32) (o_token : Int32) (o_number : Int32) (o_text : Nat → Int32) : va_W := [(a_o, .inr (3, [.ref a_o_text, .int o_length, .int o_at, .int o_start, .int o_token, .int o_number])), (a_o_text, .inl (cy 0, 300, .inl o_text))]
set_option maxRecDepth 20000 in
theorem ggX3_readWord_X3_isSmall : GoodIn wsX3_readWord wsX3_isSmall := goodIn_r _ [8] (by decide +kernel) (by decide +kernel)
set_option maxRecDepth 20000 in
theorem ggX3_readWord_X3_isWord : GoodIn wsX3_readWord wsX3_isWord := goodIn_r _ [12, 1, 13, 3, 14, 15, 16, 17, 18, 19, 20, 21, 22, 23, 24, 25, 26, 27, 28, 29, 30, 31, 32, 33, 34, 35, 36, 37, 38, 39, 40, 41, 42, 43, 44, 45, 46, 47, 48, 49, 50, 51, 52, 53, 54, 55, 56, 57, 58, 59, 60, 61, 62, 68, 69, 70, 71, 72, 73] (by decide +kernel) (by decide +kernel)
set_option maxRecDepth 20000 in
theorem ggX3_readWord_X3_setKind : GoodIn wsX3_readWord wsX3_setKind := goodIn_r _ [66, 4, 67, 68, 69, 70, 71, 72, 73] (by decide +kernel) (by decide +kernel)
set_option maxRecDepth 20000 in
theorem gX3_readWord_X3_isSmall : GoodIn wsX3_readWord (va_wsS RX3 79 yX3_isSmall wsX3_isSmall) := goodIn_app (goodIn_of _ (by decide +kernel)) ggX3_readWord_X3_isSmall
set_option maxRecDepth 20000 in
theorem gX3_readWord_X3_isWord : GoodIn wsX3_readWord (wsV RX3 91 RX3 yX3_isWord wsX3_isWord) := goodIn_app (goodIn_of _ (by decide +kernel)) ggX3_readWord_X3_isWord
set_option maxRecDepth 20000 in
theorem gX3_readWord_X3_setKind : GoodIn wsX3_readWord (wsV RX3 103 RX3 yX3_setKind wsX3_setKind) := goodIn_app (goodIn_of _ (by decide +kernel)) ggX3_readWord_X3_setKind
set_option maxHeartbeats 4000000 in
set_option maxRecDepth 100000 in
theorem c_X3_readWord (l : Launch) (D : va_G) (cy : Nat → ClassId) (K : (Nat → Nat) × (Nat → Nat)) (a_o a_o_text : Nat) (sz : Nat)  {o_length : Int32} {o_at : Int32} {o_start : Int32} {o_token : Int32} {o_number : Int32} {o_text : Nat → Int32}  {post : Int32 → Int32 → Int32 → Prop} (h : wp_X3_readWord o_length o_at o_start o_token o_number o_text post) : Met l yX3_readWord wsX3_readWord ({ frames := 5, cells := 0, slots := 0, locals := 107 }) (va_Pc [.ref a_o] (wIs D cy sz (w_X3_readWord cy a_o a_o_text o_length o_at o_start o_token o_number o_text) K)) (va_Qv (fun (u : Int32 × Int32 × Int32) => post u.1 u.2.1 u.2.2) (fun (u : Int32 × Int32 × Int32) t => wO D cy (va_A (w_X3_readWord cy a_o a_o_text o_length o_at o_start o_token o_number o_text) sz) (w_X3_readWord cy a_o a_o_text o_length u.1 o_start u.2.1 u.2.2 o_text) t) (va_A (w_X3_readWord cy a_o a_o_text o_length o_at o_start o_token o_number o_text) sz)) 0 0 (va_A (w_X3_readWord cy a_o a_o_text o_length o_at o_start o_token o_number o_text) sz) := by
  refine contrVs (S := Int32 × Int32 × Int32) (post := fun (u : Int32 × Int32 × Int32) => post u.1 u.2.1 u.2.2) (wOut := fun (u : Int32 × Int32 × Int32) => (w_X3_readWord cy a_o a_o_text o_length u.1 o_start u.2.1 u.2.2 o_text)) (cc := cX3_readWord) (maxL := 1) (own := RX3) (by decide +kernel) rfl rfl ?_
  intro p e s m args below meth c A Q hx hb hml hown hts hK hN hP hD hS hA hSW hSR hret
  have in_X3 : ∀ w ∈ u_ws RX3 TX3 6, w ∈ wsX3_readWord := by decide +kernel
  have fl_19 := hts (.fieldLink RX3 19 "DawnTable$Reader" "at" "I") (by decide +kernel)
  have fl_15 := hts (.fieldLink RX3 15 "DawnTable$Reader" "length" "I") (by decide +kernel)
  have fl_25 := hts (.fieldLink RX3 25 "DawnTable$Reader" "token" "I") (by decide +kernel)
  have fl_11 := hts (.fieldLink RX3 11 "DawnTable$Reader" "text" "[B") (by decide +kernel)
  have j_39_0 : ∀ (o_at : Int32) (o_token : Int32) (o_number : Int32), wj_X3_readWord_39  o_length o_at o_start o_token o_number o_text  post → ∀ (H : Heap) (locs : List Loc), va_P D vwCl (w_X3_readWord cy a_o a_o_text o_length o_at o_start o_token o_number o_text) H → va_D A (w_X3_readWord cy a_o a_o_text o_length o_at o_start o_token o_number o_text) → va_S A s.heap H locs → ∀ (ls : Array Slot), lv_has ls 1 [(0, .ref a_o)] → W p l e ({ frames := 5, cells := 0, slots := 0, locals := 107 }) s m args below meth c H locs 0 0 Q (F0 m 39 ls []) := by
    intro o_at o_token o_number  h H locs hP hD hS ls hl
    unfold wj_X3_readWord_39 at h
    refine lv_aload_n hx hb dX3_readWord_39 rfl (lv_at hl 0 rfl) ?_
    refine lv_iconst (v := 1) hx hb dX3_readWord_40 (by decide) ?_
    refine va_put (D := D) (ci := 3) (v := .int (1 : Int32)) (ty := .int) (C := RX3) (T := TX3) (N := 6) hx hb hts in_X3 tyX3 tyX3_ok nmX3 hown hK hP hD hS 0 rfl rfl 4 (by decide) fl_25 (fun _ h9 => h9) rfl (by decide +kernel) rfl rfl (Nat.le_of_ble_eq_true rfl) dX3_readWord_41 (fun H locs hP hD hS => ?_)
    have hP : va_P D vwCl (w_X3_readWord cy a_o a_o_text o_length o_at o_start (1 : Int32) o_number o_text) H := hP
    have hD : va_D A (w_X3_readWord cy a_o a_o_text o_length o_at o_start (1 : Int32) o_number o_text) := hD
    refine lv_aload_n hx hb dX3_readWord_44 rfl (lv_at hl 0 rfl) ?_
    refine va_ldcS hx hb hown hSR.1 dX3_readWord_45 ?_
    have hC : ([0, 1] : List Nat).map (fun i => ((w_X3_readWord cy a_o a_o_text o_length o_at o_start (1 : Int32) o_number o_text) : va_W)[i]?) = ((w_X3_isWord cy a_o a_o_text o_length o_at o_start (1 : Int32) o_number o_text) : va_W).map some := rfl
    obtain ⟨hPc, hDc⟩ := cutC hP hD [0, 1] (by decide) hC
    have hFc := va_free hD hS hA [0, 1] hC
    refine va_calli (va_runV (As := [.ref (K.1 0)]) (rest := []) ⟨hx, hb, hml, hown, hts⟩ (c_X3_isWord l D cy K a_o a_o_text _ (by decide) h) (cwV 1 hts gX3_readWord_X3_isWord rfl rfl rfl (by decide +kernel) ⟨Nat.le_of_ble_eq_true rfl, Nat.le_of_ble_eq_true rfl⟩) (preVs hPc hDc hK hN hSW hSR hS hFc (ci := 3) (q0 := 0) rfl rfl) rfl rfl hl.1 rfl (lv_room (Nat.le_of_ble_eq_true rfl)) dX3_readWord_47 ⟨Nat.zero_le _, Nat.zero_le _⟩) hS (fun q _ h => hFc q h) hFc (fun r2 u t H1 locs ht hvm h hB hz1 hk1 hS => ?_)
    try dsimp only at h hB
    obtain ⟨hP, hD⟩ := joinU (wd := (w_X3_readWord cy a_o a_o_text o_length o_at o_start (1 : Int32) o_number o_text)) (wr := []) hP hD [0, 1] [] [a_o, a_o_text] hC hk1 ht hB rfl rfl rfl (N := 2) rfl (by decide) rfl rfl
    generalize H1 = H at hP hS ⊢
    refine lv_if_eq (tgt := 61) hx hb dX3_readWord_50 (by decide) (fun c3 => ?_) (fun c3 => ?_)
    · have h := h.1 c3
      refine lv_aload_n hx hb dX3_readWord_61 rfl (lv_at hl 0 rfl) ?_
      refine va_ldcS hx hb hown hSR.2.1 dX3_readWord_62 ?_
      have hC : ([0, 1] : List Nat).map (fun i => ((w_X3_readWord cy a_o a_o_text o_length o_at o_start (1 : Int32) o_number o_text) : va_W)[i]?) = ((w_X3_isWord cy a_o a_o_text o_length o_at o_start (1 : Int32) o_number o_text) : va_W).map some := rfl
      obtain ⟨hPc, hDc⟩ := cutC hP hD [0, 1] (by decide) hC
      have hFc := va_free hD hS hA [0, 1] hC
      refine va_calli (va_runV (As := [.ref (K.1 1)]) (rest := []) ⟨hx, hb, hml, hown, hts⟩ (c_X3_isWord l D cy K a_o a_o_text _ (by decide) h) (cwV 1 hts gX3_readWord_X3_isWord rfl rfl rfl (by decide +kernel) ⟨Nat.le_of_ble_eq_true rfl, Nat.le_of_ble_eq_true rfl⟩) (preVs hPc hDc hK hN hSW hSR hS hFc (ci := 3) (q0 := 0) rfl rfl) rfl rfl hl.1 rfl (lv_room (Nat.le_of_ble_eq_true rfl)) dX3_readWord_64 ⟨Nat.zero_le _, Nat.zero_le _⟩) hS (fun q _ h => hFc q h) hFc (fun r4 u t H1 locs ht hvm h hB hz1 hk1 hS => ?_)
      try dsimp only at h hB
      obtain ⟨hP, hD⟩ := joinU (wd := (w_X3_readWord cy a_o a_o_text o_length o_at o_start (1 : Int32) o_number o_text)) (wr := []) hP hD [0, 1] [] [a_o, a_o_text] hC hk1 ht hB rfl rfl rfl (N := 2) rfl (by decide) rfl rfl
      generalize H1 = H at hP hS ⊢
      refine lv_if_eq (tgt := 79) hx hb dX3_readWord_67 (by decide) (fun c5 => ?_) (fun c5 => ?_)
      · have h := h.1 c5
        refine lv_aload_n hx hb dX3_readWord_79 rfl (lv_at hl 0 rfl) ?_
        refine va_ldcS hx hb hown hSR.2.2.1 dX3_readWord_80 ?_
        have hC : ([0, 1] : List Nat).map (fun i => ((w_X3_readWord cy a_o a_o_text o_length o_at o_start (1 : Int32) o_number o_text) : va_W)[i]?) = ((w_X3_isWord cy a_o a_o_text o_length o_at o_start (1 : Int32) o_number o_text) : va_W).map some := rfl
        obtain ⟨hPc, hDc⟩ := cutC hP hD [0, 1] (by decide) hC
        have hFc := va_free hD hS hA [0, 1] hC
        refine va_calli (va_runV (As := [.ref (K.1 2)]) (rest := []) ⟨hx, hb, hml, hown, hts⟩ (c_X3_isWord l D cy K a_o a_o_text _ (by decide) h) (cwV 1 hts gX3_readWord_X3_isWord rfl rfl rfl (by decide +kernel) ⟨Nat.le_of_ble_eq_true rfl, Nat.le_of_ble_eq_true rfl⟩) (preVs hPc hDc hK hN hSW hSR hS hFc (ci := 3) (q0 := 0) rfl rfl) rfl rfl hl.1 rfl (lv_room (Nat.le_of_ble_eq_true rfl)) dX3_readWord_82 ⟨Nat.zero_le _, Nat.zero_le _⟩) hS (fun q _ h => hFc q h) hFc (fun r6 u t H1 locs ht hvm h hB hz1 hk1 hS => ?_)
        try dsimp only at h hB
        obtain ⟨hP, hD⟩ := joinU (wd := (w_X3_readWord cy a_o a_o_text o_length o_at o_start (1 : Int32) o_number o_text)) (wr := []) hP hD [0, 1] [] [a_o, a_o_text] hC hk1 ht hB rfl rfl rfl (N := 2) rfl (by decide) rfl rfl
        generalize H1 = H at hP hS ⊢
        refine lv_if_eq (tgt := 97) hx hb dX3_readWord_85 (by decide) (fun c7 => ?_) (fun c7 => ?_)
        · have h := h.1 c7
          refine lv_aload_n hx hb dX3_readWord_97 rfl (lv_at hl 0 rfl) ?_
          refine va_ldcS hx hb hown hSR.2.2.2.1 dX3_readWord_98 ?_
          have hC : ([0, 1] : List Nat).map (fun i => ((w_X3_readWord cy a_o a_o_text o_length o_at o_start (1 : Int32) o_number o_text) : va_W)[i]?) = ((w_X3_isWord cy a_o a_o_text o_length o_at o_start (1 : Int32) o_number o_text) : va_W).map some := rfl
          obtain ⟨hPc, hDc⟩ := cutC hP hD [0, 1] (by decide) hC
          have hFc := va_free hD hS hA [0, 1] hC
          refine va_calli (va_runV (As := [.ref (K.1 3)]) (rest := []) ⟨hx, hb, hml, hown, hts⟩ (c_X3_isWord l D cy K a_o a_o_text _ (by decide) h) (cwV 1 hts gX3_readWord_X3_isWord rfl rfl rfl (by decide +kernel) ⟨Nat.le_of_ble_eq_true rfl, Nat.le_of_ble_eq_true rfl⟩) (preVs hPc hDc hK hN hSW hSR hS hFc (ci := 3) (q0 := 0) rfl rfl) rfl rfl hl.1 rfl (lv_room (Nat.le_of_ble_eq_true rfl)) dX3_readWord_100 ⟨Nat.zero_le _, Nat.zero_le _⟩) hS (fun q _ h => hFc q h) hFc (fun r8 u t H1 locs ht hvm h hB hz1 hk1 hS => ?_)
          try dsimp only at h hB
          obtain ⟨hP, hD⟩ := joinU (wd := (w_X3_readWord cy a_o a_o_text o_length o_at o_start (1 : Int32) o_number o_text)) (wr := []) hP hD [0, 1] [] [a_o, a_o_text] hC hk1 ht hB rfl rfl rfl (N := 2) rfl (by decide) rfl rfl
          generalize H1 = H at hP hS ⊢
          refine lv_if_eq (tgt := 115) hx hb dX3_readWord_103 (by decide) (fun c9 => ?_) (fun c9 => ?_)
          · have h := h.1 c9
            refine lv_aload_n hx hb dX3_readWord_115 rfl (lv_at hl 0 rfl) ?_
            refine va_ldcS hx hb hown hSR.2.2.2.2.1 dX3_readWord_116 ?_
            have hC : ([0, 1] : List Nat).map (fun i => ((w_X3_readWord cy a_o a_o_text o_length o_at o_start (1 : Int32) o_number o_text) : va_W)[i]?) = ((w_X3_isWord cy a_o a_o_text o_length o_at o_start (1 : Int32) o_number o_text) : va_W).map some := rfl
            obtain ⟨hPc, hDc⟩ := cutC hP hD [0, 1] (by decide) hC
            have hFc := va_free hD hS hA [0, 1] hC
            refine va_calli (va_runV (As := [.ref (K.1 4)]) (rest := []) ⟨hx, hb, hml, hown, hts⟩ (c_X3_isWord l D cy K a_o a_o_text _ (by decide) h) (cwV 1 hts gX3_readWord_X3_isWord rfl rfl rfl (by decide +kernel) ⟨Nat.le_of_ble_eq_true rfl, Nat.le_of_ble_eq_true rfl⟩) (preVs hPc hDc hK hN hSW hSR hS hFc (ci := 3) (q0 := 0) rfl rfl) rfl rfl hl.1 rfl (lv_room (Nat.le_of_ble_eq_true rfl)) dX3_readWord_118 ⟨Nat.zero_le _, Nat.zero_le _⟩) hS (fun q _ h => hFc q h) hFc (fun r10 u t H1 locs ht hvm h hB hz1 hk1 hS => ?_)
            try dsimp only at h hB
            obtain ⟨hP, hD⟩ := joinU (wd := (w_X3_readWord cy a_o a_o_text o_length o_at o_start (1 : Int32) o_number o_text)) (wr := []) hP hD [0, 1] [] [a_o, a_o_text] hC hk1 ht hB rfl rfl rfl (N := 2) rfl (by decide) rfl rfl
            generalize H1 = H at hP hS ⊢
            refine lv_if_eq (tgt := 132) hx hb dX3_readWord_121 (by decide) (fun c11 => ?_) (fun c11 => ?_)
            · have h := h.1 c11
              refine lv_aload_n hx hb dX3_readWord_132 rfl (lv_at hl 0 rfl) ?_
              refine va_ldcS hx hb hown hSR.2.2.2.2.2.1 dX3_readWord_133 ?_
              have hC : ([0, 1] : List Nat).map (fun i => ((w_X3_readWord cy a_o a_o_text o_length o_at o_start (1 : Int32) o_number o_text) : va_W)[i]?) = ((w_X3_isWord cy a_o a_o_text o_length o_at o_start (1 : Int32) o_number o_text) : va_W).map some := rfl
              obtain ⟨hPc, hDc⟩ := cutC hP hD [0, 1] (by decide) hC
              have hFc := va_free hD hS hA [0, 1] hC
              refine va_calli (va_runV (As := [.ref (K.1 5)]) (rest := []) ⟨hx, hb, hml, hown, hts⟩ (c_X3_isWord l D cy K a_o a_o_text _ (by decide) h) (cwV 1 hts gX3_readWord_X3_isWord rfl rfl rfl (by decide +kernel) ⟨Nat.le_of_ble_eq_true rfl, Nat.le_of_ble_eq_true rfl⟩) (preVs hPc hDc hK hN hSW hSR hS hFc (ci := 3) (q0 := 0) rfl rfl) rfl rfl hl.1 rfl (lv_room (Nat.le_of_ble_eq_true rfl)) dX3_readWord_135 ⟨Nat.zero_le _, Nat.zero_le _⟩) hS (fun q _ h => hFc q h) hFc (fun r12 u t H1 locs ht hvm h hB hz1 hk1 hS => ?_)
              try dsimp only at h hB
              obtain ⟨hP, hD⟩ := joinU (wd := (w_X3_readWord cy a_o a_o_text o_length o_at o_start (1 : Int32) o_number o_text)) (wr := []) hP hD [0, 1] [] [a_o, a_o_text] hC hk1 ht hB rfl rfl rfl (N := 2) rfl (by decide) rfl rfl
              generalize H1 = H at hP hS ⊢
              refine lv_if_eq (tgt := 149) hx hb dX3_readWord_138 (by decide) (fun c13 => ?_) (fun c13 => ?_)
              · have h := h.1 c13
                refine lv_aload_n hx hb dX3_readWord_149 rfl (lv_at hl 0 rfl) ?_
                refine va_ldcS hx hb hown hSR.2.2.2.2.2.2 dX3_readWord_150 ?_
                have hC : ([0, 1] : List Nat).map (fun i => ((w_X3_readWord cy a_o a_o_text o_length o_at o_start (1 : Int32) o_number o_text) : va_W)[i]?) = ((w_X3_isWord cy a_o a_o_text o_length o_at o_start (1 : Int32) o_number o_text) : va_W).map some := rfl
                obtain ⟨hPc, hDc⟩ := cutC hP hD [0, 1] (by decide) hC
                have hFc := va_free hD hS hA [0, 1] hC
                refine va_calli (va_runV (As := [.ref (K.1 6)]) (rest := []) ⟨hx, hb, hml, hown, hts⟩ (c_X3_isWord l D cy K a_o a_o_text _ (by decide) h) (cwV 1 hts gX3_readWord_X3_isWord rfl rfl rfl (by decide +kernel) ⟨Nat.le_of_ble_eq_true rfl, Nat.le_of_ble_eq_true rfl⟩) (preVs hPc hDc hK hN hSW hSR hS hFc (ci := 3) (q0 := 0) rfl rfl) rfl rfl hl.1 rfl (lv_room (Nat.le_of_ble_eq_true rfl)) dX3_readWord_152 ⟨Nat.zero_le _, Nat.zero_le _⟩) hS (fun q _ h => hFc q h) hFc (fun r14 u t H1 locs ht hvm h hB hz1 hk1 hS => ?_)
                try dsimp only at h hB
                obtain ⟨hP, hD⟩ := joinU (wd := (w_X3_readWord cy a_o a_o_text o_length o_at o_start (1 : Int32) o_number o_text)) (wr := []) hP hD [0, 1] [] [a_o, a_o_text] hC hk1 ht hB rfl rfl rfl (N := 2) rfl (by decide) rfl rfl
                generalize H1 = H at hP hS ⊢
                refine lv_if_eq (tgt := 163) hx hb dX3_readWord_155 (by decide) (fun c15 => ?_) (fun c15 => ?_)
                · have h := h.1 c15
                  exact hret (o_at, (1 : Int32), o_number) _ _ _ _ h hP hD hS dX3_readWord_163
                · have h := h.2 c15
                  refine lv_aload_n hx hb dX3_readWord_158 rfl (lv_at hl 0 rfl) ?_
                  refine lv_iconst (v := 2) hx hb dX3_readWord_159 (by decide) ?_
                  have hC : ([0] : List Nat).map (fun i => ((w_X3_readWord cy a_o a_o_text o_length o_at o_start (1 : Int32) o_number o_text) : va_W)[i]?) = ((w_X3_setKind cy a_o a_o_text o_length o_at o_start (1 : Int32) o_number) : va_W).map some := rfl
                  obtain ⟨hPc, hDc⟩ := cutC hP hD [0] (by decide) hC
                  have hFc := va_free hD hS hA [0] hC
                  refine va_callv (va_runV (As := [.int (2 : Int32)]) (rest := []) ⟨hx, hb, hml, hown, hts⟩ (c_X3_setKind l D cy a_o a_o_text _ h) (cwV 1 hts gX3_readWord_X3_setKind rfl rfl rfl (by decide +kernel) ⟨Nat.le_of_ble_eq_true rfl, Nat.le_of_ble_eq_true rfl⟩) (preV hPc hDc hK hN (ci := 3) (q0 := 0) rfl rfl) rfl rfl hl.1 rfl (lv_room (Nat.le_of_ble_eq_true rfl)) dX3_readWord_160 ⟨Nat.zero_le _, Nat.zero_le _⟩) hS (fun q _ h => hFc q h) hFc (fun u t H1 locs ht hvm h hB hz1 hk1 hS => ?_)
                  obtain ⟨u16, u17⟩ := u
                  try dsimp only at h hB
                  obtain ⟨hP, hD⟩ := joinU (wd := (w_X3_readWord cy a_o a_o_text o_length o_at o_start u16 u17 o_text)) (wr := [(a_o_text, .inl (cy 0, 300, .inl o_text))]) hP hD [0] [1] [a_o] hC hk1 ht hB rfl rfl rfl (N := 2) rfl (by decide) rfl rfl
                  generalize H1 = H at hP hS ⊢
                  exact hret (o_at, u16, u17) _ _ _ _ h hP hD hS dX3_readWord_163
              · have h := h.2 c13
                refine lv_aload_n hx hb dX3_readWord_141 rfl (lv_at hl 0 rfl) ?_
                refine lv_iconst (v := 1) hx hb dX3_readWord_142 (by decide) ?_
                have hC : ([0] : List Nat).map (fun i => ((w_X3_readWord cy a_o a_o_text o_length o_at o_start (1 : Int32) o_number o_text) : va_W)[i]?) = ((w_X3_setKind cy a_o a_o_text o_length o_at o_start (1 : Int32) o_number) : va_W).map some := rfl
                obtain ⟨hPc, hDc⟩ := cutC hP hD [0] (by decide) hC
                have hFc := va_free hD hS hA [0] hC
                refine va_callv (va_runV (As := [.int (1 : Int32)]) (rest := []) ⟨hx, hb, hml, hown, hts⟩ (c_X3_setKind l D cy a_o a_o_text _ h) (cwV 1 hts gX3_readWord_X3_setKind rfl rfl rfl (by decide +kernel) ⟨Nat.le_of_ble_eq_true rfl, Nat.le_of_ble_eq_true rfl⟩) (preV hPc hDc hK hN (ci := 3) (q0 := 0) rfl rfl) rfl rfl hl.1 rfl (lv_room (Nat.le_of_ble_eq_true rfl)) dX3_readWord_143 ⟨Nat.zero_le _, Nat.zero_le _⟩) hS (fun q _ h => hFc q h) hFc (fun u t H1 locs ht hvm h hB hz1 hk1 hS => ?_)
                obtain ⟨u18, u19⟩ := u
                try dsimp only at h hB
                obtain ⟨hP, hD⟩ := joinU (wd := (w_X3_readWord cy a_o a_o_text o_length o_at o_start u18 u19 o_text)) (wr := [(a_o_text, .inl (cy 0, 300, .inl o_text))]) hP hD [0] [1] [a_o] hC hk1 ht hB rfl rfl rfl (N := 2) rfl (by decide) rfl rfl
                generalize H1 = H at hP hS ⊢
                refine lv_goto (tgt := 163) hx hb dX3_readWord_146 (by decide) ?_
                exact hret (o_at, u18, u19) _ _ _ _ h hP hD hS dX3_readWord_163
            · have h := h.2 c11
              refine lv_aload_n hx hb dX3_readWord_124 rfl (lv_at hl 0 rfl) ?_
              refine lv_iconst (v := 0) hx hb dX3_readWord_125 (by decide) ?_
              have hC : ([0] : List Nat).map (fun i => ((w_X3_readWord cy a_o a_o_text o_length o_at o_start (1 : Int32) o_number o_text) : va_W)[i]?) = ((w_X3_setKind cy a_o a_o_text o_length o_at o_start (1 : Int32) o_number) : va_W).map some := rfl
              obtain ⟨hPc, hDc⟩ := cutC hP hD [0] (by decide) hC
              have hFc := va_free hD hS hA [0] hC
              refine va_callv (va_runV (As := [.int (0 : Int32)]) (rest := []) ⟨hx, hb, hml, hown, hts⟩ (c_X3_setKind l D cy a_o a_o_text _ h) (cwV 1 hts gX3_readWord_X3_setKind rfl rfl rfl (by decide +kernel) ⟨Nat.le_of_ble_eq_true rfl, Nat.le_of_ble_eq_true rfl⟩) (preV hPc hDc hK hN (ci := 3) (q0 := 0) rfl rfl) rfl rfl hl.1 rfl (lv_room (Nat.le_of_ble_eq_true rfl)) dX3_readWord_126 ⟨Nat.zero_le _, Nat.zero_le _⟩) hS (fun q _ h => hFc q h) hFc (fun u t H1 locs ht hvm h hB hz1 hk1 hS => ?_)
              obtain ⟨u20, u21⟩ := u
              try dsimp only at h hB
              obtain ⟨hP, hD⟩ := joinU (wd := (w_X3_readWord cy a_o a_o_text o_length o_at o_start u20 u21 o_text)) (wr := [(a_o_text, .inl (cy 0, 300, .inl o_text))]) hP hD [0] [1] [a_o] hC hk1 ht hB rfl rfl rfl (N := 2) rfl (by decide) rfl rfl
              generalize H1 = H at hP hS ⊢
              refine lv_goto (tgt := 163) hx hb dX3_readWord_129 (by decide) ?_
              exact hret (o_at, u20, u21) _ _ _ _ h hP hD hS dX3_readWord_163
          · have h := h.2 c9
            refine lv_aload_n hx hb dX3_readWord_106 rfl (lv_at hl 0 rfl) ?_
            refine lv_bipush (v := 8) hx hb dX3_readWord_107 (by decide) ?_
            refine va_put (D := D) (ci := 3) (v := .int (8 : Int32)) (ty := .int) (C := RX3) (T := TX3) (N := 6) hx hb hts in_X3 tyX3 tyX3_ok nmX3 hown hK hP hD hS 0 rfl rfl 4 (by decide) fl_25 (fun _ h9 => h9) rfl (by decide +kernel) rfl rfl (Nat.le_of_ble_eq_true rfl) dX3_readWord_109 (fun H locs hP hD hS => ?_)
            have hP : va_P D vwCl (w_X3_readWord cy a_o a_o_text o_length o_at o_start (8 : Int32) o_number o_text) H := hP
            have hD : va_D A (w_X3_readWord cy a_o a_o_text o_length o_at o_start (8 : Int32) o_number o_text) := hD
            refine lv_goto (tgt := 163) hx hb dX3_readWord_112 (by decide) ?_
            exact hret (o_at, (8 : Int32), o_number) _ _ _ _ h hP hD hS dX3_readWord_163
        · have h := h.2 c7
          refine lv_aload_n hx hb dX3_readWord_88 rfl (lv_at hl 0 rfl) ?_
          refine lv_bipush (v := 7) hx hb dX3_readWord_89 (by decide) ?_
          refine va_put (D := D) (ci := 3) (v := .int (7 : Int32)) (ty := .int) (C := RX3) (T := TX3) (N := 6) hx hb hts in_X3 tyX3 tyX3_ok nmX3 hown hK hP hD hS 0 rfl rfl 4 (by decide) fl_25 (fun _ h9 => h9) rfl (by decide +kernel) rfl rfl (Nat.le_of_ble_eq_true rfl) dX3_readWord_91 (fun H locs hP hD hS => ?_)
          have hP : va_P D vwCl (w_X3_readWord cy a_o a_o_text o_length o_at o_start (7 : Int32) o_number o_text) H := hP
          have hD : va_D A (w_X3_readWord cy a_o a_o_text o_length o_at o_start (7 : Int32) o_number o_text) := hD
          refine lv_goto (tgt := 163) hx hb dX3_readWord_94 (by decide) ?_
          exact hret (o_at, (7 : Int32), o_number) _ _ _ _ h hP hD hS dX3_readWord_163
      · have h := h.2 c5
        refine lv_aload_n hx hb dX3_readWord_70 rfl (lv_at hl 0 rfl) ?_
        refine lv_bipush (v := 6) hx hb dX3_readWord_71 (by decide) ?_
        refine va_put (D := D) (ci := 3) (v := .int (6 : Int32)) (ty := .int) (C := RX3) (T := TX3) (N := 6) hx hb hts in_X3 tyX3 tyX3_ok nmX3 hown hK hP hD hS 0 rfl rfl 4 (by decide) fl_25 (fun _ h9 => h9) rfl (by decide +kernel) rfl rfl (Nat.le_of_ble_eq_true rfl) dX3_readWord_73 (fun H locs hP hD hS => ?_)
        have hP : va_P D vwCl (w_X3_readWord cy a_o a_o_text o_length o_at o_start (6 : Int32) o_number o_text) H := hP
        have hD : va_D A (w_X3_readWord cy a_o a_o_text o_length o_at o_start (6 : Int32) o_number o_text) := hD
        refine lv_goto (tgt := 163) hx hb dX3_readWord_76 (by decide) ?_
        exact hret (o_at, (6 : Int32), o_number) _ _ _ _ h hP hD hS dX3_readWord_163
    · have h := h.2 c3
      refine lv_aload_n hx hb dX3_readWord_53 rfl (lv_at hl 0 rfl) ?_
      refine lv_iconst (v := 5) hx hb dX3_readWord_54 (by decide) ?_
      refine va_put (D := D) (ci := 3) (v := .int (5 : Int32)) (ty := .int) (C := RX3) (T := TX3) (N := 6) hx hb hts in_X3 tyX3 tyX3_ok nmX3 hown hK hP hD hS 0 rfl rfl 4 (by decide) fl_25 (fun _ h9 => h9) rfl (by decide +kernel) rfl rfl (Nat.le_of_ble_eq_true rfl) dX3_readWord_55 (fun H locs hP hD hS => ?_)
      have hP : va_P D vwCl (w_X3_readWord cy a_o a_o_text o_length o_at o_start (5 : Int32) o_number o_text) H := hP
      have hD : va_D A (w_X3_readWord cy a_o a_o_text o_length o_at o_start (5 : Int32) o_number o_text) := hD
      refine lv_goto (tgt := 163) hx hb dX3_readWord_58 (by decide) ?_
      exact hret (o_at, (5 : Int32), o_number) _ _ _ _ h hP hD hS dX3_readWord_163
  have l_0 : ∀ (o_token : Int32) (o_number : Int32), ∀ (kx0 : Int32 → Prop), (∀ (o_at : Int32), kx0 o_at → ∀ (H : Heap) (locs : List Loc), va_P D vwCl (w_X3_readWord cy a_o a_o_text o_length o_at o_start o_token o_number o_text) H → va_D A (w_X3_readWord cy a_o a_o_text o_length o_at o_start o_token o_number o_text) → va_S A s.heap H locs → ∀ (ls : Array Slot), lv_has ls 1 [(0, .ref a_o)] → W p l e ({ frames := 5, cells := 0, slots := 0, locals := 107 }) s m args below meth c H locs 0 0 Q (F0 m 39 ls [])) → ∀ (n : Nat) (o_at : Int32), wl_X3_readWord_0 o_length o_start o_token o_number o_text kx0 post n o_at → ∀ (H : Heap) (locs : List Loc), va_P D vwCl (w_X3_readWord cy a_o a_o_text o_length o_at o_start o_token o_number o_text) H → va_D A (w_X3_readWord cy a_o a_o_text o_length o_at o_start o_token o_number o_text) → va_S A s.heap H locs → ∀ (ls : Array Slot), lv_has ls 1 [(0, .ref a_o)] → W p l e ({ frames := 5, cells := 0, slots := 0, locals := 107 }) s m args below meth c H locs 0 0 Q (F0 m 0 ls []) := by
    intro o_token o_number kx0 hkx0  n
    induction n with
    | zero => intro o_at h; exact h.elim
    | succ n hkb =>
      intro o_at h H locs hP hD hS ls hl
      replace h : ws_X3_readWord_0 o_length o_start o_token o_number o_text (wl_X3_readWord_0 o_length o_start o_token o_number o_text kx0 post n) kx0 post o_at := h
      generalize wl_X3_readWord_0 o_length o_start o_token o_number o_text kx0 post n = kb at h hkb
      unfold ws_X3_readWord_0 at h
      refine lv_aload_n hx hb dX3_readWord_0 rfl (lv_at hl 0 rfl) ?_
      refine va_get (D := D) (ci := 3) (v := .int o_at) (C := RX3) (T := TX3) (N := 6) hx hb hts in_X3 hown hK hP 0 rfl rfl 2 (by decide) fl_19 (fun _ h9 => h9) rfl dX3_readWord_1 ?_
      refine lv_aload_n hx hb dX3_readWord_4 rfl (lv_at hl 0 rfl) ?_
      refine va_get (D := D) (ci := 3) (v := .int o_length) (C := RX3) (T := TX3) (N := 6) hx hb hts in_X3 hown hK hP 0 rfl rfl 1 (by decide) fl_15 (fun _ h9 => h9) rfl dX3_readWord_5 ?_
      refine lv_icmp_ge (tgt := 39) hx hb dX3_readWord_8 (by decide) (fun c25 => ?_) (fun c25 => ?_)
      · have h := h.1 c25
        exact hkx0 o_at h _ _ hP hD hS _ (lv_sub hl [0] rfl)
      · have h := h.2 c25
        refine lv_aload_n hx hb dX3_readWord_11 rfl (lv_at hl 0 rfl) ?_
        refine va_get (D := D) (ci := 3) (v := .ref a_o_text) (C := RX3) (T := TX3) (N := 6) hx hb hts in_X3 hown hK hP 0 rfl rfl 0 (by decide) fl_11 (fun _ h9 => h9) rfl dX3_readWord_12 ?_
        refine lv_aload_n hx hb dX3_readWord_15 rfl (lv_at hl 0 rfl) ?_
        refine va_get (D := D) (ci := 3) (v := .int o_at) (C := RX3) (T := TX3) (N := 6) hx hb hts in_X3 hown hK hP 0 rfl rfl 2 (by decide) fl_19 (fun _ h9 => h9) rfl dX3_readWord_16 ?_
        obtain ⟨i26, h⟩ := h
        refine va_bald hx hb hK hP 1 0 rfl rfl i26 dX3_readWord_19 ?_
        have hC : ([] : List Nat).map (fun i => ((w_X3_readWord cy a_o a_o_text o_length o_at o_start o_token o_number o_text) : va_W)[i]?) = ((w_X3_isSmall cy ) : va_W).map some := rfl
        obtain ⟨hPc, hDc⟩ := cutC hP hD [] (by decide) hC
        have hFc := va_free hD hS hA [] hC
        refine va_calli (va_runS (As := [.int (o_text (o_at).toNatClampNeg)]) (rest := []) ⟨hx, hb, hml, hown, hts⟩ (c_X3_isSmall l D cy _ h) (va_cwS 1 hts gX3_readWord_X3_isSmall rfl rfl rfl (by decide +kernel) ⟨Nat.le_of_ble_eq_true rfl, Nat.le_of_ble_eq_true rfl⟩) (preS hPc hDc hK hN) rfl rfl hl.1 rfl (lv_room (Nat.le_of_ble_eq_true rfl)) dX3_readWord_20 ⟨Nat.zero_le _, Nat.zero_le _⟩) hS (fun q _ h => hFc q h) hFc (fun r27 u t H1 locs ht hvm h hB hz1 hk1 hS => ?_)
        try dsimp only at h hB
        obtain ⟨hP, hD⟩ := joinU (wd := (w_X3_readWord cy a_o a_o_text o_length o_at o_start o_token o_number o_text)) (wr := [(a_o, .inr (3, [.ref a_o_text, .int o_length, .int o_at, .int o_start, .int o_token, .int o_number])), (a_o_text, .inl (cy 0, 300, .inl o_text))]) hP hD [] [0, 1] [] hC hk1 ht hB rfl rfl rfl (N := 2) rfl (by decide) rfl rfl
        generalize H1 = H at hP hS ⊢
        refine lv_if_eq (tgt := 39) hx hb dX3_readWord_23 (by decide) (fun c28 => ?_) (fun c28 => ?_)
        · have h := h.1 c28
          exact hkx0 o_at h _ _ hP hD hS _ (lv_sub hl [0] rfl)
        · have h := h.2 c28
          refine lv_aload_n hx hb dX3_readWord_26 rfl (lv_at hl 0 rfl) ?_
          refine lv_dup hx hb dX3_readWord_27 rfl ?_
          refine va_get (D := D) (ci := 3) (v := .int o_at) (C := RX3) (T := TX3) (N := 6) hx hb hts in_X3 hown hK hP 0 rfl rfl 2 (by decide) fl_19 (fun _ h9 => h9) rfl dX3_readWord_28 ?_
          refine lv_iconst (v := 1) hx hb dX3_readWord_31 (by decide) ?_
          refine lv_iadd hx hb dX3_readWord_32 ?_
          refine va_put (D := D) (ci := 3) (v := .int (o_at + (1 : Int32))) (ty := .int) (C := RX3) (T := TX3) (N := 6) hx hb hts in_X3 tyX3 tyX3_ok nmX3 hown hK hP hD hS 0 rfl rfl 2 (by decide) fl_19 (fun _ h9 => h9) rfl (by decide +kernel) rfl rfl (Nat.le_of_ble_eq_true rfl) dX3_readWord_33 (fun H locs hP hD hS => ?_)
          have hP : va_P D vwCl (w_X3_readWord cy a_o a_o_text o_length (o_at + (1 : Int32)) o_start o_token o_number o_text) H := hP
          have hD : va_D A (w_X3_readWord cy a_o a_o_text o_length (o_at + (1 : Int32)) o_start o_token o_number o_text) := hD
          refine lv_goto (tgt := 0) hx hb dX3_readWord_36 (by decide) ?_
          exact hkb (o_at + (1 : Int32)) h _ _ hP hD hS _ (lv_sub hl [0] rfl)
  refine ent [.ref a_o] (Nat.le_of_ble_eq_true rfl) (fun ls hl => ?_)
  have hl : lv_has ls 1 [(0, .ref a_o)] := hl
  unfold wp_X3_readWord at h
  refine lv_aload_n hx hb dX3_readWord_0 rfl (lv_at hl 0 rfl) ?_
  refine va_get (D := D) (ci := 3) (v := .int o_at) (C := RX3) (T := TX3) (N := 6) hx hb hts in_X3 hown hK hP 0 rfl rfl 2 (by decide) fl_19 (fun _ h9 => h9) rfl dX3_readWord_1 ?_
  refine lv_aload_n hx hb dX3_readWord_4 rfl (lv_at hl 0 rfl) ?_
  refine va_get (D := D) (ci := 3) (v := .int o_length) (C := RX3) (T := TX3) (N := 6) hx hb hts in_X3 hown hK hP 0 rfl rfl 1 (by decide) fl_15 (fun _ h9 => h9) rfl dX3_readWord_5 ?_
  refine lv_icmp_ge (tgt := 39) hx hb dX3_readWord_8 (by decide) (fun c1 => ?_) (fun c1 => ?_)
  · have h := h.1 c1
    exact j_39_0 o_at o_token o_number h _ _ hP hD hS _ (lv_sub hl [0] rfl)
  · have h := h.2 c1
    refine lv_aload_n hx hb dX3_readWord_11 rfl (lv_at hl 0 rfl) ?_
    refine va_get (D := D) (ci := 3) (v := .ref a_o_text) (C := RX3) (T := TX3) (N := 6) hx hb hts in_X3 hown hK hP 0 rfl rfl 0 (by decide) fl_11 (fun _ h9 => h9) rfl dX3_readWord_12 ?_
    refine lv_aload_n hx hb dX3_readWord_15 rfl (lv_at hl 0 rfl) ?_
    refine va_get (D := D) (ci := 3) (v := .int o_at) (C := RX3) (T := TX3) (N := 6) hx hb hts in_X3 hown hK hP 0 rfl rfl 2 (by decide) fl_19 (fun _ h9 => h9) rfl dX3_readWord_16 ?_
    obtain ⟨i22, h⟩ := h
    refine va_bald hx hb hK hP 1 0 rfl rfl i22 dX3_readWord_19 ?_
    have hC : ([] : List Nat).map (fun i => ((w_X3_readWord cy a_o a_o_text o_length o_at o_start o_token o_number o_text) : va_W)[i]?) = ((w_X3_isSmall cy ) : va_W).map some := rfl
    obtain ⟨hPc, hDc⟩ := cutC hP hD [] (by decide) hC
    have hFc := va_free hD hS hA [] hC
    refine va_calli (va_runS (As := [.int (o_text (o_at).toNatClampNeg)]) (rest := []) ⟨hx, hb, hml, hown, hts⟩ (c_X3_isSmall l D cy _ h) (va_cwS 1 hts gX3_readWord_X3_isSmall rfl rfl rfl (by decide +kernel) ⟨Nat.le_of_ble_eq_true rfl, Nat.le_of_ble_eq_true rfl⟩) (preS hPc hDc hK hN) rfl rfl hl.1 rfl (lv_room (Nat.le_of_ble_eq_true rfl)) dX3_readWord_20 ⟨Nat.zero_le _, Nat.zero_le _⟩) hS (fun q _ h => hFc q h) hFc (fun r23 u t H1 locs ht hvm h hB hz1 hk1 hS => ?_)
    try dsimp only at h hB
    obtain ⟨hP, hD⟩ := joinU (wd := (w_X3_readWord cy a_o a_o_text o_length o_at o_start o_token o_number o_text)) (wr := [(a_o, .inr (3, [.ref a_o_text, .int o_length, .int o_at, .int o_start, .int o_token, .int o_number])), (a_o_text, .inl (cy 0, 300, .inl o_text))]) hP hD [] [0, 1] [] hC hk1 ht hB rfl rfl rfl (N := 2) rfl (by decide) rfl rfl
    generalize H1 = H at hP hS ⊢
    refine lv_if_eq (tgt := 39) hx hb dX3_readWord_23 (by decide) (fun c24 => ?_) (fun c24 => ?_)
    · have h := h.1 c24
      exact j_39_0 o_at o_token o_number h _ _ hP hD hS _ (lv_sub hl [0] rfl)
    · have h := h.2 c24
      refine lv_aload_n hx hb dX3_readWord_26 rfl (lv_at hl 0 rfl) ?_
      refine lv_dup hx hb dX3_readWord_27 rfl ?_
      refine va_get (D := D) (ci := 3) (v := .int o_at) (C := RX3) (T := TX3) (N := 6) hx hb hts in_X3 hown hK hP 0 rfl rfl 2 (by decide) fl_19 (fun _ h9 => h9) rfl dX3_readWord_28 ?_
      refine lv_iconst (v := 1) hx hb dX3_readWord_31 (by decide) ?_
      refine lv_iadd hx hb dX3_readWord_32 ?_
      refine va_put (D := D) (ci := 3) (v := .int (o_at + (1 : Int32))) (ty := .int) (C := RX3) (T := TX3) (N := 6) hx hb hts in_X3 tyX3 tyX3_ok nmX3 hown hK hP hD hS 0 rfl rfl 2 (by decide) fl_19 (fun _ h9 => h9) rfl (by decide +kernel) rfl rfl (Nat.le_of_ble_eq_true rfl) dX3_readWord_33 (fun H locs hP hD hS => ?_)
      have hP : va_P D vwCl (w_X3_readWord cy a_o a_o_text o_length (o_at + (1 : Int32)) o_start o_token o_number o_text) H := hP
      have hD : va_D A (w_X3_readWord cy a_o a_o_text o_length (o_at + (1 : Int32)) o_start o_token o_number o_text) := hD
      refine lv_goto (tgt := 0) hx hb dX3_readWord_36 (by decide) ?_
      obtain ⟨n30, h⟩ := h
      refine l_0 o_token o_number _ ?_ n30 (o_at + (1 : Int32)) h _ _ hP hD hS _ (lv_sub hl [0] rfl)
      · intro o_at_29 h H locs hP hD hS ls hl
        exact j_39_0 o_at_29 o_token o_number h _ _ hP hD hS _ (lv_sub hl [0] rfl)
abbrev w_X3_next (cy : Nat → ClassId) (a_o a_o_text : Nat) (o_length : Int32) (o_at : Int32) (o_start : Int32) (o_token : Int32) (o_number : Int32) (o_text : Nat → Int32) : va_W := [(a_o, .inr (3, [.ref a_o_text, .int o_length, .int o_at, .int o_start, .int o_token, .int o_number])), (a_o_text, .inl (cy 0, 300, .inl o_text))]
set_option maxRecDepth 20000 in
theorem ggX3_next_X3_isDigit : GoodIn wsX3_next wsX3_isDigit := goodIn_r _ [10] (by decide +kernel) (by decide +kernel)
set_option maxRecDepth 20000 in
theorem ggX3_next_X3_isSmall : GoodIn wsX3_next wsX3_isSmall := goodIn_r _ [17] (by decide +kernel) (by decide +kernel)
set_option maxRecDepth 20000 in
theorem ggX3_next_X3_readDigits : GoodIn wsX3_next wsX3_readDigits := goodIn_r _ [14, 1, 2, 3, 5, 4, 6, 7, 8, 9, 10, 83, 84, 85, 86, 87, 88] (by decide +kernel) (by decide +kernel)
set_option maxRecDepth 20000 in
theorem ggX3_next_X3_readSign : GoodIn wsX3_next wsX3_readSign := goodIn_r _ [82, 1, 6, 5, 83, 84, 85, 86, 87, 88] (by decide +kernel) (by decide +kernel)
set_option maxRecDepth 20000 in
theorem ggX3_next_X3_readWord : GoodIn wsX3_next wsX3_readWord := goodIn_r _ [21, 1, 2, 3, 6, 15, 16, 9, 17, 22, 23, 24, 25, 4, 26, 27, 28, 29, 30, 31, 32, 33, 34, 35, 36, 37, 38, 39, 40, 41, 42, 43, 44, 45, 46, 47, 48, 49, 50, 51, 52, 53, 54, 55, 56, 57, 58, 59, 60, 61, 62, 63, 64, 65, 66, 67, 68, 69, 70, 71, 72, 73, 74, 75, 76, 77, 78, 5, 83, 84, 85, 86, 87, 88] (by decide +kernel) (by decide +kernel)
set_option maxRecDepth 20000 in
theorem gX3_next_X3_isDigit : GoodIn wsX3_next (va_wsS RX3 72 yX3_isDigit wsX3_isDigit) := goodIn_app (goodIn_of _ (by decide +kernel)) ggX3_next_X3_isDigit
set_option maxRecDepth 20000 in
theorem gX3_next_X3_isSmall : GoodIn wsX3_next (va_wsS RX3 79 yX3_isSmall wsX3_isSmall) := goodIn_app (goodIn_of _ (by decide +kernel)) ggX3_next_X3_isSmall
set_option maxRecDepth 20000 in
theorem gX3_next_X3_readDigits : GoodIn wsX3_next (wsV RX3 76 RX3 yX3_readDigits wsX3_readDigits) := goodIn_app (goodIn_of _ (by decide +kernel)) ggX3_next_X3_readDigits
set_option maxRecDepth 20000 in
theorem gX3_next_X3_readSign : GoodIn wsX3_next (wsV RX3 85 RX3 yX3_readSign wsX3_readSign) := goodIn_app (goodIn_of _ (by decide +kernel)) ggX3_next_X3_readSign
set_option maxRecDepth 20000 in
theorem gX3_next_X3_readWord : GoodIn wsX3_next (wsV RX3 82 RX3 yX3_readWord wsX3_readWord) := goodIn_app (goodIn_of _ (by decide +kernel)) ggX3_next_X3_readWord
set_option maxHeartbeats 4000000 in
set_option maxRecDepth 100000 in
theorem c_X3_next (l : Launch) (D : va_G) (cy : Nat → ClassId) (K : (Nat → Nat) × (Nat → Nat)) (a_o a_o_text : Nat) (sz : Nat)  {o_length : Int32} {o_at : Int32} {o_start : Int32} {o_token : Int32} {o_number : Int32} {o_text : Nat → Int32}  {post : Int32 → Int32 → Int32 → Int32 → Prop} (h : wp_X3_next o_length o_at o_start o_token o_number o_text post) : Met l yX3_next wsX3_next ({ frames := 6, cells := 0, slots := 0, locals := 127 }) (va_Pc [.ref a_o] (wIs D cy sz (w_X3_next cy a_o a_o_text o_length o_at o_start o_token o_number o_text) K)) (va_Qv (fun (u : Int32 × Int32 × Int32 × Int32) => post u.1 u.2.1 u.2.2.1 u.2.2.2) (fun (u : Int32 × Int32 × Int32 × Int32) t => wO D cy (va_A (w_X3_next cy a_o a_o_text o_length o_at o_start o_token o_number o_text) sz) (w_X3_next cy a_o a_o_text o_length u.1 u.2.1 u.2.2.1 u.2.2.2 o_text) t) (va_A (w_X3_next cy a_o a_o_text o_length o_at o_start o_token o_number o_text) sz)) 0 0 (va_A (w_X3_next cy a_o a_o_text o_length o_at o_start o_token o_number o_text) sz) := by
  refine contrVs (S := Int32 × Int32 × Int32 × Int32) (post := fun (u : Int32 × Int32 × Int32 × Int32) => post u.1 u.2.1 u.2.2.1 u.2.2.2) (wOut := fun (u : Int32 × Int32 × Int32 × Int32) => (w_X3_next cy a_o a_o_text o_length u.1 u.2.1 u.2.2.1 u.2.2.2 o_text)) (cc := cX3_next) (maxL := 2) (own := RX3) (by decide +kernel) rfl rfl ?_
  intro p e s m args below meth c A Q hx hb hml hown hts hK hN hP hD hS hA hSW hSR hret
  have in_X3 : ∀ w ∈ u_ws RX3 TX3 6, w ∈ wsX3_next := by decide +kernel
  have fl_19 := hts (.fieldLink RX3 19 "DawnTable$Reader" "at" "I") (by decide +kernel)
  have fl_15 := hts (.fieldLink RX3 15 "DawnTable$Reader" "length" "I") (by decide +kernel)
  have fl_22 := hts (.fieldLink RX3 22 "DawnTable$Reader" "start" "I") (by decide +kernel)
  have fl_28 := hts (.fieldLink RX3 28 "DawnTable$Reader" "number" "I") (by decide +kernel)
  have fl_11 := hts (.fieldLink RX3 11 "DawnTable$Reader" "text" "[B") (by decide +kernel)
  have fl_25 := hts (.fieldLink RX3 25 "DawnTable$Reader" "token" "I") (by decide +kernel)
  have j_38_0 : ∀ (o_at : Int32) (o_start : Int32) (o_token : Int32) (o_number : Int32), wj_X3_next_38  o_length o_at o_start o_token o_number o_text  post → ∀ (H : Heap) (locs : List Loc), va_P D vwCl (w_X3_next cy a_o a_o_text o_length o_at o_start o_token o_number o_text) H → va_D A (w_X3_next cy a_o a_o_text o_length o_at o_start o_token o_number o_text) → va_S A s.heap H locs → ∀ (ls : Array Slot), lv_has ls 2 [(0, .ref a_o)] → W p l e ({ frames := 6, cells := 0, slots := 0, locals := 127 }) s m args below meth c H locs 0 0 Q (F0 m 38 ls []) := by
    intro o_at o_start o_token o_number  h H locs hP hD hS ls hl
    unfold wj_X3_next_38 at h
    refine lv_aload_n hx hb dX3_next_38 rfl (lv_at hl 0 rfl) ?_
    refine lv_aload_n hx hb dX3_next_39 rfl (lv_at hl 0 rfl) ?_
    refine va_get (D := D) (ci := 3) (v := .int o_at) (C := RX3) (T := TX3) (N := 6) hx hb hts in_X3 hown hK hP 0 rfl rfl 2 (by decide) fl_19 (fun _ h9 => h9) rfl dX3_next_40 ?_
    refine va_put (D := D) (ci := 3) (v := .int o_at) (ty := .int) (C := RX3) (T := TX3) (N := 6) hx hb hts in_X3 tyX3 tyX3_ok nmX3 hown hK hP hD hS 0 rfl rfl 3 (by decide) fl_22 (fun _ h9 => h9) rfl (by decide +kernel) rfl rfl (Nat.le_of_ble_eq_true rfl) dX3_next_43 (fun H locs hP hD hS => ?_)
    have hP : va_P D vwCl (w_X3_next cy a_o a_o_text o_length o_at o_at o_token o_number o_text) H := hP
    have hD : va_D A (w_X3_next cy a_o a_o_text o_length o_at o_at o_token o_number o_text) := hD
    refine lv_aload_n hx hb dX3_next_46 rfl (lv_at hl 0 rfl) ?_
    refine lv_iconst (v := 0) hx hb dX3_next_47 (by decide) ?_
    refine va_put (D := D) (ci := 3) (v := .int (0 : Int32)) (ty := .int) (C := RX3) (T := TX3) (N := 6) hx hb hts in_X3 tyX3 tyX3_ok nmX3 hown hK hP hD hS 0 rfl rfl 5 (by decide) fl_28 (fun _ h9 => h9) rfl (by decide +kernel) rfl rfl (Nat.le_of_ble_eq_true rfl) dX3_next_48 (fun H locs hP hD hS => ?_)
    have hP : va_P D vwCl (w_X3_next cy a_o a_o_text o_length o_at o_at o_token (0 : Int32) o_text) H := hP
    have hD : va_D A (w_X3_next cy a_o a_o_text o_length o_at o_at o_token (0 : Int32) o_text) := hD
    refine lv_aload_n hx hb dX3_next_51 rfl (lv_at hl 0 rfl) ?_
    refine va_get (D := D) (ci := 3) (v := .int o_at) (C := RX3) (T := TX3) (N := 6) hx hb hts in_X3 hown hK hP 0 rfl rfl 2 (by decide) fl_19 (fun _ h9 => h9) rfl dX3_next_52 ?_
    refine lv_aload_n hx hb dX3_next_55 rfl (lv_at hl 0 rfl) ?_
    refine va_get (D := D) (ci := 3) (v := .int o_length) (C := RX3) (T := TX3) (N := 6) hx hb hts in_X3 hown hK hP 0 rfl rfl 1 (by decide) fl_15 (fun _ h9 => h9) rfl dX3_next_56 ?_
    refine lv_icmp_lt (tgt := 68) hx hb dX3_next_59 (by decide) (fun c2 => ?_) (fun c2 => ?_)
    · have h := h.1 c2
      refine lv_aload_n hx hb dX3_next_68 rfl (lv_at hl 0 rfl) ?_
      refine va_get (D := D) (ci := 3) (v := .ref a_o_text) (C := RX3) (T := TX3) (N := 6) hx hb hts in_X3 hown hK hP 0 rfl rfl 0 (by decide) fl_11 (fun _ h9 => h9) rfl dX3_next_69 ?_
      refine lv_aload_n hx hb dX3_next_72 rfl (lv_at hl 0 rfl) ?_
      refine va_get (D := D) (ci := 3) (v := .int o_at) (C := RX3) (T := TX3) (N := 6) hx hb hts in_X3 hown hK hP 0 rfl rfl 2 (by decide) fl_19 (fun _ h9 => h9) rfl dX3_next_73 ?_
      obtain ⟨i3, h⟩ := h
      refine va_bald hx hb hK hP 1 0 rfl rfl i3 dX3_next_76 ?_
      refine lv_istore_n (lv' := [(1, .int (o_text (o_at).toNatClampNeg)), (0, .ref a_o)]) hx hb dX3_next_77 rfl hl (by decide) rfl (fun ls hl => ?_)
      refine lv_iload_n hx hb dX3_next_78 rfl (lv_at hl 0 rfl) ?_
      have hC : ([] : List Nat).map (fun i => ((w_X3_next cy a_o a_o_text o_length o_at o_at o_token (0 : Int32) o_text) : va_W)[i]?) = ((w_X3_isDigit cy ) : va_W).map some := rfl
      obtain ⟨hPc, hDc⟩ := cutC hP hD [] (by decide) hC
      have hFc := va_free hD hS hA [] hC
      refine va_calli (va_runS (As := [.int (o_text (o_at).toNatClampNeg)]) (rest := []) ⟨hx, hb, hml, hown, hts⟩ (c_X3_isDigit l D cy _ h) (va_cwS 1 hts gX3_next_X3_isDigit rfl rfl rfl (by decide +kernel) ⟨Nat.le_of_ble_eq_true rfl, Nat.le_of_ble_eq_true rfl⟩) (preS hPc hDc hK hN) rfl rfl hl.1 rfl (lv_room (Nat.le_of_ble_eq_true rfl)) dX3_next_79 ⟨Nat.zero_le _, Nat.zero_le _⟩) hS (fun q _ h => hFc q h) hFc (fun r4 u t H1 locs ht hvm h hB hz1 hk1 hS => ?_)
      try dsimp only at h hB
      obtain ⟨hP, hD⟩ := joinU (wd := (w_X3_next cy a_o a_o_text o_length o_at o_at o_token (0 : Int32) o_text)) (wr := [(a_o, .inr (3, [.ref a_o_text, .int o_length, .int o_at, .int o_at, .int o_token, .int (0 : Int32)])), (a_o_text, .inl (cy 0, 300, .inl o_text))]) hP hD [] [0, 1] [] hC hk1 ht hB rfl rfl rfl (N := 2) rfl (by decide) rfl rfl
      generalize H1 = H at hP hS ⊢
      refine lv_if_eq (tgt := 92) hx hb dX3_next_82 (by decide) (fun c5 => ?_) (fun c5 => ?_)
      · have h := h.1 c5
        refine lv_iload_n hx hb dX3_next_92 rfl (lv_at hl 0 rfl) ?_
        have hC : ([] : List Nat).map (fun i => ((w_X3_next cy a_o a_o_text o_length o_at o_at o_token (0 : Int32) o_text) : va_W)[i]?) = ((w_X3_isSmall cy ) : va_W).map some := rfl
        obtain ⟨hPc, hDc⟩ := cutC hP hD [] (by decide) hC
        have hFc := va_free hD hS hA [] hC
        refine va_calli (va_runS (As := [.int (o_text (o_at).toNatClampNeg)]) (rest := []) ⟨hx, hb, hml, hown, hts⟩ (c_X3_isSmall l D cy _ h) (va_cwS 1 hts gX3_next_X3_isSmall rfl rfl rfl (by decide +kernel) ⟨Nat.le_of_ble_eq_true rfl, Nat.le_of_ble_eq_true rfl⟩) (preS hPc hDc hK hN) rfl rfl hl.1 rfl (lv_room (Nat.le_of_ble_eq_true rfl)) dX3_next_93 ⟨Nat.zero_le _, Nat.zero_le _⟩) hS (fun q _ h => hFc q h) hFc (fun r6 u t H1 locs ht hvm h hB hz1 hk1 hS => ?_)
        try dsimp only at h hB
        obtain ⟨hP, hD⟩ := joinU (wd := (w_X3_next cy a_o a_o_text o_length o_at o_at o_token (0 : Int32) o_text)) (wr := [(a_o, .inr (3, [.ref a_o_text, .int o_length, .int o_at, .int o_at, .int o_token, .int (0 : Int32)])), (a_o_text, .inl (cy 0, 300, .inl o_text))]) hP hD [] [0, 1] [] hC hk1 ht hB rfl rfl rfl (N := 2) rfl (by decide) rfl rfl
        generalize H1 = H at hP hS ⊢
        refine lv_if_eq (tgt := 106) hx hb dX3_next_96 (by decide) (fun c7 => ?_) (fun c7 => ?_)
        · have h := h.1 c7
          refine lv_aload_n hx hb dX3_next_106 rfl (lv_at hl 1 rfl) ?_
          refine lv_iload_n hx hb dX3_next_107 rfl (lv_at hl 0 rfl) ?_
          have hC : ([0] : List Nat).map (fun i => ((w_X3_next cy a_o a_o_text o_length o_at o_at o_token (0 : Int32) o_text) : va_W)[i]?) = ((w_X3_readSign cy a_o a_o_text o_length o_at o_at o_token (0 : Int32)) : va_W).map some := rfl
          obtain ⟨hPc, hDc⟩ := cutC hP hD [0] (by decide) hC
          have hFc := va_free hD hS hA [0] hC
          refine va_callv (va_runV (As := [.int (o_text (o_at).toNatClampNeg)]) (rest := []) ⟨hx, hb, hml, hown, hts⟩ (c_X3_readSign l D cy a_o a_o_text _ h) (cwV 1 hts gX3_next_X3_readSign rfl rfl rfl (by decide +kernel) ⟨Nat.le_of_ble_eq_true rfl, Nat.le_of_ble_eq_true rfl⟩) (preV hPc hDc hK hN (ci := 3) (q0 := 0) rfl rfl) rfl rfl hl.1 rfl (lv_room (Nat.le_of_ble_eq_true rfl)) dX3_next_108 ⟨Nat.zero_le _, Nat.zero_le _⟩) hS (fun q _ h => hFc q h) hFc (fun u t H1 locs ht hvm h hB hz1 hk1 hS => ?_)
          obtain ⟨u8, u9, u10⟩ := u
          try dsimp only at h hB
          obtain ⟨hP, hD⟩ := joinU (wd := (w_X3_next cy a_o a_o_text o_length u8 o_at u9 u10 o_text)) (wr := [(a_o_text, .inl (cy 0, 300, .inl o_text))]) hP hD [0] [1] [a_o] hC hk1 ht hB rfl rfl rfl (N := 2) rfl (by decide) rfl rfl
          generalize H1 = H at hP hS ⊢
          exact hret (u8, o_at, u9, u10) _ _ _ _ h hP hD hS dX3_next_111
        · have h := h.2 c7
          refine lv_aload_n hx hb dX3_next_99 rfl (lv_at hl 1 rfl) ?_
          have hC : ([0, 1] : List Nat).map (fun i => ((w_X3_next cy a_o a_o_text o_length o_at o_at o_token (0 : Int32) o_text) : va_W)[i]?) = ((w_X3_readWord cy a_o a_o_text o_length o_at o_at o_token (0 : Int32) o_text) : va_W).map some := rfl
          obtain ⟨hPc, hDc⟩ := cutC hP hD [0, 1] (by decide) hC
          have hFc := va_free hD hS hA [0, 1] hC
          refine va_callv (va_runV (As := []) (rest := []) ⟨hx, hb, hml, hown, hts⟩ (c_X3_readWord l D cy K a_o a_o_text _ h) (cwV 0 hts gX3_next_X3_readWord rfl rfl rfl (by decide +kernel) ⟨Nat.le_of_ble_eq_true rfl, Nat.le_of_ble_eq_true rfl⟩) (preVs hPc hDc hK hN hSW hSR hS hFc (ci := 3) (q0 := 0) rfl rfl) rfl rfl hl.1 rfl (lv_room (Nat.le_of_ble_eq_true rfl)) dX3_next_100 ⟨Nat.zero_le _, Nat.zero_le _⟩) hS (fun q _ h => hFc q h) hFc (fun u t H1 locs ht hvm h hB hz1 hk1 hS => ?_)
          obtain ⟨u11, u12, u13⟩ := u
          try dsimp only at h hB
          obtain ⟨hP, hD⟩ := joinU (wd := (w_X3_next cy a_o a_o_text o_length u11 o_at u12 u13 o_text)) (wr := []) hP hD [0, 1] [] [a_o, a_o_text] hC hk1 ht hB rfl rfl rfl (N := 2) rfl (by decide) rfl rfl
          generalize H1 = H at hP hS ⊢
          refine lv_goto (tgt := 111) hx hb dX3_next_103 (by decide) ?_
          exact hret (u11, o_at, u12, u13) _ _ _ _ h hP hD hS dX3_next_111
      · have h := h.2 c5
        refine lv_aload_n hx hb dX3_next_85 rfl (lv_at hl 1 rfl) ?_
        have hC : ([0, 1] : List Nat).map (fun i => ((w_X3_next cy a_o a_o_text o_length o_at o_at o_token (0 : Int32) o_text) : va_W)[i]?) = ((w_X3_readDigits cy a_o a_o_text o_length o_at o_at o_token (0 : Int32) o_text) : va_W).map some := rfl
        obtain ⟨hPc, hDc⟩ := cutC hP hD [0, 1] (by decide) hC
        have hFc := va_free hD hS hA [0, 1] hC
        refine va_callv (va_runV (As := []) (rest := []) ⟨hx, hb, hml, hown, hts⟩ (c_X3_readDigits l D cy a_o a_o_text _ h) (cwV 0 hts gX3_next_X3_readDigits rfl rfl rfl (by decide +kernel) ⟨Nat.le_of_ble_eq_true rfl, Nat.le_of_ble_eq_true rfl⟩) (preV hPc hDc hK hN (ci := 3) (q0 := 0) rfl rfl) rfl rfl hl.1 rfl (lv_room (Nat.le_of_ble_eq_true rfl)) dX3_next_86 ⟨Nat.zero_le _, Nat.zero_le _⟩) hS (fun q _ h => hFc q h) hFc (fun u t H1 locs ht hvm h hB hz1 hk1 hS => ?_)
        obtain ⟨u14, u15, u16⟩ := u
        try dsimp only at h hB
        obtain ⟨hP, hD⟩ := joinU (wd := (w_X3_next cy a_o a_o_text o_length u14 o_at u15 u16 o_text)) (wr := []) hP hD [0, 1] [] [a_o, a_o_text] hC hk1 ht hB rfl rfl rfl (N := 2) rfl (by decide) rfl rfl
        generalize H1 = H at hP hS ⊢
        refine lv_goto (tgt := 111) hx hb dX3_next_89 (by decide) ?_
        exact hret (u14, o_at, u15, u16) _ _ _ _ h hP hD hS dX3_next_111
    · have h := h.2 c2
      refine lv_aload_n hx hb dX3_next_62 rfl (lv_at hl 0 rfl) ?_
      refine lv_iconst (v := 0) hx hb dX3_next_63 (by decide) ?_
      refine va_put (D := D) (ci := 3) (v := .int (0 : Int32)) (ty := .int) (C := RX3) (T := TX3) (N := 6) hx hb hts in_X3 tyX3 tyX3_ok nmX3 hown hK hP hD hS 0 rfl rfl 4 (by decide) fl_25 (fun _ h9 => h9) rfl (by decide +kernel) rfl rfl (Nat.le_of_ble_eq_true rfl) dX3_next_64 (fun H locs hP hD hS => ?_)
      have hP : va_P D vwCl (w_X3_next cy a_o a_o_text o_length o_at o_at (0 : Int32) (0 : Int32) o_text) H := hP
      have hD : va_D A (w_X3_next cy a_o a_o_text o_length o_at o_at (0 : Int32) (0 : Int32) o_text) := hD
      exact hret (o_at, o_at, (0 : Int32), (0 : Int32)) _ _ _ _ h hP hD hS dX3_next_67
  have l_0 : ∀ (o_start : Int32) (o_token : Int32) (o_number : Int32), ∀ (kx0 : Int32 → Prop), (∀ (o_at : Int32), kx0 o_at → ∀ (H : Heap) (locs : List Loc), va_P D vwCl (w_X3_next cy a_o a_o_text o_length o_at o_start o_token o_number o_text) H → va_D A (w_X3_next cy a_o a_o_text o_length o_at o_start o_token o_number o_text) → va_S A s.heap H locs → ∀ (ls : Array Slot), lv_has ls 2 [(0, .ref a_o)] → W p l e ({ frames := 6, cells := 0, slots := 0, locals := 127 }) s m args below meth c H locs 0 0 Q (F0 m 38 ls [])) → ∀ (n : Nat) (o_at : Int32), wl_X3_next_0 o_length o_start o_token o_number o_text kx0 post n o_at → ∀ (H : Heap) (locs : List Loc), va_P D vwCl (w_X3_next cy a_o a_o_text o_length o_at o_start o_token o_number o_text) H → va_D A (w_X3_next cy a_o a_o_text o_length o_at o_start o_token o_number o_text) → va_S A s.heap H locs → ∀ (ls : Array Slot), lv_has ls 2 [(0, .ref a_o)] → W p l e ({ frames := 6, cells := 0, slots := 0, locals := 127 }) s m args below meth c H locs 0 0 Q (F0 m 0 ls []) := by
    intro o_start o_token o_number kx0 hkx0  n
    induction n with
    | zero => intro o_at h; exact h.elim
    | succ n hkb =>
      intro o_at h H locs hP hD hS ls hl
      replace h : ws_X3_next_0 o_length o_start o_token o_number o_text (wl_X3_next_0 o_length o_start o_token o_number o_text kx0 post n) kx0 post o_at := h
      generalize wl_X3_next_0 o_length o_start o_token o_number o_text kx0 post n = kb at h hkb
      unfold ws_X3_next_0 at h
      refine lv_aload_n hx hb dX3_next_0 rfl (lv_at hl 0 rfl) ?_
      refine va_get (D := D) (ci := 3) (v := .int o_at) (C := RX3) (T := TX3) (N := 6) hx hb hts in_X3 hown hK hP 0 rfl rfl 2 (by decide) fl_19 (fun _ h9 => h9) rfl dX3_next_1 ?_
      refine lv_aload_n hx hb dX3_next_4 rfl (lv_at hl 0 rfl) ?_
      refine va_get (D := D) (ci := 3) (v := .int o_length) (C := RX3) (T := TX3) (N := 6) hx hb hts in_X3 hown hK hP 0 rfl rfl 1 (by decide) fl_15 (fun _ h9 => h9) rfl dX3_next_5 ?_
      refine lv_icmp_ge (tgt := 38) hx hb dX3_next_8 (by decide) (fun c19 => ?_) (fun c19 => ?_)
      · have h := h.1 c19
        exact hkx0 o_at h _ _ hP hD hS _ (lv_sub hl [0] rfl)
      · have h := h.2 c19
        refine lv_aload_n hx hb dX3_next_11 rfl (lv_at hl 0 rfl) ?_
        refine va_get (D := D) (ci := 3) (v := .ref a_o_text) (C := RX3) (T := TX3) (N := 6) hx hb hts in_X3 hown hK hP 0 rfl rfl 0 (by decide) fl_11 (fun _ h9 => h9) rfl dX3_next_12 ?_
        refine lv_aload_n hx hb dX3_next_15 rfl (lv_at hl 0 rfl) ?_
        refine va_get (D := D) (ci := 3) (v := .int o_at) (C := RX3) (T := TX3) (N := 6) hx hb hts in_X3 hown hK hP 0 rfl rfl 2 (by decide) fl_19 (fun _ h9 => h9) rfl dX3_next_16 ?_
        obtain ⟨i20, h⟩ := h
        refine va_bald hx hb hK hP 1 0 rfl rfl i20 dX3_next_19 ?_
        refine lv_bipush (v := 32) hx hb dX3_next_20 (by decide) ?_
        refine lv_icmp_ne (tgt := 38) hx hb dX3_next_22 (by decide) (fun c21 => ?_) (fun c21 => ?_)
        · have h := h.2 c21
          exact hkx0 o_at h _ _ hP hD hS _ (lv_sub hl [0] rfl)
        · have h := h.1 c21
          refine lv_aload_n hx hb dX3_next_25 rfl (lv_at hl 0 rfl) ?_
          refine lv_dup hx hb dX3_next_26 rfl ?_
          refine va_get (D := D) (ci := 3) (v := .int o_at) (C := RX3) (T := TX3) (N := 6) hx hb hts in_X3 hown hK hP 0 rfl rfl 2 (by decide) fl_19 (fun _ h9 => h9) rfl dX3_next_27 ?_
          refine lv_iconst (v := 1) hx hb dX3_next_30 (by decide) ?_
          refine lv_iadd hx hb dX3_next_31 ?_
          refine va_put (D := D) (ci := 3) (v := .int (o_at + (1 : Int32))) (ty := .int) (C := RX3) (T := TX3) (N := 6) hx hb hts in_X3 tyX3 tyX3_ok nmX3 hown hK hP hD hS 0 rfl rfl 2 (by decide) fl_19 (fun _ h9 => h9) rfl (by decide +kernel) rfl rfl (Nat.le_of_ble_eq_true rfl) dX3_next_32 (fun H locs hP hD hS => ?_)
          have hP : va_P D vwCl (w_X3_next cy a_o a_o_text o_length (o_at + (1 : Int32)) o_start o_token o_number o_text) H := hP
          have hD : va_D A (w_X3_next cy a_o a_o_text o_length (o_at + (1 : Int32)) o_start o_token o_number o_text) := hD
          refine lv_goto (tgt := 0) hx hb dX3_next_35 (by decide) ?_
          exact hkb (o_at + (1 : Int32)) h _ _ hP hD hS _ (lv_sub hl [0] rfl)
  refine ent [.ref a_o] (Nat.le_of_ble_eq_true rfl) (fun ls hl => ?_)
  have hl : lv_has ls 2 [(0, .ref a_o)] := hl
  unfold wp_X3_next at h
  refine lv_aload_n hx hb dX3_next_0 rfl (lv_at hl 0 rfl) ?_
  refine va_get (D := D) (ci := 3) (v := .int o_at) (C := RX3) (T := TX3) (N := 6) hx hb hts in_X3 hown hK hP 0 rfl rfl 2 (by decide) fl_19 (fun _ h9 => h9) rfl dX3_next_1 ?_
  refine lv_aload_n hx hb dX3_next_4 rfl (lv_at hl 0 rfl) ?_
  refine va_get (D := D) (ci := 3) (v := .int o_length) (C := RX3) (T := TX3) (N := 6) hx hb hts in_X3 hown hK hP 0 rfl rfl 1 (by decide) fl_15 (fun _ h9 => h9) rfl dX3_next_5 ?_
  refine lv_icmp_ge (tgt := 38) hx hb dX3_next_8 (by decide) (fun c1 => ?_) (fun c1 => ?_)
  · have h := h.1 c1
    exact j_38_0 o_at o_start o_token o_number h _ _ hP hD hS _ (lv_sub hl [0] rfl)
  · have h := h.2 c1
    refine lv_aload_n hx hb dX3_next_11 rfl (lv_at hl 0 rfl) ?_
    refine va_get (D := D) (ci := 3) (v := .ref a_o_text) (C := RX3) (T := TX3) (N := 6) hx hb hts in_X3 hown hK hP 0 rfl rfl 0 (by decide) fl_11 (fun _ h9 => h9) rfl dX3_next_12 ?_
    refine lv_aload_n hx hb dX3_next_15 rfl (lv_at hl 0 rfl) ?_
    refine va_get (D := D) (ci := 3) (v := .int o_at) (C := RX3) (T := TX3) (N := 6) hx hb hts in_X3 hown hK hP 0 rfl rfl 2 (by decide) fl_19 (fun _ h9 => h9) rfl dX3_next_16 ?_
    obtain ⟨i17, h⟩ := h
    refine va_bald hx hb hK hP 1 0 rfl rfl i17 dX3_next_19 ?_
    refine lv_bipush (v := 32) hx hb dX3_next_20 (by decide) ?_
    refine lv_icmp_ne (tgt := 38) hx hb dX3_next_22 (by decide) (fun c18 => ?_) (fun c18 => ?_)
    · have h := h.2 c18
      exact j_38_0 o_at o_start o_token o_number h _ _ hP hD hS _ (lv_sub hl [0] rfl)
    · have h := h.1 c18
      refine lv_aload_n hx hb dX3_next_25 rfl (lv_at hl 0 rfl) ?_
      refine lv_dup hx hb dX3_next_26 rfl ?_
      refine va_get (D := D) (ci := 3) (v := .int o_at) (C := RX3) (T := TX3) (N := 6) hx hb hts in_X3 hown hK hP 0 rfl rfl 2 (by decide) fl_19 (fun _ h9 => h9) rfl dX3_next_27 ?_
      refine lv_iconst (v := 1) hx hb dX3_next_30 (by decide) ?_
      refine lv_iadd hx hb dX3_next_31 ?_
      refine va_put (D := D) (ci := 3) (v := .int (o_at + (1 : Int32))) (ty := .int) (C := RX3) (T := TX3) (N := 6) hx hb hts in_X3 tyX3 tyX3_ok nmX3 hown hK hP hD hS 0 rfl rfl 2 (by decide) fl_19 (fun _ h9 => h9) rfl (by decide +kernel) rfl rfl (Nat.le_of_ble_eq_true rfl) dX3_next_32 (fun H locs hP hD hS => ?_)
      have hP : va_P D vwCl (w_X3_next cy a_o a_o_text o_length (o_at + (1 : Int32)) o_start o_token o_number o_text) H := hP
      have hD : va_D A (w_X3_next cy a_o a_o_text o_length (o_at + (1 : Int32)) o_start o_token o_number o_text) := hD
      refine lv_goto (tgt := 0) hx hb dX3_next_35 (by decide) ?_
      obtain ⟨n23, h⟩ := h
      refine l_0 o_start o_token o_number _ ?_ n23 (o_at + (1 : Int32)) h _ _ hP hD hS _ (lv_sub hl [0] rfl)
      · intro o_at_22 h H locs hP hD hS ls hl
        exact j_38_0 o_at_22 o_start o_token o_number h _ _ hP hD hS _ (lv_sub hl [0] rfl)
abbrev w_X3_readsNumber (cy : Nat → ClassId) (a_o a_o_text : Nat) (o_length : Int32) (o_at : Int32) (o_start : Int32) (o_token : Int32) (o_number : Int32) (o_text : Nat → Int32) : va_W := [(a_o, .inr (3, [.ref a_o_text, .int o_length, .int o_at, .int o_start, .int o_token, .int o_number])), (a_o_text, .inl (cy 0, 300, .inl o_text))]
set_option maxRecDepth 20000 in
theorem ggX3_readsNumber_X3_next : GoodIn wsX3_readsNumber wsX3_next := goodIn_r _ [7, 8, 9, 10, 11, 2, 1, 12, 13, 6, 14, 15, 16, 17, 18, 19, 20, 21, 22, 23, 24, 25, 26, 27, 28, 29, 30, 31, 32, 33, 34, 35, 36, 37, 38, 39, 40, 41, 42, 43, 44, 45, 46, 47, 48, 49, 50, 51, 52, 53, 54, 55, 56, 57, 58, 59, 60, 61, 62, 63, 64, 65, 66, 67, 68, 69, 70, 71, 72, 73, 74, 75, 76, 77, 78, 79, 80, 81, 82, 83, 84, 85, 86, 87, 88, 89, 90, 91, 92] (by decide +kernel) (by decide +kernel)
set_option maxRecDepth 20000 in
theorem gX3_readsNumber_X3_next : GoodIn wsX3_readsNumber (wsV RX3 36 RX3 yX3_next wsX3_next) := goodIn_app (goodIn_of _ (by decide +kernel)) ggX3_readsNumber_X3_next
set_option maxHeartbeats 4000000 in
set_option maxRecDepth 100000 in
theorem c_X3_readsNumber (l : Launch) (D : va_G) (cy : Nat → ClassId) (K : (Nat → Nat) × (Nat → Nat)) (a_o a_o_text : Nat) (sz : Nat)  {o_length : Int32} {o_at : Int32} {o_start : Int32} {o_token : Int32} {o_number : Int32} {o_text : Nat → Int32} {x1 : Int32} {x2 : Int32} {post : Int32 → Int32 → Int32 → Int32 → Int32 → Prop} (h : wp_X3_readsNumber o_length o_at o_start o_token o_number o_text x1 x2 post) : Met l yX3_readsNumber wsX3_readsNumber ({ frames := 7, cells := 0, slots := 0, locals := 148 }) (va_Pc [.ref a_o, .int x1, .int x2] (wIs D cy sz (w_X3_readsNumber cy a_o a_o_text o_length o_at o_start o_token o_number o_text) K)) (va_Qi (fun (r : Int32) (u : Int32 × Int32 × Int32 × Int32) => post r u.1 u.2.1 u.2.2.1 u.2.2.2) (fun (u : Int32 × Int32 × Int32 × Int32) t => wO D cy (va_A (w_X3_readsNumber cy a_o a_o_text o_length o_at o_start o_token o_number o_text) sz) (w_X3_readsNumber cy a_o a_o_text o_length u.1 u.2.1 u.2.2.1 u.2.2.2 o_text) t) (va_A (w_X3_readsNumber cy a_o a_o_text o_length o_at o_start o_token o_number o_text) sz)) 0 0 (va_A (w_X3_readsNumber cy a_o a_o_text o_length o_at o_start o_token o_number o_text) sz) := by
  refine contrZs (S := Int32 × Int32 × Int32 × Int32) (post := fun (r : Int32) (u : Int32 × Int32 × Int32 × Int32) => post r u.1 u.2.1 u.2.2.1 u.2.2.2) (wOut := fun (u : Int32 × Int32 × Int32 × Int32) => (w_X3_readsNumber cy a_o a_o_text o_length u.1 u.2.1 u.2.2.1 u.2.2.2 o_text)) (cc := cX3_readsNumber) (maxL := 3) (own := RX3) (by decide +kernel) rfl rfl ?_
  intro p e s m args below meth c A Q hx hb hml hown hts hK hN hP hD hS hA hSW hSR hret
  have in_X3 : ∀ w ∈ u_ws RX3 TX3 6, w ∈ wsX3_readsNumber := by decide +kernel
  have fl_25 := hts (.fieldLink RX3 25 "DawnTable$Reader" "token" "I") (by decide +kernel)
  have fl_28 := hts (.fieldLink RX3 28 "DawnTable$Reader" "number" "I") (by decide +kernel)
  refine ent [.ref a_o, .int x1, .int x2] (Nat.le_of_ble_eq_true rfl) (fun ls hl => ?_)
  have hl : lv_has ls 3 [(0, .ref a_o), (1, .int x1), (2, .int x2)] := hl
  unfold wp_X3_readsNumber at h
  refine lv_aload_n hx hb dX3_readsNumber_0 rfl (lv_at hl 0 rfl) ?_
  have hC : ([0, 1] : List Nat).map (fun i => ((w_X3_readsNumber cy a_o a_o_text o_length o_at o_start o_token o_number o_text) : va_W)[i]?) = ((w_X3_next cy a_o a_o_text o_length o_at o_start o_token o_number o_text) : va_W).map some := rfl
  obtain ⟨hPc, hDc⟩ := cutC hP hD [0, 1] (by decide) hC
  have hFc := va_free hD hS hA [0, 1] hC
  refine va_callv (va_runV (As := []) (rest := []) ⟨hx, hb, hml, hown, hts⟩ (c_X3_next l D cy K a_o a_o_text _ h) (cwV 0 hts gX3_readsNumber_X3_next rfl rfl rfl (by decide +kernel) ⟨Nat.le_of_ble_eq_true rfl, Nat.le_of_ble_eq_true rfl⟩) (preVs hPc hDc hK hN hSW hSR hS hFc (ci := 3) (q0 := 0) rfl rfl) rfl rfl hl.1 rfl (lv_room (Nat.le_of_ble_eq_true rfl)) dX3_readsNumber_1 ⟨Nat.zero_le _, Nat.zero_le _⟩) hS (fun q _ h => hFc q h) hFc (fun u t H1 locs ht hvm h hB hz1 hk1 hS => ?_)
  obtain ⟨u1, u2, u3, u4⟩ := u
  try dsimp only at h hB
  obtain ⟨hP, hD⟩ := joinU (wd := (w_X3_readsNumber cy a_o a_o_text o_length u1 u2 u3 u4 o_text)) (wr := []) hP hD [0, 1] [] [a_o, a_o_text] hC hk1 ht hB rfl rfl rfl (N := 2) rfl (by decide) rfl rfl
  generalize H1 = H at hP hS ⊢
  refine lv_aload_n hx hb dX3_readsNumber_4 rfl (lv_at hl 0 rfl) ?_
  refine va_get (D := D) (ci := 3) (v := .int u3) (C := RX3) (T := TX3) (N := 6) hx hb hts in_X3 hown hK hP 0 rfl rfl 4 (by decide) fl_25 (fun _ h9 => h9) rfl dX3_readsNumber_5 ?_
  refine lv_iconst (v := 4) hx hb dX3_readsNumber_8 (by decide) ?_
  refine lv_icmp_ne (tgt := 32) hx hb dX3_readsNumber_9 (by decide) (fun c5 => ?_) (fun c5 => ?_)
  · have h := h.2 c5
    refine lv_iconst (v := 0) hx hb dX3_readsNumber_32 (by decide) ?_
    exact hret (0 : Int32) (u1, u2, u3, u4) _ _ _ _ rfl h hP hD hS dX3_readsNumber_33
  · have h := h.1 c5
    refine lv_aload_n hx hb dX3_readsNumber_12 rfl (lv_at hl 0 rfl) ?_
    refine va_get (D := D) (ci := 3) (v := .int u4) (C := RX3) (T := TX3) (N := 6) hx hb hts in_X3 hown hK hP 0 rfl rfl 5 (by decide) fl_28 (fun _ h9 => h9) rfl dX3_readsNumber_13 ?_
    refine lv_iload_n hx hb dX3_readsNumber_16 rfl (lv_at hl 1 rfl) ?_
    refine lv_icmp_lt (tgt := 32) hx hb dX3_readsNumber_17 (by decide) (fun c6 => ?_) (fun c6 => ?_)
    · have h := h.1 c6
      refine lv_iconst (v := 0) hx hb dX3_readsNumber_32 (by decide) ?_
      exact hret (0 : Int32) (u1, u2, u3, u4) _ _ _ _ rfl h hP hD hS dX3_readsNumber_33
    · have h := h.2 c6
      refine lv_aload_n hx hb dX3_readsNumber_20 rfl (lv_at hl 0 rfl) ?_
      refine va_get (D := D) (ci := 3) (v := .int u4) (C := RX3) (T := TX3) (N := 6) hx hb hts in_X3 hown hK hP 0 rfl rfl 5 (by decide) fl_28 (fun _ h9 => h9) rfl dX3_readsNumber_21 ?_
      refine lv_iload_n hx hb dX3_readsNumber_24 rfl (lv_at hl 2 rfl) ?_
      refine lv_icmp_gt (tgt := 32) hx hb dX3_readsNumber_25 (by decide) (fun c7 => ?_) (fun c7 => ?_)
      · have h := h.1 c7
        refine lv_iconst (v := 0) hx hb dX3_readsNumber_32 (by decide) ?_
        exact hret (0 : Int32) (u1, u2, u3, u4) _ _ _ _ rfl h hP hD hS dX3_readsNumber_33
      · have h := h.2 c7
        refine lv_iconst (v := 1) hx hb dX3_readsNumber_28 (by decide) ?_
        refine lv_goto (tgt := 33) hx hb dX3_readsNumber_29 (by decide) ?_
        exact hret (1 : Int32) (u1, u2, u3, u4) _ _ _ _ rfl h hP hD hS dX3_readsNumber_33
abbrev w_X3_readsUses (cy : Nat → ClassId) (a_o a_o_text a_p1 a_p1_isTold a_p1_least a_p1_gateOff a_p1_limit a_p1_value a_p1_kind a_p1_most a_p1_wishOff a_p1_use : Nat) (r_p1_use : Nat → Nat) (o_length : Int32) (o_at : Int32) (o_start : Int32) (o_token : Int32) (o_number : Int32) (o_text : Nat → Int32) (p1_wishes : Int32) (p1_isTold : Nat → Int32) (p1_use : Nat → Nat → Int32) : va_W := [(a_o, .inr (3, [.ref a_o_text, .int o_length, .int o_at, .int o_start, .int o_token, .int o_number])), (a_o_text, .inl (cy 0, 300, .inl o_text)), (a_p1, .inr (4, [.ref a_p1_isTold, .ref a_p1_least, .ref a_p1_gateOff, .ref a_p1_limit, .ref a_p1_value, .ref a_p1_kind, .ref a_p1_most, .ref a_p1_wishOff, .ref a_p1_use, .int p1_wishes])), (a_p1_isTold, .inl (cy 3, 5, .inl p1_isTold)), (a_p1_use, .inl (cy 4, 4, .inr (.inr (.inr (.inr (mref r_p1_use 4))))))] ++ rows4 r_p1_use (rowI (cy 1) 5 p1_use) ++ []
set_option maxRecDepth 20000 in
theorem ggX3_readsUses_X3_next : GoodIn wsX3_readsUses wsX3_next := goodIn_r _ [10, 11, 12, 13, 14, 5, 3, 15, 16, 9, 17, 18, 19, 20, 21, 22, 23, 24, 25, 26, 27, 28, 29, 30, 31, 32, 33, 34, 35, 36, 37, 38, 39, 40, 41, 42, 43, 44, 45, 46, 47, 48, 49, 50, 51, 52, 53, 54, 55, 56, 57, 58, 59, 60, 61, 62, 63, 64, 65, 66, 67, 68, 69, 70, 71, 72, 73, 74, 75, 76, 77, 78, 79, 80, 81, 82, 83, 84, 85, 86, 87, 88, 89, 104, 105, 106, 107, 108, 109] (by decide +kernel) (by decide +kernel)
set_option maxRecDepth 20000 in
theorem ggX3_readsUses_X3_readsNumber : GoodIn wsX3_readsUses wsX3_readsNumber := goodIn_r _ [93, 3, 5, 6, 7, 8, 9, 10, 11, 12, 13, 14, 15, 16, 17, 18, 19, 20, 21, 22, 23, 24, 25, 26, 27, 28, 29, 30, 31, 32, 33, 34, 35, 36, 37, 38, 39, 40, 41, 42, 43, 44, 45, 46, 47, 48, 49, 50, 51, 52, 53, 54, 55, 56, 57, 58, 59, 60, 61, 62, 63, 64, 65, 66, 67, 68, 69, 70, 71, 72, 73, 74, 75, 76, 77, 78, 79, 80, 81, 82, 83, 84, 85, 86, 87, 88, 89, 104, 105, 106, 107, 108, 109] (by decide +kernel) (by decide +kernel)
set_option maxRecDepth 20000 in
theorem gX3_readsUses_X3_next : GoodIn wsX3_readsUses (wsV RX3 36 RX3 yX3_next wsX3_next) := goodIn_app (goodIn_of _ (by decide +kernel)) ggX3_readsUses_X3_next
set_option maxRecDepth 20000 in
theorem gX3_readsUses_X3_readsNumber : GoodIn wsX3_readsUses (wsV RX3 53 RX3 yX3_readsNumber wsX3_readsNumber) := goodIn_app (goodIn_of _ (by decide +kernel)) ggX3_readsUses_X3_readsNumber
set_option maxHeartbeats 4000000 in
set_option maxRecDepth 100000 in
theorem c_X3_readsUses (l : Launch) (D : va_G) (cy : Nat → ClassId) (K : (Nat → Nat) × (Nat → Nat)) (a_o a_o_text a_p1 a_p1_isTold a_p1_least a_p1_gateOff a_p1_limit a_p1_value a_p1_kind a_p1_most a_p1_wishOff a_p1_use : Nat) (r_p1_use : Nat → Nat) (sz : Nat)  {o_length : Int32} {o_at : Int32} {o_start : Int32} {o_token : Int32} {o_number : Int32} {o_text : Nat → Int32} {p1_wishes : Int32} {p1_isTold : Nat → Int32} {p1_use : Nat → Nat → Int32}  {post : Int32 → Int32 → Int32 → Int32 → Int32 → (Nat → Nat → Int32) → Prop} (h : wp_X3_readsUses o_length o_at o_start o_token o_number o_text p1_wishes p1_isTold p1_use post) : Met l yX3_readsUses wsX3_readsUses ({ frames := 8, cells := 0, slots := 0, locals := 170 }) (va_Pc [.ref a_o, .ref a_p1] (wIs D cy sz (w_X3_readsUses cy a_o a_o_text a_p1 a_p1_isTold a_p1_least a_p1_gateOff a_p1_limit a_p1_value a_p1_kind a_p1_most a_p1_wishOff a_p1_use r_p1_use o_length o_at o_start o_token o_number o_text p1_wishes p1_isTold p1_use) K)) (va_Qi (fun (r : Int32) (u : Int32 × Int32 × Int32 × Int32 × (Nat → Nat → Int32)) => post r u.1 u.2.1 u.2.2.1 u.2.2.2.1 u.2.2.2.2) (fun (u : Int32 × Int32 × Int32 × Int32 × (Nat → Nat → Int32)) t => wO D cy (va_A (w_X3_readsUses cy a_o a_o_text a_p1 a_p1_isTold a_p1_least a_p1_gateOff a_p1_limit a_p1_value a_p1_kind a_p1_most a_p1_wishOff a_p1_use r_p1_use o_length o_at o_start o_token o_number o_text p1_wishes p1_isTold p1_use) sz) (w_X3_readsUses cy a_o a_o_text a_p1 a_p1_isTold a_p1_least a_p1_gateOff a_p1_limit a_p1_value a_p1_kind a_p1_most a_p1_wishOff a_p1_use r_p1_use o_length u.1 u.2.1 u.2.2.1 u.2.2.2.1 o_text p1_wishes p1_isTold u.2.2.2.2) t) (va_A (w_X3_readsUses cy a_o a_o_text a_p1 a_p1_isTold a_p1_least a_p1_gateOff a_p1_limit a_p1_value a_p1_kind a_p1_most a_p1_wishOff a_p1_use r_p1_use o_length o_at o_start o_token o_number o_text p1_wishes p1_isTold p1_use) sz)) 0 0 (va_A (w_X3_readsUses cy a_o a_o_text a_p1 a_p1_isTold a_p1_least a_p1_gateOff a_p1_limit a_p1_value a_p1_kind a_p1_most a_p1_wishOff a_p1_use r_p1_use o_length o_at o_start o_token o_number o_text p1_wishes p1_isTold p1_use) sz) := by
  refine contrZs (S := Int32 × Int32 × Int32 × Int32 × (Nat → Nat → Int32)) (post := fun (r : Int32) (u : Int32 × Int32 × Int32 × Int32 × (Nat → Nat → Int32)) => post r u.1 u.2.1 u.2.2.1 u.2.2.2.1 u.2.2.2.2) (wOut := fun (u : Int32 × Int32 × Int32 × Int32 × (Nat → Nat → Int32)) => (w_X3_readsUses cy a_o a_o_text a_p1 a_p1_isTold a_p1_least a_p1_gateOff a_p1_limit a_p1_value a_p1_kind a_p1_most a_p1_wishOff a_p1_use r_p1_use o_length u.1 u.2.1 u.2.2.1 u.2.2.2.1 o_text p1_wishes p1_isTold u.2.2.2.2)) (cc := cX3_readsUses) (maxL := 5) (own := RX3) (by decide +kernel) rfl rfl ?_
  intro p e s m args below meth c A Q hx hb hml hown hts hK hN hP hD hS hA hSW hSR hret
  have in_X4 : ∀ w ∈ u_ws RX4 TX4 10, w ∈ wsX3_readsUses := by decide +kernel
  have fl_61 := hts (.fieldLink RX3 61 "DawnTable$Table" "wishes" "I") (by decide +kernel)
  have fl_68 := hts (.fieldLink RX3 68 "DawnTable$Table" "use" "[[I") (by decide +kernel)
  have in_X3 : ∀ w ∈ u_ws RX3 TX3 6, w ∈ wsX3_readsUses := by decide +kernel
  have fl_25 := hts (.fieldLink RX3 25 "DawnTable$Reader" "token" "I") (by decide +kernel)
  have fl_49 := hts (.fieldLink RX3 49 "DawnTable$Table" "isTold" "[Z") (by decide +kernel)
  have fl_28 := hts (.fieldLink RX3 28 "DawnTable$Reader" "number" "I") (by decide +kernel)
  have l_24 : ∀ (y2 : Int32), ∀ (kx0 : Int32 → Int32 → Int32 → Int32 → (Nat → Nat → Int32) → Prop), (∀ (o_at : Int32) (o_start : Int32) (o_token : Int32) (o_number : Int32) (p1_use : Nat → Nat → Int32), kx0 o_at o_start o_token o_number p1_use → ∀ (H : Heap) (locs : List Loc), va_P D vwCl (w_X3_readsUses cy a_o a_o_text a_p1 a_p1_isTold a_p1_least a_p1_gateOff a_p1_limit a_p1_value a_p1_kind a_p1_most a_p1_wishOff a_p1_use r_p1_use o_length o_at o_start o_token o_number o_text p1_wishes p1_isTold p1_use) H → va_D A (w_X3_readsUses cy a_o a_o_text a_p1 a_p1_isTold a_p1_least a_p1_gateOff a_p1_limit a_p1_value a_p1_kind a_p1_most a_p1_wishOff a_p1_use r_p1_use o_length o_at o_start o_token o_number o_text p1_wishes p1_isTold p1_use) → va_S A s.heap H locs → ∀ (ls : Array Slot), lv_has ls 5 [] → W p l e ({ frames := 8, cells := 0, slots := 0, locals := 170 }) s m args below meth c H locs 0 0 Q (F0 m 106 ls [])) → ∀ (kx1 : Int32 → Int32 → Int32 → Int32 → (Nat → Nat → Int32) → Prop), (∀ (o_at : Int32) (o_start : Int32) (o_token : Int32) (o_number : Int32) (p1_use : Nat → Nat → Int32), kx1 o_at o_start o_token o_number p1_use → ∀ (H : Heap) (locs : List Loc), va_P D vwCl (w_X3_readsUses cy a_o a_o_text a_p1 a_p1_isTold a_p1_least a_p1_gateOff a_p1_limit a_p1_value a_p1_kind a_p1_most a_p1_wishOff a_p1_use r_p1_use o_length o_at o_start o_token o_number o_text p1_wishes p1_isTold p1_use) H → va_D A (w_X3_readsUses cy a_o a_o_text a_p1 a_p1_isTold a_p1_least a_p1_gateOff a_p1_limit a_p1_value a_p1_kind a_p1_most a_p1_wishOff a_p1_use r_p1_use o_length o_at o_start o_token o_number o_text p1_wishes p1_isTold p1_use) → va_S A s.heap H locs → ∀ (ls : Array Slot), lv_has ls 5 [] → W p l e ({ frames := 8, cells := 0, slots := 0, locals := 170 }) s m args below meth c H locs 0 0 Q (F0 m 72 ls [])) → ∀ (kx2 : Int32 → Int32 → Int32 → Int32 → (Nat → Nat → Int32) → Prop), (∀ (o_at : Int32) (o_start : Int32) (o_token : Int32) (o_number : Int32) (p1_use : Nat → Nat → Int32), kx2 o_at o_start o_token o_number p1_use → ∀ (H : Heap) (locs : List Loc), va_P D vwCl (w_X3_readsUses cy a_o a_o_text a_p1 a_p1_isTold a_p1_least a_p1_gateOff a_p1_limit a_p1_value a_p1_kind a_p1_most a_p1_wishOff a_p1_use r_p1_use o_length o_at o_start o_token o_number o_text p1_wishes p1_isTold p1_use) H → va_D A (w_X3_readsUses cy a_o a_o_text a_p1 a_p1_isTold a_p1_least a_p1_gateOff a_p1_limit a_p1_value a_p1_kind a_p1_most a_p1_wishOff a_p1_use r_p1_use o_length o_at o_start o_token o_number o_text p1_wishes p1_isTold p1_use) → va_S A s.heap H locs → ∀ (ls : Array Slot), lv_has ls 5 [] → W p l e ({ frames := 8, cells := 0, slots := 0, locals := 170 }) s m args below meth c H locs 0 0 Q (F0 m 90 ls [])) → ∀ (kx3 : Int32 → Int32 → Int32 → Int32 → (Nat → Nat → Int32) → Prop), (∀ (o_at : Int32) (o_start : Int32) (o_token : Int32) (o_number : Int32) (p1_use : Nat → Nat → Int32), kx3 o_at o_start o_token o_number p1_use → ∀ (H : Heap) (locs : List Loc), va_P D vwCl (w_X3_readsUses cy a_o a_o_text a_p1 a_p1_isTold a_p1_least a_p1_gateOff a_p1_limit a_p1_value a_p1_kind a_p1_most a_p1_wishOff a_p1_use r_p1_use o_length o_at o_start o_token o_number o_text p1_wishes p1_isTold p1_use) H → va_D A (w_X3_readsUses cy a_o a_o_text a_p1 a_p1_isTold a_p1_least a_p1_gateOff a_p1_limit a_p1_value a_p1_kind a_p1_most a_p1_wishOff a_p1_use r_p1_use o_length o_at o_start o_token o_number o_text p1_wishes p1_isTold p1_use) → va_S A s.heap H locs → ∀ (ls : Array Slot), lv_has ls 5 [] → W p l e ({ frames := 8, cells := 0, slots := 0, locals := 170 }) s m args below meth c H locs 0 0 Q (F0 m 41 ls [])) → ∀ (n : Nat) (x3 : Int32) (o_at : Int32) (o_start : Int32) (o_token : Int32) (o_number : Int32) (p1_use : Nat → Nat → Int32), wl_X3_readsUses_24 y2 o_length o_text p1_wishes p1_isTold kx0 kx1 kx2 kx3 post n x3 o_at o_start o_token o_number p1_use → ∀ (H : Heap) (locs : List Loc), va_P D vwCl (w_X3_readsUses cy a_o a_o_text a_p1 a_p1_isTold a_p1_least a_p1_gateOff a_p1_limit a_p1_value a_p1_kind a_p1_most a_p1_wishOff a_p1_use r_p1_use o_length o_at o_start o_token o_number o_text p1_wishes p1_isTold p1_use) H → va_D A (w_X3_readsUses cy a_o a_o_text a_p1 a_p1_isTold a_p1_least a_p1_gateOff a_p1_limit a_p1_value a_p1_kind a_p1_most a_p1_wishOff a_p1_use r_p1_use o_length o_at o_start o_token o_number o_text p1_wishes p1_isTold p1_use) → va_S A s.heap H locs → ∀ (ls : Array Slot), lv_has ls 5 [(0, .ref a_o), (1, .ref a_p1), (2, .ref (r_p1_use (y2).toNatClampNeg)), (3, .int x3)] → W p l e ({ frames := 8, cells := 0, slots := 0, locals := 170 }) s m args below meth c H locs 0 0 Q (F0 m 24 ls []) := by
    intro y2 kx0 hkx0 kx1 hkx1 kx2 hkx2 kx3 hkx3  n
    induction n with
    | zero => intro x3 o_at o_start o_token o_number p1_use h; exact h.elim
    | succ n hkb =>
      intro x3 o_at o_start o_token o_number p1_use h H locs hP hD hS ls hl
      replace h : ws_X3_readsUses_24 y2 o_length o_text p1_wishes p1_isTold (wl_X3_readsUses_24 y2 o_length o_text p1_wishes p1_isTold kx0 kx1 kx2 kx3 post n) kx0 kx1 kx2 kx3 post x3 o_at o_start o_token o_number p1_use := h
      generalize wl_X3_readsUses_24 y2 o_length o_text p1_wishes p1_isTold kx0 kx1 kx2 kx3 post n = kb at h hkb
      unfold ws_X3_readsUses_24 at h
      refine lv_iload_n hx hb dX3_readsUses_24 rfl (lv_at hl 3 rfl) ?_
      refine lv_iconst (v := 5) hx hb dX3_readsUses_25 (by decide) ?_
      refine lv_icmp_gt (tgt := 106) hx hb dX3_readsUses_26 (by decide) (fun c3 => ?_) (fun c3 => ?_)
      · have h := h.1 c3
        exact hkx0 o_at o_start o_token o_number p1_use h _ _ hP hD hS _ (lv_sub hl [] rfl)
      · have h := h.2 c3
        refine lv_aload_n hx hb dX3_readsUses_29 rfl (lv_at hl 0 rfl) ?_
        have hC : ([0, 1] : List Nat).map (fun i => ((w_X3_readsUses cy a_o a_o_text a_p1 a_p1_isTold a_p1_least a_p1_gateOff a_p1_limit a_p1_value a_p1_kind a_p1_most a_p1_wishOff a_p1_use r_p1_use o_length o_at o_start o_token o_number o_text p1_wishes p1_isTold p1_use) : va_W)[i]?) = ((w_X3_next cy a_o a_o_text o_length o_at o_start o_token o_number o_text) : va_W).map some := rfl
        obtain ⟨hPc, hDc⟩ := cutC hP hD [0, 1] (by decide) hC
        have hFc := va_free hD hS hA [0, 1] hC
        refine va_callv (va_runV (As := []) (rest := []) ⟨hx, hb, hml, hown, hts⟩ (c_X3_next l D cy K a_o a_o_text _ h) (cwV 0 hts gX3_readsUses_X3_next rfl rfl rfl (by decide +kernel) ⟨Nat.le_of_ble_eq_true rfl, Nat.le_of_ble_eq_true rfl⟩) (preVs hPc hDc hK hN hSW hSR hS hFc (ci := 3) (q0 := 0) rfl rfl) rfl rfl hl.1 rfl (lv_room (Nat.le_of_ble_eq_true rfl)) dX3_readsUses_30 ⟨Nat.zero_le _, Nat.zero_le _⟩) hS (fun q _ h => hFc q h) hFc (fun u t H1 locs ht hvm h hB hz1 hk1 hS => ?_)
        obtain ⟨u4, u5, u6, u7⟩ := u
        try dsimp only at h hB
        obtain ⟨hP, hD⟩ := joinU (wd := (w_X3_readsUses cy a_o a_o_text a_p1 a_p1_isTold a_p1_least a_p1_gateOff a_p1_limit a_p1_value a_p1_kind a_p1_most a_p1_wishOff a_p1_use r_p1_use o_length u4 u5 u6 u7 o_text p1_wishes p1_isTold p1_use)) (wr := [(a_p1, .inr (4, [.ref a_p1_isTold, .ref a_p1_least, .ref a_p1_gateOff, .ref a_p1_limit, .ref a_p1_value, .ref a_p1_kind, .ref a_p1_most, .ref a_p1_wishOff, .ref a_p1_use, .int p1_wishes])), (a_p1_isTold, .inl (cy 3, 5, .inl p1_isTold)), (a_p1_use, .inl (cy 4, 4, .inr (.inr (.inr (.inr (mref r_p1_use 4)))))), (r_p1_use 0, rowI (cy 1) 5 p1_use 0), (r_p1_use 1, rowI (cy 1) 5 p1_use 1), (r_p1_use 2, rowI (cy 1) 5 p1_use 2), (r_p1_use 3, rowI (cy 1) 5 p1_use 3)]) hP hD [0, 1] [2, 3, 4, 5, 6, 7, 8] [a_o, a_o_text] hC hk1 ht hB rfl rfl rfl (N := 9) rfl (by decide) rfl rfl
        generalize H1 = H at hP hS ⊢
        refine lv_aload_n hx hb dX3_readsUses_33 rfl (lv_at hl 0 rfl) ?_
        refine va_get (D := D) (ci := 3) (v := .int u6) (C := RX3) (T := TX3) (N := 6) hx hb hts in_X3 hown hK hP 0 rfl rfl 4 (by decide) fl_25 (fun _ h9 => h9) rfl dX3_readsUses_34 ?_
        refine lv_iconst (v := 2) hx hb dX3_readsUses_37 (by decide) ?_
        refine lv_icmp_ne (tgt := 43) hx hb dX3_readsUses_38 (by decide) (fun c8 => ?_) (fun c8 => ?_)
        · have h := h.2 c8
          refine lv_aload_n hx hb dX3_readsUses_43 rfl (lv_at hl 0 rfl) ?_
          refine va_get (D := D) (ci := 3) (v := .int u6) (C := RX3) (T := TX3) (N := 6) hx hb hts in_X3 hown hK hP 0 rfl rfl 4 (by decide) fl_25 (fun _ h9 => h9) rfl dX3_readsUses_44 ?_
          refine lv_iconst (v := 3) hx hb dX3_readsUses_47 (by decide) ?_
          refine lv_icmp_ne (tgt := 72) hx hb dX3_readsUses_48 (by decide) (fun c9 => ?_) (fun c9 => ?_)
          · have h := h.2 c9
            exact hkx1 u4 u5 u6 u7 p1_use h _ _ hP hD hS _ (lv_sub hl [] rfl)
          · have h := h.1 c9
            refine lv_aload_n hx hb dX3_readsUses_51 rfl (lv_at hl 1 rfl) ?_
            refine va_get (D := D) (ci := 4) (v := .ref a_p1_isTold) (C := RX4) (T := TX4) (N := 10) hx hb hts in_X4 hown hK hP 2 rfl rfl 0 (by decide) fl_49 (fun _ h9 => h9) rfl dX3_readsUses_52 ?_
            refine lv_aload_n hx hb dX3_readsUses_55 rfl (lv_at hl 0 rfl) ?_
            refine va_get (D := D) (ci := 3) (v := .int u7) (C := RX3) (T := TX3) (N := 6) hx hb hts in_X3 hown hK hP 0 rfl rfl 5 (by decide) fl_28 (fun _ h9 => h9) rfl dX3_readsUses_56 ?_
            obtain ⟨i10, h⟩ := h
            refine va_zald hx hb hK hP 3 3 rfl rfl i10 dX3_readsUses_59 ?_
            refine lv_if_eq (tgt := 72) hx hb dX3_readsUses_60 (by decide) (fun c11 => ?_) (fun c11 => ?_)
            · have h := h.1 c11
              exact hkx1 u4 u5 u6 u7 p1_use h _ _ hP hD hS _ (lv_sub hl [] rfl)
            · have h := h.2 c11
              refine lv_aload_n hx hb dX3_readsUses_63 rfl (lv_at hl 2 rfl) ?_
              refine lv_aload_n hx hb dX3_readsUses_64 rfl (lv_at hl 0 rfl) ?_
              refine va_get (D := D) (ci := 3) (v := .int u7) (C := RX3) (T := TX3) (N := 6) hx hb hts in_X3 hown hK hP 0 rfl rfl 5 (by decide) fl_28 (fun _ h9 => h9) rfl dX3_readsUses_65 ?_
              obtain ⟨i12, h⟩ := h
              refine va_iald hx hb hK hP (5 + (y2).toNatClampNeg) 1 (gI0 (in_lt i12)) rfl i10 dX3_readsUses_68 ?_
              refine lv_if_le (tgt := 74) hx hb dX3_readsUses_69 (by decide) (fun c13 => ?_) (fun c13 => ?_)
              · have h := h.1 c13
                refine lv_aload_n hx hb dX3_readsUses_74 rfl (lv_at hl 0 rfl) ?_
                refine va_get (D := D) (ci := 3) (v := .int u7) (C := RX3) (T := TX3) (N := 6) hx hb hts in_X3 hown hK hP 0 rfl rfl 5 (by decide) fl_28 (fun _ h9 => h9) rfl dX3_readsUses_75 ?_
                refine lv_istore (lv' := [(4, .int u7), (0, .ref a_o), (1, .ref a_p1), (2, .ref (r_p1_use (y2).toNatClampNeg)), (3, .int x3)]) hx hb dX3_readsUses_78 hl (by decide) rfl (fun ls hl => ?_)
                refine lv_aload_n hx hb dX3_readsUses_80 rfl (lv_at hl 1 rfl) ?_
                refine lv_iconst (v := 1) hx hb dX3_readsUses_81 (by decide) ?_
                refine lv_bipush (v := 9) hx hb dX3_readsUses_82 (by decide) ?_
                have hC : ([0, 1] : List Nat).map (fun i => ((w_X3_readsUses cy a_o a_o_text a_p1 a_p1_isTold a_p1_least a_p1_gateOff a_p1_limit a_p1_value a_p1_kind a_p1_most a_p1_wishOff a_p1_use r_p1_use o_length u4 u5 u6 u7 o_text p1_wishes p1_isTold p1_use) : va_W)[i]?) = ((w_X3_readsNumber cy a_o a_o_text o_length u4 u5 u6 u7 o_text) : va_W).map some := rfl
                obtain ⟨hPc, hDc⟩ := cutC hP hD [0, 1] (by decide) hC
                have hFc := va_free hD hS hA [0, 1] hC
                refine va_calli (va_runV (As := [.int (1 : Int32), .int (9 : Int32)]) (rest := []) ⟨hx, hb, hml, hown, hts⟩ (c_X3_readsNumber l D cy K a_o a_o_text _ h) (cwV 2 hts gX3_readsUses_X3_readsNumber rfl rfl rfl (by decide +kernel) ⟨Nat.le_of_ble_eq_true rfl, Nat.le_of_ble_eq_true rfl⟩) (preVs hPc hDc hK hN hSW hSR hS hFc (ci := 3) (q0 := 0) rfl rfl) rfl rfl hl.1 rfl (lv_room (Nat.le_of_ble_eq_true rfl)) dX3_readsUses_84 ⟨Nat.zero_le _, Nat.zero_le _⟩) hS (fun q _ h => hFc q h) hFc (fun r18 u t H1 locs ht hvm h hB hz1 hk1 hS => ?_)
                obtain ⟨u14, u15, u16, u17⟩ := u
                try dsimp only at h hB
                obtain ⟨hP, hD⟩ := joinU (wd := (w_X3_readsUses cy a_o a_o_text a_p1 a_p1_isTold a_p1_least a_p1_gateOff a_p1_limit a_p1_value a_p1_kind a_p1_most a_p1_wishOff a_p1_use r_p1_use o_length u14 u15 u16 u17 o_text p1_wishes p1_isTold p1_use)) (wr := [(a_p1, .inr (4, [.ref a_p1_isTold, .ref a_p1_least, .ref a_p1_gateOff, .ref a_p1_limit, .ref a_p1_value, .ref a_p1_kind, .ref a_p1_most, .ref a_p1_wishOff, .ref a_p1_use, .int p1_wishes])), (a_p1_isTold, .inl (cy 3, 5, .inl p1_isTold)), (a_p1_use, .inl (cy 4, 4, .inr (.inr (.inr (.inr (mref r_p1_use 4)))))), (r_p1_use 0, rowI (cy 1) 5 p1_use 0), (r_p1_use 1, rowI (cy 1) 5 p1_use 1), (r_p1_use 2, rowI (cy 1) 5 p1_use 2), (r_p1_use 3, rowI (cy 1) 5 p1_use 3)]) hP hD [0, 1] [2, 3, 4, 5, 6, 7, 8] [a_o, a_o_text] hC hk1 ht hB rfl rfl rfl (N := 9) rfl (by decide) rfl rfl
                generalize H1 = H at hP hS ⊢
                refine lv_if_ne (tgt := 92) hx hb dX3_readsUses_87 (by decide) (fun c19 => ?_) (fun c19 => ?_)
                · have h := h.2 c19
                  refine lv_aload_n hx hb dX3_readsUses_92 rfl (lv_at hl 3 rfl) ?_
                  refine lv_iload hx hb dX3_readsUses_93 (lv_at hl 0 rfl) ?_
                  refine lv_aload_n hx hb dX3_readsUses_95 rfl (lv_at hl 1 rfl) ?_
                  refine va_get (D := D) (ci := 3) (v := .int u17) (C := RX3) (T := TX3) (N := 6) hx hb hts in_X3 hown hK hP 0 rfl rfl 5 (by decide) fl_28 (fun _ h9 => h9) rfl dX3_readsUses_96 ?_
                  refine va_iast hx hb hK hP hD hS (5 + (y2).toNatClampNeg) 1 (gI0 (in_lt i12)) rfl i10 dX3_readsUses_99 (fun H locs hP hD hS => ?_)
                  have hP : va_P D vwCl (w_X3_readsUses cy a_o a_o_text a_p1 a_p1_isTold a_p1_least a_p1_gateOff a_p1_limit a_p1_value a_p1_kind a_p1_most a_p1_wishOff a_p1_use r_p1_use o_length u14 u15 u16 u17 o_text p1_wishes p1_isTold (msetI p1_use (y2).toNatClampNeg (u7).toNatClampNeg u17)) H := Eq.mp (congrArg (fun w => va_P D vwCl w H) (pI0 (in_lt i12))) hP
                  have hD : va_D A (w_X3_readsUses cy a_o a_o_text a_p1 a_p1_isTold a_p1_least a_p1_gateOff a_p1_limit a_p1_value a_p1_kind a_p1_most a_p1_wishOff a_p1_use r_p1_use o_length u14 u15 u16 u17 o_text p1_wishes p1_isTold (msetI p1_use (y2).toNatClampNeg (u7).toNatClampNeg u17)) := Eq.mp (congrArg (fun w => va_D A w) (pI0 (in_lt i12))) hD
                  refine lv_iinc (v := (x3 + (1 : Int32))) (lv' := [(3, .int (x3 + (1 : Int32))), (4, .int u7), (0, .ref a_o), (1, .ref a_p1), (2, .ref (r_p1_use (y2).toNatClampNeg))]) hx hb dX3_readsUses_100 hl (k := 4) rfl (congrArg (fun z => x3 + z) (by decide : Int32.ofInt (1) = (1 : Int32))) (by decide) rfl (fun ls hl => ?_)
                  refine lv_goto (tgt := 24) hx hb dX3_readsUses_103 (by decide) ?_
                  exact hkb (x3 + (1 : Int32)) u14 u15 u16 u17 (msetI p1_use (y2).toNatClampNeg (u7).toNatClampNeg u17) h _ _ hP hD hS _ (lv_sub hl [2, 3, 4, 0] rfl)
                · have h := h.1 c19
                  exact hkx2 u14 u15 u16 u17 p1_use h _ _ hP hD hS _ (lv_sub hl [] rfl)
              · have h := h.2 c13
                exact hkx1 u4 u5 u6 u7 p1_use h _ _ hP hD hS _ (lv_sub hl [] rfl)
        · have h := h.1 c8
          exact hkx3 u4 u5 u6 u7 p1_use h _ _ hP hD hS _ (lv_sub hl [] rfl)
  refine ent [.ref a_o, .ref a_p1] (Nat.le_of_ble_eq_true rfl) (fun ls hl => ?_)
  have hl : lv_has ls 5 [(0, .ref a_o), (1, .ref a_p1)] := hl
  unfold wp_X3_readsUses at h
  refine lv_aload_n hx hb dX3_readsUses_0 rfl (lv_at hl 1 rfl) ?_
  refine va_get (D := D) (ci := 4) (v := .int p1_wishes) (C := RX4) (T := TX4) (N := 10) hx hb hts in_X4 hown hK hP 2 rfl rfl 9 (by decide) fl_61 (fun _ h9 => h9) rfl dX3_readsUses_1 ?_
  refine lv_iconst (v := 1) hx hb dX3_readsUses_4 (by decide) ?_
  refine lv_icmp_ge (tgt := 10) hx hb dX3_readsUses_5 (by decide) (fun c1 => ?_) (fun c1 => ?_)
  · have h := h.1 c1
    refine lv_aload_n hx hb dX3_readsUses_10 rfl (lv_at hl 1 rfl) ?_
    refine va_get (D := D) (ci := 4) (v := .ref a_p1_use) (C := RX4) (T := TX4) (N := 10) hx hb hts in_X4 hown hK hP 2 rfl rfl 8 (by decide) fl_68 (fun _ h9 => h9) rfl dX3_readsUses_11 ?_
    refine lv_aload_n hx hb dX3_readsUses_14 rfl (lv_at hl 1 rfl) ?_
    refine va_get (D := D) (ci := 4) (v := .int p1_wishes) (C := RX4) (T := TX4) (N := 10) hx hb hts in_X4 hown hK hP 2 rfl rfl 9 (by decide) fl_61 (fun _ h9 => h9) rfl dX3_readsUses_15 ?_
    refine lv_iconst (v := 1) hx hb dX3_readsUses_18 (by decide) ?_
    refine lv_isub hx hb dX3_readsUses_19 ?_
    obtain ⟨i2, h⟩ := h
    refine mx_ald hx hb hK hP 4 4 rfl rfl i2 dX3_readsUses_20 ?_
    refine lv_astore_n (lv' := [(2, .ref (r_p1_use ((p1_wishes - (1 : Int32))).toNatClampNeg)), (0, .ref a_o), (1, .ref a_p1)]) hx hb dX3_readsUses_21 rfl hl (by decide) rfl (fun ls hl => ?_)
    refine lv_iconst (v := 0) hx hb dX3_readsUses_22 (by decide) ?_
    refine lv_istore_n (lv' := [(3, .int (0 : Int32)), (2, .ref (r_p1_use ((p1_wishes - (1 : Int32))).toNatClampNeg)), (0, .ref a_o), (1, .ref a_p1)]) hx hb dX3_readsUses_23 rfl hl (by decide) rfl (fun ls hl => ?_)
    obtain ⟨n40, h⟩ := h
    refine l_24 (p1_wishes - (1 : Int32)) _ ?_ _ ?_ _ ?_ _ ?_ n40 (0 : Int32) o_at o_start o_token o_number p1_use h _ _ hP hD hS _ (lv_sub hl [2, 3, 1, 0] rfl)
    · intro o_at_20 o_start_21 o_token_22 o_number_23 p1_use_24 h H locs hP hD hS ls hl
      refine lv_iconst (v := 0) hx hb dX3_readsUses_106 (by decide) ?_
      exact hret (0 : Int32) (o_at_20, o_start_21, o_token_22, o_number_23, p1_use_24) _ _ _ _ rfl h hP hD hS dX3_readsUses_107
    · intro o_at_25 o_start_26 o_token_27 o_number_28 p1_use_29 h H locs hP hD hS ls hl
      refine lv_iconst (v := 0) hx hb dX3_readsUses_72 (by decide) ?_
      exact hret (0 : Int32) (o_at_25, o_start_26, o_token_27, o_number_28, p1_use_29) _ _ _ _ rfl h hP hD hS dX3_readsUses_73
    · intro o_at_30 o_start_31 o_token_32 o_number_33 p1_use_34 h H locs hP hD hS ls hl
      refine lv_iconst (v := 0) hx hb dX3_readsUses_90 (by decide) ?_
      exact hret (0 : Int32) (o_at_30, o_start_31, o_token_32, o_number_33, p1_use_34) _ _ _ _ rfl h hP hD hS dX3_readsUses_91
    · intro o_at_35 o_start_36 o_token_37 o_number_38 p1_use_39 h H locs hP hD hS ls hl
      refine lv_iconst (v := 1) hx hb dX3_readsUses_41 (by decide) ?_
      exact hret (1 : Int32) (o_at_35, o_start_36, o_token_37, o_number_38, p1_use_39) _ _ _ _ rfl h hP hD hS dX3_readsUses_42
  · have h := h.2 c1
    refine lv_iconst (v := 0) hx hb dX3_readsUses_8 (by decide) ?_
    exact hret (0 : Int32) (o_at, o_start, o_token, o_number, p1_use) _ _ _ _ rfl h hP hD hS dX3_readsUses_9
abbrev w_X3_readsWish (cy : Nat → ClassId) (a_o a_o_text a_p1 a_p1_isTold a_p1_least a_p1_gateOff a_p1_limit a_p1_value a_p1_kind a_p1_most a_p1_wishOff a_p1_use : Nat) (r_p1_use : Nat → Nat) (o_length : Int32) (o_at : Int32) (o_start : Int32) (o_token : Int32) (o_number : Int32) (o_text : Nat → Int32) (p1_wishes : Int32) (p1_value : Nat → Int32) (p1_kind : Nat → Int32) (p1_most : Nat → Int32) (p1_wishOff : Nat → Int32) (p1_use : Nat → Nat → Int32) : va_W := [(a_o, .inr (3, [.ref a_o_text, .int o_length, .int o_at, .int o_start, .int o_token, .int o_number])), (a_o_text, .inl (cy 0, 300, .inl o_text)), (a_p1, .inr (4, [.ref a_p1_isTold, .ref a_p1_least, .ref a_p1_gateOff, .ref a_p1_limit, .ref a_p1_value, .ref a_p1_kind, .ref a_p1_most, .ref a_p1_wishOff, .ref a_p1_use, .int p1_wishes])), (a_p1_value, .inl (cy 1, 4, .inl p1_value)), (a_p1_kind, .inl (cy 1, 4, .inl p1_kind)), (a_p1_most, .inl (cy 1, 4, .inl p1_most)), (a_p1_wishOff, .inl (cy 3, 4, .inl p1_wishOff)), (a_p1_use, .inl (cy 4, 4, .inr (.inr (.inr (.inr (mref r_p1_use 4))))))] ++ rows4 r_p1_use (rowI (cy 1) 5 p1_use) ++ []
set_option maxRecDepth 20000 in
theorem ggX3_readsWish_X3_next : GoodIn wsX3_readsWish wsX3_next := goodIn_r _ [12, 13, 14, 15, 16, 2, 3, 17, 18, 7, 19, 20, 21, 22, 23, 24, 25, 26, 27, 28, 29, 30, 31, 32, 33, 34, 35, 36, 37, 38, 39, 40, 41, 42, 43, 44, 45, 46, 47, 48, 49, 50, 51, 52, 53, 54, 55, 56, 57, 58, 59, 60, 61, 62, 63, 64, 65, 66, 67, 68, 69, 70, 71, 72, 73, 74, 75, 76, 77, 78, 79, 80, 81, 82, 83, 84, 85, 86, 87, 88, 89, 90, 91, 117, 118, 119, 120, 121, 122] (by decide +kernel) (by decide +kernel)
set_option maxRecDepth 20000 in
theorem ggX3_readsWish_X3_readsNumber : GoodIn wsX3_readsWish wsX3_readsNumber := goodIn_r _ [8, 3, 2, 9, 10, 11, 7, 12, 13, 14, 15, 16, 17, 18, 19, 20, 21, 22, 23, 24, 25, 26, 27, 28, 29, 30, 31, 32, 33, 34, 35, 36, 37, 38, 39, 40, 41, 42, 43, 44, 45, 46, 47, 48, 49, 50, 51, 52, 53, 54, 55, 56, 57, 58, 59, 60, 61, 62, 63, 64, 65, 66, 67, 68, 69, 70, 71, 72, 73, 74, 75, 76, 77, 78, 79, 80, 81, 82, 83, 84, 85, 86, 87, 88, 89, 90, 91, 117, 118, 119, 120, 121, 122] (by decide +kernel) (by decide +kernel)
set_option maxRecDepth 20000 in
theorem ggX3_readsWish_X4_addWish : GoodIn wsX3_readsWish wsX4_addWish := goodIn_r _ [96, 97, 98, 99, 100, 101, 102, 103, 104, 105, 106, 107, 108, 109, 110, 111, 112, 113, 114, 115, 116] (by decide +kernel) (by decide +kernel)
set_option maxRecDepth 20000 in
theorem gX3_readsWish_X3_next : GoodIn wsX3_readsWish (wsV RX3 36 RX3 yX3_next wsX3_next) := goodIn_app (goodIn_of _ (by decide +kernel)) ggX3_readsWish_X3_next
set_option maxRecDepth 20000 in
theorem gX3_readsWish_X3_readsNumber : GoodIn wsX3_readsWish (wsV RX3 53 RX3 yX3_readsNumber wsX3_readsNumber) := goodIn_app (goodIn_of _ (by decide +kernel)) ggX3_readsWish_X3_readsNumber
set_option maxRecDepth 20000 in
theorem gX3_readsWish_X4_addWish : GoodIn wsX3_readsWish (wsV RX3 64 RX4 yX4_addWish wsX4_addWish) := goodIn_app (goodIn_of _ (by decide +kernel)) ggX3_readsWish_X4_addWish
set_option maxHeartbeats 4000000 in
set_option maxRecDepth 100000 in
theorem c_X3_readsWish (l : Launch) (D : va_G) (cy : Nat → ClassId) (K : (Nat → Nat) × (Nat → Nat)) (a_o a_o_text a_p1 a_p1_isTold a_p1_least a_p1_gateOff a_p1_limit a_p1_value a_p1_kind a_p1_most a_p1_wishOff a_p1_use : Nat) (r_p1_use : Nat → Nat) (sz : Nat)  {o_length : Int32} {o_at : Int32} {o_start : Int32} {o_token : Int32} {o_number : Int32} {o_text : Nat → Int32} {p1_wishes : Int32} {p1_value : Nat → Int32} {p1_kind : Nat → Int32} {p1_most : Nat → Int32} {p1_wishOff : Nat → Int32} {p1_use : Nat → Nat → Int32}  {post : Int32 → Int32 → Int32 → Int32 → Int32 → Int32 → (Nat → Int32) → (Nat → Int32) → (Nat → Int32) → (Nat → Int32) → (Nat → Nat → Int32) → Prop} (h : wp_X3_readsWish o_length o_at o_start o_token o_number o_text p1_wishes p1_value p1_kind p1_most p1_wishOff p1_use post) : Met l yX3_readsWish wsX3_readsWish ({ frames := 8, cells := 0, slots := 0, locals := 170 }) (va_Pc [.ref a_o, .ref a_p1] (wIs D cy sz (w_X3_readsWish cy a_o a_o_text a_p1 a_p1_isTold a_p1_least a_p1_gateOff a_p1_limit a_p1_value a_p1_kind a_p1_most a_p1_wishOff a_p1_use r_p1_use o_length o_at o_start o_token o_number o_text p1_wishes p1_value p1_kind p1_most p1_wishOff p1_use) K)) (va_Qi (fun (r : Int32) (u : Int32 × Int32 × Int32 × Int32 × Int32 × (Nat → Int32) × (Nat → Int32) × (Nat → Int32) × (Nat → Int32) × (Nat → Nat → Int32)) => post r u.1 u.2.1 u.2.2.1 u.2.2.2.1 u.2.2.2.2.1 u.2.2.2.2.2.1 u.2.2.2.2.2.2.1 u.2.2.2.2.2.2.2.1 u.2.2.2.2.2.2.2.2.1 u.2.2.2.2.2.2.2.2.2) (fun (u : Int32 × Int32 × Int32 × Int32 × Int32 × (Nat → Int32) × (Nat → Int32) × (Nat → Int32) × (Nat → Int32) × (Nat → Nat → Int32)) t => wO D cy (va_A (w_X3_readsWish cy a_o a_o_text a_p1 a_p1_isTold a_p1_least a_p1_gateOff a_p1_limit a_p1_value a_p1_kind a_p1_most a_p1_wishOff a_p1_use r_p1_use o_length o_at o_start o_token o_number o_text p1_wishes p1_value p1_kind p1_most p1_wishOff p1_use) sz) (w_X3_readsWish cy a_o a_o_text a_p1 a_p1_isTold a_p1_least a_p1_gateOff a_p1_limit a_p1_value a_p1_kind a_p1_most a_p1_wishOff a_p1_use r_p1_use o_length u.1 u.2.1 u.2.2.1 u.2.2.2.1 o_text u.2.2.2.2.1 u.2.2.2.2.2.1 u.2.2.2.2.2.2.1 u.2.2.2.2.2.2.2.1 u.2.2.2.2.2.2.2.2.1 u.2.2.2.2.2.2.2.2.2) t) (va_A (w_X3_readsWish cy a_o a_o_text a_p1 a_p1_isTold a_p1_least a_p1_gateOff a_p1_limit a_p1_value a_p1_kind a_p1_most a_p1_wishOff a_p1_use r_p1_use o_length o_at o_start o_token o_number o_text p1_wishes p1_value p1_kind p1_most p1_wishOff p1_use) sz)) 0 0 (va_A (w_X3_readsWish cy a_o a_o_text a_p1 a_p1_isTold a_p1_least a_p1_gateOff a_p1_limit a_p1_value a_p1_kind a_p1_most a_p1_wishOff a_p1_use r_p1_use o_length o_at o_start o_token o_number o_text p1_wishes p1_value p1_kind p1_most p1_wishOff p1_use) sz) := by
  refine contrZs (S := Int32 × Int32 × Int32 × Int32 × Int32 × (Nat → Int32) × (Nat → Int32) × (Nat → Int32) × (Nat → Int32) × (Nat → Nat → Int32)) (post := fun (r : Int32) (u : Int32 × Int32 × Int32 × Int32 × Int32 × (Nat → Int32) × (Nat → Int32) × (Nat → Int32) × (Nat → Int32) × (Nat → Nat → Int32)) => post r u.1 u.2.1 u.2.2.1 u.2.2.2.1 u.2.2.2.2.1 u.2.2.2.2.2.1 u.2.2.2.2.2.2.1 u.2.2.2.2.2.2.2.1 u.2.2.2.2.2.2.2.2.1 u.2.2.2.2.2.2.2.2.2) (wOut := fun (u : Int32 × Int32 × Int32 × Int32 × Int32 × (Nat → Int32) × (Nat → Int32) × (Nat → Int32) × (Nat → Int32) × (Nat → Nat → Int32)) => (w_X3_readsWish cy a_o a_o_text a_p1 a_p1_isTold a_p1_least a_p1_gateOff a_p1_limit a_p1_value a_p1_kind a_p1_most a_p1_wishOff a_p1_use r_p1_use o_length u.1 u.2.1 u.2.2.1 u.2.2.2.1 o_text u.2.2.2.2.1 u.2.2.2.2.2.1 u.2.2.2.2.2.2.1 u.2.2.2.2.2.2.2.1 u.2.2.2.2.2.2.2.2.1 u.2.2.2.2.2.2.2.2.2)) (cc := cX3_readsWish) (maxL := 4) (own := RX3) (by decide +kernel) rfl rfl ?_
  intro p e s m args below meth c A Q hx hb hml hown hts hK hN hP hD hS hA hSW hSR hret
  have in_X4 : ∀ w ∈ u_ws RX4 TX4 10, w ∈ wsX3_readsWish := by decide +kernel
  have fl_61 := hts (.fieldLink RX3 61 "DawnTable$Table" "wishes" "I") (by decide +kernel)
  have in_X3 : ∀ w ∈ u_ws RX3 TX3 6, w ∈ wsX3_readsWish := by decide +kernel
  have fl_28 := hts (.fieldLink RX3 28 "DawnTable$Reader" "number" "I") (by decide +kernel)
  have fl_25 := hts (.fieldLink RX3 25 "DawnTable$Reader" "token" "I") (by decide +kernel)
  refine ent [.ref a_o, .ref a_p1] (Nat.le_of_ble_eq_true rfl) (fun ls hl => ?_)
  have hl : lv_has ls 4 [(0, .ref a_o), (1, .ref a_p1)] := hl
  unfold wp_X3_readsWish at h
  refine lv_aload_n hx hb dX3_readsWish_0 rfl (lv_at hl 1 rfl) ?_
  refine va_get (D := D) (ci := 4) (v := .int p1_wishes) (C := RX4) (T := TX4) (N := 10) hx hb hts in_X4 hown hK hP 2 rfl rfl 9 (by decide) fl_61 (fun _ h9 => h9) rfl dX3_readsWish_1 ?_
  refine lv_iconst (v := 4) hx hb dX3_readsWish_4 (by decide) ?_
  refine lv_icmp_lt (tgt := 10) hx hb dX3_readsWish_5 (by decide) (fun c1 => ?_) (fun c1 => ?_)
  · have h := h.1 c1
    refine lv_aload_n hx hb dX3_readsWish_10 rfl (lv_at hl 0 rfl) ?_
    refine lv_iconst (v := 0) hx hb dX3_readsWish_11 (by decide) ?_
    refine lv_bipush (v := 99) hx hb dX3_readsWish_12 (by decide) ?_
    have hC : ([0, 1] : List Nat).map (fun i => ((w_X3_readsWish cy a_o a_o_text a_p1 a_p1_isTold a_p1_least a_p1_gateOff a_p1_limit a_p1_value a_p1_kind a_p1_most a_p1_wishOff a_p1_use r_p1_use o_length o_at o_start o_token o_number o_text p1_wishes p1_value p1_kind p1_most p1_wishOff p1_use) : va_W)[i]?) = ((w_X3_readsNumber cy a_o a_o_text o_length o_at o_start o_token o_number o_text) : va_W).map some := rfl
    obtain ⟨hPc, hDc⟩ := cutC hP hD [0, 1] (by decide) hC
    have hFc := va_free hD hS hA [0, 1] hC
    refine va_calli (va_runV (As := [.int (0 : Int32), .int (99 : Int32)]) (rest := []) ⟨hx, hb, hml, hown, hts⟩ (c_X3_readsNumber l D cy K a_o a_o_text _ h) (cwV 2 hts gX3_readsWish_X3_readsNumber rfl rfl rfl (by decide +kernel) ⟨Nat.le_of_ble_eq_true rfl, Nat.le_of_ble_eq_true rfl⟩) (preVs hPc hDc hK hN hSW hSR hS hFc (ci := 3) (q0 := 0) rfl rfl) rfl rfl hl.1 rfl (lv_room (Nat.le_of_ble_eq_true rfl)) dX3_readsWish_14 ⟨Nat.zero_le _, Nat.zero_le _⟩) hS (fun q _ h => hFc q h) hFc (fun r6 u t H1 locs ht hvm h hB hz1 hk1 hS => ?_)
    obtain ⟨u2, u3, u4, u5⟩ := u
    try dsimp only at h hB
    obtain ⟨hP, hD⟩ := joinU (wd := (w_X3_readsWish cy a_o a_o_text a_p1 a_p1_isTold a_p1_least a_p1_gateOff a_p1_limit a_p1_value a_p1_kind a_p1_most a_p1_wishOff a_p1_use r_p1_use o_length u2 u3 u4 u5 o_text p1_wishes p1_value p1_kind p1_most p1_wishOff p1_use)) (wr := [(a_p1, .inr (4, [.ref a_p1_isTold, .ref a_p1_least, .ref a_p1_gateOff, .ref a_p1_limit, .ref a_p1_value, .ref a_p1_kind, .ref a_p1_most, .ref a_p1_wishOff, .ref a_p1_use, .int p1_wishes])), (a_p1_value, .inl (cy 1, 4, .inl p1_value)), (a_p1_kind, .inl (cy 1, 4, .inl p1_kind)), (a_p1_most, .inl (cy 1, 4, .inl p1_most)), (a_p1_wishOff, .inl (cy 3, 4, .inl p1_wishOff)), (a_p1_use, .inl (cy 4, 4, .inr (.inr (.inr (.inr (mref r_p1_use 4)))))), (r_p1_use 0, rowI (cy 1) 5 p1_use 0), (r_p1_use 1, rowI (cy 1) 5 p1_use 1), (r_p1_use 2, rowI (cy 1) 5 p1_use 2), (r_p1_use 3, rowI (cy 1) 5 p1_use 3)]) hP hD [0, 1] [2, 3, 4, 5, 6, 7, 8, 9, 10, 11] [a_o, a_o_text] hC hk1 ht hB rfl rfl rfl (N := 12) rfl (by decide) rfl rfl
    generalize H1 = H at hP hS ⊢
    refine lv_if_ne (tgt := 22) hx hb dX3_readsWish_17 (by decide) (fun c7 => ?_) (fun c7 => ?_)
    · have h := h.2 c7
      refine lv_aload_n hx hb dX3_readsWish_22 rfl (lv_at hl 0 rfl) ?_
      refine va_get (D := D) (ci := 3) (v := .int u5) (C := RX3) (T := TX3) (N := 6) hx hb hts in_X3 hown hK hP 0 rfl rfl 5 (by decide) fl_28 (fun _ h9 => h9) rfl dX3_readsWish_23 ?_
      refine lv_istore_n (lv' := [(2, .int u5), (0, .ref a_o), (1, .ref a_p1)]) hx hb dX3_readsWish_26 rfl hl (by decide) rfl (fun ls hl => ?_)
      refine lv_aload_n hx hb dX3_readsWish_27 rfl (lv_at hl 1 rfl) ?_
      have hC : ([0, 1] : List Nat).map (fun i => ((w_X3_readsWish cy a_o a_o_text a_p1 a_p1_isTold a_p1_least a_p1_gateOff a_p1_limit a_p1_value a_p1_kind a_p1_most a_p1_wishOff a_p1_use r_p1_use o_length u2 u3 u4 u5 o_text p1_wishes p1_value p1_kind p1_most p1_wishOff p1_use) : va_W)[i]?) = ((w_X3_next cy a_o a_o_text o_length u2 u3 u4 u5 o_text) : va_W).map some := rfl
      obtain ⟨hPc, hDc⟩ := cutC hP hD [0, 1] (by decide) hC
      have hFc := va_free hD hS hA [0, 1] hC
      refine va_callv (va_runV (As := []) (rest := []) ⟨hx, hb, hml, hown, hts⟩ (c_X3_next l D cy K a_o a_o_text _ h) (cwV 0 hts gX3_readsWish_X3_next rfl rfl rfl (by decide +kernel) ⟨Nat.le_of_ble_eq_true rfl, Nat.le_of_ble_eq_true rfl⟩) (preVs hPc hDc hK hN hSW hSR hS hFc (ci := 3) (q0 := 0) rfl rfl) rfl rfl hl.1 rfl (lv_room (Nat.le_of_ble_eq_true rfl)) dX3_readsWish_28 ⟨Nat.zero_le _, Nat.zero_le _⟩) hS (fun q _ h => hFc q h) hFc (fun u t H1 locs ht hvm h hB hz1 hk1 hS => ?_)
      obtain ⟨u8, u9, u10, u11⟩ := u
      try dsimp only at h hB
      obtain ⟨hP, hD⟩ := joinU (wd := (w_X3_readsWish cy a_o a_o_text a_p1 a_p1_isTold a_p1_least a_p1_gateOff a_p1_limit a_p1_value a_p1_kind a_p1_most a_p1_wishOff a_p1_use r_p1_use o_length u8 u9 u10 u11 o_text p1_wishes p1_value p1_kind p1_most p1_wishOff p1_use)) (wr := [(a_p1, .inr (4, [.ref a_p1_isTold, .ref a_p1_least, .ref a_p1_gateOff, .ref a_p1_limit, .ref a_p1_value, .ref a_p1_kind, .ref a_p1_most, .ref a_p1_wishOff, .ref a_p1_use, .int p1_wishes])), (a_p1_value, .inl (cy 1, 4, .inl p1_value)), (a_p1_kind, .inl (cy 1, 4, .inl p1_kind)), (a_p1_most, .inl (cy 1, 4, .inl p1_most)), (a_p1_wishOff, .inl (cy 3, 4, .inl p1_wishOff)), (a_p1_use, .inl (cy 4, 4, .inr (.inr (.inr (.inr (mref r_p1_use 4)))))), (r_p1_use 0, rowI (cy 1) 5 p1_use 0), (r_p1_use 1, rowI (cy 1) 5 p1_use 1), (r_p1_use 2, rowI (cy 1) 5 p1_use 2), (r_p1_use 3, rowI (cy 1) 5 p1_use 3)]) hP hD [0, 1] [2, 3, 4, 5, 6, 7, 8, 9, 10, 11] [a_o, a_o_text] hC hk1 ht hB rfl rfl rfl (N := 12) rfl (by decide) rfl rfl
      generalize H1 = H at hP hS ⊢
      refine lv_aload_n hx hb dX3_readsWish_31 rfl (lv_at hl 1 rfl) ?_
      refine va_get (D := D) (ci := 3) (v := .int u10) (C := RX3) (T := TX3) (N := 6) hx hb hts in_X3 hown hK hP 0 rfl rfl 4 (by decide) fl_25 (fun _ h9 => h9) rfl dX3_readsWish_32 ?_
      refine lv_bipush (v := 9) hx hb dX3_readsWish_35 (by decide) ?_
      refine lv_icmp_eq (tgt := 42) hx hb dX3_readsWish_37 (by decide) (fun c12 => ?_) (fun c12 => ?_)
      · have h := h.1 c12
        refine lv_aload_n hx hb dX3_readsWish_42 rfl (lv_at hl 1 rfl) ?_
        refine va_get (D := D) (ci := 3) (v := .int u11) (C := RX3) (T := TX3) (N := 6) hx hb hts in_X3 hown hK hP 0 rfl rfl 5 (by decide) fl_28 (fun _ h9 => h9) rfl dX3_readsWish_43 ?_
        refine lv_istore_n (lv' := [(3, .int u11), (2, .int u5), (0, .ref a_o), (1, .ref a_p1)]) hx hb dX3_readsWish_46 rfl hl (by decide) rfl (fun ls hl => ?_)
        refine lv_aload_n hx hb dX3_readsWish_47 rfl (lv_at hl 2 rfl) ?_
        refine lv_iconst (v := 1) hx hb dX3_readsWish_48 (by decide) ?_
        refine lv_bipush (v := 12) hx hb dX3_readsWish_49 (by decide) ?_
        have hC : ([0, 1] : List Nat).map (fun i => ((w_X3_readsWish cy a_o a_o_text a_p1 a_p1_isTold a_p1_least a_p1_gateOff a_p1_limit a_p1_value a_p1_kind a_p1_most a_p1_wishOff a_p1_use r_p1_use o_length u8 u9 u10 u11 o_text p1_wishes p1_value p1_kind p1_most p1_wishOff p1_use) : va_W)[i]?) = ((w_X3_readsNumber cy a_o a_o_text o_length u8 u9 u10 u11 o_text) : va_W).map some := rfl
        obtain ⟨hPc, hDc⟩ := cutC hP hD [0, 1] (by decide) hC
        have hFc := va_free hD hS hA [0, 1] hC
        refine va_calli (va_runV (As := [.int (1 : Int32), .int (12 : Int32)]) (rest := []) ⟨hx, hb, hml, hown, hts⟩ (c_X3_readsNumber l D cy K a_o a_o_text _ h) (cwV 2 hts gX3_readsWish_X3_readsNumber rfl rfl rfl (by decide +kernel) ⟨Nat.le_of_ble_eq_true rfl, Nat.le_of_ble_eq_true rfl⟩) (preVs hPc hDc hK hN hSW hSR hS hFc (ci := 3) (q0 := 0) rfl rfl) rfl rfl hl.1 rfl (lv_room (Nat.le_of_ble_eq_true rfl)) dX3_readsWish_51 ⟨Nat.zero_le _, Nat.zero_le _⟩) hS (fun q _ h => hFc q h) hFc (fun r17 u t H1 locs ht hvm h hB hz1 hk1 hS => ?_)
        obtain ⟨u13, u14, u15, u16⟩ := u
        try dsimp only at h hB
        obtain ⟨hP, hD⟩ := joinU (wd := (w_X3_readsWish cy a_o a_o_text a_p1 a_p1_isTold a_p1_least a_p1_gateOff a_p1_limit a_p1_value a_p1_kind a_p1_most a_p1_wishOff a_p1_use r_p1_use o_length u13 u14 u15 u16 o_text p1_wishes p1_value p1_kind p1_most p1_wishOff p1_use)) (wr := [(a_p1, .inr (4, [.ref a_p1_isTold, .ref a_p1_least, .ref a_p1_gateOff, .ref a_p1_limit, .ref a_p1_value, .ref a_p1_kind, .ref a_p1_most, .ref a_p1_wishOff, .ref a_p1_use, .int p1_wishes])), (a_p1_value, .inl (cy 1, 4, .inl p1_value)), (a_p1_kind, .inl (cy 1, 4, .inl p1_kind)), (a_p1_most, .inl (cy 1, 4, .inl p1_most)), (a_p1_wishOff, .inl (cy 3, 4, .inl p1_wishOff)), (a_p1_use, .inl (cy 4, 4, .inr (.inr (.inr (.inr (mref r_p1_use 4)))))), (r_p1_use 0, rowI (cy 1) 5 p1_use 0), (r_p1_use 1, rowI (cy 1) 5 p1_use 1), (r_p1_use 2, rowI (cy 1) 5 p1_use 2), (r_p1_use 3, rowI (cy 1) 5 p1_use 3)]) hP hD [0, 1] [2, 3, 4, 5, 6, 7, 8, 9, 10, 11] [a_o, a_o_text] hC hk1 ht hB rfl rfl rfl (N := 12) rfl (by decide) rfl rfl
        generalize H1 = H at hP hS ⊢
        refine lv_if_ne (tgt := 59) hx hb dX3_readsWish_54 (by decide) (fun c18 => ?_) (fun c18 => ?_)
        · have h := h.2 c18
          refine lv_aload_n hx hb dX3_readsWish_59 rfl (lv_at hl 3 rfl) ?_
          refine lv_iload_n hx hb dX3_readsWish_60 rfl (lv_at hl 1 rfl) ?_
          refine lv_iload_n hx hb dX3_readsWish_61 rfl (lv_at hl 0 rfl) ?_
          refine lv_aload_n hx hb dX3_readsWish_62 rfl (lv_at hl 2 rfl) ?_
          refine va_get (D := D) (ci := 3) (v := .int u16) (C := RX3) (T := TX3) (N := 6) hx hb hts in_X3 hown hK hP 0 rfl rfl 5 (by decide) fl_28 (fun _ h9 => h9) rfl dX3_readsWish_63 ?_
          have hC : ([2, 3, 4, 5, 6, 7, 8, 9, 10, 11] : List Nat).map (fun i => ((w_X3_readsWish cy a_o a_o_text a_p1 a_p1_isTold a_p1_least a_p1_gateOff a_p1_limit a_p1_value a_p1_kind a_p1_most a_p1_wishOff a_p1_use r_p1_use o_length u13 u14 u15 u16 o_text p1_wishes p1_value p1_kind p1_most p1_wishOff p1_use) : va_W)[i]?) = ((w_X4_addWish cy a_p1 a_p1_isTold a_p1_least a_p1_gateOff a_p1_limit a_p1_value a_p1_kind a_p1_most a_p1_wishOff a_p1_use r_p1_use p1_wishes p1_value p1_kind p1_most p1_wishOff p1_use) : va_W).map some := rfl
          obtain ⟨hPc, hDc⟩ := cutC hP hD [2, 3, 4, 5, 6, 7, 8, 9, 10, 11] (by decide) hC
          have hFc := va_free hD hS hA [2, 3, 4, 5, 6, 7, 8, 9, 10, 11] hC
          refine va_callv (va_runV (As := [.int u5, .int u11, .int u16]) (rest := []) ⟨hx, hb, hml, hown, hts⟩ (c_X4_addWish l D cy a_p1 a_p1_isTold a_p1_least a_p1_gateOff a_p1_limit a_p1_value a_p1_kind a_p1_most a_p1_wishOff a_p1_use r_p1_use _ h) (cwV 3 hts gX3_readsWish_X4_addWish rfl rfl rfl (by decide +kernel) ⟨Nat.le_of_ble_eq_true rfl, Nat.le_of_ble_eq_true rfl⟩) (preV hPc hDc hK hN (ci := 4) (q0 := 0) rfl rfl) rfl rfl hl.1 rfl (lv_room (Nat.le_of_ble_eq_true rfl)) dX3_readsWish_66 ⟨Nat.zero_le _, Nat.zero_le _⟩) hS (fun q _ h => hFc q h) hFc (fun u t H1 locs ht hvm h hB hz1 hk1 hS => ?_)
          obtain ⟨u19, u20, u21, u22, u23, u24⟩ := u
          try dsimp only at h hB
          obtain ⟨hP, hD⟩ := joinU (wd := (w_X3_readsWish cy a_o a_o_text a_p1 a_p1_isTold a_p1_least a_p1_gateOff a_p1_limit a_p1_value a_p1_kind a_p1_most a_p1_wishOff a_p1_use r_p1_use o_length u13 u14 u15 u16 o_text u19 u20 u21 u22 u23 u24)) (wr := [(a_o, .inr (3, [.ref a_o_text, .int o_length, .int u13, .int u14, .int u15, .int u16])), (a_o_text, .inl (cy 0, 300, .inl o_text))]) hP hD [2, 3, 4, 5, 6, 7, 8, 9, 10, 11] [0, 1] [a_p1, a_p1_value, a_p1_kind, a_p1_most, a_p1_wishOff, a_p1_use, r_p1_use 0, r_p1_use 1, r_p1_use 2, r_p1_use 3] hC hk1 ht hB rfl rfl rfl (N := 12) rfl (by decide) rfl rfl
          generalize H1 = H at hP hS ⊢
          refine lv_iconst (v := 1) hx hb dX3_readsWish_69 (by decide) ?_
          exact hret (1 : Int32) (u13, u14, u15, u16, u19, u20, u21, u22, u23, u24) _ _ _ _ rfl h hP hD hS dX3_readsWish_70
        · have h := h.1 c18
          refine lv_iconst (v := 0) hx hb dX3_readsWish_57 (by decide) ?_
          exact hret (0 : Int32) (u13, u14, u15, u16, p1_wishes, p1_value, p1_kind, p1_most, p1_wishOff, p1_use) _ _ _ _ rfl h hP hD hS dX3_readsWish_58
      · have h := h.2 c12
        refine lv_iconst (v := 0) hx hb dX3_readsWish_40 (by decide) ?_
        exact hret (0 : Int32) (u8, u9, u10, u11, p1_wishes, p1_value, p1_kind, p1_most, p1_wishOff, p1_use) _ _ _ _ rfl h hP hD hS dX3_readsWish_41
    · have h := h.1 c7
      refine lv_iconst (v := 0) hx hb dX3_readsWish_20 (by decide) ?_
      exact hret (0 : Int32) (u2, u3, u4, u5, p1_wishes, p1_value, p1_kind, p1_most, p1_wishOff, p1_use) _ _ _ _ rfl h hP hD hS dX3_readsWish_21
  · have h := h.2 c1
    refine lv_iconst (v := 0) hx hb dX3_readsWish_8 (by decide) ?_
    exact hret (0 : Int32) (o_at, o_start, o_token, o_number, p1_wishes, p1_value, p1_kind, p1_most, p1_wishOff, p1_use) _ _ _ _ rfl h hP hD hS dX3_readsWish_9
abbrev w_X3_readsGate (cy : Nat → ClassId) (a_o a_o_text a_p1 a_p1_isTold a_p1_least a_p1_gateOff a_p1_limit a_p1_value a_p1_kind a_p1_most a_p1_wishOff a_p1_use : Nat) (o_length : Int32) (o_at : Int32) (o_start : Int32) (o_token : Int32) (o_number : Int32) (o_text : Nat → Int32) (p1_wishes : Int32) (p1_isTold : Nat → Int32) (p1_least : Nat → Int32) (p1_gateOff : Nat → Int32) (p1_limit : Nat → Int32) : va_W := [(a_o, .inr (3, [.ref a_o_text, .int o_length, .int o_at, .int o_start, .int o_token, .int o_number])), (a_o_text, .inl (cy 0, 300, .inl o_text)), (a_p1, .inr (4, [.ref a_p1_isTold, .ref a_p1_least, .ref a_p1_gateOff, .ref a_p1_limit, .ref a_p1_value, .ref a_p1_kind, .ref a_p1_most, .ref a_p1_wishOff, .ref a_p1_use, .int p1_wishes])), (a_p1_isTold, .inl (cy 3, 5, .inl p1_isTold)), (a_p1_least, .inl (cy 3, 5, .inl p1_least)), (a_p1_gateOff, .inl (cy 3, 5, .inl p1_gateOff)), (a_p1_limit, .inl (cy 1, 5, .inl p1_limit))]
set_option maxRecDepth 20000 in
theorem ggX3_readsGate_X3_next : GoodIn wsX3_readsGate wsX3_next := goodIn_r _ [8, 9, 10, 11, 12, 3, 1, 13, 14, 7, 15, 16, 17, 18, 19, 20, 21, 22, 23, 24, 25, 26, 27, 28, 29, 30, 31, 32, 33, 34, 35, 36, 37, 38, 39, 40, 41, 42, 43, 44, 45, 46, 47, 48, 49, 50, 51, 52, 53, 54, 55, 56, 57, 58, 59, 60, 61, 62, 63, 64, 65, 66, 67, 68, 69, 70, 71, 72, 73, 74, 75, 76, 77, 78, 79, 80, 81, 82, 83, 84, 85, 86, 87, 101, 102, 103, 104, 105, 106] (by decide +kernel) (by decide +kernel)
set_option maxRecDepth 20000 in
theorem ggX3_readsGate_X3_readsNumber : GoodIn wsX3_readsGate wsX3_readsNumber := goodIn_r _ [91, 1, 3, 4, 5, 6, 7, 8, 9, 10, 11, 12, 13, 14, 15, 16, 17, 18, 19, 20, 21, 22, 23, 24, 25, 26, 27, 28, 29, 30, 31, 32, 33, 34, 35, 36, 37, 38, 39, 40, 41, 42, 43, 44, 45, 46, 47, 48, 49, 50, 51, 52, 53, 54, 55, 56, 57, 58, 59, 60, 61, 62, 63, 64, 65, 66, 67, 68, 69, 70, 71, 72, 73, 74, 75, 76, 77, 78, 79, 80, 81, 82, 83, 84, 85, 86, 87, 101, 102, 103, 104, 105, 106] (by decide +kernel) (by decide +kernel)
set_option maxRecDepth 20000 in
theorem ggX3_readsGate_X4_addGate : GoodIn wsX3_readsGate wsX4_addGate := goodIn_r _ [96, 97, 98, 99, 100, 107, 108, 109, 110, 111, 112, 113, 114, 115, 116] (by decide +kernel) (by decide +kernel)
set_option maxRecDepth 20000 in
theorem gX3_readsGate_X3_next : GoodIn wsX3_readsGate (wsV RX3 36 RX3 yX3_next wsX3_next) := goodIn_app (goodIn_of _ (by decide +kernel)) ggX3_readsGate_X3_next
set_option maxRecDepth 20000 in
theorem gX3_readsGate_X3_readsNumber : GoodIn wsX3_readsGate (wsV RX3 53 RX3 yX3_readsNumber wsX3_readsNumber) := goodIn_app (goodIn_of _ (by decide +kernel)) ggX3_readsGate_X3_readsNumber
set_option maxRecDepth 20000 in
theorem gX3_readsGate_X4_addGate : GoodIn wsX3_readsGate (wsV RX3 57 RX4 yX4_addGate wsX4_addGate) := goodIn_app (goodIn_of _ (by decide +kernel)) ggX3_readsGate_X4_addGate
set_option maxHeartbeats 4000000 in
set_option maxRecDepth 100000 in
theorem c_X3_readsGate (l : Launch) (D : va_G) (cy : Nat → ClassId) (K : (Nat → Nat) × (Nat → Nat)) (a_o a_o_text a_p1 a_p1_isTold a_p1_least a_p1_gateOff a_p1_limit a_p1_value a_p1_kind a_p1_most a_p1_wishOff a_p1_use : Nat) (sz : Nat)  {o_length : Int32} {o_at : Int32} {o_start : Int32} {o_token : Int32} {o_number : Int32} {o_text : Nat → Int32} {p1_wishes : Int32} {p1_isTold : Nat → Int32} {p1_least : Nat → Int32} {p1_gateOff : Nat → Int32} {p1_limit : Nat → Int32}  {post : Int32 → Int32 → Int32 → Int32 → Int32 → (Nat → Int32) → (Nat → Int32) → (Nat → Int32) → (Nat → Int32) → Prop} (h : wp_X3_readsGate o_length o_at o_start o_token o_number o_text p1_isTold p1_least p1_gateOff p1_limit post) : Met l yX3_readsGate wsX3_readsGate ({ frames := 8, cells := 0, slots := 0, locals := 170 }) (va_Pc [.ref a_o, .ref a_p1] (wIs D cy sz (w_X3_readsGate cy a_o a_o_text a_p1 a_p1_isTold a_p1_least a_p1_gateOff a_p1_limit a_p1_value a_p1_kind a_p1_most a_p1_wishOff a_p1_use o_length o_at o_start o_token o_number o_text p1_wishes p1_isTold p1_least p1_gateOff p1_limit) K)) (va_Qi (fun (r : Int32) (u : Int32 × Int32 × Int32 × Int32 × (Nat → Int32) × (Nat → Int32) × (Nat → Int32) × (Nat → Int32)) => post r u.1 u.2.1 u.2.2.1 u.2.2.2.1 u.2.2.2.2.1 u.2.2.2.2.2.1 u.2.2.2.2.2.2.1 u.2.2.2.2.2.2.2) (fun (u : Int32 × Int32 × Int32 × Int32 × (Nat → Int32) × (Nat → Int32) × (Nat → Int32) × (Nat → Int32)) t => wO D cy (va_A (w_X3_readsGate cy a_o a_o_text a_p1 a_p1_isTold a_p1_least a_p1_gateOff a_p1_limit a_p1_value a_p1_kind a_p1_most a_p1_wishOff a_p1_use o_length o_at o_start o_token o_number o_text p1_wishes p1_isTold p1_least p1_gateOff p1_limit) sz) (w_X3_readsGate cy a_o a_o_text a_p1 a_p1_isTold a_p1_least a_p1_gateOff a_p1_limit a_p1_value a_p1_kind a_p1_most a_p1_wishOff a_p1_use o_length u.1 u.2.1 u.2.2.1 u.2.2.2.1 o_text p1_wishes u.2.2.2.2.1 u.2.2.2.2.2.1 u.2.2.2.2.2.2.1 u.2.2.2.2.2.2.2) t) (va_A (w_X3_readsGate cy a_o a_o_text a_p1 a_p1_isTold a_p1_least a_p1_gateOff a_p1_limit a_p1_value a_p1_kind a_p1_most a_p1_wishOff a_p1_use o_length o_at o_start o_token o_number o_text p1_wishes p1_isTold p1_least p1_gateOff p1_limit) sz)) 0 0 (va_A (w_X3_readsGate cy a_o a_o_text a_p1 a_p1_isTold a_p1_least a_p1_gateOff a_p1_limit a_p1_value a_p1_kind a_p1_most a_p1_wishOff a_p1_use o_length o_at o_start o_token o_number o_text p1_wishes p1_isTold p1_least p1_gateOff p1_limit) sz) := by
  refine contrZs (S := Int32 × Int32 × Int32 × Int32 × (Nat → Int32) × (Nat → Int32) × (Nat → Int32) × (Nat → Int32)) (post := fun (r : Int32) (u : Int32 × Int32 × Int32 × Int32 × (Nat → Int32) × (Nat → Int32) × (Nat → Int32) × (Nat → Int32)) => post r u.1 u.2.1 u.2.2.1 u.2.2.2.1 u.2.2.2.2.1 u.2.2.2.2.2.1 u.2.2.2.2.2.2.1 u.2.2.2.2.2.2.2) (wOut := fun (u : Int32 × Int32 × Int32 × Int32 × (Nat → Int32) × (Nat → Int32) × (Nat → Int32) × (Nat → Int32)) => (w_X3_readsGate cy a_o a_o_text a_p1 a_p1_isTold a_p1_least a_p1_gateOff a_p1_limit a_p1_value a_p1_kind a_p1_most a_p1_wishOff a_p1_use o_length u.1 u.2.1 u.2.2.1 u.2.2.2.1 o_text p1_wishes u.2.2.2.2.1 u.2.2.2.2.2.1 u.2.2.2.2.2.2.1 u.2.2.2.2.2.2.2)) (cc := cX3_readsGate) (maxL := 5) (own := RX3) (by decide +kernel) rfl rfl ?_
  intro p e s m args below meth c A Q hx hb hml hown hts hK hN hP hD hS hA hSW hSR hret
  have in_X3 : ∀ w ∈ u_ws RX3 TX3 6, w ∈ wsX3_readsGate := by decide +kernel
  have fl_25 := hts (.fieldLink RX3 25 "DawnTable$Reader" "token" "I") (by decide +kernel)
  have in_X4 : ∀ w ∈ u_ws RX4 TX4 10, w ∈ wsX3_readsGate := by decide +kernel
  have fl_49 := hts (.fieldLink RX3 49 "DawnTable$Table" "isTold" "[Z") (by decide +kernel)
  have fl_28 := hts (.fieldLink RX3 28 "DawnTable$Reader" "number" "I") (by decide +kernel)
  have j_69_1 : ∀ (x2 : Int32) (s0 : Int32) (o_at : Int32) (o_start : Int32) (o_token : Int32) (o_number : Int32) (p1_isTold : Nat → Int32) (p1_least : Nat → Int32) (p1_gateOff : Nat → Int32) (p1_limit : Nat → Int32), wj_X3_readsGate_69  x2 s0 o_length o_at o_start o_token o_number o_text p1_isTold p1_least p1_gateOff p1_limit  post → ∀ (H : Heap) (locs : List Loc), va_P D vwCl (w_X3_readsGate cy a_o a_o_text a_p1 a_p1_isTold a_p1_least a_p1_gateOff a_p1_limit a_p1_value a_p1_kind a_p1_most a_p1_wishOff a_p1_use o_length o_at o_start o_token o_number o_text p1_wishes p1_isTold p1_least p1_gateOff p1_limit) H → va_D A (w_X3_readsGate cy a_o a_o_text a_p1 a_p1_isTold a_p1_least a_p1_gateOff a_p1_limit a_p1_value a_p1_kind a_p1_most a_p1_wishOff a_p1_use o_length o_at o_start o_token o_number o_text p1_wishes p1_isTold p1_least p1_gateOff p1_limit) → va_S A s.heap H locs → ∀ (ls : Array Slot), lv_has ls 5 [(0, .ref a_o), (1, .ref a_p1), (2, .int x2)] → W p l e ({ frames := 8, cells := 0, slots := 0, locals := 170 }) s m args below meth c H locs 0 0 Q (F0 m 69 ls [.int s0]) := by
    intro x2 s0 o_at o_start o_token o_number p1_isTold p1_least p1_gateOff p1_limit  h H locs hP hD hS ls hl
    unfold wj_X3_readsGate_69 at h
    refine lv_istore_n (lv' := [(3, .int s0), (0, .ref a_o), (1, .ref a_p1), (2, .int x2)]) hx hb dX3_readsGate_69 rfl hl (by decide) rfl (fun ls hl => ?_)
    refine lv_aload_n hx hb dX3_readsGate_70 rfl (lv_at hl 1 rfl) ?_
    refine lv_iconst (v := 0) hx hb dX3_readsGate_71 (by decide) ?_
    refine lv_bipush (v := 99) hx hb dX3_readsGate_72 (by decide) ?_
    have hC : ([0, 1] : List Nat).map (fun i => ((w_X3_readsGate cy a_o a_o_text a_p1 a_p1_isTold a_p1_least a_p1_gateOff a_p1_limit a_p1_value a_p1_kind a_p1_most a_p1_wishOff a_p1_use o_length o_at o_start o_token o_number o_text p1_wishes p1_isTold p1_least p1_gateOff p1_limit) : va_W)[i]?) = ((w_X3_readsNumber cy a_o a_o_text o_length o_at o_start o_token o_number o_text) : va_W).map some := rfl
    obtain ⟨hPc, hDc⟩ := cutC hP hD [0, 1] (by decide) hC
    have hFc := va_free hD hS hA [0, 1] hC
    refine va_calli (va_runV (As := [.int (0 : Int32), .int (99 : Int32)]) (rest := []) ⟨hx, hb, hml, hown, hts⟩ (c_X3_readsNumber l D cy K a_o a_o_text _ h) (cwV 2 hts gX3_readsGate_X3_readsNumber rfl rfl rfl (by decide +kernel) ⟨Nat.le_of_ble_eq_true rfl, Nat.le_of_ble_eq_true rfl⟩) (preVs hPc hDc hK hN hSW hSR hS hFc (ci := 3) (q0 := 0) rfl rfl) rfl rfl hl.1 rfl (lv_room (Nat.le_of_ble_eq_true rfl)) dX3_readsGate_74 ⟨Nat.zero_le _, Nat.zero_le _⟩) hS (fun q _ h => hFc q h) hFc (fun r18 u t H1 locs ht hvm h hB hz1 hk1 hS => ?_)
    obtain ⟨u14, u15, u16, u17⟩ := u
    try dsimp only at h hB
    obtain ⟨hP, hD⟩ := joinU (wd := (w_X3_readsGate cy a_o a_o_text a_p1 a_p1_isTold a_p1_least a_p1_gateOff a_p1_limit a_p1_value a_p1_kind a_p1_most a_p1_wishOff a_p1_use o_length u14 u15 u16 u17 o_text p1_wishes p1_isTold p1_least p1_gateOff p1_limit)) (wr := [(a_p1, .inr (4, [.ref a_p1_isTold, .ref a_p1_least, .ref a_p1_gateOff, .ref a_p1_limit, .ref a_p1_value, .ref a_p1_kind, .ref a_p1_most, .ref a_p1_wishOff, .ref a_p1_use, .int p1_wishes])), (a_p1_isTold, .inl (cy 3, 5, .inl p1_isTold)), (a_p1_least, .inl (cy 3, 5, .inl p1_least)), (a_p1_gateOff, .inl (cy 3, 5, .inl p1_gateOff)), (a_p1_limit, .inl (cy 1, 5, .inl p1_limit))]) hP hD [0, 1] [2, 3, 4, 5, 6] [a_o, a_o_text] hC hk1 ht hB rfl rfl rfl (N := 7) rfl (by decide) rfl rfl
    generalize H1 = H at hP hS ⊢
    refine lv_if_ne (tgt := 82) hx hb dX3_readsGate_77 (by decide) (fun c19 => ?_) (fun c19 => ?_)
    · have h := h.2 c19
      refine lv_aload_n hx hb dX3_readsGate_82 rfl (lv_at hl 1 rfl) ?_
      refine va_get (D := D) (ci := 3) (v := .int u17) (C := RX3) (T := TX3) (N := 6) hx hb hts in_X3 hown hK hP 0 rfl rfl 5 (by decide) fl_28 (fun _ h9 => h9) rfl dX3_readsGate_83 ?_
      refine lv_istore (lv' := [(4, .int u17), (3, .int s0), (0, .ref a_o), (1, .ref a_p1), (2, .int x2)]) hx hb dX3_readsGate_86 hl (by decide) rfl (fun ls hl => ?_)
      refine lv_aload_n hx hb dX3_readsGate_88 rfl (lv_at hl 2 rfl) ?_
      have hC : ([0, 1] : List Nat).map (fun i => ((w_X3_readsGate cy a_o a_o_text a_p1 a_p1_isTold a_p1_least a_p1_gateOff a_p1_limit a_p1_value a_p1_kind a_p1_most a_p1_wishOff a_p1_use o_length u14 u15 u16 u17 o_text p1_wishes p1_isTold p1_least p1_gateOff p1_limit) : va_W)[i]?) = ((w_X3_next cy a_o a_o_text o_length u14 u15 u16 u17 o_text) : va_W).map some := rfl
      obtain ⟨hPc, hDc⟩ := cutC hP hD [0, 1] (by decide) hC
      have hFc := va_free hD hS hA [0, 1] hC
      refine va_callv (va_runV (As := []) (rest := []) ⟨hx, hb, hml, hown, hts⟩ (c_X3_next l D cy K a_o a_o_text _ h) (cwV 0 hts gX3_readsGate_X3_next rfl rfl rfl (by decide +kernel) ⟨Nat.le_of_ble_eq_true rfl, Nat.le_of_ble_eq_true rfl⟩) (preVs hPc hDc hK hN hSW hSR hS hFc (ci := 3) (q0 := 0) rfl rfl) rfl rfl hl.1 rfl (lv_room (Nat.le_of_ble_eq_true rfl)) dX3_readsGate_89 ⟨Nat.zero_le _, Nat.zero_le _⟩) hS (fun q _ h => hFc q h) hFc (fun u t H1 locs ht hvm h hB hz1 hk1 hS => ?_)
      obtain ⟨u20, u21, u22, u23⟩ := u
      try dsimp only at h hB
      obtain ⟨hP, hD⟩ := joinU (wd := (w_X3_readsGate cy a_o a_o_text a_p1 a_p1_isTold a_p1_least a_p1_gateOff a_p1_limit a_p1_value a_p1_kind a_p1_most a_p1_wishOff a_p1_use o_length u20 u21 u22 u23 o_text p1_wishes p1_isTold p1_least p1_gateOff p1_limit)) (wr := [(a_p1, .inr (4, [.ref a_p1_isTold, .ref a_p1_least, .ref a_p1_gateOff, .ref a_p1_limit, .ref a_p1_value, .ref a_p1_kind, .ref a_p1_most, .ref a_p1_wishOff, .ref a_p1_use, .int p1_wishes])), (a_p1_isTold, .inl (cy 3, 5, .inl p1_isTold)), (a_p1_least, .inl (cy 3, 5, .inl p1_least)), (a_p1_gateOff, .inl (cy 3, 5, .inl p1_gateOff)), (a_p1_limit, .inl (cy 1, 5, .inl p1_limit))]) hP hD [0, 1] [2, 3, 4, 5, 6] [a_o, a_o_text] hC hk1 ht hB rfl rfl rfl (N := 7) rfl (by decide) rfl rfl
      generalize H1 = H at hP hS ⊢
      refine lv_aload_n hx hb dX3_readsGate_92 rfl (lv_at hl 2 rfl) ?_
      refine va_get (D := D) (ci := 3) (v := .int u22) (C := RX3) (T := TX3) (N := 6) hx hb hts in_X3 hown hK hP 0 rfl rfl 4 (by decide) fl_25 (fun _ h9 => h9) rfl dX3_readsGate_93 ?_
      refine lv_iconst (v := 2) hx hb dX3_readsGate_96 (by decide) ?_
      refine lv_icmp_eq (tgt := 102) hx hb dX3_readsGate_97 (by decide) (fun c24 => ?_) (fun c24 => ?_)
      · have h := h.1 c24
        refine lv_aload_n hx hb dX3_readsGate_102 rfl (lv_at hl 3 rfl) ?_
        refine lv_iload_n hx hb dX3_readsGate_103 rfl (lv_at hl 4 rfl) ?_
        refine lv_iload_n hx hb dX3_readsGate_104 rfl (lv_at hl 1 rfl) ?_
        refine lv_iload hx hb dX3_readsGate_105 (lv_at hl 0 rfl) ?_
        have hC : ([2, 3, 4, 5, 6] : List Nat).map (fun i => ((w_X3_readsGate cy a_o a_o_text a_p1 a_p1_isTold a_p1_least a_p1_gateOff a_p1_limit a_p1_value a_p1_kind a_p1_most a_p1_wishOff a_p1_use o_length u20 u21 u22 u23 o_text p1_wishes p1_isTold p1_least p1_gateOff p1_limit) : va_W)[i]?) = ((w_X4_addGate cy a_p1 a_p1_isTold a_p1_least a_p1_gateOff a_p1_limit a_p1_value a_p1_kind a_p1_most a_p1_wishOff a_p1_use p1_wishes p1_isTold p1_least p1_gateOff p1_limit) : va_W).map some := rfl
        obtain ⟨hPc, hDc⟩ := cutC hP hD [2, 3, 4, 5, 6] (by decide) hC
        have hFc := va_free hD hS hA [2, 3, 4, 5, 6] hC
        refine va_callv (va_runV (As := [.int x2, .int s0, .int u17]) (rest := []) ⟨hx, hb, hml, hown, hts⟩ (c_X4_addGate l D cy a_p1 a_p1_isTold a_p1_least a_p1_gateOff a_p1_limit a_p1_value a_p1_kind a_p1_most a_p1_wishOff a_p1_use _ h) (cwV 3 hts gX3_readsGate_X4_addGate rfl rfl rfl (by decide +kernel) ⟨Nat.le_of_ble_eq_true rfl, Nat.le_of_ble_eq_true rfl⟩) (preV hPc hDc hK hN (ci := 4) (q0 := 0) rfl rfl) rfl rfl hl.1 rfl (lv_room (Nat.le_of_ble_eq_true rfl)) dX3_readsGate_107 ⟨Nat.zero_le _, Nat.zero_le _⟩) hS (fun q _ h => hFc q h) hFc (fun u t H1 locs ht hvm h hB hz1 hk1 hS => ?_)
        obtain ⟨u25, u26, u27, u28⟩ := u
        try dsimp only at h hB
        obtain ⟨hP, hD⟩ := joinU (wd := (w_X3_readsGate cy a_o a_o_text a_p1 a_p1_isTold a_p1_least a_p1_gateOff a_p1_limit a_p1_value a_p1_kind a_p1_most a_p1_wishOff a_p1_use o_length u20 u21 u22 u23 o_text p1_wishes u25 u26 u27 u28)) (wr := [(a_o, .inr (3, [.ref a_o_text, .int o_length, .int u20, .int u21, .int u22, .int u23])), (a_o_text, .inl (cy 0, 300, .inl o_text))]) hP hD [2, 3, 4, 5, 6] [0, 1] [a_p1, a_p1_isTold, a_p1_least, a_p1_gateOff, a_p1_limit] hC hk1 ht hB rfl rfl rfl (N := 7) rfl (by decide) rfl rfl
        generalize H1 = H at hP hS ⊢
        refine lv_iconst (v := 1) hx hb dX3_readsGate_110 (by decide) ?_
        exact hret (1 : Int32) (u20, u21, u22, u23, u25, u26, u27, u28) _ _ _ _ rfl h hP hD hS dX3_readsGate_111
      · have h := h.2 c24
        refine lv_iconst (v := 0) hx hb dX3_readsGate_100 (by decide) ?_
        exact hret (0 : Int32) (u20, u21, u22, u23, p1_isTold, p1_least, p1_gateOff, p1_limit) _ _ _ _ rfl h hP hD hS dX3_readsGate_101
    · have h := h.1 c19
      refine lv_iconst (v := 0) hx hb dX3_readsGate_80 (by decide) ?_
      exact hret (0 : Int32) (u14, u15, u16, u17, p1_isTold, p1_least, p1_gateOff, p1_limit) _ _ _ _ rfl h hP hD hS dX3_readsGate_81
  have j_55_0 : ∀ (x2 : Int32) (o_at : Int32) (o_start : Int32) (o_token : Int32) (o_number : Int32) (p1_isTold : Nat → Int32) (p1_least : Nat → Int32) (p1_gateOff : Nat → Int32) (p1_limit : Nat → Int32), wj_X3_readsGate_55  x2 o_length o_at o_start o_token o_number o_text p1_isTold p1_least p1_gateOff p1_limit  post → ∀ (H : Heap) (locs : List Loc), va_P D vwCl (w_X3_readsGate cy a_o a_o_text a_p1 a_p1_isTold a_p1_least a_p1_gateOff a_p1_limit a_p1_value a_p1_kind a_p1_most a_p1_wishOff a_p1_use o_length o_at o_start o_token o_number o_text p1_wishes p1_isTold p1_least p1_gateOff p1_limit) H → va_D A (w_X3_readsGate cy a_o a_o_text a_p1 a_p1_isTold a_p1_least a_p1_gateOff a_p1_limit a_p1_value a_p1_kind a_p1_most a_p1_wishOff a_p1_use o_length o_at o_start o_token o_number o_text p1_wishes p1_isTold p1_least p1_gateOff p1_limit) → va_S A s.heap H locs → ∀ (ls : Array Slot), lv_has ls 5 [(0, .ref a_o), (1, .ref a_p1), (2, .int x2)] → W p l e ({ frames := 8, cells := 0, slots := 0, locals := 170 }) s m args below meth c H locs 0 0 Q (F0 m 55 ls []) := by
    intro x2 o_at o_start o_token o_number p1_isTold p1_least p1_gateOff p1_limit  h H locs hP hD hS ls hl
    unfold wj_X3_readsGate_55 at h
    refine lv_aload_n hx hb dX3_readsGate_55 rfl (lv_at hl 0 rfl) ?_
    refine va_get (D := D) (ci := 3) (v := .int o_token) (C := RX3) (T := TX3) (N := 6) hx hb hts in_X3 hown hK hP 0 rfl rfl 4 (by decide) fl_25 (fun _ h9 => h9) rfl dX3_readsGate_56 ?_
    refine lv_bipush (v := 8) hx hb dX3_readsGate_59 (by decide) ?_
    refine lv_icmp_ne (tgt := 68) hx hb dX3_readsGate_61 (by decide) (fun c13 => ?_) (fun c13 => ?_)
    · have h := h.2 c13
      refine lv_iconst (v := 0) hx hb dX3_readsGate_68 (by decide) ?_
      exact j_69_1 x2 (0 : Int32) o_at o_start o_token o_number p1_isTold p1_least p1_gateOff p1_limit h _ _ hP hD hS _ (lv_sub hl [0, 1, 2] rfl)
    · have h := h.1 c13
      refine lv_iconst (v := 1) hx hb dX3_readsGate_64 (by decide) ?_
      refine lv_goto (tgt := 69) hx hb dX3_readsGate_65 (by decide) ?_
      exact j_69_1 x2 (1 : Int32) o_at o_start o_token o_number p1_isTold p1_least p1_gateOff p1_limit h _ _ hP hD hS _ (lv_sub hl [0, 1, 2] rfl)
  refine ent [.ref a_o, .ref a_p1] (Nat.le_of_ble_eq_true rfl) (fun ls hl => ?_)
  have hl : lv_has ls 5 [(0, .ref a_o), (1, .ref a_p1)] := hl
  unfold wp_X3_readsGate at h
  refine lv_aload_n hx hb dX3_readsGate_0 rfl (lv_at hl 0 rfl) ?_
  have hC : ([0, 1] : List Nat).map (fun i => ((w_X3_readsGate cy a_o a_o_text a_p1 a_p1_isTold a_p1_least a_p1_gateOff a_p1_limit a_p1_value a_p1_kind a_p1_most a_p1_wishOff a_p1_use o_length o_at o_start o_token o_number o_text p1_wishes p1_isTold p1_least p1_gateOff p1_limit) : va_W)[i]?) = ((w_X3_next cy a_o a_o_text o_length o_at o_start o_token o_number o_text) : va_W).map some := rfl
  obtain ⟨hPc, hDc⟩ := cutC hP hD [0, 1] (by decide) hC
  have hFc := va_free hD hS hA [0, 1] hC
  refine va_callv (va_runV (As := []) (rest := []) ⟨hx, hb, hml, hown, hts⟩ (c_X3_next l D cy K a_o a_o_text _ h) (cwV 0 hts gX3_readsGate_X3_next rfl rfl rfl (by decide +kernel) ⟨Nat.le_of_ble_eq_true rfl, Nat.le_of_ble_eq_true rfl⟩) (preVs hPc hDc hK hN hSW hSR hS hFc (ci := 3) (q0 := 0) rfl rfl) rfl rfl hl.1 rfl (lv_room (Nat.le_of_ble_eq_true rfl)) dX3_readsGate_1 ⟨Nat.zero_le _, Nat.zero_le _⟩) hS (fun q _ h => hFc q h) hFc (fun u t H1 locs ht hvm h hB hz1 hk1 hS => ?_)
  obtain ⟨u1, u2, u3, u4⟩ := u
  try dsimp only at h hB
  obtain ⟨hP, hD⟩ := joinU (wd := (w_X3_readsGate cy a_o a_o_text a_p1 a_p1_isTold a_p1_least a_p1_gateOff a_p1_limit a_p1_value a_p1_kind a_p1_most a_p1_wishOff a_p1_use o_length u1 u2 u3 u4 o_text p1_wishes p1_isTold p1_least p1_gateOff p1_limit)) (wr := [(a_p1, .inr (4, [.ref a_p1_isTold, .ref a_p1_least, .ref a_p1_gateOff, .ref a_p1_limit, .ref a_p1_value, .ref a_p1_kind, .ref a_p1_most, .ref a_p1_wishOff, .ref a_p1_use, .int p1_wishes])), (a_p1_isTold, .inl (cy 3, 5, .inl p1_isTold)), (a_p1_least, .inl (cy 3, 5, .inl p1_least)), (a_p1_gateOff, .inl (cy 3, 5, .inl p1_gateOff)), (a_p1_limit, .inl (cy 1, 5, .inl p1_limit))]) hP hD [0, 1] [2, 3, 4, 5, 6] [a_o, a_o_text] hC hk1 ht hB rfl rfl rfl (N := 7) rfl (by decide) rfl rfl
  generalize H1 = H at hP hS ⊢
  refine lv_aload_n hx hb dX3_readsGate_4 rfl (lv_at hl 0 rfl) ?_
  refine va_get (D := D) (ci := 3) (v := .int u3) (C := RX3) (T := TX3) (N := 6) hx hb hts in_X3 hown hK hP 0 rfl rfl 4 (by decide) fl_25 (fun _ h9 => h9) rfl dX3_readsGate_5 ?_
  refine lv_iconst (v := 3) hx hb dX3_readsGate_8 (by decide) ?_
  refine lv_icmp_ne (tgt := 24) hx hb dX3_readsGate_9 (by decide) (fun c5 => ?_) (fun c5 => ?_)
  · have h := h.2 c5
    refine lv_iconst (v := 0) hx hb dX3_readsGate_24 (by decide) ?_
    exact hret (0 : Int32) (u1, u2, u3, u4, p1_isTold, p1_least, p1_gateOff, p1_limit) _ _ _ _ rfl h hP hD hS dX3_readsGate_25
  · have h := h.1 c5
    refine lv_aload_n hx hb dX3_readsGate_12 rfl (lv_at hl 1 rfl) ?_
    refine va_get (D := D) (ci := 4) (v := .ref a_p1_isTold) (C := RX4) (T := TX4) (N := 10) hx hb hts in_X4 hown hK hP 2 rfl rfl 0 (by decide) fl_49 (fun _ h9 => h9) rfl dX3_readsGate_13 ?_
    refine lv_aload_n hx hb dX3_readsGate_16 rfl (lv_at hl 0 rfl) ?_
    refine va_get (D := D) (ci := 3) (v := .int u4) (C := RX3) (T := TX3) (N := 6) hx hb hts in_X3 hown hK hP 0 rfl rfl 5 (by decide) fl_28 (fun _ h9 => h9) rfl dX3_readsGate_17 ?_
    obtain ⟨i6, h⟩ := h
    refine va_zald hx hb hK hP 3 3 rfl rfl i6 dX3_readsGate_20 ?_
    refine lv_if_eq (tgt := 26) hx hb dX3_readsGate_21 (by decide) (fun c7 => ?_) (fun c7 => ?_)
    · have h := h.1 c7
      refine lv_aload_n hx hb dX3_readsGate_26 rfl (lv_at hl 0 rfl) ?_
      refine va_get (D := D) (ci := 3) (v := .int u4) (C := RX3) (T := TX3) (N := 6) hx hb hts in_X3 hown hK hP 0 rfl rfl 5 (by decide) fl_28 (fun _ h9 => h9) rfl dX3_readsGate_27 ?_
      refine lv_istore_n (lv' := [(2, .int u4), (0, .ref a_o), (1, .ref a_p1)]) hx hb dX3_readsGate_30 rfl hl (by decide) rfl (fun ls hl => ?_)
      refine lv_aload_n hx hb dX3_readsGate_31 rfl (lv_at hl 1 rfl) ?_
      have hC : ([0, 1] : List Nat).map (fun i => ((w_X3_readsGate cy a_o a_o_text a_p1 a_p1_isTold a_p1_least a_p1_gateOff a_p1_limit a_p1_value a_p1_kind a_p1_most a_p1_wishOff a_p1_use o_length u1 u2 u3 u4 o_text p1_wishes p1_isTold p1_least p1_gateOff p1_limit) : va_W)[i]?) = ((w_X3_next cy a_o a_o_text o_length u1 u2 u3 u4 o_text) : va_W).map some := rfl
      obtain ⟨hPc, hDc⟩ := cutC hP hD [0, 1] (by decide) hC
      have hFc := va_free hD hS hA [0, 1] hC
      refine va_callv (va_runV (As := []) (rest := []) ⟨hx, hb, hml, hown, hts⟩ (c_X3_next l D cy K a_o a_o_text _ h) (cwV 0 hts gX3_readsGate_X3_next rfl rfl rfl (by decide +kernel) ⟨Nat.le_of_ble_eq_true rfl, Nat.le_of_ble_eq_true rfl⟩) (preVs hPc hDc hK hN hSW hSR hS hFc (ci := 3) (q0 := 0) rfl rfl) rfl rfl hl.1 rfl (lv_room (Nat.le_of_ble_eq_true rfl)) dX3_readsGate_32 ⟨Nat.zero_le _, Nat.zero_le _⟩) hS (fun q _ h => hFc q h) hFc (fun u t H1 locs ht hvm h hB hz1 hk1 hS => ?_)
      obtain ⟨u8, u9, u10, u11⟩ := u
      try dsimp only at h hB
      obtain ⟨hP, hD⟩ := joinU (wd := (w_X3_readsGate cy a_o a_o_text a_p1 a_p1_isTold a_p1_least a_p1_gateOff a_p1_limit a_p1_value a_p1_kind a_p1_most a_p1_wishOff a_p1_use o_length u8 u9 u10 u11 o_text p1_wishes p1_isTold p1_least p1_gateOff p1_limit)) (wr := [(a_p1, .inr (4, [.ref a_p1_isTold, .ref a_p1_least, .ref a_p1_gateOff, .ref a_p1_limit, .ref a_p1_value, .ref a_p1_kind, .ref a_p1_most, .ref a_p1_wishOff, .ref a_p1_use, .int p1_wishes])), (a_p1_isTold, .inl (cy 3, 5, .inl p1_isTold)), (a_p1_least, .inl (cy 3, 5, .inl p1_least)), (a_p1_gateOff, .inl (cy 3, 5, .inl p1_gateOff)), (a_p1_limit, .inl (cy 1, 5, .inl p1_limit))]) hP hD [0, 1] [2, 3, 4, 5, 6] [a_o, a_o_text] hC hk1 ht hB rfl rfl rfl (N := 7) rfl (by decide) rfl rfl
      generalize H1 = H at hP hS ⊢
      refine lv_aload_n hx hb dX3_readsGate_35 rfl (lv_at hl 1 rfl) ?_
      refine va_get (D := D) (ci := 3) (v := .int u10) (C := RX3) (T := TX3) (N := 6) hx hb hts in_X3 hown hK hP 0 rfl rfl 4 (by decide) fl_25 (fun _ h9 => h9) rfl dX3_readsGate_36 ?_
      refine lv_bipush (v := 7) hx hb dX3_readsGate_39 (by decide) ?_
      refine lv_icmp_eq (tgt := 55) hx hb dX3_readsGate_41 (by decide) (fun c12 => ?_) (fun c12 => ?_)
      · have h := h.1 c12
        exact j_55_0 u4 u8 u9 u10 u11 p1_isTold p1_least p1_gateOff p1_limit h _ _ hP hD hS _ (lv_sub hl [1, 2, 0] rfl)
      · have h := h.2 c12
        refine lv_aload_n hx hb dX3_readsGate_44 rfl (lv_at hl 1 rfl) ?_
        refine va_get (D := D) (ci := 3) (v := .int u10) (C := RX3) (T := TX3) (N := 6) hx hb hts in_X3 hown hK hP 0 rfl rfl 4 (by decide) fl_25 (fun _ h9 => h9) rfl dX3_readsGate_45 ?_
        refine lv_bipush (v := 8) hx hb dX3_readsGate_48 (by decide) ?_
        refine lv_icmp_eq (tgt := 55) hx hb dX3_readsGate_50 (by decide) (fun c29 => ?_) (fun c29 => ?_)
        · have h := h.1 c29
          exact j_55_0 u4 u8 u9 u10 u11 p1_isTold p1_least p1_gateOff p1_limit h _ _ hP hD hS _ (lv_sub hl [1, 2, 0] rfl)
        · have h := h.2 c29
          refine lv_iconst (v := 0) hx hb dX3_readsGate_53 (by decide) ?_
          exact hret (0 : Int32) (u8, u9, u10, u11, p1_isTold, p1_least, p1_gateOff, p1_limit) _ _ _ _ rfl h hP hD hS dX3_readsGate_54
    · have h := h.2 c7
      refine lv_iconst (v := 0) hx hb dX3_readsGate_24 (by decide) ?_
      exact hret (0 : Int32) (u1, u2, u3, u4, p1_isTold, p1_least, p1_gateOff, p1_limit) _ _ _ _ rfl h hP hD hS dX3_readsGate_25
abbrev w_X3_read (cy : Nat → ClassId) (a_o a_o_text a_p1 a_p1_isTold a_p1_least a_p1_gateOff a_p1_limit a_p1_value a_p1_kind a_p1_most a_p1_wishOff a_p1_use : Nat) (r_p1_use : Nat → Nat) (o_length : Int32) (o_at : Int32) (o_start : Int32) (o_token : Int32) (o_number : Int32) (o_text : Nat → Int32) (p1_wishes : Int32) (p1_isTold : Nat → Int32) (p1_least : Nat → Int32) (p1_gateOff : Nat → Int32) (p1_limit : Nat → Int32) (p1_value : Nat → Int32) (p1_kind : Nat → Int32) (p1_most : Nat → Int32) (p1_wishOff : Nat → Int32) (p1_use : Nat → Nat → Int32) : va_W := [(a_o, .inr (3, [.ref a_o_text, .int o_length, .int o_at, .int o_start, .int o_token, .int o_number])), (a_o_text, .inl (cy 0, 300, .inl o_text)), (a_p1, .inr (4, [.ref a_p1_isTold, .ref a_p1_least, .ref a_p1_gateOff, .ref a_p1_limit, .ref a_p1_value, .ref a_p1_kind, .ref a_p1_most, .ref a_p1_wishOff, .ref a_p1_use, .int p1_wishes])), (a_p1_isTold, .inl (cy 3, 5, .inl p1_isTold)), (a_p1_least, .inl (cy 3, 5, .inl p1_least)), (a_p1_gateOff, .inl (cy 3, 5, .inl p1_gateOff)), (a_p1_limit, .inl (cy 1, 5, .inl p1_limit)), (a_p1_value, .inl (cy 1, 4, .inl p1_value)), (a_p1_kind, .inl (cy 1, 4, .inl p1_kind)), (a_p1_most, .inl (cy 1, 4, .inl p1_most)), (a_p1_wishOff, .inl (cy 3, 4, .inl p1_wishOff)), (a_p1_use, .inl (cy 4, 4, .inr (.inr (.inr (.inr (mref r_p1_use 4))))))] ++ rows4 r_p1_use (rowI (cy 1) 5 p1_use) ++ []
set_option maxRecDepth 20000 in
theorem ggX3_read_X3_next : GoodIn wsX3_read wsX3_next := goodIn_r _ [17, 1, 4, 18, 3, 19, 2, 20, 21, 16, 22, 23, 24, 25, 26, 27, 28, 29, 30, 31, 32, 33, 34, 35, 36, 37, 38, 39, 40, 41, 42, 43, 44, 45, 46, 47, 48, 49, 50, 51, 52, 53, 54, 55, 56, 57, 58, 59, 60, 61, 62, 63, 64, 65, 66, 67, 68, 69, 70, 71, 72, 73, 74, 75, 76, 77, 78, 79, 80, 81, 82, 83, 84, 85, 86, 87, 88, 89, 90, 91, 92, 93, 94, 133, 134, 135, 136, 137, 138] (by decide +kernel) (by decide +kernel)
set_option maxRecDepth 20000 in
theorem ggX3_read_X3_readsGate : GoodIn wsX3_read wsX3_readsGate := goodIn_r _ [98, 2, 99, 19, 13, 14, 15, 16, 17, 1, 4, 18, 3, 20, 21, 22, 23, 24, 25, 26, 27, 28, 29, 30, 31, 32, 33, 34, 35, 36, 37, 38, 39, 40, 41, 42, 43, 44, 45, 46, 47, 48, 49, 50, 51, 52, 53, 54, 55, 56, 57, 58, 59, 60, 61, 62, 63, 64, 65, 66, 67, 68, 69, 70, 71, 72, 73, 74, 75, 76, 77, 78, 79, 80, 81, 82, 83, 84, 85, 86, 87, 88, 89, 90, 91, 92, 93, 94, 100, 101, 102, 103, 104, 105, 106, 8, 107, 11, 108, 109, 12, 133, 134, 135, 136, 137, 138, 139, 140, 141, 142, 143, 144, 145, 146, 147, 148] (by decide +kernel) (by decide +kernel)
set_option maxRecDepth 20000 in
theorem ggX3_read_X3_readsUses : GoodIn wsX3_read wsX3_readsUses := goodIn_r _ [131, 114, 132, 2, 99, 19, 13, 14, 15, 16, 17, 1, 4, 18, 3, 20, 21, 22, 23, 24, 25, 26, 27, 28, 29, 30, 31, 32, 33, 34, 35, 36, 37, 38, 39, 40, 41, 42, 43, 44, 45, 46, 47, 48, 49, 50, 51, 52, 53, 54, 55, 56, 57, 58, 59, 60, 61, 62, 63, 64, 65, 66, 67, 68, 69, 70, 71, 72, 73, 74, 75, 76, 77, 78, 79, 80, 81, 82, 83, 84, 85, 86, 87, 88, 89, 90, 91, 92, 93, 94, 100, 101, 102, 103, 139, 140, 141, 142, 143, 144, 145, 146, 147, 148, 133, 134, 135, 136, 137, 138] (by decide +kernel) (by decide +kernel)
set_option maxRecDepth 20000 in
theorem ggX3_read_X3_readsWish : GoodIn wsX3_read wsX3_readsWish := goodIn_r _ [113, 114, 19, 2, 100, 101, 102, 16, 103, 13, 14, 15, 17, 1, 4, 18, 3, 20, 21, 22, 23, 24, 25, 26, 27, 28, 29, 30, 31, 32, 33, 34, 35, 36, 37, 38, 39, 40, 41, 42, 43, 44, 45, 46, 47, 48, 49, 50, 51, 52, 53, 54, 55, 56, 57, 58, 59, 60, 61, 62, 63, 64, 65, 66, 67, 68, 69, 70, 71, 72, 73, 74, 75, 76, 77, 78, 79, 80, 81, 82, 83, 84, 85, 86, 87, 88, 89, 90, 91, 92, 93, 94, 115, 116, 117, 8, 118, 10, 119, 120, 121, 122, 123, 124, 125, 126, 127, 139, 140, 141, 142, 143, 144, 145, 146, 147, 148, 133, 134, 135, 136, 137, 138] (by decide +kernel) (by decide +kernel)
set_option maxRecDepth 20000 in
theorem ggX3_read_X4_empty : GoodIn wsX3_read wsX4_empty := goodIn_r _ [9, 10, 11, 12, 139, 140, 141, 142, 143, 144, 145, 146, 147, 148] (by decide +kernel) (by decide +kernel)
set_option maxRecDepth 20000 in
theorem gX3_read_X3_next : GoodIn wsX3_read (wsV RX3 36 RX3 yX3_next wsX3_next) := goodIn_app (goodIn_of _ (by decide +kernel)) ggX3_read_X3_next
set_option maxRecDepth 20000 in
theorem gX3_read_X3_readsGate : GoodIn wsX3_read (wsV RX3 39 RX3 yX3_readsGate wsX3_readsGate) := goodIn_app (goodIn_of _ (by decide +kernel)) ggX3_read_X3_readsGate
set_option maxRecDepth 20000 in
theorem gX3_read_X3_readsUses : GoodIn wsX3_read (wsV RX3 46 RX3 yX3_readsUses wsX3_readsUses) := goodIn_app (goodIn_of _ (by decide +kernel)) ggX3_read_X3_readsUses
set_option maxRecDepth 20000 in
theorem gX3_read_X3_readsWish : GoodIn wsX3_read (wsV RX3 43 RX3 yX3_readsWish wsX3_readsWish) := goodIn_app (goodIn_of _ (by decide +kernel)) ggX3_read_X3_readsWish
set_option maxRecDepth 20000 in
theorem gX3_read_X4_empty : GoodIn wsX3_read (wsV RX3 31 RX4 yX4_empty wsX4_empty) := goodIn_app (goodIn_of _ (by decide +kernel)) ggX3_read_X4_empty
set_option maxHeartbeats 4000000 in
set_option maxRecDepth 100000 in
theorem c_X3_read (l : Launch) (D : va_G) (cy : Nat → ClassId) (K : (Nat → Nat) × (Nat → Nat)) (a_o a_o_text a_p1 a_p1_isTold a_p1_least a_p1_gateOff a_p1_limit a_p1_value a_p1_kind a_p1_most a_p1_wishOff a_p1_use : Nat) (r_p1_use : Nat → Nat) (sz : Nat)  {o_length : Int32} {o_at : Int32} {o_start : Int32} {o_token : Int32} {o_number : Int32} {o_text : Nat → Int32} {p1_wishes : Int32} {p1_isTold : Nat → Int32} {p1_least : Nat → Int32} {p1_gateOff : Nat → Int32} {p1_limit : Nat → Int32} {p1_value : Nat → Int32} {p1_kind : Nat → Int32} {p1_most : Nat → Int32} {p1_wishOff : Nat → Int32} {p1_use : Nat → Nat → Int32}  {post : Int32 → Int32 → Int32 → Int32 → Int32 → Int32 → (Nat → Int32) → (Nat → Int32) → (Nat → Int32) → (Nat → Int32) → (Nat → Int32) → (Nat → Int32) → (Nat → Int32) → (Nat → Int32) → (Nat → Nat → Int32) → Prop} (h : wp_X3_read o_length o_at o_start o_token o_number o_text p1_wishes p1_isTold p1_least p1_gateOff p1_limit p1_value p1_kind p1_most p1_wishOff p1_use post) : Met l yX3_read wsX3_read ({ frames := 9, cells := 0, slots := 0, locals := 194 }) (va_Pc [.ref a_o, .ref a_p1] (wIs D cy sz (w_X3_read cy a_o a_o_text a_p1 a_p1_isTold a_p1_least a_p1_gateOff a_p1_limit a_p1_value a_p1_kind a_p1_most a_p1_wishOff a_p1_use r_p1_use o_length o_at o_start o_token o_number o_text p1_wishes p1_isTold p1_least p1_gateOff p1_limit p1_value p1_kind p1_most p1_wishOff p1_use) K)) (va_Qi (fun (r : Int32) (u : Int32 × Int32 × Int32 × Int32 × Int32 × (Nat → Int32) × (Nat → Int32) × (Nat → Int32) × (Nat → Int32) × (Nat → Int32) × (Nat → Int32) × (Nat → Int32) × (Nat → Int32) × (Nat → Nat → Int32)) => post r u.1 u.2.1 u.2.2.1 u.2.2.2.1 u.2.2.2.2.1 u.2.2.2.2.2.1 u.2.2.2.2.2.2.1 u.2.2.2.2.2.2.2.1 u.2.2.2.2.2.2.2.2.1 u.2.2.2.2.2.2.2.2.2.1 u.2.2.2.2.2.2.2.2.2.2.1 u.2.2.2.2.2.2.2.2.2.2.2.1 u.2.2.2.2.2.2.2.2.2.2.2.2.1 u.2.2.2.2.2.2.2.2.2.2.2.2.2) (fun (u : Int32 × Int32 × Int32 × Int32 × Int32 × (Nat → Int32) × (Nat → Int32) × (Nat → Int32) × (Nat → Int32) × (Nat → Int32) × (Nat → Int32) × (Nat → Int32) × (Nat → Int32) × (Nat → Nat → Int32)) t => wO D cy (va_A (w_X3_read cy a_o a_o_text a_p1 a_p1_isTold a_p1_least a_p1_gateOff a_p1_limit a_p1_value a_p1_kind a_p1_most a_p1_wishOff a_p1_use r_p1_use o_length o_at o_start o_token o_number o_text p1_wishes p1_isTold p1_least p1_gateOff p1_limit p1_value p1_kind p1_most p1_wishOff p1_use) sz) (w_X3_read cy a_o a_o_text a_p1 a_p1_isTold a_p1_least a_p1_gateOff a_p1_limit a_p1_value a_p1_kind a_p1_most a_p1_wishOff a_p1_use r_p1_use o_length u.1 u.2.1 u.2.2.1 u.2.2.2.1 o_text u.2.2.2.2.1 u.2.2.2.2.2.1 u.2.2.2.2.2.2.1 u.2.2.2.2.2.2.2.1 u.2.2.2.2.2.2.2.2.1 u.2.2.2.2.2.2.2.2.2.1 u.2.2.2.2.2.2.2.2.2.2.1 u.2.2.2.2.2.2.2.2.2.2.2.1 u.2.2.2.2.2.2.2.2.2.2.2.2.1 u.2.2.2.2.2.2.2.2.2.2.2.2.2) t) (va_A (w_X3_read cy a_o a_o_text a_p1 a_p1_isTold a_p1_least a_p1_gateOff a_p1_limit a_p1_value a_p1_kind a_p1_most a_p1_wishOff a_p1_use r_p1_use o_length o_at o_start o_token o_number o_text p1_wishes p1_isTold p1_least p1_gateOff p1_limit p1_value p1_kind p1_most p1_wishOff p1_use) sz)) 0 0 (va_A (w_X3_read cy a_o a_o_text a_p1 a_p1_isTold a_p1_least a_p1_gateOff a_p1_limit a_p1_value a_p1_kind a_p1_most a_p1_wishOff a_p1_use r_p1_use o_length o_at o_start o_token o_number o_text p1_wishes p1_isTold p1_least p1_gateOff p1_limit p1_value p1_kind p1_most p1_wishOff p1_use) sz) := by
  refine contrIs (S := Int32 × Int32 × Int32 × Int32 × Int32 × (Nat → Int32) × (Nat → Int32) × (Nat → Int32) × (Nat → Int32) × (Nat → Int32) × (Nat → Int32) × (Nat → Int32) × (Nat → Int32) × (Nat → Nat → Int32)) (post := fun (r : Int32) (u : Int32 × Int32 × Int32 × Int32 × Int32 × (Nat → Int32) × (Nat → Int32) × (Nat → Int32) × (Nat → Int32) × (Nat → Int32) × (Nat → Int32) × (Nat → Int32) × (Nat → Int32) × (Nat → Nat → Int32)) => post r u.1 u.2.1 u.2.2.1 u.2.2.2.1 u.2.2.2.2.1 u.2.2.2.2.2.1 u.2.2.2.2.2.2.1 u.2.2.2.2.2.2.2.1 u.2.2.2.2.2.2.2.2.1 u.2.2.2.2.2.2.2.2.2.1 u.2.2.2.2.2.2.2.2.2.2.1 u.2.2.2.2.2.2.2.2.2.2.2.1 u.2.2.2.2.2.2.2.2.2.2.2.2.1 u.2.2.2.2.2.2.2.2.2.2.2.2.2) (wOut := fun (u : Int32 × Int32 × Int32 × Int32 × Int32 × (Nat → Int32) × (Nat → Int32) × (Nat → Int32) × (Nat → Int32) × (Nat → Int32) × (Nat → Int32) × (Nat → Int32) × (Nat → Int32) × (Nat → Nat → Int32)) => (w_X3_read cy a_o a_o_text a_p1 a_p1_isTold a_p1_least a_p1_gateOff a_p1_limit a_p1_value a_p1_kind a_p1_most a_p1_wishOff a_p1_use r_p1_use o_length u.1 u.2.1 u.2.2.1 u.2.2.2.1 o_text u.2.2.2.2.1 u.2.2.2.2.2.1 u.2.2.2.2.2.2.1 u.2.2.2.2.2.2.2.1 u.2.2.2.2.2.2.2.2.1 u.2.2.2.2.2.2.2.2.2.1 u.2.2.2.2.2.2.2.2.2.2.1 u.2.2.2.2.2.2.2.2.2.2.2.1 u.2.2.2.2.2.2.2.2.2.2.2.2.1 u.2.2.2.2.2.2.2.2.2.2.2.2.2)) (cc := cX3_read) (maxL := 4) (own := RX3) (by decide +kernel) rfl rfl ?_
  intro p e s m args below meth c A Q hx hb hml hown hts hK hN hP hD hS hA hSW hSR hret
  have in_X3 : ∀ w ∈ u_ws RX3 TX3 6, w ∈ wsX3_read := by decide +kernel
  have fl_19 := hts (.fieldLink RX3 19 "DawnTable$Reader" "at" "I") (by decide +kernel)
  have fl_25 := hts (.fieldLink RX3 25 "DawnTable$Reader" "token" "I") (by decide +kernel)
  have fl_15 := hts (.fieldLink RX3 15 "DawnTable$Reader" "length" "I") (by decide +kernel)
  have fl_22 := hts (.fieldLink RX3 22 "DawnTable$Reader" "start" "I") (by decide +kernel)
  have j_77_0 : ∀ (x2 : Int32) (s0 : Int32) (o_at : Int32) (o_start : Int32) (o_token : Int32) (o_number : Int32) (p1_wishes : Int32) (p1_isTold : Nat → Int32) (p1_least : Nat → Int32) (p1_gateOff : Nat → Int32) (p1_limit : Nat → Int32) (p1_value : Nat → Int32) (p1_kind : Nat → Int32) (p1_most : Nat → Int32) (p1_wishOff : Nat → Int32) (p1_use : Nat → Nat → Int32), ∀ (kb : Int32 → Int32 → Int32 → Int32 → Int32 → Int32 → (Nat → Int32) → (Nat → Int32) → (Nat → Int32) → (Nat → Int32) → (Nat → Int32) → (Nat → Int32) → (Nat → Int32) → (Nat → Int32) → (Nat → Nat → Int32) → Prop), (∀ (x2 : Int32) (o_at : Int32) (o_start : Int32) (o_token : Int32) (o_number : Int32) (p1_wishes : Int32) (p1_isTold : Nat → Int32) (p1_least : Nat → Int32) (p1_gateOff : Nat → Int32) (p1_limit : Nat → Int32) (p1_value : Nat → Int32) (p1_kind : Nat → Int32) (p1_most : Nat → Int32) (p1_wishOff : Nat → Int32) (p1_use : Nat → Nat → Int32), kb x2 o_at o_start o_token o_number p1_wishes p1_isTold p1_least p1_gateOff p1_limit p1_value p1_kind p1_most p1_wishOff p1_use → ∀ (H : Heap) (locs : List Loc), va_P D vwCl (w_X3_read cy a_o a_o_text a_p1 a_p1_isTold a_p1_least a_p1_gateOff a_p1_limit a_p1_value a_p1_kind a_p1_most a_p1_wishOff a_p1_use r_p1_use o_length o_at o_start o_token o_number o_text p1_wishes p1_isTold p1_least p1_gateOff p1_limit p1_value p1_kind p1_most p1_wishOff p1_use) H → va_D A (w_X3_read cy a_o a_o_text a_p1 a_p1_isTold a_p1_least a_p1_gateOff a_p1_limit a_p1_value a_p1_kind a_p1_most a_p1_wishOff a_p1_use r_p1_use o_length o_at o_start o_token o_number o_text p1_wishes p1_isTold p1_least p1_gateOff p1_limit p1_value p1_kind p1_most p1_wishOff p1_use) → va_S A s.heap H locs → ∀ (ls : Array Slot), lv_has ls 4 [(0, .ref a_o), (1, .ref a_p1), (2, .int x2)] → W p l e ({ frames := 9, cells := 0, slots := 0, locals := 194 }) s m args below meth c H locs 0 0 Q (F0 m 11 ls [])) → ∀ (kx0 : Int32 → Int32 → Int32 → Int32 → Int32 → (Nat → Int32) → (Nat → Int32) → (Nat → Int32) → (Nat → Int32) → (Nat → Int32) → (Nat → Int32) → (Nat → Int32) → (Nat → Int32) → (Nat → Nat → Int32) → Prop), (∀ (o_at : Int32) (o_start : Int32) (o_token : Int32) (o_number : Int32) (p1_wishes : Int32) (p1_isTold : Nat → Int32) (p1_least : Nat → Int32) (p1_gateOff : Nat → Int32) (p1_limit : Nat → Int32) (p1_value : Nat → Int32) (p1_kind : Nat → Int32) (p1_most : Nat → Int32) (p1_wishOff : Nat → Int32) (p1_use : Nat → Nat → Int32), kx0 o_at o_start o_token o_number p1_wishes p1_isTold p1_least p1_gateOff p1_limit p1_value p1_kind p1_most p1_wishOff p1_use → ∀ (H : Heap) (locs : List Loc), va_P D vwCl (w_X3_read cy a_o a_o_text a_p1 a_p1_isTold a_p1_least a_p1_gateOff a_p1_limit a_p1_value a_p1_kind a_p1_most a_p1_wishOff a_p1_use r_p1_use o_length o_at o_start o_token o_number o_text p1_wishes p1_isTold p1_least p1_gateOff p1_limit p1_value p1_kind p1_most p1_wishOff p1_use) H → va_D A (w_X3_read cy a_o a_o_text a_p1 a_p1_isTold a_p1_least a_p1_gateOff a_p1_limit a_p1_value a_p1_kind a_p1_most a_p1_wishOff a_p1_use r_p1_use o_length o_at o_start o_token o_number o_text p1_wishes p1_isTold p1_least p1_gateOff p1_limit p1_value p1_kind p1_most p1_wishOff p1_use) → va_S A s.heap H locs → ∀ (ls : Array Slot), lv_has ls 4 [(0, .ref a_o)] → W p l e ({ frames := 9, cells := 0, slots := 0, locals := 194 }) s m args below meth c H locs 0 0 Q (F0 m 96 ls [])) → ∀ (kx1 : Int32 → Int32 → Int32 → Int32 → Int32 → (Nat → Int32) → (Nat → Int32) → (Nat → Int32) → (Nat → Int32) → (Nat → Int32) → (Nat → Int32) → (Nat → Int32) → (Nat → Int32) → (Nat → Nat → Int32) → Prop), (∀ (o_at : Int32) (o_start : Int32) (o_token : Int32) (o_number : Int32) (p1_wishes : Int32) (p1_isTold : Nat → Int32) (p1_least : Nat → Int32) (p1_gateOff : Nat → Int32) (p1_limit : Nat → Int32) (p1_value : Nat → Int32) (p1_kind : Nat → Int32) (p1_most : Nat → Int32) (p1_wishOff : Nat → Int32) (p1_use : Nat → Nat → Int32), kx1 o_at o_start o_token o_number p1_wishes p1_isTold p1_least p1_gateOff p1_limit p1_value p1_kind p1_most p1_wishOff p1_use → ∀ (H : Heap) (locs : List Loc), va_P D vwCl (w_X3_read cy a_o a_o_text a_p1 a_p1_isTold a_p1_least a_p1_gateOff a_p1_limit a_p1_value a_p1_kind a_p1_most a_p1_wishOff a_p1_use r_p1_use o_length o_at o_start o_token o_number o_text p1_wishes p1_isTold p1_least p1_gateOff p1_limit p1_value p1_kind p1_most p1_wishOff p1_use) H → va_D A (w_X3_read cy a_o a_o_text a_p1 a_p1_isTold a_p1_least a_p1_gateOff a_p1_limit a_p1_value a_p1_kind a_p1_most a_p1_wishOff a_p1_use r_p1_use o_length o_at o_start o_token o_number o_text p1_wishes p1_isTold p1_least p1_gateOff p1_limit p1_value p1_kind p1_most p1_wishOff p1_use) → va_S A s.heap H locs → ∀ (ls : Array Slot), lv_has ls 4 [(0, .ref a_o)] → W p l e ({ frames := 9, cells := 0, slots := 0, locals := 194 }) s m args below meth c H locs 0 0 Q (F0 m 82 ls [])) → ∀ (kx2 : Int32 → Int32 → Int32 → Int32 → Int32 → Int32 → (Nat → Int32) → (Nat → Int32) → (Nat → Int32) → (Nat → Int32) → (Nat → Int32) → (Nat → Int32) → (Nat → Int32) → (Nat → Int32) → (Nat → Nat → Int32) → Prop), (∀ (x2 : Int32) (o_at : Int32) (o_start : Int32) (o_token : Int32) (o_number : Int32) (p1_wishes : Int32) (p1_isTold : Nat → Int32) (p1_least : Nat → Int32) (p1_gateOff : Nat → Int32) (p1_limit : Nat → Int32) (p1_value : Nat → Int32) (p1_kind : Nat → Int32) (p1_most : Nat → Int32) (p1_wishOff : Nat → Int32) (p1_use : Nat → Nat → Int32), kx2 x2 o_at o_start o_token o_number p1_wishes p1_isTold p1_least p1_gateOff p1_limit p1_value p1_kind p1_most p1_wishOff p1_use → ∀ (H : Heap) (locs : List Loc), va_P D vwCl (w_X3_read cy a_o a_o_text a_p1 a_p1_isTold a_p1_least a_p1_gateOff a_p1_limit a_p1_value a_p1_kind a_p1_most a_p1_wishOff a_p1_use r_p1_use o_length o_at o_start o_token o_number o_text p1_wishes p1_isTold p1_least p1_gateOff p1_limit p1_value p1_kind p1_most p1_wishOff p1_use) H → va_D A (w_X3_read cy a_o a_o_text a_p1 a_p1_isTold a_p1_least a_p1_gateOff a_p1_limit a_p1_value a_p1_kind a_p1_most a_p1_wishOff a_p1_use r_p1_use o_length o_at o_start o_token o_number o_text p1_wishes p1_isTold p1_least p1_gateOff p1_limit p1_value p1_kind p1_most p1_wishOff p1_use) → va_S A s.heap H locs → ∀ (ls : Array Slot), lv_has ls 4 [(2, .int x2)] → W p l e ({ frames := 9, cells := 0, slots := 0, locals := 194 }) s m args below meth c H locs 0 0 Q (F0 m 29 ls [])) → wj_X3_read_77  x2 s0 o_length o_at o_start o_token o_number o_text p1_wishes p1_isTold p1_least p1_gateOff p1_limit p1_value p1_kind p1_most p1_wishOff p1_use kb kx0 kx1 kx2 post → ∀ (H : Heap) (locs : List Loc), va_P D vwCl (w_X3_read cy a_o a_o_text a_p1 a_p1_isTold a_p1_least a_p1_gateOff a_p1_limit a_p1_value a_p1_kind a_p1_most a_p1_wishOff a_p1_use r_p1_use o_length o_at o_start o_token o_number o_text p1_wishes p1_isTold p1_least p1_gateOff p1_limit p1_value p1_kind p1_most p1_wishOff p1_use) H → va_D A (w_X3_read cy a_o a_o_text a_p1 a_p1_isTold a_p1_least a_p1_gateOff a_p1_limit a_p1_value a_p1_kind a_p1_most a_p1_wishOff a_p1_use r_p1_use o_length o_at o_start o_token o_number o_text p1_wishes p1_isTold p1_least p1_gateOff p1_limit p1_value p1_kind p1_most p1_wishOff p1_use) → va_S A s.heap H locs → ∀ (ls : Array Slot), lv_has ls 4 [(0, .ref a_o), (1, .ref a_p1), (2, .int x2)] → W p l e ({ frames := 9, cells := 0, slots := 0, locals := 194 }) s m args below meth c H locs 0 0 Q (F0 m 77 ls [.int s0]) := by
    intro x2 s0 o_at o_start o_token o_number p1_wishes p1_isTold p1_least p1_gateOff p1_limit p1_value p1_kind p1_most p1_wishOff p1_use kb hkb kx0 hkx0 kx1 hkx1 kx2 hkx2  h H locs hP hD hS ls hl
    unfold wj_X3_read_77 at h
    refine lv_istore_n (lv' := [(3, .int s0), (0, .ref a_o), (1, .ref a_p1), (2, .int x2)]) hx hb dX3_read_77 rfl hl (by decide) rfl (fun ls hl => ?_)
    refine lv_iload_n hx hb dX3_read_78 rfl (lv_at hl 0 rfl) ?_
    refine lv_if_ne (tgt := 90) hx hb dX3_read_79 (by decide) (fun c12 => ?_) (fun c12 => ?_)
    · have h := h.2 c12
      refine lv_iinc (v := (x2 + (1 : Int32))) (lv' := [(2, .int (x2 + (1 : Int32))), (3, .int s0), (0, .ref a_o), (1, .ref a_p1)]) hx hb dX3_read_90 hl (k := 3) rfl (congrArg (fun z => x2 + z) (by decide : Int32.ofInt (1) = (1 : Int32))) (by decide) rfl (fun ls hl => ?_)
      refine lv_goto (tgt := 11) hx hb dX3_read_93 (by decide) ?_
      exact hkb (x2 + (1 : Int32)) o_at o_start o_token o_number p1_wishes p1_isTold p1_least p1_gateOff p1_limit p1_value p1_kind p1_most p1_wishOff p1_use h _ _ hP hD hS _ (lv_sub hl [2, 3, 0] rfl)
    · have h := h.1 c12
      exact hkx1 o_at o_start o_token o_number p1_wishes p1_isTold p1_least p1_gateOff p1_limit p1_value p1_kind p1_most p1_wishOff p1_use h _ _ hP hD hS _ (lv_sub hl [1] rfl)
  have l_11 : ∀ (kx0 : Int32 → Int32 → Int32 → Int32 → Int32 → (Nat → Int32) → (Nat → Int32) → (Nat → Int32) → (Nat → Int32) → (Nat → Int32) → (Nat → Int32) → (Nat → Int32) → (Nat → Int32) → (Nat → Nat → Int32) → Prop), (∀ (o_at : Int32) (o_start : Int32) (o_token : Int32) (o_number : Int32) (p1_wishes : Int32) (p1_isTold : Nat → Int32) (p1_least : Nat → Int32) (p1_gateOff : Nat → Int32) (p1_limit : Nat → Int32) (p1_value : Nat → Int32) (p1_kind : Nat → Int32) (p1_most : Nat → Int32) (p1_wishOff : Nat → Int32) (p1_use : Nat → Nat → Int32), kx0 o_at o_start o_token o_number p1_wishes p1_isTold p1_least p1_gateOff p1_limit p1_value p1_kind p1_most p1_wishOff p1_use → ∀ (H : Heap) (locs : List Loc), va_P D vwCl (w_X3_read cy a_o a_o_text a_p1 a_p1_isTold a_p1_least a_p1_gateOff a_p1_limit a_p1_value a_p1_kind a_p1_most a_p1_wishOff a_p1_use r_p1_use o_length o_at o_start o_token o_number o_text p1_wishes p1_isTold p1_least p1_gateOff p1_limit p1_value p1_kind p1_most p1_wishOff p1_use) H → va_D A (w_X3_read cy a_o a_o_text a_p1 a_p1_isTold a_p1_least a_p1_gateOff a_p1_limit a_p1_value a_p1_kind a_p1_most a_p1_wishOff a_p1_use r_p1_use o_length o_at o_start o_token o_number o_text p1_wishes p1_isTold p1_least p1_gateOff p1_limit p1_value p1_kind p1_most p1_wishOff p1_use) → va_S A s.heap H locs → ∀ (ls : Array Slot), lv_has ls 4 [(0, .ref a_o)] → W p l e ({ frames := 9, cells := 0, slots := 0, locals := 194 }) s m args below meth c H locs 0 0 Q (F0 m 96 ls [])) → ∀ (kx1 : Int32 → Int32 → Int32 → Int32 → Int32 → (Nat → Int32) → (Nat → Int32) → (Nat → Int32) → (Nat → Int32) → (Nat → Int32) → (Nat → Int32) → (Nat → Int32) → (Nat → Int32) → (Nat → Nat → Int32) → Prop), (∀ (o_at : Int32) (o_start : Int32) (o_token : Int32) (o_number : Int32) (p1_wishes : Int32) (p1_isTold : Nat → Int32) (p1_least : Nat → Int32) (p1_gateOff : Nat → Int32) (p1_limit : Nat → Int32) (p1_value : Nat → Int32) (p1_kind : Nat → Int32) (p1_most : Nat → Int32) (p1_wishOff : Nat → Int32) (p1_use : Nat → Nat → Int32), kx1 o_at o_start o_token o_number p1_wishes p1_isTold p1_least p1_gateOff p1_limit p1_value p1_kind p1_most p1_wishOff p1_use → ∀ (H : Heap) (locs : List Loc), va_P D vwCl (w_X3_read cy a_o a_o_text a_p1 a_p1_isTold a_p1_least a_p1_gateOff a_p1_limit a_p1_value a_p1_kind a_p1_most a_p1_wishOff a_p1_use r_p1_use o_length o_at o_start o_token o_number o_text p1_wishes p1_isTold p1_least p1_gateOff p1_limit p1_value p1_kind p1_most p1_wishOff p1_use) H → va_D A (w_X3_read cy a_o a_o_text a_p1 a_p1_isTold a_p1_least a_p1_gateOff a_p1_limit a_p1_value a_p1_kind a_p1_most a_p1_wishOff a_p1_use r_p1_use o_length o_at o_start o_token o_number o_text p1_wishes p1_isTold p1_least p1_gateOff p1_limit p1_value p1_kind p1_most p1_wishOff p1_use) → va_S A s.heap H locs → ∀ (ls : Array Slot), lv_has ls 4 [(0, .ref a_o)] → W p l e ({ frames := 9, cells := 0, slots := 0, locals := 194 }) s m args below meth c H locs 0 0 Q (F0 m 82 ls [])) → ∀ (kx2 : Int32 → Int32 → Int32 → Int32 → Int32 → Int32 → (Nat → Int32) → (Nat → Int32) → (Nat → Int32) → (Nat → Int32) → (Nat → Int32) → (Nat → Int32) → (Nat → Int32) → (Nat → Int32) → (Nat → Nat → Int32) → Prop), (∀ (x2 : Int32) (o_at : Int32) (o_start : Int32) (o_token : Int32) (o_number : Int32) (p1_wishes : Int32) (p1_isTold : Nat → Int32) (p1_least : Nat → Int32) (p1_gateOff : Nat → Int32) (p1_limit : Nat → Int32) (p1_value : Nat → Int32) (p1_kind : Nat → Int32) (p1_most : Nat → Int32) (p1_wishOff : Nat → Int32) (p1_use : Nat → Nat → Int32), kx2 x2 o_at o_start o_token o_number p1_wishes p1_isTold p1_least p1_gateOff p1_limit p1_value p1_kind p1_most p1_wishOff p1_use → ∀ (H : Heap) (locs : List Loc), va_P D vwCl (w_X3_read cy a_o a_o_text a_p1 a_p1_isTold a_p1_least a_p1_gateOff a_p1_limit a_p1_value a_p1_kind a_p1_most a_p1_wishOff a_p1_use r_p1_use o_length o_at o_start o_token o_number o_text p1_wishes p1_isTold p1_least p1_gateOff p1_limit p1_value p1_kind p1_most p1_wishOff p1_use) H → va_D A (w_X3_read cy a_o a_o_text a_p1 a_p1_isTold a_p1_least a_p1_gateOff a_p1_limit a_p1_value a_p1_kind a_p1_most a_p1_wishOff a_p1_use r_p1_use o_length o_at o_start o_token o_number o_text p1_wishes p1_isTold p1_least p1_gateOff p1_limit p1_value p1_kind p1_most p1_wishOff p1_use) → va_S A s.heap H locs → ∀ (ls : Array Slot), lv_has ls 4 [(2, .int x2)] → W p l e ({ frames := 9, cells := 0, slots := 0, locals := 194 }) s m args below meth c H locs 0 0 Q (F0 m 29 ls [])) → ∀ (n : Nat) (x2 : Int32) (o_at : Int32) (o_start : Int32) (o_token : Int32) (o_number : Int32) (p1_wishes : Int32) (p1_isTold : Nat → Int32) (p1_least : Nat → Int32) (p1_gateOff : Nat → Int32) (p1_limit : Nat → Int32) (p1_value : Nat → Int32) (p1_kind : Nat → Int32) (p1_most : Nat → Int32) (p1_wishOff : Nat → Int32) (p1_use : Nat → Nat → Int32), wl_X3_read_11 o_length o_text kx0 kx1 kx2 post n x2 o_at o_start o_token o_number p1_wishes p1_isTold p1_least p1_gateOff p1_limit p1_value p1_kind p1_most p1_wishOff p1_use → ∀ (H : Heap) (locs : List Loc), va_P D vwCl (w_X3_read cy a_o a_o_text a_p1 a_p1_isTold a_p1_least a_p1_gateOff a_p1_limit a_p1_value a_p1_kind a_p1_most a_p1_wishOff a_p1_use r_p1_use o_length o_at o_start o_token o_number o_text p1_wishes p1_isTold p1_least p1_gateOff p1_limit p1_value p1_kind p1_most p1_wishOff p1_use) H → va_D A (w_X3_read cy a_o a_o_text a_p1 a_p1_isTold a_p1_least a_p1_gateOff a_p1_limit a_p1_value a_p1_kind a_p1_most a_p1_wishOff a_p1_use r_p1_use o_length o_at o_start o_token o_number o_text p1_wishes p1_isTold p1_least p1_gateOff p1_limit p1_value p1_kind p1_most p1_wishOff p1_use) → va_S A s.heap H locs → ∀ (ls : Array Slot), lv_has ls 4 [(0, .ref a_o), (1, .ref a_p1), (2, .int x2)] → W p l e ({ frames := 9, cells := 0, slots := 0, locals := 194 }) s m args below meth c H locs 0 0 Q (F0 m 11 ls []) := by
    intro  kx0 hkx0 kx1 hkx1 kx2 hkx2  n
    induction n with
    | zero => intro x2 o_at o_start o_token o_number p1_wishes p1_isTold p1_least p1_gateOff p1_limit p1_value p1_kind p1_most p1_wishOff p1_use h; exact h.elim
    | succ n hkb =>
      intro x2 o_at o_start o_token o_number p1_wishes p1_isTold p1_least p1_gateOff p1_limit p1_value p1_kind p1_most p1_wishOff p1_use h H locs hP hD hS ls hl
      replace h : ws_X3_read_11 o_length o_text (wl_X3_read_11 o_length o_text kx0 kx1 kx2 post n) kx0 kx1 kx2 post x2 o_at o_start o_token o_number p1_wishes p1_isTold p1_least p1_gateOff p1_limit p1_value p1_kind p1_most p1_wishOff p1_use := h
      generalize wl_X3_read_11 o_length o_text kx0 kx1 kx2 post n = kb at h hkb
      unfold ws_X3_read_11 at h
      refine lv_iload_n hx hb dX3_read_11 rfl (lv_at hl 2 rfl) ?_
      refine lv_sipush (v := 300) hx hb dX3_read_12 (by decide) ?_
      refine lv_icmp_gt (tgt := 96) hx hb dX3_read_15 (by decide) (fun c4 => ?_) (fun c4 => ?_)
      · have h := h.1 c4
        exact hkx0 o_at o_start o_token o_number p1_wishes p1_isTold p1_least p1_gateOff p1_limit p1_value p1_kind p1_most p1_wishOff p1_use h _ _ hP hD hS _ (lv_sub hl [0] rfl)
      · have h := h.2 c4
        refine lv_aload_n hx hb dX3_read_18 rfl (lv_at hl 0 rfl) ?_
        have hC : ([0, 1] : List Nat).map (fun i => ((w_X3_read cy a_o a_o_text a_p1 a_p1_isTold a_p1_least a_p1_gateOff a_p1_limit a_p1_value a_p1_kind a_p1_most a_p1_wishOff a_p1_use r_p1_use o_length o_at o_start o_token o_number o_text p1_wishes p1_isTold p1_least p1_gateOff p1_limit p1_value p1_kind p1_most p1_wishOff p1_use) : va_W)[i]?) = ((w_X3_next cy a_o a_o_text o_length o_at o_start o_token o_number o_text) : va_W).map some := rfl
        obtain ⟨hPc, hDc⟩ := cutC hP hD [0, 1] (by decide) hC
        have hFc := va_free hD hS hA [0, 1] hC
        refine va_callv (va_runV (As := []) (rest := []) ⟨hx, hb, hml, hown, hts⟩ (c_X3_next l D cy K a_o a_o_text _ h) (cwV 0 hts gX3_read_X3_next rfl rfl rfl (by decide +kernel) ⟨Nat.le_of_ble_eq_true rfl, Nat.le_of_ble_eq_true rfl⟩) (preVs hPc hDc hK hN hSW hSR hS hFc (ci := 3) (q0 := 0) rfl rfl) rfl rfl hl.1 rfl (lv_room (Nat.le_of_ble_eq_true rfl)) dX3_read_19 ⟨Nat.zero_le _, Nat.zero_le _⟩) hS (fun q _ h => hFc q h) hFc (fun u t H1 locs ht hvm h hB hz1 hk1 hS => ?_)
        obtain ⟨u5, u6, u7, u8⟩ := u
        try dsimp only at h hB
        obtain ⟨hP, hD⟩ := joinU (wd := (w_X3_read cy a_o a_o_text a_p1 a_p1_isTold a_p1_least a_p1_gateOff a_p1_limit a_p1_value a_p1_kind a_p1_most a_p1_wishOff a_p1_use r_p1_use o_length u5 u6 u7 u8 o_text p1_wishes p1_isTold p1_least p1_gateOff p1_limit p1_value p1_kind p1_most p1_wishOff p1_use)) (wr := [(a_p1, .inr (4, [.ref a_p1_isTold, .ref a_p1_least, .ref a_p1_gateOff, .ref a_p1_limit, .ref a_p1_value, .ref a_p1_kind, .ref a_p1_most, .ref a_p1_wishOff, .ref a_p1_use, .int p1_wishes])), (a_p1_isTold, .inl (cy 3, 5, .inl p1_isTold)), (a_p1_least, .inl (cy 3, 5, .inl p1_least)), (a_p1_gateOff, .inl (cy 3, 5, .inl p1_gateOff)), (a_p1_limit, .inl (cy 1, 5, .inl p1_limit)), (a_p1_value, .inl (cy 1, 4, .inl p1_value)), (a_p1_kind, .inl (cy 1, 4, .inl p1_kind)), (a_p1_most, .inl (cy 1, 4, .inl p1_most)), (a_p1_wishOff, .inl (cy 3, 4, .inl p1_wishOff)), (a_p1_use, .inl (cy 4, 4, .inr (.inr (.inr (.inr (mref r_p1_use 4)))))), (r_p1_use 0, rowI (cy 1) 5 p1_use 0), (r_p1_use 1, rowI (cy 1) 5 p1_use 1), (r_p1_use 2, rowI (cy 1) 5 p1_use 2), (r_p1_use 3, rowI (cy 1) 5 p1_use 3)]) hP hD [0, 1] [2, 3, 4, 5, 6, 7, 8, 9, 10, 11, 12, 13, 14, 15] [a_o, a_o_text] hC hk1 ht hB rfl rfl rfl (N := 16) rfl (by decide) rfl rfl
        generalize H1 = H at hP hS ⊢
        refine lv_aload_n hx hb dX3_read_22 rfl (lv_at hl 0 rfl) ?_
        refine va_get (D := D) (ci := 3) (v := .int u7) (C := RX3) (T := TX3) (N := 6) hx hb hts in_X3 hown hK hP 0 rfl rfl 4 (by decide) fl_25 (fun _ h9 => h9) rfl dX3_read_23 ?_
        refine lv_if_ne (tgt := 31) hx hb dX3_read_26 (by decide) (fun c9 => ?_) (fun c9 => ?_)
        · have h := h.2 c9
          refine lv_aload_n hx hb dX3_read_31 rfl (lv_at hl 0 rfl) ?_
          refine va_get (D := D) (ci := 3) (v := .int u7) (C := RX3) (T := TX3) (N := 6) hx hb hts in_X3 hown hK hP 0 rfl rfl 4 (by decide) fl_25 (fun _ h9 => h9) rfl dX3_read_32 ?_
          refine lv_iconst (v := 5) hx hb dX3_read_35 (by decide) ?_
          refine lv_icmp_ne (tgt := 47) hx hb dX3_read_36 (by decide) (fun c10 => ?_) (fun c10 => ?_)
          · have h := h.2 c10
            refine lv_aload_n hx hb dX3_read_47 rfl (lv_at hl 0 rfl) ?_
            refine va_get (D := D) (ci := 3) (v := .int u7) (C := RX3) (T := TX3) (N := 6) hx hb hts in_X3 hown hK hP 0 rfl rfl 4 (by decide) fl_25 (fun _ h9 => h9) rfl dX3_read_48 ?_
            refine lv_bipush (v := 6) hx hb dX3_read_51 (by decide) ?_
            refine lv_icmp_ne (tgt := 76) hx hb dX3_read_53 (by decide) (fun c11 => ?_) (fun c11 => ?_)
            · have h := h.2 c11
              refine lv_iconst (v := 0) hx hb dX3_read_76 (by decide) ?_
              exact j_77_0 x2 (0 : Int32) u5 u6 u7 u8 p1_wishes p1_isTold p1_least p1_gateOff p1_limit p1_value p1_kind p1_most p1_wishOff p1_use kb hkb kx0 hkx0 kx1 hkx1 kx2 hkx2 h _ _ hP hD hS _ (lv_sub hl [0, 1, 2] rfl)
            · have h := h.1 c11
              refine lv_aload_n hx hb dX3_read_56 rfl (lv_at hl 0 rfl) ?_
              refine lv_aload_n hx hb dX3_read_57 rfl (lv_at hl 1 rfl) ?_
              have hC : ([0, 1, 2, 7, 8, 9, 10, 11, 12, 13, 14, 15] : List Nat).map (fun i => ((w_X3_read cy a_o a_o_text a_p1 a_p1_isTold a_p1_least a_p1_gateOff a_p1_limit a_p1_value a_p1_kind a_p1_most a_p1_wishOff a_p1_use r_p1_use o_length u5 u6 u7 u8 o_text p1_wishes p1_isTold p1_least p1_gateOff p1_limit p1_value p1_kind p1_most p1_wishOff p1_use) : va_W)[i]?) = ((w_X3_readsWish cy a_o a_o_text a_p1 a_p1_isTold a_p1_least a_p1_gateOff a_p1_limit a_p1_value a_p1_kind a_p1_most a_p1_wishOff a_p1_use r_p1_use o_length u5 u6 u7 u8 o_text p1_wishes p1_value p1_kind p1_most p1_wishOff p1_use) : va_W).map some := rfl
              obtain ⟨hPc, hDc⟩ := cutC hP hD [0, 1, 2, 7, 8, 9, 10, 11, 12, 13, 14, 15] (by decide) hC
              have hFc := va_free hD hS hA [0, 1, 2, 7, 8, 9, 10, 11, 12, 13, 14, 15] hC
              refine va_calli (va_runV (As := [.ref a_p1]) (rest := []) ⟨hx, hb, hml, hown, hts⟩ (c_X3_readsWish l D cy K a_o a_o_text a_p1 a_p1_isTold a_p1_least a_p1_gateOff a_p1_limit a_p1_value a_p1_kind a_p1_most a_p1_wishOff a_p1_use r_p1_use _ h) (cwV 1 hts gX3_read_X3_readsWish rfl rfl rfl (by decide +kernel) ⟨Nat.le_of_ble_eq_true rfl, Nat.le_of_ble_eq_true rfl⟩) (preVs hPc hDc hK hN hSW hSR hS hFc (ci := 3) (q0 := 0) rfl rfl) rfl rfl hl.1 rfl (lv_room (Nat.le_of_ble_eq_true rfl)) dX3_read_58 ⟨Nat.zero_le _, Nat.zero_le _⟩) hS (fun q _ h => hFc q h) hFc (fun r23 u t H1 locs ht hvm h hB hz1 hk1 hS => ?_)
              obtain ⟨u13, u14, u15, u16, u17, u18, u19, u20, u21, u22⟩ := u
              try dsimp only at h hB
              obtain ⟨hP, hD⟩ := joinU (wd := (w_X3_read cy a_o a_o_text a_p1 a_p1_isTold a_p1_least a_p1_gateOff a_p1_limit a_p1_value a_p1_kind a_p1_most a_p1_wishOff a_p1_use r_p1_use o_length u13 u14 u15 u16 o_text u17 p1_isTold p1_least p1_gateOff p1_limit u18 u19 u20 u21 u22)) (wr := [(a_p1_isTold, .inl (cy 3, 5, .inl p1_isTold)), (a_p1_least, .inl (cy 3, 5, .inl p1_least)), (a_p1_gateOff, .inl (cy 3, 5, .inl p1_gateOff)), (a_p1_limit, .inl (cy 1, 5, .inl p1_limit))]) hP hD [0, 1, 2, 7, 8, 9, 10, 11, 12, 13, 14, 15] [3, 4, 5, 6] [a_o, a_o_text, a_p1, a_p1_value, a_p1_kind, a_p1_most, a_p1_wishOff, a_p1_use, r_p1_use 0, r_p1_use 1, r_p1_use 2, r_p1_use 3] hC hk1 ht hB rfl rfl rfl (N := 16) rfl (by decide) rfl rfl
              generalize H1 = H at hP hS ⊢
              refine lv_if_eq (tgt := 76) hx hb dX3_read_61 (by decide) (fun c24 => ?_) (fun c24 => ?_)
              · have h := h.1 c24
                refine lv_iconst (v := 0) hx hb dX3_read_76 (by decide) ?_
                exact j_77_0 x2 (0 : Int32) u13 u14 u15 u16 u17 p1_isTold p1_least p1_gateOff p1_limit u18 u19 u20 u21 u22 kb hkb kx0 hkx0 kx1 hkx1 kx2 hkx2 h _ _ hP hD hS _ (lv_sub hl [0, 1, 2] rfl)
              · have h := h.2 c24
                refine lv_aload_n hx hb dX3_read_64 rfl (lv_at hl 0 rfl) ?_
                refine lv_aload_n hx hb dX3_read_65 rfl (lv_at hl 1 rfl) ?_
                have hC : ([0, 1, 2, 3, 11, 12, 13, 14, 15] : List Nat).map (fun i => ((w_X3_read cy a_o a_o_text a_p1 a_p1_isTold a_p1_least a_p1_gateOff a_p1_limit a_p1_value a_p1_kind a_p1_most a_p1_wishOff a_p1_use r_p1_use o_length u13 u14 u15 u16 o_text u17 p1_isTold p1_least p1_gateOff p1_limit u18 u19 u20 u21 u22) : va_W)[i]?) = ((w_X3_readsUses cy a_o a_o_text a_p1 a_p1_isTold a_p1_least a_p1_gateOff a_p1_limit a_p1_value a_p1_kind a_p1_most a_p1_wishOff a_p1_use r_p1_use o_length u13 u14 u15 u16 o_text u17 p1_isTold u22) : va_W).map some := rfl
                obtain ⟨hPc, hDc⟩ := cutC hP hD [0, 1, 2, 3, 11, 12, 13, 14, 15] (by decide) hC
                have hFc := va_free hD hS hA [0, 1, 2, 3, 11, 12, 13, 14, 15] hC
                refine va_calli (va_runV (As := [.ref a_p1]) (rest := []) ⟨hx, hb, hml, hown, hts⟩ (c_X3_readsUses l D cy K a_o a_o_text a_p1 a_p1_isTold a_p1_least a_p1_gateOff a_p1_limit a_p1_value a_p1_kind a_p1_most a_p1_wishOff a_p1_use r_p1_use _ h) (cwV 1 hts gX3_read_X3_readsUses rfl rfl rfl (by decide +kernel) ⟨Nat.le_of_ble_eq_true rfl, Nat.le_of_ble_eq_true rfl⟩) (preVs hPc hDc hK hN hSW hSR hS hFc (ci := 3) (q0 := 0) rfl rfl) rfl rfl hl.1 rfl (lv_room (Nat.le_of_ble_eq_true rfl)) dX3_read_66 ⟨Nat.zero_le _, Nat.zero_le _⟩) hS (fun q _ h => hFc q h) hFc (fun r30 u t H1 locs ht hvm h hB hz1 hk1 hS => ?_)
                obtain ⟨u25, u26, u27, u28, u29⟩ := u
                try dsimp only at h hB
                obtain ⟨hP, hD⟩ := joinU (wd := (w_X3_read cy a_o a_o_text a_p1 a_p1_isTold a_p1_least a_p1_gateOff a_p1_limit a_p1_value a_p1_kind a_p1_most a_p1_wishOff a_p1_use r_p1_use o_length u25 u26 u27 u28 o_text u17 p1_isTold p1_least p1_gateOff p1_limit u18 u19 u20 u21 u29)) (wr := [(a_p1_least, .inl (cy 3, 5, .inl p1_least)), (a_p1_gateOff, .inl (cy 3, 5, .inl p1_gateOff)), (a_p1_limit, .inl (cy 1, 5, .inl p1_limit)), (a_p1_value, .inl (cy 1, 4, .inl u18)), (a_p1_kind, .inl (cy 1, 4, .inl u19)), (a_p1_most, .inl (cy 1, 4, .inl u20)), (a_p1_wishOff, .inl (cy 3, 4, .inl u21))]) hP hD [0, 1, 2, 3, 11, 12, 13, 14, 15] [4, 5, 6, 7, 8, 9, 10] [a_o, a_o_text, a_p1, a_p1_isTold, a_p1_use, r_p1_use 0, r_p1_use 1, r_p1_use 2, r_p1_use 3] hC hk1 ht hB rfl rfl rfl (N := 16) rfl (by decide) rfl rfl
                generalize H1 = H at hP hS ⊢
                refine lv_if_eq (tgt := 76) hx hb dX3_read_69 (by decide) (fun c31 => ?_) (fun c31 => ?_)
                · have h := h.1 c31
                  refine lv_iconst (v := 0) hx hb dX3_read_76 (by decide) ?_
                  exact j_77_0 x2 (0 : Int32) u25 u26 u27 u28 u17 p1_isTold p1_least p1_gateOff p1_limit u18 u19 u20 u21 u29 kb hkb kx0 hkx0 kx1 hkx1 kx2 hkx2 h _ _ hP hD hS _ (lv_sub hl [0, 1, 2] rfl)
                · have h := h.2 c31
                  refine lv_iconst (v := 1) hx hb dX3_read_72 (by decide) ?_
                  refine lv_goto (tgt := 77) hx hb dX3_read_73 (by decide) ?_
                  exact j_77_0 x2 (1 : Int32) u25 u26 u27 u28 u17 p1_isTold p1_least p1_gateOff p1_limit u18 u19 u20 u21 u29 kb hkb kx0 hkx0 kx1 hkx1 kx2 hkx2 h _ _ hP hD hS _ (lv_sub hl [0, 1, 2] rfl)
          · have h := h.1 c10
            refine lv_aload_n hx hb dX3_read_39 rfl (lv_at hl 0 rfl) ?_
            refine lv_aload_n hx hb dX3_read_40 rfl (lv_at hl 1 rfl) ?_
            have hC : ([0, 1, 2, 3, 4, 5, 6] : List Nat).map (fun i => ((w_X3_read cy a_o a_o_text a_p1 a_p1_isTold a_p1_least a_p1_gateOff a_p1_limit a_p1_value a_p1_kind a_p1_most a_p1_wishOff a_p1_use r_p1_use o_length u5 u6 u7 u8 o_text p1_wishes p1_isTold p1_least p1_gateOff p1_limit p1_value p1_kind p1_most p1_wishOff p1_use) : va_W)[i]?) = ((w_X3_readsGate cy a_o a_o_text a_p1 a_p1_isTold a_p1_least a_p1_gateOff a_p1_limit a_p1_value a_p1_kind a_p1_most a_p1_wishOff a_p1_use o_length u5 u6 u7 u8 o_text p1_wishes p1_isTold p1_least p1_gateOff p1_limit) : va_W).map some := rfl
            obtain ⟨hPc, hDc⟩ := cutC hP hD [0, 1, 2, 3, 4, 5, 6] (by decide) hC
            have hFc := va_free hD hS hA [0, 1, 2, 3, 4, 5, 6] hC
            refine va_calli (va_runV (As := [.ref a_p1]) (rest := []) ⟨hx, hb, hml, hown, hts⟩ (c_X3_readsGate l D cy K a_o a_o_text a_p1 a_p1_isTold a_p1_least a_p1_gateOff a_p1_limit a_p1_value a_p1_kind a_p1_most a_p1_wishOff a_p1_use _ h) (cwV 1 hts gX3_read_X3_readsGate rfl rfl rfl (by decide +kernel) ⟨Nat.le_of_ble_eq_true rfl, Nat.le_of_ble_eq_true rfl⟩) (preVs hPc hDc hK hN hSW hSR hS hFc (ci := 3) (q0 := 0) rfl rfl) rfl rfl hl.1 rfl (lv_room (Nat.le_of_ble_eq_true rfl)) dX3_read_41 ⟨Nat.zero_le _, Nat.zero_le _⟩) hS (fun q _ h => hFc q h) hFc (fun r40 u t H1 locs ht hvm h hB hz1 hk1 hS => ?_)
            obtain ⟨u32, u33, u34, u35, u36, u37, u38, u39⟩ := u
            try dsimp only at h hB
            obtain ⟨hP, hD⟩ := joinU (wd := (w_X3_read cy a_o a_o_text a_p1 a_p1_isTold a_p1_least a_p1_gateOff a_p1_limit a_p1_value a_p1_kind a_p1_most a_p1_wishOff a_p1_use r_p1_use o_length u32 u33 u34 u35 o_text p1_wishes u36 u37 u38 u39 p1_value p1_kind p1_most p1_wishOff p1_use)) (wr := [(a_p1_value, .inl (cy 1, 4, .inl p1_value)), (a_p1_kind, .inl (cy 1, 4, .inl p1_kind)), (a_p1_most, .inl (cy 1, 4, .inl p1_most)), (a_p1_wishOff, .inl (cy 3, 4, .inl p1_wishOff)), (a_p1_use, .inl (cy 4, 4, .inr (.inr (.inr (.inr (mref r_p1_use 4)))))), (r_p1_use 0, rowI (cy 1) 5 p1_use 0), (r_p1_use 1, rowI (cy 1) 5 p1_use 1), (r_p1_use 2, rowI (cy 1) 5 p1_use 2), (r_p1_use 3, rowI (cy 1) 5 p1_use 3)]) hP hD [0, 1, 2, 3, 4, 5, 6] [7, 8, 9, 10, 11, 12, 13, 14, 15] [a_o, a_o_text, a_p1, a_p1_isTold, a_p1_least, a_p1_gateOff, a_p1_limit] hC hk1 ht hB rfl rfl rfl (N := 16) rfl (by decide) rfl rfl
            generalize H1 = H at hP hS ⊢
            refine lv_goto (tgt := 77) hx hb dX3_read_44 (by decide) ?_
            exact j_77_0 x2 r40 u32 u33 u34 u35 p1_wishes u36 u37 u38 u39 p1_value p1_kind p1_most p1_wishOff p1_use kb hkb kx0 hkx0 kx1 hkx1 kx2 hkx2 h _ _ hP hD hS _ (lv_sub hl [0, 1, 2] rfl)
        · have h := h.1 c9
          exact hkx2 x2 u5 u6 u7 u8 p1_wishes p1_isTold p1_least p1_gateOff p1_limit p1_value p1_kind p1_most p1_wishOff p1_use h _ _ hP hD hS _ (lv_sub hl [2] rfl)
  refine ent [.ref a_o, .ref a_p1] (Nat.le_of_ble_eq_true rfl) (fun ls hl => ?_)
  have hl : lv_has ls 4 [(0, .ref a_o), (1, .ref a_p1)] := hl
  unfold wp_X3_read at h
  refine lv_aload_n hx hb dX3_read_0 rfl (lv_at hl 1 rfl) ?_
  have hC : ([2, 3, 5] : List Nat).map (fun i => ((w_X3_read cy a_o a_o_text a_p1 a_p1_isTold a_p1_least a_p1_gateOff a_p1_limit a_p1_value a_p1_kind a_p1_most a_p1_wishOff a_p1_use r_p1_use o_length o_at o_start o_token o_number o_text p1_wishes p1_isTold p1_least p1_gateOff p1_limit p1_value p1_kind p1_most p1_wishOff p1_use) : va_W)[i]?) = ((w_X4_empty cy a_p1 a_p1_isTold a_p1_least a_p1_gateOff a_p1_limit a_p1_value a_p1_kind a_p1_most a_p1_wishOff a_p1_use p1_wishes p1_isTold p1_gateOff) : va_W).map some := rfl
  obtain ⟨hPc, hDc⟩ := cutC hP hD [2, 3, 5] (by decide) hC
  have hFc := va_free hD hS hA [2, 3, 5] hC
  refine va_callv (va_runV (As := []) (rest := []) ⟨hx, hb, hml, hown, hts⟩ (c_X4_empty l D cy a_p1 a_p1_isTold a_p1_least a_p1_gateOff a_p1_limit a_p1_value a_p1_kind a_p1_most a_p1_wishOff a_p1_use _ h) (cwV 0 hts gX3_read_X4_empty rfl rfl rfl (by decide +kernel) ⟨Nat.le_of_ble_eq_true rfl, Nat.le_of_ble_eq_true rfl⟩) (preV hPc hDc hK hN (ci := 4) (q0 := 0) rfl rfl) rfl rfl hl.1 rfl (lv_room (Nat.le_of_ble_eq_true rfl)) dX3_read_1 ⟨Nat.zero_le _, Nat.zero_le _⟩) hS (fun q _ h => hFc q h) hFc (fun u t H1 locs ht hvm h hB hz1 hk1 hS => ?_)
  obtain ⟨u1, u2, u3⟩ := u
  try dsimp only at h hB
  obtain ⟨hP, hD⟩ := joinU (wd := (w_X3_read cy a_o a_o_text a_p1 a_p1_isTold a_p1_least a_p1_gateOff a_p1_limit a_p1_value a_p1_kind a_p1_most a_p1_wishOff a_p1_use r_p1_use o_length o_at o_start o_token o_number o_text u1 u2 p1_least u3 p1_limit p1_value p1_kind p1_most p1_wishOff p1_use)) (wr := [(a_o, .inr (3, [.ref a_o_text, .int o_length, .int o_at, .int o_start, .int o_token, .int o_number])), (a_o_text, .inl (cy 0, 300, .inl o_text)), (a_p1_least, .inl (cy 3, 5, .inl p1_least)), (a_p1_limit, .inl (cy 1, 5, .inl p1_limit)), (a_p1_value, .inl (cy 1, 4, .inl p1_value)), (a_p1_kind, .inl (cy 1, 4, .inl p1_kind)), (a_p1_most, .inl (cy 1, 4, .inl p1_most)), (a_p1_wishOff, .inl (cy 3, 4, .inl p1_wishOff)), (a_p1_use, .inl (cy 4, 4, .inr (.inr (.inr (.inr (mref r_p1_use 4)))))), (r_p1_use 0, rowI (cy 1) 5 p1_use 0), (r_p1_use 1, rowI (cy 1) 5 p1_use 1), (r_p1_use 2, rowI (cy 1) 5 p1_use 2), (r_p1_use 3, rowI (cy 1) 5 p1_use 3)]) hP hD [2, 3, 5] [0, 1, 4, 6, 7, 8, 9, 10, 11, 12, 13, 14, 15] [a_p1, a_p1_isTold, a_p1_gateOff] hC hk1 ht hB rfl rfl rfl (N := 16) rfl (by decide) rfl rfl
  generalize H1 = H at hP hS ⊢
  refine lv_aload_n hx hb dX3_read_4 rfl (lv_at hl 0 rfl) ?_
  refine lv_iconst (v := 0) hx hb dX3_read_5 (by decide) ?_
  refine va_put (D := D) (ci := 3) (v := .int (0 : Int32)) (ty := .int) (C := RX3) (T := TX3) (N := 6) hx hb hts in_X3 tyX3 tyX3_ok nmX3 hown hK hP hD hS 0 rfl rfl 2 (by decide) fl_19 (fun _ h9 => h9) rfl (by decide +kernel) rfl rfl (Nat.le_of_ble_eq_true rfl) dX3_read_6 (fun H locs hP hD hS => ?_)
  have hP : va_P D vwCl (w_X3_read cy a_o a_o_text a_p1 a_p1_isTold a_p1_least a_p1_gateOff a_p1_limit a_p1_value a_p1_kind a_p1_most a_p1_wishOff a_p1_use r_p1_use o_length (0 : Int32) o_start o_token o_number o_text u1 u2 p1_least u3 p1_limit p1_value p1_kind p1_most p1_wishOff p1_use) H := hP
  have hD : va_D A (w_X3_read cy a_o a_o_text a_p1 a_p1_isTold a_p1_least a_p1_gateOff a_p1_limit a_p1_value a_p1_kind a_p1_most a_p1_wishOff a_p1_use r_p1_use o_length (0 : Int32) o_start o_token o_number o_text u1 u2 p1_least u3 p1_limit p1_value p1_kind p1_most p1_wishOff p1_use) := hD
  refine lv_iconst (v := 0) hx hb dX3_read_9 (by decide) ?_
  refine lv_istore_n (lv' := [(2, .int (0 : Int32)), (0, .ref a_o), (1, .ref a_p1)]) hx hb dX3_read_10 rfl hl (by decide) rfl (fun ls hl => ?_)
  obtain ⟨n84, h⟩ := h
  refine l_11  _ ?_ _ ?_ _ ?_ n84 (0 : Int32) (0 : Int32) o_start o_token o_number u1 u2 p1_least u3 p1_limit p1_value p1_kind p1_most p1_wishOff p1_use h _ _ hP hD hS _ (lv_sub hl [1, 2, 0] rfl)
  · intro o_at_41 o_start_42 o_token_43 o_number_44 p1_wishes_45 p1_isTold_46 p1_least_47 p1_gateOff_48 p1_limit_49 p1_value_50 p1_kind_51 p1_most_52 p1_wishOff_53 p1_use_54 h H locs hP hD hS ls hl
    refine lv_bipush (v := -10) hx hb dX3_read_96 (by decide) ?_
    refine lv_aload_n hx hb dX3_read_98 rfl (lv_at hl 0 rfl) ?_
    refine va_get (D := D) (ci := 3) (v := .int o_length) (C := RX3) (T := TX3) (N := 6) hx hb hts in_X3 hown hK hP 0 rfl rfl 1 (by decide) fl_15 (fun _ h9 => h9) rfl dX3_read_99 ?_
    refine lv_isub hx hb dX3_read_102 ?_
    exact hret ((-10 : Int32) - o_length) (o_at_41, o_start_42, o_token_43, o_number_44, p1_wishes_45, p1_isTold_46, p1_least_47, p1_gateOff_48, p1_limit_49, p1_value_50, p1_kind_51, p1_most_52, p1_wishOff_53, p1_use_54) _ _ _ _ h hP hD hS dX3_read_103
  · intro o_at_55 o_start_56 o_token_57 o_number_58 p1_wishes_59 p1_isTold_60 p1_least_61 p1_gateOff_62 p1_limit_63 p1_value_64 p1_kind_65 p1_most_66 p1_wishOff_67 p1_use_68 h H locs hP hD hS ls hl
    refine lv_bipush (v := -10) hx hb dX3_read_82 (by decide) ?_
    refine lv_aload_n hx hb dX3_read_84 rfl (lv_at hl 0 rfl) ?_
    refine va_get (D := D) (ci := 3) (v := .int o_start_56) (C := RX3) (T := TX3) (N := 6) hx hb hts in_X3 hown hK hP 0 rfl rfl 3 (by decide) fl_22 (fun _ h9 => h9) rfl dX3_read_85 ?_
    refine lv_isub hx hb dX3_read_88 ?_
    exact hret ((-10 : Int32) - o_start_56) (o_at_55, o_start_56, o_token_57, o_number_58, p1_wishes_59, p1_isTold_60, p1_least_61, p1_gateOff_62, p1_limit_63, p1_value_64, p1_kind_65, p1_most_66, p1_wishOff_67, p1_use_68) _ _ _ _ h hP hD hS dX3_read_89
  · intro x2_69 o_at_70 o_start_71 o_token_72 o_number_73 p1_wishes_74 p1_isTold_75 p1_least_76 p1_gateOff_77 p1_limit_78 p1_value_79 p1_kind_80 p1_most_81 p1_wishOff_82 p1_use_83 h H locs hP hD hS ls hl
    refine lv_iload_n hx hb dX3_read_29 rfl (lv_at hl 0 rfl) ?_
    exact hret x2_69 (o_at_70, o_start_71, o_token_72, o_number_73, p1_wishes_74, p1_isTold_75, p1_least_76, p1_gateOff_77, p1_limit_78, p1_value_79, p1_kind_80, p1_most_81, p1_wishOff_82, p1_use_83) _ _ _ _ h hP hD hS dX3_read_30
