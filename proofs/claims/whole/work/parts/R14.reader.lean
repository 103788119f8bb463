abbrev w_X3_put (cy : Nat → ClassId) (a_o a_o_text : Nat) (o_length : Int32) (o_at : Int32) (o_start : Int32) (o_token : Int32) (o_number : Int32) (o_text : Nat → Int32) : va_W := [(a_o, .inr (3, [.ref a_o_text, .int o_length, .int o_at, .int o_start, .int o_token, .int o_number])), (a_o_text, .inl (cy 0, 300, .inl o_text))]
set_option maxHeartbeats 4000000 in
set_option maxRecDepth 100000 in
theorem c_X3_put (l : Launch) (D : va_G) (cy : Nat → ClassId) (a_o a_o_text : Nat) (sz : Nat)  {o_length : Int32} {o_at : Int32} {o_start : Int32} {o_token : Int32} {o_number : Int32} {o_text : Nat → Int32} {x1 : Int64} {x3 : Int32} {post : Int32 → Int32 → (Nat → Int32) → Prop} (h : wp_X3_put o_length o_text x1 x3 post) : Met l yX3_put wsX3_put ({ frames := 0, cells := 0, slots := 0, locals := 0 }) (va_Pc [.ref a_o, .long x1, .int x3] (wI D cy sz (w_X3_put cy a_o a_o_text o_length o_at o_start o_token o_number o_text))) (va_Qi (fun (r : Int32) (u : Int32 × (Nat → Int32)) => post r u.1 u.2) (fun (u : Int32 × (Nat → Int32)) t => wO D cy (va_A (w_X3_put cy a_o a_o_text o_length o_at o_start o_token o_number o_text) sz) (w_X3_put cy a_o a_o_text u.1 o_at o_start o_token o_number u.2) t) (va_A (w_X3_put cy a_o a_o_text o_length o_at o_start o_token o_number o_text) sz)) 0 0 (va_A (w_X3_put cy a_o a_o_text o_length o_at o_start o_token o_number o_text) sz) := by
  refine contrI (S := Int32 × (Nat → Int32)) (post := fun (r : Int32) (u : Int32 × (Nat → Int32)) => post r u.1 u.2) (wOut := fun (u : Int32 × (Nat → Int32)) => (w_X3_put cy a_o a_o_text u.1 o_at o_start o_token o_number u.2)) (cc := cX3_put) (maxL := 5) (own := RX3) (by decide +kernel) rfl rfl ?_
  intro p e s m args below meth c A Q hx hb hml hown hts hK hN hP hD hS hA hret
  have in_X3 : ∀ w ∈ u_ws RX3 TX3 6, w ∈ wsX3_put := by decide +kernel
  have fl_15 := hts (.fieldLink RX3 15 "DawnTable$Reader" "length" "I") (by decide +kernel)
  have fl_11 := hts (.fieldLink RX3 11 "DawnTable$Reader" "text" "[B") (by decide +kernel)
  have l_25 : ∀ (x1 : Int64), ∀ (kx0 : Int32 → (Nat → Int32) → Prop), (∀ (o_length : Int32) (o_text : Nat → Int32), kx0 o_length o_text → ∀ (H : Heap) (locs : List Loc), va_P D vwCl (w_X3_put cy a_o a_o_text o_length o_at o_start o_token o_number o_text) H → va_D A (w_X3_put cy a_o a_o_text o_length o_at o_start o_token o_number o_text) → va_S A s.heap H locs → ∀ (ls : Array Slot), lv_has ls 5 [(0, .ref a_o)] → W p l e ({ frames := 0, cells := 0, slots := 0, locals := 0 }) s m args below meth c H locs 0 0 Q (F0 m 64 ls [])) → ∀ (n : Nat) (x4 : Int32) (o_length : Int32) (o_text : Nat → Int32), wl_X3_put_25 x1 kx0 post n x4 o_length o_text → ∀ (H : Heap) (locs : List Loc), va_P D vwCl (w_X3_put cy a_o a_o_text o_length o_at o_start o_token o_number o_text) H → va_D A (w_X3_put cy a_o a_o_text o_length o_at o_start o_token o_number o_text) → va_S A s.heap H locs → ∀ (ls : Array Slot), lv_has ls 5 [(0, .ref a_o), (1, .long x1), (4, .int x4)] → W p l e ({ frames := 0, cells := 0, slots := 0, locals := 0 }) s m args below meth c H locs 0 0 Q (F0 m 25 ls []) := by
    intro x1 kx0 hkx0  n
    induction n with
    | zero => intro x4 o_length o_text h; exact h.elim
    | succ n hkb =>
      intro x4 o_length o_text h H locs hP hD hS ls hl
      replace h : ws_X3_put_25 x1 (wl_X3_put_25 x1 kx0 post n) kx0 post x4 o_length o_text := h
      generalize wl_X3_put_25 x1 kx0 post n = kb at h hkb
      unfold ws_X3_put_25 at h
      refine lv_iload hx hb dX3_put_25 (lv_at hl 2 rfl) ?_
      refine lv_if_lt (tgt := 64) hx hb dX3_put_27 (by decide) (fun c3 => ?_) (fun c3 => ?_)
      · have h := h.1 c3
        exact hkx0 o_length o_text h _ _ hP hD hS _ (lv_sub hl [0] rfl)
      · have h := h.2 c3
        refine lv_aload_n hx hb dX3_put_30 rfl (lv_at hl 0 rfl) ?_
        refine va_get (D := D) (ci := 3) (v := .ref a_o_text) (C := RX3) (T := TX3) (N := 6) hx hb hts in_X3 hown hK hP 0 rfl rfl 0 (by decide) fl_11 (fun _ h9 => h9) rfl dX3_put_31 ?_
        refine lv_aload_n hx hb dX3_put_34 rfl (lv_at hl 0 rfl) ?_
        refine va_get (D := D) (ci := 3) (v := .int o_length) (C := RX3) (T := TX3) (N := 6) hx hb hts in_X3 hown hK hP 0 rfl rfl 1 (by decide) fl_15 (fun _ h9 => h9) rfl dX3_put_35 ?_
        refine lv_lload_n hx hb dX3_put_38 rfl (lv_at hl 1 rfl) ?_
        refine lv_bipush (v := 8) hx hb dX3_put_39 (by decide) ?_
        refine lv_iload hx hb dX3_put_41 (lv_at hl 2 rfl) ?_
        refine lv_imul hx hb dX3_put_43 ?_
        refine lv_lushr hx hb dX3_put_44 rfl ?_
        refine lv_l2i hx hb dX3_put_45 rfl ?_
        refine lv_i2b hx hb dX3_put_46 rfl ?_
        refine lv_topi (fun v4 ev4 => ?_)
        have h := h v4 ev4
        obtain ⟨i5, h⟩ := h
        refine va_bast hx hb hK hP hD hS 1 0 rfl rfl i5 dX3_put_47 (fun H locs hP hD hS => ?_)
        have hP : va_P D vwCl (w_X3_put cy a_o a_o_text o_length o_at o_start o_token o_number (upd o_text (o_length).toNatClampNeg (vp_nar .byte v4))) H := hP
        have hD : va_D A (w_X3_put cy a_o a_o_text o_length o_at o_start o_token o_number (upd o_text (o_length).toNatClampNeg (vp_nar .byte v4))) := hD
        refine lv_aload_n hx hb dX3_put_48 rfl (lv_at hl 0 rfl) ?_
        refine lv_dup hx hb dX3_put_49 rfl ?_
        refine va_get (D := D) (ci := 3) (v := .int o_length) (C := RX3) (T := TX3) (N := 6) hx hb hts in_X3 hown hK hP 0 rfl rfl 1 (by decide) fl_15 (fun _ h9 => h9) rfl dX3_put_50 ?_
        refine lv_iconst (v := 1) hx hb dX3_put_53 (by decide) ?_
        refine lv_iadd hx hb dX3_put_54 ?_
        refine va_put (D := D) (ci := 3) (v := .int (o_length + (1 : Int32))) (ty := .int) (C := RX3) (T := TX3) (N := 6) hx hb hts in_X3 tyX3 tyX3_ok nmX3 hown hK hP hD hS 0 rfl rfl 1 (by decide) fl_15 (fun _ h9 => h9) rfl (by decide +kernel) rfl rfl (Nat.le_of_ble_eq_true rfl) dX3_put_55 (fun H locs hP hD hS => ?_)
        have hP : va_P D vwCl (w_X3_put cy a_o a_o_text (o_length + (1 : Int32)) o_at o_start o_token o_number (upd o_text (o_length).toNatClampNeg (vp_nar .byte v4))) H := hP
        have hD : va_D A (w_X3_put cy a_o a_o_text (o_length + (1 : Int32)) o_at o_start o_token o_number (upd o_text (o_length).toNatClampNeg (vp_nar .byte v4))) := hD
        refine lv_iinc (v := (x4 + (-1 : Int32))) (lv' := [(4, .int (x4 + (-1 : Int32))), (0, .ref a_o), (1, .long x1)]) hx hb dX3_put_58 hl (k := 2) rfl (congrArg (fun z => x4 + z) (by decide : Int32.ofInt (-1) = (-1 : Int32))) (by decide) rfl (fun ls hl => ?_)
        refine lv_goto (tgt := 25) hx hb dX3_put_61 (by decide) ?_
        exact hkb (x4 + (-1 : Int32)) (o_length + (1 : Int32)) (upd o_text (o_length).toNatClampNeg (vp_nar .byte v4)) h _ _ hP hD hS _ (lv_sub hl [1, 2, 0] rfl)
  refine ent [.ref a_o, .long x1, .int x3] (Nat.le_of_ble_eq_true rfl) (fun ls hl => ?_)
  have hl : lv_has ls 5 [(0, .ref a_o), (1, .long x1), (3, .int x3)] := hl
  unfold wp_X3_put at h
  refine lv_iload_n hx hb dX3_put_0 rfl (lv_at hl 2 rfl) ?_
  refine lv_iconst (v := 1) hx hb dX3_put_1 (by decide) ?_
  refine lv_icmp_lt (tgt := 17) hx hb dX3_put_2 (by decide) (fun c1 => ?_) (fun c1 => ?_)
  · have h := h.1 c1
    refine lv_bipush (v := -3) hx hb dX3_put_17 (by decide) ?_
    exact hret (-3 : Int32) (o_length, o_text) _ _ _ _ h hP hD hS dX3_put_19
  · have h := h.2 c1
    refine lv_iload_n hx hb dX3_put_5 rfl (lv_at hl 2 rfl) ?_
    refine lv_sipush (v := 300) hx hb dX3_put_6 (by decide) ?_
    refine lv_aload_n hx hb dX3_put_9 rfl (lv_at hl 0 rfl) ?_
    refine va_get (D := D) (ci := 3) (v := .int o_length) (C := RX3) (T := TX3) (N := 6) hx hb hts in_X3 hown hK hP 0 rfl rfl 1 (by decide) fl_15 (fun _ h9 => h9) rfl dX3_put_10 ?_
    refine lv_isub hx hb dX3_put_13 ?_
    refine lv_icmp_le (tgt := 20) hx hb dX3_put_14 (by decide) (fun c2 => ?_) (fun c2 => ?_)
    · have h := h.1 c2
      refine lv_iload_n hx hb dX3_put_20 rfl (lv_at hl 2 rfl) ?_
      refine lv_iconst (v := 1) hx hb dX3_put_21 (by decide) ?_
      refine lv_isub hx hb dX3_put_22 ?_
      refine lv_istore (lv' := [(4, .int (x3 - (1 : Int32))), (0, .ref a_o), (1, .long x1), (3, .int x3)]) hx hb dX3_put_23 hl (by decide) rfl (fun ls hl => ?_)
      obtain ⟨n8, h⟩ := h
      refine l_25 x1 _ ?_ n8 (x3 - (1 : Int32)) o_length o_text h _ _ hP hD hS _ (lv_sub hl [1, 2, 0] rfl)
      · intro o_length_6 o_text_7 h H locs hP hD hS ls hl
        refine lv_aload_n hx hb dX3_put_64 rfl (lv_at hl 0 rfl) ?_
        refine va_get (D := D) (ci := 3) (v := .int o_length_6) (C := RX3) (T := TX3) (N := 6) hx hb hts in_X3 hown hK hP 0 rfl rfl 1 (by decide) fl_15 (fun _ h9 => h9) rfl dX3_put_65 ?_
        exact hret o_length_6 (o_length_6, o_text_7) _ _ _ _ h hP hD hS dX3_put_68
    · have h := h.2 c2
      refine lv_bipush (v := -3) hx hb dX3_put_17 (by decide) ?_
      exact hret (-3 : Int32) (o_length, o_text) _ _ _ _ h hP hD hS dX3_put_19
abbrev w_X3_isDigit (cy : Nat → ClassId)  : va_W := []
set_option maxHeartbeats 4000000 in
set_option maxRecDepth 100000 in
theorem c_X3_isDigit (l : Launch) (D : va_G) (cy : Nat → ClassId) (sz : Nat)   {x0 : Int32} {post : Int32 → Prop} (h : wp_X3_isDigit x0 post) : Met l yX3_isDigit wsX3_isDigit ({ frames := 0, cells := 0, slots := 0, locals := 0 }) (va_Pc [.int x0] (wI D cy sz (w_X3_isDigit cy ))) (va_Qi (fun (r : Int32) (u : Unit) => post r ) (fun (u : Unit) t => wO D cy (va_A (w_X3_isDigit cy ) sz) (w_X3_isDigit cy ) t) (va_A (w_X3_isDigit cy ) sz)) 0 0 (va_A (w_X3_isDigit cy ) sz) := by
  refine contrZ (S := Unit) (post := fun (r : Int32) (u : Unit) => post r ) (wOut := fun (u : Unit) => (w_X3_isDigit cy )) (cc := cX3_isDigit) (maxL := 1) (own := RX3) (by decide +kernel) rfl rfl ?_
  intro p e s m args below meth c A Q hx hb hml hown hts hK hN hP hD hS hA hret
  refine ent [.int x0] (Nat.le_of_ble_eq_true rfl) (fun ls hl => ?_)
  have hl : lv_has ls 1 [(0, .int x0)] := hl
  unfold wp_X3_isDigit at h
  refine lv_iload_n hx hb dX3_isDigit_0 rfl (lv_at hl 0 rfl) ?_
  refine lv_bipush (v := 48) hx hb dX3_isDigit_1 (by decide) ?_
  refine lv_icmp_lt (tgt := 16) hx hb dX3_isDigit_3 (by decide) (fun c1 => ?_) (fun c1 => ?_)
  · have h := h.1 c1
    refine lv_iconst (v := 0) hx hb dX3_isDigit_16 (by decide) ?_
    exact hret (0 : Int32) () _ _ _ _ rfl h hP hD hS dX3_isDigit_17
  · have h := h.2 c1
    refine lv_iload_n hx hb dX3_isDigit_6 rfl (lv_at hl 0 rfl) ?_
    refine lv_bipush (v := 57) hx hb dX3_isDigit_7 (by decide) ?_
    refine lv_icmp_gt (tgt := 16) hx hb dX3_isDigit_9 (by decide) (fun c2 => ?_) (fun c2 => ?_)
    · have h := h.1 c2
      refine lv_iconst (v := 0) hx hb dX3_isDigit_16 (by decide) ?_
      exact hret (0 : Int32) () _ _ _ _ rfl h hP hD hS dX3_isDigit_17
    · have h := h.2 c2
      refine lv_iconst (v := 1) hx hb dX3_isDigit_12 (by decide) ?_
      refine lv_goto (tgt := 17) hx hb dX3_isDigit_13 (by decide) ?_
      exact hret (1 : Int32) () _ _ _ _ rfl h hP hD hS dX3_isDigit_17
abbrev w_X3_isSmall (cy : Nat → ClassId)  : va_W := []
set_option maxHeartbeats 4000000 in
set_option maxRecDepth 100000 in
theorem c_X3_isSmall (l : Launch) (D : va_G) (cy : Nat → ClassId) (sz : Nat)   {x0 : Int32} {post : Int32 → Prop} (h : wp_X3_isSmall x0 post) : Met l yX3_isSmall wsX3_isSmall ({ frames := 0, cells := 0, slots := 0, locals := 0 }) (va_Pc [.int x0] (wI D cy sz (w_X3_isSmall cy ))) (va_Qi (fun (r : Int32) (u : Unit) => post r ) (fun (u : Unit) t => wO D cy (va_A (w_X3_isSmall cy ) sz) (w_X3_isSmall cy ) t) (va_A (w_X3_isSmall cy ) sz)) 0 0 (va_A (w_X3_isSmall cy ) sz) := by
  refine contrZ (S := Unit) (post := fun (r : Int32) (u : Unit) => post r ) (wOut := fun (u : Unit) => (w_X3_isSmall cy )) (cc := cX3_isSmall) (maxL := 1) (own := RX3) (by decide +kernel) rfl rfl ?_
  intro p e s m args below meth c A Q hx hb hml hown hts hK hN hP hD hS hA hret
  refine ent [.int x0] (Nat.le_of_ble_eq_true rfl) (fun ls hl => ?_)
  have hl : lv_has ls 1 [(0, .int x0)] := hl
  unfold wp_X3_isSmall at h
  refine lv_iload_n hx hb dX3_isSmall_0 rfl (lv_at hl 0 rfl) ?_
  refine lv_bipush (v := 97) hx hb dX3_isSmall_1 (by decide) ?_
  refine lv_icmp_lt (tgt := 16) hx hb dX3_isSmall_3 (by decide) (fun c1 => ?_) (fun c1 => ?_)
  · have h := h.1 c1
    refine lv_iconst (v := 0) hx hb dX3_isSmall_16 (by decide) ?_
    exact hret (0 : Int32) () _ _ _ _ rfl h hP hD hS dX3_isSmall_17
  · have h := h.2 c1
    refine lv_iload_n hx hb dX3_isSmall_6 rfl (lv_at hl 0 rfl) ?_
    refine lv_bipush (v := 122) hx hb dX3_isSmall_7 (by decide) ?_
    refine lv_icmp_gt (tgt := 16) hx hb dX3_isSmall_9 (by decide) (fun c2 => ?_) (fun c2 => ?_)
    · have h := h.1 c2
      refine lv_iconst (v := 0) hx hb dX3_isSmall_16 (by decide) ?_
      exact hret (0 : Int32) () _ _ _ _ rfl h hP hD hS dX3_isSmall_17
    · have h := h.2 c2
      refine lv_iconst (v := 1) hx hb dX3_isSmall_12 (by decide) ?_
      refine lv_goto (tgt := 17) hx hb dX3_isSmall_13 (by decide) ?_
      exact hret (1 : Int32) () _ _ _ _ rfl h hP hD hS dX3_isSmall_17
abbrev w_X3_setKind (cy : Nat → ClassId) (a_o a_o_text : Nat) (o_length : Int32) (o_at : Int32) (o_start : Int32) (o_token : Int32) (o_number : Int32) : va_W := [(a_o, .inr (3, [.ref a_o_text, .int o_length, .int o_at, .int o_start, .int o_token, .int o_number]))]
set_option maxHeartbeats 4000000 in
set_option maxRecDepth 100000 in
theorem c_X3_setKind (l : Launch) (D : va_G) (cy : Nat → ClassId) (a_o a_o_text : Nat) (sz : Nat)  {o_length : Int32} {o_at : Int32} {o_start : Int32} {o_token : Int32} {o_number : Int32} {x1 : Int32} {post : Int32 → Int32 → Prop} (h : wp_X3_setKind o_token o_number x1 post) : Met l yX3_setKind wsX3_setKind ({ frames := 0, cells := 0, slots := 0, locals := 0 }) (va_Pc [.ref a_o, .int x1] (wI D cy sz (w_X3_setKind cy a_o a_o_text o_length o_at o_start o_token o_number))) (va_Qv (fun (u : Int32 × Int32) => post u.1 u.2) (fun (u : Int32 × Int32) t => wO D cy (va_A (w_X3_setKind cy a_o a_o_text o_length o_at o_start o_token o_number) sz) (w_X3_setKind cy a_o a_o_text o_length o_at o_start u.1 u.2) t) (va_A (w_X3_setKind cy a_o a_o_text o_length o_at o_start o_token o_number) sz)) 0 0 (va_A (w_X3_setKind cy a_o a_o_text o_length o_at o_start o_token o_number) sz) := by
  refine contrV (S := Int32 × Int32) (post := fun (u : Int32 × Int32) => post u.1 u.2) (wOut := fun (u : Int32 × Int32) => (w_X3_setKind cy a_o a_o_text o_length o_at o_start u.1 u.2)) (cc := cX3_setKind) (maxL := 2) (own := RX3) (by decide +kernel) rfl rfl ?_
  intro p e s m args below meth c A Q hx hb hml hown hts hK hN hP hD hS hA hret
  have in_X3 : ∀ w ∈ u_ws RX3 TX3 6, w ∈ wsX3_setKind := by decide +kernel
  have fl_25 := hts (.fieldLink RX3 25 "DawnTable$Reader" "token" "I") (by decide +kernel)
  have fl_28 := hts (.fieldLink RX3 28 "DawnTable$Reader" "number" "I") (by decide +kernel)
  refine ent [.ref a_o, .int x1] (Nat.le_of_ble_eq_true rfl) (fun ls hl => ?_)
  have hl : lv_has ls 2 [(0, .ref a_o), (1, .int x1)] := hl
  unfold wp_X3_setKind at h
  refine lv_aload_n hx hb dX3_setKind_0 rfl (lv_at hl 0 rfl) ?_
  refine lv_bipush (v := 9) hx hb dX3_setKind_1 (by decide) ?_
  refine va_put (D := D) (ci := 3) (v := .int (9 : Int32)) (ty := .int) (C := RX3) (T := TX3) (N := 6) hx hb hts in_X3 tyX3 tyX3_ok nmX3 hown hK hP hD hS 0 rfl rfl 4 (by decide) fl_25 (fun _ h9 => h9) rfl (by decide +kernel) rfl rfl (Nat.le_of_ble_eq_true rfl) dX3_setKind_3 (fun H locs hP hD hS => ?_)
  have hP : va_P D vwCl (w_X3_setKind cy a_o a_o_text o_length o_at o_start (9 : Int32) o_number) H := hP
  have hD : va_D A (w_X3_setKind cy a_o a_o_text o_length o_at o_start (9 : Int32) o_number) := hD
  refine lv_aload_n hx hb dX3_setKind_6 rfl (lv_at hl 0 rfl) ?_
  refine lv_iload_n hx hb dX3_setKind_7 rfl (lv_at hl 1 rfl) ?_
  refine va_put (D := D) (ci := 3) (v := .int x1) (ty := .int) (C := RX3) (T := TX3) (N := 6) hx hb hts in_X3 tyX3 tyX3_ok nmX3 hown hK hP hD hS 0 rfl rfl 5 (by decide) fl_28 (fun _ h9 => h9) rfl (by decide +kernel) rfl rfl (Nat.le_of_ble_eq_true rfl) dX3_setKind_8 (fun H locs hP hD hS => ?_)
  have hP : va_P D vwCl (w_X3_setKind cy a_o a_o_text o_length o_at o_start (9 : Int32) x1) H := hP
  have hD : va_D A (w_X3_setKind cy a_o a_o_text o_length o_at o_start (9 : Int32) x1) := hD
  exact hret ((9 : Int32), x1) _ _ _ _ h hP hD hS dX3_setKind_11
abbrev w_X3_readSign (cy : Nat → ClassId) (a_o a_o_text : Nat) (o_length : Int32) (o_at : Int32) (o_start : Int32) (o_token : Int32) (o_number : Int32) : va_W := [(a_o, .inr (3, [.ref a_o_text, .int o_length, .int o_at, .int o_start, .int o_token, .int o_number]))]
set_option maxHeartbeats 4000000 in
set_option maxRecDepth 100000 in
theorem c_X3_readSign (l : Launch) (D : va_G) (cy : Nat → ClassId) (a_o a_o_text : Nat) (sz : Nat)  {o_length : Int32} {o_at : Int32} {o_start : Int32} {o_token : Int32} {o_number : Int32} {x1 : Int32} {post : Int32 → Int32 → Int32 → Prop} (h : wp_X3_readSign o_at o_token o_number x1 post) : Met l yX3_readSign wsX3_readSign ({ frames := 0, cells := 0, slots := 0, locals := 0 }) (va_Pc [.ref a_o, .int x1] (wI D cy sz (w_X3_readSign cy a_o a_o_text o_length o_at o_start o_token o_number))) (va_Qv (fun (u : Int32 × Int32 × Int32) => post u.1 u.2.1 u.2.2) (fun (u : Int32 × Int32 × Int32) t => wO D cy (va_A (w_X3_readSign cy a_o a_o_text o_length o_at o_start o_token o_number) sz) (w_X3_readSign cy a_o a_o_text o_length u.1 o_start u.2.1 u.2.2) t) (va_A (w_X3_readSign cy a_o a_o_text o_length o_at o_start o_token o_number) sz)) 0 0 (va_A (w_X3_readSign cy a_o a_o_text o_length o_at o_start o_token o_number) sz) := by
  refine contrV (S := Int32 × Int32 × Int32) (post := fun (u : Int32 × Int32 × Int32) => post u.1 u.2.1 u.2.2) (wOut := fun (u : Int32 × Int32 × Int32) => (w_X3_readSign cy a_o a_o_text o_length u.1 o_start u.2.1 u.2.2)) (cc := cX3_readSign) (maxL := 2) (own := RX3) (by decide +kernel) rfl rfl ?_
  intro p e s m args below meth c A Q hx hb hml hown hts hK hN hP hD hS hA hret
  have in_X3 : ∀ w ∈ u_ws RX3 TX3 6, w ∈ wsX3_readSign := by decide +kernel
  have fl_19 := hts (.fieldLink RX3 19 "DawnTable$Reader" "at" "I") (by decide +kernel)
  have fl_25 := hts (.fieldLink RX3 25 "DawnTable$Reader" "token" "I") (by decide +kernel)
  have fl_28 := hts (.fieldLink RX3 28 "DawnTable$Reader" "number" "I") (by decide +kernel)
  have j_26_0 : ∀ (x1 : Int32) (o_at : Int32) (o_token : Int32) (o_number : Int32), wj_X3_readSign_26  x1 o_at o_token o_number  post → ∀ (H : Heap) (locs : List Loc), va_P D vwCl (w_X3_readSign cy a_o a_o_text o_length o_at o_start o_token o_number) H → va_D A (w_X3_readSign cy a_o a_o_text o_length o_at o_start o_token o_number) → va_S A s.heap H locs → ∀ (ls : Array Slot), lv_has ls 2 [(0, .ref a_o), (1, .int x1)] → W p l e ({ frames := 0, cells := 0, slots := 0, locals := 0 }) s m args below meth c H locs 0 0 Q (F0 m 26 ls []) := by
    intro x1 o_at o_token o_number  h H locs hP hD hS ls hl
    unfold wj_X3_readSign_26 at h
    refine lv_iload_n hx hb dX3_readSign_26 rfl (lv_at hl 1 rfl) ?_
    refine lv_bipush (v := 65) hx hb dX3_readSign_27 (by decide) ?_
    refine lv_icmp_lt (tgt := 51) hx hb dX3_readSign_29 (by decide) (fun c2 => ?_) (fun c2 => ?_)
    · have h := h.1 c2
      exact hret (o_at, o_token, o_number) _ _ _ _ h hP hD hS dX3_readSign_51
    · have h := h.2 c2
      refine lv_iload_n hx hb dX3_readSign_32 rfl (lv_at hl 1 rfl) ?_
      refine lv_bipush (v := 70) hx hb dX3_readSign_33 (by decide) ?_
      refine lv_icmp_ge (tgt := 51) hx hb dX3_readSign_35 (by decide) (fun c3 => ?_) (fun c3 => ?_)
      · have h := h.1 c3
        exact hret (o_at, o_token, o_number) _ _ _ _ h hP hD hS dX3_readSign_51
      · have h := h.2 c3
        refine lv_aload_n hx hb dX3_readSign_38 rfl (lv_at hl 0 rfl) ?_
        refine lv_iconst (v := 3) hx hb dX3_readSign_39 (by decide) ?_
        refine va_put (D := D) (ci := 3) (v := .int (3 : Int32)) (ty := .int) (C := RX3) (T := TX3) (N := 6) hx hb hts in_X3 tyX3 tyX3_ok nmX3 hown hK hP hD hS 0 rfl rfl 4 (by decide) fl_25 (fun _ h9 => h9) rfl (by decide +kernel) rfl rfl (Nat.le_of_ble_eq_true rfl) dX3_readSign_40 (fun H locs hP hD hS => ?_)
        have hP : va_P D vwCl (w_X3_readSign cy a_o a_o_text o_length o_at o_start (3 : Int32) o_number) H := hP
        have hD : va_D A (w_X3_readSign cy a_o a_o_text o_length o_at o_start (3 : Int32) o_number) := hD
        refine lv_aload_n hx hb dX3_readSign_43 rfl (lv_at hl 0 rfl) ?_
        refine lv_iload_n hx hb dX3_readSign_44 rfl (lv_at hl 1 rfl) ?_
        refine lv_bipush (v := 65) hx hb dX3_readSign_45 (by decide) ?_
        refine lv_isub hx hb dX3_readSign_47 ?_
        refine va_put (D := D) (ci := 3) (v := .int (x1 - (65 : Int32))) (ty := .int) (C := RX3) (T := TX3) (N := 6) hx hb hts in_X3 tyX3 tyX3_ok nmX3 hown hK hP hD hS 0 rfl rfl 5 (by decide) fl_28 (fun _ h9 => h9) rfl (by decide +kernel) rfl rfl (Nat.le_of_ble_eq_true rfl) dX3_readSign_48 (fun H locs hP hD hS => ?_)
        have hP : va_P D vwCl (w_X3_readSign cy a_o a_o_text o_length o_at o_start (3 : Int32) (x1 - (65 : Int32))) H := hP
        have hD : va_D A (w_X3_readSign cy a_o a_o_text o_length o_at o_start (3 : Int32) (x1 - (65 : Int32))) := hD
        exact hret (o_at, (3 : Int32), (x1 - (65 : Int32))) _ _ _ _ h hP hD hS dX3_readSign_51
  refine ent [.ref a_o, .int x1] (Nat.le_of_ble_eq_true rfl) (fun ls hl => ?_)
  have hl : lv_has ls 2 [(0, .ref a_o), (1, .int x1)] := hl
  unfold wp_X3_readSign at h
  refine lv_aload_n hx hb dX3_readSign_0 rfl (lv_at hl 0 rfl) ?_
  refine lv_dup hx hb dX3_readSign_1 rfl ?_
  refine va_get (D := D) (ci := 3) (v := .int o_at) (C := RX3) (T := TX3) (N := 6) hx hb hts in_X3 hown hK hP 0 rfl rfl 2 (by decide) fl_19 (fun _ h9 => h9) rfl dX3_readSign_2 ?_
  refine lv_iconst (v := 1) hx hb dX3_readSign_5 (by decide) ?_
  refine lv_iadd hx hb dX3_readSign_6 ?_
  refine va_put (D := D) (ci := 3) (v := .int (o_at + (1 : Int32))) (ty := .int) (C := RX3) (T := TX3) (N := 6) hx hb hts in_X3 tyX3 tyX3_ok nmX3 hown hK hP hD hS 0 rfl rfl 2 (by decide) fl_19 (fun _ h9 => h9) rfl (by decide +kernel) rfl rfl (Nat.le_of_ble_eq_true rfl) dX3_readSign_7 (fun H locs hP hD hS => ?_)
  have hP : va_P D vwCl (w_X3_readSign cy a_o a_o_text o_length (o_at + (1 : Int32)) o_start o_token o_number) H := hP
  have hD : va_D A (w_X3_readSign cy a_o a_o_text o_length (o_at + (1 : Int32)) o_start o_token o_number) := hD
  refine lv_aload_n hx hb dX3_readSign_10 rfl (lv_at hl 0 rfl) ?_
  refine lv_iconst (v := 1) hx hb dX3_readSign_11 (by decide) ?_
  refine va_put (D := D) (ci := 3) (v := .int (1 : Int32)) (ty := .int) (C := RX3) (T := TX3) (N := 6) hx hb hts in_X3 tyX3 tyX3_ok nmX3 hown hK hP hD hS 0 rfl rfl 4 (by decide) fl_25 (fun _ h9 => h9) rfl (by decide +kernel) rfl rfl (Nat.le_of_ble_eq_true rfl) dX3_readSign_12 (fun H locs hP hD hS => ?_)
  have hP : va_P D vwCl (w_X3_readSign cy a_o a_o_text o_length (o_at + (1 : Int32)) o_start (1 : Int32) o_number) H := hP
  have hD : va_D A (w_X3_readSign cy a_o a_o_text o_length (o_at + (1 : Int32)) o_start (1 : Int32) o_number) := hD
  refine lv_iload_n hx hb dX3_readSign_15 rfl (lv_at hl 1 rfl) ?_
  refine lv_bipush (v := 59) hx hb dX3_readSign_16 (by decide) ?_
  refine lv_icmp_ne (tgt := 26) hx hb dX3_readSign_18 (by decide) (fun c1 => ?_) (fun c1 => ?_)
  · have h := h.2 c1
    exact j_26_0 x1 (o_at + (1 : Int32)) (1 : Int32) o_number h _ _ hP hD hS _ (lv_sub hl [0, 1] rfl)
  · have h := h.1 c1
    refine lv_aload_n hx hb dX3_readSign_21 rfl (lv_at hl 0 rfl) ?_
    refine lv_iconst (v := 2) hx hb dX3_readSign_22 (by decide) ?_
    refine va_put (D := D) (ci := 3) (v := .int (2 : Int32)) (ty := .int) (C := RX3) (T := TX3) (N := 6) hx hb hts in_X3 tyX3 tyX3_ok nmX3 hown hK hP hD hS 0 rfl rfl 4 (by decide) fl_25 (fun _ h9 => h9) rfl (by decide +kernel) rfl rfl (Nat.le_of_ble_eq_true rfl) dX3_readSign_23 (fun H locs hP hD hS => ?_)
    have hP : va_P D vwCl (w_X3_readSign cy a_o a_o_text o_length (o_at + (1 : Int32)) o_start (2 : Int32) o_number) H := hP
    have hD : va_D A (w_X3_readSign cy a_o a_o_text o_length (o_at + (1 : Int32)) o_start (2 : Int32) o_number) := hD
    exact j_26_0 x1 (o_at + (1 : Int32)) (2 : Int32) o_number h _ _ hP hD hS _ (lv_sub hl [0, 1] rfl)
abbrev w_X3_readDigits (cy : Nat → ClassId) (a_o a_o_text : Nat) (o_length : Int32) (o_at : Int32) (o_start : Int32) (o_token : Int32) (o_number : Int32) (o_text : Nat → Int32) : va_W := [(a_o, .inr (3, [.ref a_o_text, .int o_length, .int o_at, .int o_start, .int o_token, .int o_number])), (a_o_text, .inl (cy 0, 300, .inl o_text))]
set_option maxRecDepth 20000 in
theorem ggX3_readDigits_X3_isDigit : GoodIn wsX3_readDigits wsX3_isDigit := goodIn_r _ [10] (by decide +kernel) (by decide +kernel)
set_option maxRecDepth 20000 in
theorem gX3_readDigits_X3_isDigit : GoodIn wsX3_readDigits (va_wsS RX3 72 yX3_isDigit wsX3_isDigit) := goodIn_app (goodIn_of _ (by decide +kernel)) ggX3_readDigits_X3_isDigit
set_option maxHeartbeats 4000000 in
set_option maxRecDepth 100000 in
theorem c_X3_readDigits (l : Launch) (D : va_G) (cy : Nat → ClassId) (a_o a_o_text : Nat) (sz : Nat)  {o_length : Int32} {o_at : Int32} {o_start : Int32} {o_token : Int32} {o_number : Int32} {o_text : Nat → Int32}  {post : Int32 → Int32 → Int32 → Prop} (h : wp_X3_readDigits o_length o_at o_start o_token o_number o_text post) : Met l yX3_readDigits wsX3_readDigits ({ frames := 1, cells := 0, slots := 0, locals := 20 }) (va_Pc [.ref a_o] (wI D cy sz (w_X3_readDigits cy a_o a_o_text o_length o_at o_start o_token o_number o_text))) (va_Qv (fun (u : Int32 × Int32 × Int32) => post u.1 u.2.1 u.2.2) (fun (u : Int32 × Int32 × Int32) t => wO D cy (va_A (w_X3_readDigits cy a_o a_o_text o_length o_at o_start o_token o_number o_text) sz) (w_X3_readDigits cy a_o a_o_text o_length u.1 o_start u.2.1 u.2.2 o_text) t) (va_A (w_X3_readDigits cy a_o a_o_text o_length o_at o_start o_token o_number o_text) sz)) 0 0 (va_A (w_X3_readDigits cy a_o a_o_text o_length o_at o_start o_token o_number o_text) sz) := by
  refine contrV (S := Int32 × Int32 × Int32) (post := fun (u : Int32 × Int32 × Int32) => post u.1 u.2.1 u.2.2) (wOut := fun (u : Int32 × Int32 × Int32) => (w_X3_readDigits cy a_o a_o_text o_length u.1 o_start u.2.1 u.2.2 o_text)) (cc := cX3_readDigits) (maxL := 2) (own := RX3) (by decide +kernel) rfl rfl ?_
  intro p e s m args below meth c A Q hx hb hml hown hts hK hN hP hD hS hA hret
  have in_X3 : ∀ w ∈ u_ws RX3 TX3 6, w ∈ wsX3_readDigits := by decide +kernel
  have fl_19 := hts (.fieldLink RX3 19 "DawnTable$Reader" "at" "I") (by decide +kernel)
  have fl_15 := hts (.fieldLink RX3 15 "DawnTable$Reader" "length" "I") (by decide +kernel)
  have fl_11 := hts (.fieldLink RX3 11 "DawnTable$Reader" "text" "[B") (by decide +kernel)
  have fl_22 := hts (.fieldLink RX3 22 "DawnTable$Reader" "start" "I") (by decide +kernel)
  have fl_25 := hts (.fieldLink RX3 25 "DawnTable$Reader" "token" "I") (by decide +kernel)
  have fl_28 := hts (.fieldLink RX3 28 "DawnTable$Reader" "number" "I") (by decide +kernel)
  have j_105_1 : ∀ (s0 : Int32) (o_at : Int32) (o_token : Int32) (o_number : Int32), wj_X3_readDigits_105  s0 o_length o_at o_start o_token o_number o_text  post → ∀ (H : Heap) (locs : List Loc), va_P D vwCl (w_X3_readDigits cy a_o a_o_text o_length o_at o_start o_token o_number o_text) H → va_D A (w_X3_readDigits cy a_o a_o_text o_length o_at o_start o_token o_number o_text) → va_S A s.heap H locs → ∀ (ls : Array Slot), lv_has ls 2 [(0, .ref a_o)] → W p l e ({ frames := 1, cells := 0, slots := 0, locals := 20 }) s m args below meth c H locs 0 0 Q (F0 m 105 ls [.int s0]) := by
    intro s0 o_at o_token o_number  h H locs hP hD hS ls hl
    unfold wj_X3_readDigits_105 at h
    refine lv_istore_n (lv' := [(1, .int s0), (0, .ref a_o)]) hx hb dX3_readDigits_105 rfl hl (by decide) rfl (fun ls hl => ?_)
    refine lv_aload_n hx hb dX3_readDigits_106 rfl (lv_at hl 1 rfl) ?_
    refine lv_iload_n hx hb dX3_readDigits_107 rfl (lv_at hl 0 rfl) ?_
    refine lv_if_ne (tgt := 121) hx hb dX3_readDigits_108 (by decide) (fun c4 => ?_) (fun c4 => ?_)
    · have h := h.2 c4
      refine lv_iconst (v := 1) hx hb dX3_readDigits_121 (by decide) ?_
      refine lv_goto (tgt := 126) hx hb dX3_readDigits_122 (by decide) ?_
      refine va_put (D := D) (ci := 3) (v := .int (1 : Int32)) (ty := .int) (C := RX3) (T := TX3) (N := 6) hx hb hts in_X3 tyX3 tyX3_ok nmX3 hown hK hP hD hS 0 rfl rfl 4 (by decide) fl_25 (fun _ h9 => h9) rfl (by decide +kernel) rfl rfl (Nat.le_of_ble_eq_true rfl) dX3_readDigits_126 (fun H locs hP hD hS => ?_)
      have hP : va_P D vwCl (w_X3_readDigits cy a_o a_o_text o_length o_at o_start (1 : Int32) o_number o_text) H := hP
      have hD : va_D A (w_X3_readDigits cy a_o a_o_text o_length o_at o_start (1 : Int32) o_number o_text) := hD
      exact hret (o_at, (1 : Int32), o_number) _ _ _ _ h hP hD hS dX3_readDigits_129
    · have h := h.1 c4
      refine lv_aload_n hx hb dX3_readDigits_111 rfl (lv_at hl 1 rfl) ?_
      refine va_get (D := D) (ci := 3) (v := .int o_number) (C := RX3) (T := TX3) (N := 6) hx hb hts in_X3 hown hK hP 0 rfl rfl 5 (by decide) fl_28 (fun _ h9 => h9) rfl dX3_readDigits_112 ?_
      refine lv_sipush (v := 999) hx hb dX3_readDigits_115 (by decide) ?_
      refine lv_icmp_le (tgt := 125) hx hb dX3_readDigits_118 (by decide) (fun c5 => ?_) (fun c5 => ?_)
      · have h := h.1 c5
        refine lv_iconst (v := 4) hx hb dX3_readDigits_125 (by decide) ?_
        refine va_put (D := D) (ci := 3) (v := .int (4 : Int32)) (ty := .int) (C := RX3) (T := TX3) (N := 6) hx hb hts in_X3 tyX3 tyX3_ok nmX3 hown hK hP hD hS 0 rfl rfl 4 (by decide) fl_25 (fun _ h9 => h9) rfl (by decide +kernel) rfl rfl (Nat.le_of_ble_eq_true rfl) dX3_readDigits_126 (fun H locs hP hD hS => ?_)
        have hP : va_P D vwCl (w_X3_readDigits cy a_o a_o_text o_length o_at o_start (4 : Int32) o_number o_text) H := hP
        have hD : va_D A (w_X3_readDigits cy a_o a_o_text o_length o_at o_start (4 : Int32) o_number o_text) := hD
        exact hret (o_at, (4 : Int32), o_number) _ _ _ _ h hP hD hS dX3_readDigits_129
      · have h := h.2 c5
        refine lv_iconst (v := 1) hx hb dX3_readDigits_121 (by decide) ?_
        refine lv_goto (tgt := 126) hx hb dX3_readDigits_122 (by decide) ?_
        refine va_put (D := D) (ci := 3) (v := .int (1 : Int32)) (ty := .int) (C := RX3) (T := TX3) (N := 6) hx hb hts in_X3 tyX3 tyX3_ok nmX3 hown hK hP hD hS 0 rfl rfl 4 (by decide) fl_25 (fun _ h9 => h9) rfl (by decide +kernel) rfl rfl (Nat.le_of_ble_eq_true rfl) dX3_readDigits_126 (fun H locs hP hD hS => ?_)
        have hP : va_P D vwCl (w_X3_readDigits cy a_o a_o_text o_length o_at o_start (1 : Int32) o_number o_text) H := hP
        have hD : va_D A (w_X3_readDigits cy a_o a_o_text o_length o_at o_start (1 : Int32) o_number o_text) := hD
        exact hret (o_at, (1 : Int32), o_number) _ _ _ _ h hP hD hS dX3_readDigits_129
  have j_73_0 : ∀ (o_at : Int32) (o_token : Int32) (o_number : Int32), wj_X3_readDigits_73  o_length o_at o_start o_token o_number o_text  post → ∀ (H : Heap) (locs : List Loc), va_P D vwCl (w_X3_readDigits cy a_o a_o_text o_length o_at o_start o_token o_number o_text) H → va_D A (w_X3_readDigits cy a_o a_o_text o_length o_at o_start o_token o_number o_text) → va_S A s.heap H locs → ∀ (ls : Array Slot), lv_has ls 2 [(0, .ref a_o)] → W p l e ({ frames := 1, cells := 0, slots := 0, locals := 20 }) s m args below meth c H locs 0 0 Q (F0 m 73 ls []) := by
    intro o_at o_token o_number  h H locs hP hD hS ls hl
    unfold wj_X3_readDigits_73 at h
    refine lv_aload_n hx hb dX3_readDigits_73 rfl (lv_at hl 0 rfl) ?_
    refine va_get (D := D) (ci := 3) (v := .ref a_o_text) (C := RX3) (T := TX3) (N := 6) hx hb hts in_X3 hown hK hP 0 rfl rfl 0 (by decide) fl_11 (fun _ h9 => h9) rfl dX3_readDigits_74 ?_
    refine lv_aload_n hx hb dX3_readDigits_77 rfl (lv_at hl 0 rfl) ?_
    refine va_get (D := D) (ci := 3) (v := .int o_start) (C := RX3) (T := TX3) (N := 6) hx hb hts in_X3 hown hK hP 0 rfl rfl 3 (by decide) fl_22 (fun _ h9 => h9) rfl dX3_readDigits_78 ?_
    obtain ⟨i2, h⟩ := h
    refine va_bald hx hb hK hP 1 0 rfl rfl i2 dX3_readDigits_81 ?_
    refine lv_bipush (v := 48) hx hb dX3_readDigits_82 (by decide) ?_
    refine lv_icmp_ne (tgt := 104) hx hb dX3_readDigits_84 (by decide) (fun c3 => ?_) (fun c3 => ?_)
    · have h := h.2 c3
      refine lv_iconst (v := 0) hx hb dX3_readDigits_104 (by decide) ?_
      exact j_105_1 (0 : Int32) o_at o_token o_number h _ _ hP hD hS _ (lv_sub hl [0] rfl)
    · have h := h.1 c3
      refine lv_aload_n hx hb dX3_readDigits_87 rfl (lv_at hl 0 rfl) ?_
      refine va_get (D := D) (ci := 3) (v := .int o_at) (C := RX3) (T := TX3) (N := 6) hx hb hts in_X3 hown hK hP 0 rfl rfl 2 (by decide) fl_19 (fun _ h9 => h9) rfl dX3_readDigits_88 ?_
      refine lv_aload_n hx hb dX3_readDigits_91 rfl (lv_at hl 0 rfl) ?_
      refine va_get (D := D) (ci := 3) (v := .int o_start) (C := RX3) (T := TX3) (N := 6) hx hb hts in_X3 hown hK hP 0 rfl rfl 3 (by decide) fl_22 (fun _ h9 => h9) rfl dX3_readDigits_92 ?_
      refine lv_isub hx hb dX3_readDigits_95 ?_
      refine lv_iconst (v := 1) hx hb dX3_readDigits_96 (by decide) ?_
      refine lv_icmp_le (tgt := 104) hx hb dX3_readDigits_97 (by decide) (fun c6 => ?_) (fun c6 => ?_)
      · have h := h.1 c6
        refine lv_iconst (v := 0) hx hb dX3_readDigits_104 (by decide) ?_
        exact j_105_1 (0 : Int32) o_at o_token o_number h _ _ hP hD hS _ (lv_sub hl [0] rfl)
      · have h := h.2 c6
        refine lv_iconst (v := 1) hx hb dX3_readDigits_100 (by decide) ?_
        refine lv_goto (tgt := 105) hx hb dX3_readDigits_101 (by decide) ?_
        exact j_105_1 (1 : Int32) o_at o_token o_number h _ _ hP hD hS _ (lv_sub hl [0] rfl)
  have j_60_3 : ∀ (o_at : Int32) (o_token : Int32) (o_number : Int32), ∀ (kb : Int32 → Int32 → Prop), (∀ (o_at : Int32) (o_number : Int32), kb o_at o_number → ∀ (H : Heap) (locs : List Loc), va_P D vwCl (w_X3_readDigits cy a_o a_o_text o_length o_at o_start o_token o_number o_text) H → va_D A (w_X3_readDigits cy a_o a_o_text o_length o_at o_start o_token o_number o_text) → va_S A s.heap H locs → ∀ (ls : Array Slot), lv_has ls 2 [(0, .ref a_o)] → W p l e ({ frames := 1, cells := 0, slots := 0, locals := 20 }) s m args below meth c H locs 0 0 Q (F0 m 0 ls [])) → ∀ (kx0 : Int32 → Int32 → Prop), (∀ (o_at : Int32) (o_number : Int32), kx0 o_at o_number → ∀ (H : Heap) (locs : List Loc), va_P D vwCl (w_X3_readDigits cy a_o a_o_text o_length o_at o_start o_token o_number o_text) H → va_D A (w_X3_readDigits cy a_o a_o_text o_length o_at o_start o_token o_number o_text) → va_S A s.heap H locs → ∀ (ls : Array Slot), lv_has ls 2 [(0, .ref a_o)] → W p l e ({ frames := 1, cells := 0, slots := 0, locals := 20 }) s m args below meth c H locs 0 0 Q (F0 m 73 ls [])) → wj_X3_readDigits_60_b  o_length o_at o_start o_token o_number o_text kb kx0 post → ∀ (H : Heap) (locs : List Loc), va_P D vwCl (w_X3_readDigits cy a_o a_o_text o_length o_at o_start o_token o_number o_text) H → va_D A (w_X3_readDigits cy a_o a_o_text o_length o_at o_start o_token o_number o_text) → va_S A s.heap H locs → ∀ (ls : Array Slot), lv_has ls 2 [(0, .ref a_o)] → W p l e ({ frames := 1, cells := 0, slots := 0, locals := 20 }) s m args below meth c H locs 0 0 Q (F0 m 60 ls []) := by
    intro o_at o_token o_number kb hkb kx0 hkx0  h H locs hP hD hS ls hl
    unfold wj_X3_readDigits_60_b at h
    refine lv_aload_n hx hb dX3_readDigits_60 rfl (lv_at hl 0 rfl) ?_
    refine lv_dup hx hb dX3_readDigits_61 rfl ?_
    refine va_get (D := D) (ci := 3) (v := .int o_at) (C := RX3) (T := TX3) (N := 6) hx hb hts in_X3 hown hK hP 0 rfl rfl 2 (by decide) fl_19 (fun _ h9 => h9) rfl dX3_readDigits_62 ?_
    refine lv_iconst (v := 1) hx hb dX3_readDigits_65 (by decide) ?_
    refine lv_iadd hx hb dX3_readDigits_66 ?_
    refine va_put (D := D) (ci := 3) (v := .int (o_at + (1 : Int32))) (ty := .int) (C := RX3) (T := TX3) (N := 6) hx hb hts in_X3 tyX3 tyX3_ok nmX3 hown hK hP hD hS 0 rfl rfl 2 (by decide) fl_19 (fun _ h9 => h9) rfl (by decide +kernel) rfl rfl (Nat.le_of_ble_eq_true rfl) dX3_readDigits_67 (fun H locs hP hD hS => ?_)
    have hP : va_P D vwCl (w_X3_readDigits cy a_o a_o_text o_length (o_at + (1 : Int32)) o_start o_token o_number o_text) H := hP
    have hD : va_D A (w_X3_readDigits cy a_o a_o_text o_length (o_at + (1 : Int32)) o_start o_token o_number o_text) := hD
    refine lv_goto (tgt := 0) hx hb dX3_readDigits_70 (by decide) ?_
    exact hkb (o_at + (1 : Int32)) o_number h _ _ hP hD hS _ (lv_sub hl [0] rfl)
  have l_0 : ∀ (o_token : Int32), ∀ (kx0 : Int32 → Int32 → Prop), (∀ (o_at : Int32) (o_number : Int32), kx0 o_at o_number → ∀ (H : Heap) (locs : List Loc), va_P D vwCl (w_X3_readDigits cy a_o a_o_text o_length o_at o_start o_token o_number o_text) H → va_D A (w_X3_readDigits cy a_o a_o_text o_length o_at o_start o_token o_number o_text) → va_S A s.heap H locs → ∀ (ls : Array Slot), lv_has ls 2 [(0, .ref a_o)] → W p l e ({ frames := 1, cells := 0, slots := 0, locals := 20 }) s m args below meth c H locs 0 0 Q (F0 m 73 ls [])) → ∀ (n : Nat) (o_at : Int32) (o_number : Int32), wl_X3_readDigits_0 o_length o_start o_token o_text kx0 post n o_at o_number → ∀ (H : Heap) (locs : List Loc), va_P D vwCl (w_X3_readDigits cy a_o a_o_text o_length o_at o_start o_token o_number o_text) H → va_D A (w_X3_readDigits cy a_o a_o_text o_length o_at o_start o_token o_number o_text) → va_S A s.heap H locs → ∀ (ls : Array Slot), lv_has ls 2 [(0, .ref a_o)] → W p l e ({ frames := 1, cells := 0, slots := 0, locals := 20 }) s m args below meth c H locs 0 0 Q (F0 m 0 ls []) := by
    intro o_token kx0 hkx0  n
    induction n with
    | zero => intro o_at o_number h; exact h.elim
    | succ n hkb =>
      intro o_at o_number h H locs hP hD hS ls hl
      replace h : ws_X3_readDigits_0 o_length o_start o_token o_text (wl_X3_readDigits_0 o_length o_start o_token o_text kx0 post n) kx0 post o_at o_number := h
      generalize wl_X3_readDigits_0 o_length o_start o_token o_text kx0 post n = kb at h hkb
      unfold ws_X3_readDigits_0 at h
      refine lv_aload_n hx hb dX3_readDigits_0 rfl (lv_at hl 0 rfl) ?_
      refine va_get (D := D) (ci := 3) (v := .int o_at) (C := RX3) (T := TX3) (N := 6) hx hb hts in_X3 hown hK hP 0 rfl rfl 2 (by decide) fl_19 (fun _ h9 => h9) rfl dX3_readDigits_1 ?_
      refine lv_aload_n hx hb dX3_readDigits_4 rfl (lv_at hl 0 rfl) ?_
      refine va_get (D := D) (ci := 3) (v := .int o_length) (C := RX3) (T := TX3) (N := 6) hx hb hts in_X3 hown hK hP 0 rfl rfl 1 (by decide) fl_15 (fun _ h9 => h9) rfl dX3_readDigits_5 ?_
      refine lv_icmp_ge (tgt := 73) hx hb dX3_readDigits_8 (by decide) (fun c11 => ?_) (fun c11 => ?_)
      · have h := h.1 c11
        exact hkx0 o_at o_number h _ _ hP hD hS _ (lv_sub hl [0] rfl)
      · have h := h.2 c11
        refine lv_aload_n hx hb dX3_readDigits_11 rfl (lv_at hl 0 rfl) ?_
        refine va_get (D := D) (ci := 3) (v := .ref a_o_text) (C := RX3) (T := TX3) (N := 6) hx hb hts in_X3 hown hK hP 0 rfl rfl 0 (by decide) fl_11 (fun _ h9 => h9) rfl dX3_readDigits_12 ?_
        refine lv_aload_n hx hb dX3_readDigits_15 rfl (lv_at hl 0 rfl) ?_
        refine va_get (D := D) (ci := 3) (v := .int o_at) (C := RX3) (T := TX3) (N := 6) hx hb hts in_X3 hown hK hP 0 rfl rfl 2 (by decide) fl_19 (fun _ h9 => h9) rfl dX3_readDigits_16 ?_
        obtain ⟨i12, h⟩ := h
        refine va_bald hx hb hK hP 1 0 rfl rfl i12 dX3_readDigits_19 ?_
        have hC : ([] : List Nat).map (fun i => ((w_X3_readDigits cy a_o a_o_text o_length o_at o_start o_token o_number o_text) : va_W)[i]?) = ((w_X3_isDigit cy ) : va_W).map some := rfl
        obtain ⟨hPc, hDc⟩ := cutC hP hD [] (by decide) hC
        have hFc := va_free hD hS hA [] hC
        refine va_calli (va_runS (As := [.int (o_text (o_at).toNatClampNeg)]) (rest := []) ⟨hx, hb, hml, hown, hts⟩ (c_X3_isDigit l D cy _ h) (va_cwS 1 hts gX3_readDigits_X3_isDigit rfl rfl rfl (by decide +kernel) ⟨Nat.le_of_ble_eq_true rfl, Nat.le_of_ble_eq_true rfl⟩) (preS hPc hDc hK hN) rfl rfl hl.1 rfl (lv_room (Nat.le_of_ble_eq_true rfl)) dX3_readDigits_20 ⟨Nat.zero_le _, Nat.zero_le _⟩) hS (fun q _ h => hFc q h) hFc (fun r13 u t H1 locs ht hvm h hB hz1 hk1 hS => ?_)
        try dsimp only at h hB
        obtain ⟨hP, hD⟩ := joinU (wd := (w_X3_readDigits cy a_o a_o_text o_length o_at o_start o_token o_number o_text)) (wr := [(a_o, .inr (3, [.ref a_o_text, .int o_length, .int o_at, .int o_start, .int o_token, .int o_number])), (a_o_text, .inl (cy 0, 300, .inl o_text))]) hP hD [] [0, 1] [] hC hk1 ht hB rfl rfl rfl (N := 2) rfl (by decide) rfl rfl
        generalize H1 = H at hP hS ⊢
        refine lv_if_eq (tgt := 73) hx hb dX3_readDigits_23 (by decide) (fun c14 => ?_) (fun c14 => ?_)
        · have h := h.1 c14
          exact hkx0 o_at o_number h _ _ hP hD hS _ (lv_sub hl [0] rfl)
        · have h := h.2 c14
          refine lv_aload_n hx hb dX3_readDigits_26 rfl (lv_at hl 0 rfl) ?_
          refine va_get (D := D) (ci := 3) (v := .int o_number) (C := RX3) (T := TX3) (N := 6) hx hb hts in_X3 hown hK hP 0 rfl rfl 5 (by decide) fl_28 (fun _ h9 => h9) rfl dX3_readDigits_27 ?_
          refine lv_sipush (v := 999) hx hb dX3_readDigits_30 (by decide) ?_
          refine lv_icmp_gt (tgt := 60) hx hb dX3_readDigits_33 (by decide) (fun c15 => ?_) (fun c15 => ?_)
          · have h := h.1 c15
            exact j_60_3 o_at o_token o_number kb hkb kx0 hkx0 h _ _ hP hD hS _ (lv_sub hl [0] rfl)
          · have h := h.2 c15
            refine lv_aload_n hx hb dX3_readDigits_36 rfl (lv_at hl 0 rfl) ?_
            refine lv_aload_n hx hb dX3_readDigits_37 rfl (lv_at hl 0 rfl) ?_
            refine va_get (D := D) (ci := 3) (v := .int o_number) (C := RX3) (T := TX3) (N := 6) hx hb hts in_X3 hown hK hP 0 rfl rfl 5 (by decide) fl_28 (fun _ h9 => h9) rfl dX3_readDigits_38 ?_
            refine lv_bipush (v := 10) hx hb dX3_readDigits_41 (by decide) ?_
            refine lv_imul hx hb dX3_readDigits_43 ?_
            refine lv_aload_n hx hb dX3_readDigits_44 rfl (lv_at hl 0 rfl) ?_
            refine va_get (D := D) (ci := 3) (v := .ref a_o_text) (C := RX3) (T := TX3) (N := 6) hx hb hts in_X3 hown hK hP 0 rfl rfl 0 (by decide) fl_11 (fun _ h9 => h9) rfl dX3_readDigits_45 ?_
            refine lv_aload_n hx hb dX3_readDigits_48 rfl (lv_at hl 0 rfl) ?_
            refine va_get (D := D) (ci := 3) (v := .int o_at) (C := RX3) (T := TX3) (N := 6) hx hb hts in_X3 hown hK hP 0 rfl rfl 2 (by decide) fl_19 (fun _ h9 => h9) rfl dX3_readDigits_49 ?_
            refine va_bald hx hb hK hP 1 0 rfl rfl i12 dX3_readDigits_52 ?_
            refine lv_iadd hx hb dX3_readDigits_53 ?_
            refine lv_bipush (v := 48) hx hb dX3_readDigits_54 (by decide) ?_
            refine lv_isub hx hb dX3_readDigits_56 ?_
            refine lv_topi (fun v16 ev16 => ?_)
            have h := h v16 ev16
            refine va_put (D := D) (ci := 3) (v := .int v16) (ty := .int) (C := RX3) (T := TX3) (N := 6) hx hb hts in_X3 tyX3 tyX3_ok nmX3 hown hK hP hD hS 0 rfl rfl 5 (by decide) fl_28 (fun _ h9 => h9) rfl (by decide +kernel) rfl rfl (Nat.le_of_ble_eq_true rfl) dX3_readDigits_57 (fun H locs hP hD hS => ?_)
            have hP : va_P D vwCl (w_X3_readDigits cy a_o a_o_text o_length o_at o_start o_token v16 o_text) H := hP
            have hD : va_D A (w_X3_readDigits cy a_o a_o_text o_length o_at o_start o_token v16 o_text) := hD
            exact j_60_3 o_at o_token v16 kb hkb kx0 hkx0 h _ _ hP hD hS _ (lv_sub hl [0] rfl)
  have j_60_2 : ∀ (o_at : Int32) (o_token : Int32) (o_number : Int32), wj_X3_readDigits_60  o_length o_at o_start o_token o_number o_text  post → ∀ (H : Heap) (locs : List Loc), va_P D vwCl (w_X3_readDigits cy a_o a_o_text o_length o_at o_start o_token o_number o_text) H → va_D A (w_X3_readDigits cy a_o a_o_text o_length o_at o_start o_token o_number o_text) → va_S A s.heap H locs → ∀ (ls : Array Slot), lv_has ls 2 [(0, .ref a_o)] → W p l e ({ frames := 1, cells := 0, slots := 0, locals := 20 }) s m args below meth c H locs 0 0 Q (F0 m 60 ls []) := by
    intro o_at o_token o_number  h H locs hP hD hS ls hl
    unfold wj_X3_readDigits_60 at h
    refine lv_aload_n hx hb dX3_readDigits_60 rfl (lv_at hl 0 rfl) ?_
    refine lv_dup hx hb dX3_readDigits_61 rfl ?_
    refine va_get (D := D) (ci := 3) (v := .int o_at) (C := RX3) (T := TX3) (N := 6) hx hb hts in_X3 hown hK hP 0 rfl rfl 2 (by decide) fl_19 (fun _ h9 => h9) rfl dX3_readDigits_62 ?_
    refine lv_iconst (v := 1) hx hb dX3_readDigits_65 (by decide) ?_
    refine lv_iadd hx hb dX3_readDigits_66 ?_
    refine va_put (D := D) (ci := 3) (v := .int (o_at + (1 : Int32))) (ty := .int) (C := RX3) (T := TX3) (N := 6) hx hb hts in_X3 tyX3 tyX3_ok nmX3 hown hK hP hD hS 0 rfl rfl 2 (by decide) fl_19 (fun _ h9 => h9) rfl (by decide +kernel) rfl rfl (Nat.le_of_ble_eq_true rfl) dX3_readDigits_67 (fun H locs hP hD hS => ?_)
    have hP : va_P D vwCl (w_X3_readDigits cy a_o a_o_text o_length (o_at + (1 : Int32)) o_start o_token o_number o_text) H := hP
    have hD : va_D A (w_X3_readDigits cy a_o a_o_text o_length (o_at + (1 : Int32)) o_start o_token o_number o_text) := hD
    refine lv_goto (tgt := 0) hx hb dX3_readDigits_70 (by decide) ?_
    obtain ⟨n19, h⟩ := h
    refine l_0 o_token _ ?_ n19 (o_at + (1 : Int32)) o_number h _ _ hP hD hS _ (lv_sub hl [0] rfl)
    · intro o_at_17 o_number_18 h H locs hP hD hS ls hl
      exact j_73_0 o_at_17 o_token o_number_18 h _ _ hP hD hS _ (lv_sub hl [0] rfl)
  refine ent [.ref a_o] (Nat.le_of_ble_eq_true rfl) (fun ls hl => ?_)
  have hl : lv_has ls 2 [(0, .ref a_o)] := hl
  unfold wp_X3_readDigits at h
  refine lv_aload_n hx hb dX3_readDigits_0 rfl (lv_at hl 0 rfl) ?_
  refine va_get (D := D) (ci := 3) (v := .int o_at) (C := RX3) (T := TX3) (N := 6) hx hb hts in_X3 hown hK hP 0 rfl rfl 2 (by decide) fl_19 (fun _ h9 => h9) rfl dX3_readDigits_1 ?_
  refine lv_aload_n hx hb dX3_readDigits_4 rfl (lv_at hl 0 rfl) ?_
  refine va_get (D := D) (ci := 3) (v := .int o_length) (C := RX3) (T := TX3) (N := 6) hx hb hts in_X3 hown hK hP 0 rfl rfl 1 (by decide) fl_15 (fun _ h9 => h9) rfl dX3_readDigits_5 ?_
  refine lv_icmp_ge (tgt := 73) hx hb dX3_readDigits_8 (by decide) (fun c1 => ?_) (fun c1 => ?_)
  · have h := h.1 c1
    exact j_73_0 o_at o_token o_number h _ _ hP hD hS _ (lv_sub hl [0] rfl)
  · have h := h.2 c1
    refine lv_aload_n hx hb dX3_readDigits_11 rfl (lv_at hl 0 rfl) ?_
    refine va_get (D := D) (ci := 3) (v := .ref a_o_text) (C := RX3) (T := TX3) (N := 6) hx hb hts in_X3 hown hK hP 0 rfl rfl 0 (by decide) fl_11 (fun _ h9 => h9) rfl dX3_readDigits_12 ?_
    refine lv_aload_n hx hb dX3_readDigits_15 rfl (lv_at hl 0 rfl) ?_
    refine va_get (D := D) (ci := 3) (v := .int o_at) (C := RX3) (T := TX3) (N := 6) hx hb hts in_X3 hown hK hP 0 rfl rfl 2 (by decide) fl_19 (fun _ h9 => h9) rfl dX3_readDigits_16 ?_
    obtain ⟨i7, h⟩ := h
    refine va_bald hx hb hK hP 1 0 rfl rfl i7 dX3_readDigits_19 ?_
    have hC : ([] : List Nat).map (fun i => ((w_X3_readDigits cy a_o a_o_text o_length o_at o_start o_token o_number o_text) : va_W)[i]?) = ((w_X3_isDigit cy ) : va_W).map some := rfl
    obtain ⟨hPc, hDc⟩ := cutC hP hD [] (by decide) hC
    have hFc := va_free hD hS hA [] hC
    refine va_calli (va_runS (As := [.int (o_text (o_at).toNatClampNeg)]) (rest := []) ⟨hx, hb, hml, hown, hts⟩ (c_X3_isDigit l D cy _ h) (va_cwS 1 hts gX3_readDigits_X3_isDigit rfl rfl rfl (by decide +kernel) ⟨Nat.le_of_ble_eq_true rfl, Nat.le_of_ble_eq_true rfl⟩) (preS hPc hDc hK hN) rfl rfl hl.1 rfl (lv_room (Nat.le_of_ble_eq_true rfl)) dX3_readDigits_20 ⟨Nat.zero_le _, Nat.zero_le _⟩) hS (fun q _ h => hFc q h) hFc (fun r8 u t H1 locs ht hvm h hB hz1 hk1 hS => ?_)
    try dsimp only at h hB
    obtain ⟨hP, hD⟩ := joinU (wd := (w_X3_readDigits cy a_o a_o_text o_length o_at o_start o_token o_number o_text)) (wr := [(a_o, .inr (3, [.ref a_o_text, .int o_length, .int o_at, .int o_start, .int o_token, .int o_number])), (a_o_text, .inl (cy 0, 300, .inl o_text))]) hP hD [] [0, 1] [] hC hk1 ht hB rfl rfl rfl (N := 2) rfl (by decide) rfl rfl
    generalize H1 = H at hP hS ⊢
    refine lv_if_eq (tgt := 73) hx hb dX3_readDigits_23 (by decide) (fun c9 => ?_) (fun c9 => ?_)
    · have h := h.1 c9
      exact j_73_0 o_at o_token o_number h _ _ hP hD hS _ (lv_sub hl [0] rfl)
    · have h := h.2 c9
      refine lv_aload_n hx hb dX3_readDigits_26 rfl (lv_at hl 0 rfl) ?_
      refine va_get (D := D) (ci := 3) (v := .int o_number) (C := RX3) (T := TX3) (N := 6) hx hb hts in_X3 hown hK hP 0 rfl rfl 5 (by decide) fl_28 (fun _ h9 => h9) rfl dX3_readDigits_27 ?_
      refine lv_sipush (v := 999) hx hb dX3_readDigits_30 (by decide) ?_
      refine lv_icmp_gt (tgt := 60) hx hb dX3_readDigits_33 (by decide) (fun c10 => ?_) (fun c10 => ?_)
      · have h := h.1 c10
        exact j_60_2 o_at o_token o_number h _ _ hP hD hS _ (lv_sub hl [0] rfl)
      · have h := h.2 c10
        refine lv_aload_n hx hb dX3_readDigits_36 rfl (lv_at hl 0 rfl) ?_
        refine lv_aload_n hx hb dX3_readDigits_37 rfl (lv_at hl 0 rfl) ?_
        refine va_get (D := D) (ci := 3) (v := .int o_number) (C := RX3) (T := TX3) (N := 6) hx hb hts in_X3 hown hK hP 0 rfl rfl 5 (by decide) fl_28 (fun _ h9 => h9) rfl dX3_readDigits_38 ?_
        refine lv_bipush (v := 10) hx hb dX3_readDigits_41 (by decide) ?_
        refine lv_imul hx hb dX3_readDigits_43 ?_
        refine lv_aload_n hx hb dX3_readDigits_44 rfl (lv_at hl 0 rfl) ?_
        refine va_get (D := D) (ci := 3) (v := .ref a_o_text) (C := RX3) (T := TX3) (N := 6) hx hb hts in_X3 hown hK hP 0 rfl rfl 0 (by decide) fl_11 (fun _ h9 => h9) rfl dX3_readDigits_45 ?_
        refine lv_aload_n hx hb dX3_readDigits_48 rfl (lv_at hl 0 rfl) ?_
        refine va_get (D := D) (ci := 3) (v := .int o_at) (C := RX3) (T := TX3) (N := 6) hx hb hts in_X3 hown hK hP 0 rfl rfl 2 (by decide) fl_19 (fun _ h9 => h9) rfl dX3_readDigits_49 ?_
        refine va_bald hx hb hK hP 1 0 rfl rfl i7 dX3_readDigits_52 ?_
        refine lv_iadd hx hb dX3_readDigits_53 ?_
        refine lv_bipush (v := 48) hx hb dX3_readDigits_54 (by decide) ?_
        refine lv_isub hx hb dX3_readDigits_56 ?_
        refine lv_topi (fun v20 ev20 => ?_)
        have h := h v20 ev20
        refine va_put (D := D) (ci := 3) (v := .int v20) (ty := .int) (C := RX3) (T := TX3) (N := 6) hx hb hts in_X3 tyX3 tyX3_ok nmX3 hown hK hP hD hS 0 rfl rfl 5 (by decide) fl_28 (fun _ h9 => h9) rfl (by decide +kernel) rfl rfl (Nat.le_of_ble_eq_true rfl) dX3_readDigits_57 (fun H locs hP hD hS => ?_)
        have hP : va_P D vwCl (w_X3_readDigits cy a_o a_o_text o_length o_at o_start o_token v20 o_text) H := hP
        have hD : va_D A (w_X3_readDigits cy a_o a_o_text o_length o_at o_start o_token v20 o_text) := hD
        exact j_60_2 o_at o_token v20 h _ _ hP hD hS _ (lv_sub hl [0] rfl)
