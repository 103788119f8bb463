abbrev w_X7_determinant (cy : Nat → ClassId) (a_o a_o_text a_o_letter a_o_least a_o_carries a_o_gateOff a_o_worth a_o_kind a_o_most a_o_wishOff a_o_use a_o_toldUp a_o_toldDown a_o_priceUp a_o_priceDown a_o_draftGate a_o_draftCarries a_o_draftWorth a_o_draftKind a_o_draftMost a_o_draftUse a_o_x a_o_bestX a_o_part a_o_row a_o_right a_o_m a_o_given a_o_wasOff : Nat) (o_trace : Int64) (o_typed : Int32) (o_gates : Int32) (o_wishes : Int32) (o_at : Int32) (o_start : Int32) (o_sort : Int32) (o_value : Int32) (o_fault : Int32) (o_drafted : Int32) (o_by : Int64) (o_bestBy : Int64) (o_bestWorth : Int64) (o_isBest : Int32) (o_parts : Int32) (o_m : Nat → Int64) : va_W := [(a_o, .inr (7, [.long o_trace, .ref a_o_text, .int o_typed, .int o_gates, .int o_wishes, .ref a_o_letter, .ref a_o_least, .ref a_o_carries, .ref a_o_gateOff, .ref a_o_worth, .ref a_o_kind, .ref a_o_most, .ref a_o_wishOff, .ref a_o_use, .ref a_o_toldUp, .ref a_o_toldDown, .ref a_o_priceUp, .ref a_o_priceDown, .int o_at, .int o_start, .int o_sort, .int o_value, .int o_fault, .ref a_o_draftGate, .ref a_o_draftCarries, .ref a_o_draftWorth, .ref a_o_draftKind, .ref a_o_draftMost, .ref a_o_draftUse, .int o_drafted, .ref a_o_x, .long o_by, .ref a_o_bestX, .long o_bestBy, .long o_bestWorth, .int o_isBest, .ref a_o_part, .int o_parts, .ref a_o_row, .ref a_o_right, .ref a_o_m, .ref a_o_given, .ref a_o_wasOff])), (a_o_m, .inl (cy 2, 16, .inr (.inl o_m)))]
set_option maxHeartbeats 4000000 in
set_option maxRecDepth 100000 in
theorem c_X7_determinant (l : Launch) (D : va_G) (cy : Nat → ClassId) (a_o a_o_text a_o_letter a_o_least a_o_carries a_o_gateOff a_o_worth a_o_kind a_o_most a_o_wishOff a_o_use a_o_toldUp a_o_toldDown a_o_priceUp a_o_priceDown a_o_draftGate a_o_draftCarries a_o_draftWorth a_o_draftKind a_o_draftMost a_o_draftUse a_o_x a_o_bestX a_o_part a_o_row a_o_right a_o_m a_o_given a_o_wasOff : Nat) (sz : Nat)  {o_trace : Int64} {o_typed : Int32} {o_gates : Int32} {o_wishes : Int32} {o_at : Int32} {o_start : Int32} {o_sort : Int32} {o_value : Int32} {o_fault : Int32} {o_drafted : Int32} {o_by : Int64} {o_bestBy : Int64} {o_bestWorth : Int64} {o_isBest : Int32} {o_parts : Int32} {o_m : Nat → Int64} {x1 : Int32} {post : Int64 → (Nat → Int64) → Prop} (h : wp_X7_determinant o_m x1 post) : Met l yX7_determinant wsX7_determinant ({ frames := 0, cells := 0, slots := 0, locals := 0 }) (va_Pc [.ref a_o, .int x1] (wI D cy sz (w_X7_determinant cy a_o a_o_text a_o_letter a_o_least a_o_carries a_o_gateOff a_o_worth a_o_kind a_o_most a_o_wishOff a_o_use a_o_toldUp a_o_toldDown a_o_priceUp a_o_priceDown a_o_draftGate a_o_draftCarries a_o_draftWorth a_o_draftKind a_o_draftMost a_o_draftUse a_o_x a_o_bestX a_o_part a_o_row a_o_right a_o_m a_o_given a_o_wasOff o_trace o_typed o_gates o_wishes o_at o_start o_sort o_value o_fault o_drafted o_by o_bestBy o_bestWorth o_isBest o_parts o_m))) (va_Ql (fun (r : Int64) (u : (Nat → Int64)) => post r u) (fun (u : (Nat → Int64)) t => wO D cy (va_A (w_X7_determinant cy a_o a_o_text a_o_letter a_o_least a_o_carries a_o_gateOff a_o_worth a_o_kind a_o_most a_o_wishOff a_o_use a_o_toldUp a_o_toldDown a_o_priceUp a_o_priceDown a_o_draftGate a_o_draftCarries a_o_draftWorth a_o_draftKind a_o_draftMost a_o_draftUse a_o_x a_o_bestX a_o_part a_o_row a_o_right a_o_m a_o_given a_o_wasOff o_trace o_typed o_gates o_wishes o_at o_start o_sort o_value o_fault o_drafted o_by o_bestBy o_bestWorth o_isBest o_parts o_m) sz) (w_X7_determinant cy a_o a_o_text a_o_letter a_o_least a_o_carries a_o_gateOff a_o_worth a_o_kind a_o_most a_o_wishOff a_o_use a_o_toldUp a_o_toldDown a_o_priceUp a_o_priceDown a_o_draftGate a_o_draftCarries a_o_draftWorth a_o_draftKind a_o_draftMost a_o_draftUse a_o_x a_o_bestX a_o_part a_o_row a_o_right a_o_m a_o_given a_o_wasOff o_trace o_typed o_gates o_wishes o_at o_start o_sort o_value o_fault o_drafted o_by o_bestBy o_bestWorth o_isBest o_parts u) t) (va_A (w_X7_determinant cy a_o a_o_text a_o_letter a_o_least a_o_carries a_o_gateOff a_o_worth a_o_kind a_o_most a_o_wishOff a_o_use a_o_toldUp a_o_toldDown a_o_priceUp a_o_priceDown a_o_draftGate a_o_draftCarries a_o_draftWorth a_o_draftKind a_o_draftMost a_o_draftUse a_o_x a_o_bestX a_o_part a_o_row a_o_right a_o_m a_o_given a_o_wasOff o_trace o_typed o_gates o_wishes o_at o_start o_sort o_value o_fault o_drafted o_by o_bestBy o_bestWorth o_isBest o_parts o_m) sz)) 0 0 (va_A (w_X7_determinant cy a_o a_o_text a_o_letter a_o_least a_o_carries a_o_gateOff a_o_worth a_o_kind a_o_most a_o_wishOff a_o_use a_o_toldUp a_o_toldDown a_o_priceUp a_o_priceDown a_o_draftGate a_o_draftCarries a_o_draftWorth a_o_draftKind a_o_draftMost a_o_draftUse a_o_x a_o_bestX a_o_part a_o_row a_o_right a_o_m a_o_given a_o_wasOff o_trace o_typed o_gates o_wishes o_at o_start o_sort o_value o_fault o_drafted o_by o_bestBy o_bestWorth o_isBest o_parts o_m) sz) := by
  refine contrL (S := (Nat → Int64)) (post := fun (r : Int64) (u : (Nat → Int64)) => post r u) (wOut := fun (u : (Nat → Int64)) => (w_X7_determinant cy a_o a_o_text a_o_letter a_o_least a_o_carries a_o_gateOff a_o_worth a_o_kind a_o_most a_o_wishOff a_o_use a_o_toldUp a_o_toldDown a_o_priceUp a_o_priceDown a_o_draftGate a_o_draftCarries a_o_draftWorth a_o_draftKind a_o_draftMost a_o_draftUse a_o_x a_o_bestX a_o_part a_o_row a_o_right a_o_m a_o_given a_o_wasOff o_trace o_typed o_gates o_wishes o_at o_start o_sort o_value o_fault o_drafted o_by o_bestBy o_bestWorth o_isBest o_parts u)) (cc := cX7_determinant) (maxL := 11) (own := RX7) (by decide +kernel) rfl rfl ?_
  intro p e s m args below meth c A Q hx hb hml hown hts hK hN hP hD hS hA hret
  have in_X7 : ∀ w ∈ u_ws RX7 TX7 43, w ∈ wsX7_determinant := by decide +kernel
  have fl_88 := hts (.fieldLink RX7 88 "DawnTableModel" "m" "[J") (by decide +kernel)
  have l_18 : ∀ (x1 : Int32) (x2 : Int64) (x4 : Int64) (x6 : Int32) (o_m : Nat → Int64), ∀ (kx0 : Int32 → Prop), (∀ (x7 : Int32), kx0 x7 → ∀ (H : Heap) (locs : List Loc), va_P D vwCl (w_X7_determinant cy a_o a_o_text a_o_letter a_o_least a_o_carries a_o_gateOff a_o_worth a_o_kind a_o_most a_o_wishOff a_o_use a_o_toldUp a_o_toldDown a_o_priceUp a_o_priceDown a_o_draftGate a_o_draftCarries a_o_draftWorth a_o_draftKind a_o_draftMost a_o_draftUse a_o_x a_o_bestX a_o_part a_o_row a_o_right a_o_m a_o_given a_o_wasOff o_trace o_typed o_gates o_wishes o_at o_start o_sort o_value o_fault o_drafted o_by o_bestBy o_bestWorth o_isBest o_parts o_m) H → va_D A (w_X7_determinant cy a_o a_o_text a_o_letter a_o_least a_o_carries a_o_gateOff a_o_worth a_o_kind a_o_most a_o_wishOff a_o_use a_o_toldUp a_o_toldDown a_o_priceUp a_o_priceDown a_o_draftGate a_o_draftCarries a_o_draftWorth a_o_draftKind a_o_draftMost a_o_draftUse a_o_x a_o_bestX a_o_part a_o_row a_o_right a_o_m a_o_given a_o_wasOff o_trace o_typed o_gates o_wishes o_at o_start o_sort o_value o_fault o_drafted o_by o_bestBy o_bestWorth o_isBest o_parts o_m) → va_S A s.heap H locs → ∀ (ls : Array Slot), lv_has ls 11 [(0, .ref a_o), (1, .int x1), (2, .long x2), (4, .long x4), (6, .int x6), (7, .int x7)] → W p l e ({ frames := 0, cells := 0, slots := 0, locals := 0 }) s m args below meth c H locs 0 0 Q (F0 m 47 ls [])) → ∀ (n : Nat) (x7 : Int32), wl_X7_determinant_18 x1 x2 x4 x6 o_m kx0 post n x7 → ∀ (H : Heap) (locs : List Loc), va_P D vwCl (w_X7_determinant cy a_o a_o_text a_o_letter a_o_least a_o_carries a_o_gateOff a_o_worth a_o_kind a_o_most a_o_wishOff a_o_use a_o_toldUp a_o_toldDown a_o_priceUp a_o_priceDown a_o_draftGate a_o_draftCarries a_o_draftWorth a_o_draftKind a_o_draftMost a_o_draftUse a_o_x a_o_bestX a_o_part a_o_row a_o_right a_o_m a_o_given a_o_wasOff o_trace o_typed o_gates o_wishes o_at o_start o_sort o_value o_fault o_drafted o_by o_bestBy o_bestWorth o_isBest o_parts o_m) H → va_D A (w_X7_determinant cy a_o a_o_text a_o_letter a_o_least a_o_carries a_o_gateOff a_o_worth a_o_kind a_o_most a_o_wishOff a_o_use a_o_toldUp a_o_toldDown a_o_priceUp a_o_priceDown a_o_draftGate a_o_draftCarries a_o_draftWorth a_o_draftKind a_o_draftMost a_o_draftUse a_o_x a_o_bestX a_o_part a_o_row a_o_right a_o_m a_o_given a_o_wasOff o_trace o_typed o_gates o_wishes o_at o_start o_sort o_value o_fault o_drafted o_by o_bestBy o_bestWorth o_isBest o_parts o_m) → va_S A s.heap H locs → ∀ (ls : Array Slot), lv_has ls 11 [(0, .ref a_o), (1, .int x1), (2, .long x2), (4, .long x4), (6, .int x6), (7, .int x7)] → W p l e ({ frames := 0, cells := 0, slots := 0, locals := 0 }) s m args below meth c H locs 0 0 Q (F0 m 18 ls []) := by
    intro x1 x2 x4 x6 o_m kx0 hkx0  n
    induction n with
    | zero => intro x7 h; exact h.elim
    | succ n hkb =>
      intro x7 h H locs hP hD hS ls hl
      replace h : ws_X7_determinant_18 x1 x2 x4 x6 o_m (wl_X7_determinant_18 x1 x2 x4 x6 o_m kx0 post n) kx0 post x7 := h
      generalize wl_X7_determinant_18 x1 x2 x4 x6 o_m kx0 post n = kb at h hkb
      unfold ws_X7_determinant_18 at h
      refine lv_iload hx hb dX7_determinant_18 (lv_at hl 5 rfl) ?_
      refine lv_iload_n hx hb dX7_determinant_20 rfl (lv_at hl 1 rfl) ?_
      refine lv_icmp_ge (tgt := 47) hx hb dX7_determinant_21 (by decide) (fun c2 => ?_) (fun c2 => ?_)
      · have h := h.1 c2
        exact hkx0 x7 h _ _ hP hD hS _ (lv_sub hl [0, 1, 2, 3, 4, 5] rfl)
      · have h := h.2 c2
        refine lv_aload_n hx hb dX7_determinant_24 rfl (lv_at hl 0 rfl) ?_
        refine va_get (D := D) (ci := 7) (v := .ref a_o_m) (C := RX7) (T := TX7) (N := 43) hx hb hts in_X7 hown hK hP 0 rfl rfl 40 (by decide) fl_88 (fun _ h9 => h9) rfl dX7_determinant_25 ?_
        refine lv_iconst (v := 4) hx hb dX7_determinant_28 (by decide) ?_
        refine lv_iload hx hb dX7_determinant_29 (lv_at hl 5 rfl) ?_
        refine lv_imul hx hb dX7_determinant_31 ?_
        refine lv_iload hx hb dX7_determinant_32 (lv_at hl 4 rfl) ?_
        refine lv_iadd hx hb dX7_determinant_34 ?_
        obtain ⟨i3, h⟩ := h
        refine va_lald hx hb hK hP 1 2 rfl rfl i3 dX7_determinant_35 ?_
        refine lv_lconst (v := 0) hx hb dX7_determinant_36 (by decide) ?_
        refine W.lcmp hx hb dX7_determinant_37 ?_
        refine lv_if_ne (tgt := 47) hx hb dX7_determinant_38 (by decide) (fun c4 => ?_) (fun c4 => ?_)
        · have h := h.2 (fun z => c4 (lc_eq.mpr z))
          exact hkx0 x7 h _ _ hP hD hS _ (lv_sub hl [0, 1, 2, 3, 4, 5] rfl)
        · have h := h.1 (lc_eq.mp c4)
          refine lv_iinc (v := (x7 + (1 : Int32))) (lv' := [(7, .int (x7 + (1 : Int32))), (0, .ref a_o), (1, .int x1), (2, .long x2), (4, .long x4), (6, .int x6)]) hx hb dX7_determinant_41 hl (k := 5) rfl (congrArg (fun z => x7 + z) (by decide : Int32.ofInt (1) = (1 : Int32))) (by decide) rfl (fun ls hl => ?_)
          refine lv_goto (tgt := 18) hx hb dX7_determinant_44 (by decide) ?_
          exact hkb (x7 + (1 : Int32)) h _ _ hP hD hS _ (lv_sub hl [1, 2, 3, 4, 5, 0] rfl)
  have l_150 : ∀ (x1 : Int32) (x2 : Int64) (x4 : Int64) (x6 : Int32) (x8 : Int32), ∀ (kx0 : (Nat → Int64) → Prop), (∀ (o_m : Nat → Int64), kx0 o_m → ∀ (H : Heap) (locs : List Loc), va_P D vwCl (w_X7_determinant cy a_o a_o_text a_o_letter a_o_least a_o_carries a_o_gateOff a_o_worth a_o_kind a_o_most a_o_wishOff a_o_use a_o_toldUp a_o_toldDown a_o_priceUp a_o_priceDown a_o_draftGate a_o_draftCarries a_o_draftWorth a_o_draftKind a_o_draftMost a_o_draftUse a_o_x a_o_bestX a_o_part a_o_row a_o_right a_o_m a_o_given a_o_wasOff o_trace o_typed o_gates o_wishes o_at o_start o_sort o_value o_fault o_drafted o_by o_bestBy o_bestWorth o_isBest o_parts o_m) H → va_D A (w_X7_determinant cy a_o a_o_text a_o_letter a_o_least a_o_carries a_o_gateOff a_o_worth a_o_kind a_o_most a_o_wishOff a_o_use a_o_toldUp a_o_toldDown a_o_priceUp a_o_priceDown a_o_draftGate a_o_draftCarries a_o_draftWorth a_o_draftKind a_o_draftMost a_o_draftUse a_o_x a_o_bestX a_o_part a_o_row a_o_right a_o_m a_o_given a_o_wasOff o_trace o_typed o_gates o_wishes o_at o_start o_sort o_value o_fault o_drafted o_by o_bestBy o_bestWorth o_isBest o_parts o_m) → va_S A s.heap H locs → ∀ (ls : Array Slot), lv_has ls 11 [(0, .ref a_o), (1, .int x1), (2, .long x2), (4, .long x4), (6, .int x6), (8, .int x8)] → W p l e ({ frames := 0, cells := 0, slots := 0, locals := 0 }) s m args below meth c H locs 0 0 Q (F0 m 228 ls [])) → ∀ (n : Nat) (x9 : Int32) (o_m : Nat → Int64), wl_X7_determinant_150 x1 x2 x4 x6 x8 kx0 post n x9 o_m → ∀ (H : Heap) (locs : List Loc), va_P D vwCl (w_X7_determinant cy a_o a_o_text a_o_letter a_o_least a_o_carries a_o_gateOff a_o_worth a_o_kind a_o_most a_o_wishOff a_o_use a_o_toldUp a_o_toldDown a_o_priceUp a_o_priceDown a_o_draftGate a_o_draftCarries a_o_draftWorth a_o_draftKind a_o_draftMost a_o_draftUse a_o_x a_o_bestX a_o_part a_o_row a_o_right a_o_m a_o_given a_o_wasOff o_trace o_typed o_gates o_wishes o_at o_start o_sort o_value o_fault o_drafted o_by o_bestBy o_bestWorth o_isBest o_parts o_m) H → va_D A (w_X7_determinant cy a_o a_o_text a_o_letter a_o_least a_o_carries a_o_gateOff a_o_worth a_o_kind a_o_most a_o_wishOff a_o_use a_o_toldUp a_o_toldDown a_o_priceUp a_o_priceDown a_o_draftGate a_o_draftCarries a_o_draftWorth a_o_draftKind a_o_draftMost a_o_draftUse a_o_x a_o_bestX a_o_part a_o_row a_o_right a_o_m a_o_given a_o_wasOff o_trace o_typed o_gates o_wishes o_at o_start o_sort o_value o_fault o_drafted o_by o_bestBy o_bestWorth o_isBest o_parts o_m) → va_S A s.heap H locs → ∀ (ls : Array Slot), lv_has ls 11 [(0, .ref a_o), (1, .int x1), (2, .long x2), (4, .long x4), (6, .int x6), (8, .int x8), (9, .int x9)] → W p l e ({ frames := 0, cells := 0, slots := 0, locals := 0 }) s m args below meth c H locs 0 0 Q (F0 m 150 ls []) := by
    intro x1 x2 x4 x6 x8 kx0 hkx0  n
    induction n with
    | zero => intro x9 o_m h; exact h.elim
    | succ n hkb =>
      intro x9 o_m h H locs hP hD hS ls hl
      replace h : ws_X7_determinant_150 x1 x2 x4 x6 x8 (wl_X7_determinant_150 x1 x2 x4 x6 x8 kx0 post n) kx0 post x9 o_m := h
      generalize wl_X7_determinant_150 x1 x2 x4 x6 x8 kx0 post n = kb at h hkb
      unfold ws_X7_determinant_150 at h
      refine lv_iload hx hb dX7_determinant_150 (lv_at hl 6 rfl) ?_
      refine lv_iload_n hx hb dX7_determinant_152 rfl (lv_at hl 1 rfl) ?_
      refine lv_icmp_ge (tgt := 228) hx hb dX7_determinant_153 (by decide) (fun c9 => ?_) (fun c9 => ?_)
      · have h := h.1 c9
        exact hkx0 o_m h _ _ hP hD hS _ (lv_sub hl [0, 1, 2, 3, 4, 5] rfl)
      · have h := h.2 c9
        refine lv_aload_n hx hb dX7_determinant_156 rfl (lv_at hl 0 rfl) ?_
        refine va_get (D := D) (ci := 7) (v := .ref a_o_m) (C := RX7) (T := TX7) (N := 43) hx hb hts in_X7 hown hK hP 0 rfl rfl 40 (by decide) fl_88 (fun _ h9 => h9) rfl dX7_determinant_157 ?_
        refine lv_iconst (v := 4) hx hb dX7_determinant_160 (by decide) ?_
        refine lv_iload hx hb dX7_determinant_161 (lv_at hl 5 rfl) ?_
        refine lv_imul hx hb dX7_determinant_163 ?_
        refine lv_iload hx hb dX7_determinant_164 (lv_at hl 6 rfl) ?_
        refine lv_iadd hx hb dX7_determinant_166 ?_
        refine lv_aload_n hx hb dX7_determinant_167 rfl (lv_at hl 0 rfl) ?_
        refine va_get (D := D) (ci := 7) (v := .ref a_o_m) (C := RX7) (T := TX7) (N := 43) hx hb hts in_X7 hown hK hP 0 rfl rfl 40 (by decide) fl_88 (fun _ h9 => h9) rfl dX7_determinant_168 ?_
        refine lv_iconst (v := 4) hx hb dX7_determinant_171 (by decide) ?_
        refine lv_iload hx hb dX7_determinant_172 (lv_at hl 5 rfl) ?_
        refine lv_imul hx hb dX7_determinant_174 ?_
        refine lv_iload hx hb dX7_determinant_175 (lv_at hl 6 rfl) ?_
        refine lv_iadd hx hb dX7_determinant_177 ?_
        obtain ⟨i10, h⟩ := h
        refine va_lald hx hb hK hP 1 2 rfl rfl i10 dX7_determinant_178 ?_
        refine lv_aload_n hx hb dX7_determinant_179 rfl (lv_at hl 0 rfl) ?_
        refine va_get (D := D) (ci := 7) (v := .ref a_o_m) (C := RX7) (T := TX7) (N := 43) hx hb hts in_X7 hown hK hP 0 rfl rfl 40 (by decide) fl_88 (fun _ h9 => h9) rfl dX7_determinant_180 ?_
        refine lv_iconst (v := 4) hx hb dX7_determinant_183 (by decide) ?_
        refine lv_iload hx hb dX7_determinant_184 (lv_at hl 4 rfl) ?_
        refine lv_imul hx hb dX7_determinant_186 ?_
        refine lv_iload hx hb dX7_determinant_187 (lv_at hl 4 rfl) ?_
        refine lv_iadd hx hb dX7_determinant_189 ?_
        obtain ⟨i11, h⟩ := h
        refine va_lald hx hb hK hP 1 2 rfl rfl i11 dX7_determinant_190 ?_
        refine lv_lmul hx hb dX7_determinant_191 ?_
        refine lv_aload_n hx hb dX7_determinant_192 rfl (lv_at hl 0 rfl) ?_
        refine va_get (D := D) (ci := 7) (v := .ref a_o_m) (C := RX7) (T := TX7) (N := 43) hx hb hts in_X7 hown hK hP 0 rfl rfl 40 (by decide) fl_88 (fun _ h9 => h9) rfl dX7_determinant_193 ?_
        refine lv_iconst (v := 4) hx hb dX7_determinant_196 (by decide) ?_
        refine lv_iload hx hb dX7_determinant_197 (lv_at hl 5 rfl) ?_
        refine lv_imul hx hb dX7_determinant_199 ?_
        refine lv_iload hx hb dX7_determinant_200 (lv_at hl 4 rfl) ?_
        refine lv_iadd hx hb dX7_determinant_202 ?_
        obtain ⟨i12, h⟩ := h
        refine va_lald hx hb hK hP 1 2 rfl rfl i12 dX7_determinant_203 ?_
        refine lv_aload_n hx hb dX7_determinant_204 rfl (lv_at hl 0 rfl) ?_
        refine va_get (D := D) (ci := 7) (v := .ref a_o_m) (C := RX7) (T := TX7) (N := 43) hx hb hts in_X7 hown hK hP 0 rfl rfl 40 (by decide) fl_88 (fun _ h9 => h9) rfl dX7_determinant_205 ?_
        refine lv_iconst (v := 4) hx hb dX7_determinant_208 (by decide) ?_
        refine lv_iload hx hb dX7_determinant_209 (lv_at hl 4 rfl) ?_
        refine lv_imul hx hb dX7_determinant_211 ?_
        refine lv_iload hx hb dX7_determinant_212 (lv_at hl 6 rfl) ?_
        refine lv_iadd hx hb dX7_determinant_214 ?_
        obtain ⟨i13, h⟩ := h
        refine va_lald hx hb hK hP 1 2 rfl rfl i13 dX7_determinant_215 ?_
        refine lv_lmul hx hb dX7_determinant_216 ?_
        refine lv_lsub hx hb dX7_determinant_217 ?_
        refine lv_lload hx hb dX7_determinant_218 (lv_at hl 3 rfl) ?_
        obtain ⟨z14, h⟩ := h
        refine lv_ldiv hx hb dX7_determinant_220 z14 ?_
        refine lv_topl (fun v15 ev15 => ?_)
        have h := h v15 ev15
        refine va_last hx hb hK hP hD hS 1 2 rfl rfl i10 dX7_determinant_221 (fun H locs hP hD hS => ?_)
        have hP : va_P D vwCl (w_X7_determinant cy a_o a_o_text a_o_letter a_o_least a_o_carries a_o_gateOff a_o_worth a_o_kind a_o_most a_o_wishOff a_o_use a_o_toldUp a_o_toldDown a_o_priceUp a_o_priceDown a_o_draftGate a_o_draftCarries a_o_draftWorth a_o_draftKind a_o_draftMost a_o_draftUse a_o_x a_o_bestX a_o_part a_o_row a_o_right a_o_m a_o_given a_o_wasOff o_trace o_typed o_gates o_wishes o_at o_start o_sort o_value o_fault o_drafted o_by o_bestBy o_bestWorth o_isBest o_parts (vp_updL o_m ((((4 : Int32) * x8) + x9)).toNatClampNeg v15)) H := hP
        have hD : va_D A (w_X7_determinant cy a_o a_o_text a_o_letter a_o_least a_o_carries a_o_gateOff a_o_worth a_o_kind a_o_most a_o_wishOff a_o_use a_o_toldUp a_o_toldDown a_o_priceUp a_o_priceDown a_o_draftGate a_o_draftCarries a_o_draftWorth a_o_draftKind a_o_draftMost a_o_draftUse a_o_x a_o_bestX a_o_part a_o_row a_o_right a_o_m a_o_given a_o_wasOff o_trace o_typed o_gates o_wishes o_at o_start o_sort o_value o_fault o_drafted o_by o_bestBy o_bestWorth o_isBest o_parts (vp_updL o_m ((((4 : Int32) * x8) + x9)).toNatClampNeg v15)) := hD
        refine lv_iinc (v := (x9 + (1 : Int32))) (lv' := [(9, .int (x9 + (1 : Int32))), (0, .ref a_o), (1, .int x1), (2, .long x2), (4, .long x4), (6, .int x6), (8, .int x8)]) hx hb dX7_determinant_222 hl (k := 6) rfl (congrArg (fun z => x9 + z) (by decide : Int32.ofInt (1) = (1 : Int32))) (by decide) rfl (fun ls hl => ?_)
        refine lv_goto (tgt := 150) hx hb dX7_determinant_225 (by decide) ?_
        exact hkb (x9 + (1 : Int32)) (vp_updL o_m ((((4 : Int32) * x8) + x9)).toNatClampNeg v15) h _ _ hP hD hS _ (lv_sub hl [1, 2, 3, 4, 5, 6, 0] rfl)
  have l_138 : ∀ (x1 : Int32) (x2 : Int64) (x4 : Int64) (x6 : Int32), ∀ (kx0 : (Nat → Int64) → Prop), (∀ (o_m : Nat → Int64), kx0 o_m → ∀ (H : Heap) (locs : List Loc), va_P D vwCl (w_X7_determinant cy a_o a_o_text a_o_letter a_o_least a_o_carries a_o_gateOff a_o_worth a_o_kind a_o_most a_o_wishOff a_o_use a_o_toldUp a_o_toldDown a_o_priceUp a_o_priceDown a_o_draftGate a_o_draftCarries a_o_draftWorth a_o_draftKind a_o_draftMost a_o_draftUse a_o_x a_o_bestX a_o_part a_o_row a_o_right a_o_m a_o_given a_o_wasOff o_trace o_typed o_gates o_wishes o_at o_start o_sort o_value o_fault o_drafted o_by o_bestBy o_bestWorth o_isBest o_parts o_m) H → va_D A (w_X7_determinant cy a_o a_o_text a_o_letter a_o_least a_o_carries a_o_gateOff a_o_worth a_o_kind a_o_most a_o_wishOff a_o_use a_o_toldUp a_o_toldDown a_o_priceUp a_o_priceDown a_o_draftGate a_o_draftCarries a_o_draftWorth a_o_draftKind a_o_draftMost a_o_draftUse a_o_x a_o_bestX a_o_part a_o_row a_o_right a_o_m a_o_given a_o_wasOff o_trace o_typed o_gates o_wishes o_at o_start o_sort o_value o_fault o_drafted o_by o_bestBy o_bestWorth o_isBest o_parts o_m) → va_S A s.heap H locs → ∀ (ls : Array Slot), lv_has ls 11 [(0, .ref a_o), (1, .int x1), (2, .long x2), (6, .int x6)] → W p l e ({ frames := 0, cells := 0, slots := 0, locals := 0 }) s m args below meth c H locs 0 0 Q (F0 m 234 ls [])) → ∀ (n : Nat) (x8 : Int32) (o_m : Nat → Int64), wl_X7_determinant_138 x1 x2 x4 x6 kx0 post n x8 o_m → ∀ (H : Heap) (locs : List Loc), va_P D vwCl (w_X7_determinant cy a_o a_o_text a_o_letter a_o_least a_o_carries a_o_gateOff a_o_worth a_o_kind a_o_most a_o_wishOff a_o_use a_o_toldUp a_o_toldDown a_o_priceUp a_o_priceDown a_o_draftGate a_o_draftCarries a_o_draftWorth a_o_draftKind a_o_draftMost a_o_draftUse a_o_x a_o_bestX a_o_part a_o_row a_o_right a_o_m a_o_given a_o_wasOff o_trace o_typed o_gates o_wishes o_at o_start o_sort o_value o_fault o_drafted o_by o_bestBy o_bestWorth o_isBest o_parts o_m) H → va_D A (w_X7_determinant cy a_o a_o_text a_o_letter a_o_least a_o_carries a_o_gateOff a_o_worth a_o_kind a_o_most a_o_wishOff a_o_use a_o_toldUp a_o_toldDown a_o_priceUp a_o_priceDown a_o_draftGate a_o_draftCarries a_o_draftWorth a_o_draftKind a_o_draftMost a_o_draftUse a_o_x a_o_bestX a_o_part a_o_row a_o_right a_o_m a_o_given a_o_wasOff o_trace o_typed o_gates o_wishes o_at o_start o_sort o_value o_fault o_drafted o_by o_bestBy o_bestWorth o_isBest o_parts o_m) → va_S A s.heap H locs → ∀ (ls : Array Slot), lv_has ls 11 [(0, .ref a_o), (1, .int x1), (2, .long x2), (4, .long x4), (6, .int x6), (8, .int x8)] → W p l e ({ frames := 0, cells := 0, slots := 0, locals := 0 }) s m args below meth c H locs 0 0 Q (F0 m 138 ls []) := by
    intro x1 x2 x4 x6 kx0 hkx0  n
    induction n with
    | zero => intro x8 o_m h; exact h.elim
    | succ n hkb =>
      intro x8 o_m h H locs hP hD hS ls hl
      replace h : ws_X7_determinant_138 x1 x2 x4 x6 (wl_X7_determinant_138 x1 x2 x4 x6 kx0 post n) kx0 post x8 o_m := h
      generalize wl_X7_determinant_138 x1 x2 x4 x6 kx0 post n = kb at h hkb
      unfold ws_X7_determinant_138 at h
      refine lv_iload hx hb dX7_determinant_138 (lv_at hl 5 rfl) ?_
      refine lv_iload_n hx hb dX7_determinant_140 rfl (lv_at hl 1 rfl) ?_
      refine lv_icmp_ge (tgt := 234) hx hb dX7_determinant_141 (by decide) (fun c8 => ?_) (fun c8 => ?_)
      · have h := h.1 c8
        exact hkx0 o_m h _ _ hP hD hS _ (lv_sub hl [0, 1, 2, 4] rfl)
      · have h := h.2 c8
        refine lv_iload hx hb dX7_determinant_144 (lv_at hl 4 rfl) ?_
        refine lv_iconst (v := 1) hx hb dX7_determinant_146 (by decide) ?_
        refine lv_iadd hx hb dX7_determinant_147 ?_
        refine lv_istore (lv' := [(9, .int (x6 + (1 : Int32))), (0, .ref a_o), (1, .int x1), (2, .long x2), (4, .long x4), (6, .int x6), (8, .int x8)]) hx hb dX7_determinant_148 hl (by decide) rfl (fun ls hl => ?_)
        obtain ⟨n17, h⟩ := h
        refine l_150 x1 x2 x4 x6 x8 _ ?_ n17 (x6 + (1 : Int32)) o_m h _ _ hP hD hS _ (lv_sub hl [1, 2, 3, 4, 5, 6, 0] rfl)
        · intro o_m_16 h H locs hP hD hS ls hl
          refine lv_iinc (v := (x8 + (1 : Int32))) (lv' := [(8, .int (x8 + (1 : Int32))), (0, .ref a_o), (1, .int x1), (2, .long x2), (4, .long x4), (6, .int x6)]) hx hb dX7_determinant_228 hl (k := 5) rfl (congrArg (fun z => x8 + z) (by decide : Int32.ofInt (1) = (1 : Int32))) (by decide) rfl (fun ls hl => ?_)
          refine lv_goto (tgt := 138) hx hb dX7_determinant_231 (by decide) ?_
          exact hkb (x8 + (1 : Int32)) o_m_16 h _ _ hP hD hS _ (lv_sub hl [1, 2, 3, 4, 5, 0] rfl)
  have j_132_1 : ∀ (x1 : Int32) (x2 : Int64) (x4 : Int64) (x6 : Int32) (o_m : Nat → Int64), ∀ (kb : Int64 → Int64 → Int32 → (Nat → Int64) → Prop), (∀ (x2 : Int64) (x4 : Int64) (x6 : Int32) (o_m : Nat → Int64), kb x2 x4 x6 o_m → ∀ (H : Heap) (locs : List Loc), va_P D vwCl (w_X7_determinant cy a_o a_o_text a_o_letter a_o_least a_o_carries a_o_gateOff a_o_worth a_o_kind a_o_most a_o_wishOff a_o_use a_o_toldUp a_o_toldDown a_o_priceUp a_o_priceDown a_o_draftGate a_o_draftCarries a_o_draftWorth a_o_draftKind a_o_draftMost a_o_draftUse a_o_x a_o_bestX a_o_part a_o_row a_o_right a_o_m a_o_given a_o_wasOff o_trace o_typed o_gates o_wishes o_at o_start o_sort o_value o_fault o_drafted o_by o_bestBy o_bestWorth o_isBest o_parts o_m) H → va_D A (w_X7_determinant cy a_o a_o_text a_o_letter a_o_least a_o_carries a_o_gateOff a_o_worth a_o_kind a_o_most a_o_wishOff a_o_use a_o_toldUp a_o_toldDown a_o_priceUp a_o_priceDown a_o_draftGate a_o_draftCarries a_o_draftWorth a_o_draftKind a_o_draftMost a_o_draftUse a_o_x a_o_bestX a_o_part a_o_row a_o_right a_o_m a_o_given a_o_wasOff o_trace o_typed o_gates o_wishes o_at o_start o_sort o_value o_fault o_drafted o_by o_bestBy o_bestWorth o_isBest o_parts o_m) → va_S A s.heap H locs → ∀ (ls : Array Slot), lv_has ls 11 [(0, .ref a_o), (1, .int x1), (2, .long x2), (4, .long x4), (6, .int x6)] → W p l e ({ frames := 0, cells := 0, slots := 0, locals := 0 }) s m args below meth c H locs 0 0 Q (F0 m 8 ls [])) → ∀ (kx0 : Int64 → Int64 → (Nat → Int64) → Prop), (∀ (x2 : Int64) (x4 : Int64) (o_m : Nat → Int64), kx0 x2 x4 o_m → ∀ (H : Heap) (locs : List Loc), va_P D vwCl (w_X7_determinant cy a_o a_o_text a_o_letter a_o_least a_o_carries a_o_gateOff a_o_worth a_o_kind a_o_most a_o_wishOff a_o_use a_o_toldUp a_o_toldDown a_o_priceUp a_o_priceDown a_o_draftGate a_o_draftCarries a_o_draftWorth a_o_draftKind a_o_draftMost a_o_draftUse a_o_x a_o_bestX a_o_part a_o_row a_o_right a_o_m a_o_given a_o_wasOff o_trace o_typed o_gates o_wishes o_at o_start o_sort o_value o_fault o_drafted o_by o_bestBy o_bestWorth o_isBest o_parts o_m) H → va_D A (w_X7_determinant cy a_o a_o_text a_o_letter a_o_least a_o_carries a_o_gateOff a_o_worth a_o_kind a_o_most a_o_wishOff a_o_use a_o_toldUp a_o_toldDown a_o_priceUp a_o_priceDown a_o_draftGate a_o_draftCarries a_o_draftWorth a_o_draftKind a_o_draftMost a_o_draftUse a_o_x a_o_bestX a_o_part a_o_row a_o_right a_o_m a_o_given a_o_wasOff o_trace o_typed o_gates o_wishes o_at o_start o_sort o_value o_fault o_drafted o_by o_bestBy o_bestWorth o_isBest o_parts o_m) → va_S A s.heap H locs → ∀ (ls : Array Slot), lv_has ls 11 [(2, .long x2), (4, .long x4)] → W p l e ({ frames := 0, cells := 0, slots := 0, locals := 0 }) s m args below meth c H locs 0 0 Q (F0 m 254 ls [])) → ∀ (kx1 : (Nat → Int64) → Prop), (∀ (o_m : Nat → Int64), kx1 o_m → ∀ (H : Heap) (locs : List Loc), va_P D vwCl (w_X7_determinant cy a_o a_o_text a_o_letter a_o_least a_o_carries a_o_gateOff a_o_worth a_o_kind a_o_most a_o_wishOff a_o_use a_o_toldUp a_o_toldDown a_o_priceUp a_o_priceDown a_o_draftGate a_o_draftCarries a_o_draftWorth a_o_draftKind a_o_draftMost a_o_draftUse a_o_x a_o_bestX a_o_part a_o_row a_o_right a_o_m a_o_given a_o_wasOff o_trace o_typed o_gates o_wishes o_at o_start o_sort o_value o_fault o_drafted o_by o_bestBy o_bestWorth o_isBest o_parts o_m) H → va_D A (w_X7_determinant cy a_o a_o_text a_o_letter a_o_least a_o_carries a_o_gateOff a_o_worth a_o_kind a_o_most a_o_wishOff a_o_use a_o_toldUp a_o_toldDown a_o_priceUp a_o_priceDown a_o_draftGate a_o_draftCarries a_o_draftWorth a_o_draftKind a_o_draftMost a_o_draftUse a_o_x a_o_bestX a_o_part a_o_row a_o_right a_o_m a_o_given a_o_wasOff o_trace o_typed o_gates o_wishes o_at o_start o_sort o_value o_fault o_drafted o_by o_bestBy o_bestWorth o_isBest o_parts o_m) → va_S A s.heap H locs → ∀ (ls : Array Slot), lv_has ls 11 [] → W p l e ({ frames := 0, cells := 0, slots := 0, locals := 0 }) s m args below meth c H locs 0 0 Q (F0 m 53 ls [])) → wj_X7_determinant_132  x1 x2 x4 x6 o_m kb kx0 kx1 post → ∀ (H : Heap) (locs : List Loc), va_P D vwCl (w_X7_determinant cy a_o a_o_text a_o_letter a_o_least a_o_carries a_o_gateOff a_o_worth a_o_kind a_o_most a_o_wishOff a_o_use a_o_toldUp a_o_toldDown a_o_priceUp a_o_priceDown a_o_draftGate a_o_draftCarries a_o_draftWorth a_o_draftKind a_o_draftMost a_o_draftUse a_o_x a_o_bestX a_o_part a_o_row a_o_right a_o_m a_o_given a_o_wasOff o_trace o_typed o_gates o_wishes o_at o_start o_sort o_value o_fault o_drafted o_by o_bestBy o_bestWorth o_isBest o_parts o_m) H → va_D A (w_X7_determinant cy a_o a_o_text a_o_letter a_o_least a_o_carries a_o_gateOff a_o_worth a_o_kind a_o_most a_o_wishOff a_o_use a_o_toldUp a_o_toldDown a_o_priceUp a_o_priceDown a_o_draftGate a_o_draftCarries a_o_draftWorth a_o_draftKind a_o_draftMost a_o_draftUse a_o_x a_o_bestX a_o_part a_o_row a_o_right a_o_m a_o_given a_o_wasOff o_trace o_typed o_gates o_wishes o_at o_start o_sort o_value o_fault o_drafted o_by o_bestBy o_bestWorth o_isBest o_parts o_m) → va_S A s.heap H locs → ∀ (ls : Array Slot), lv_has ls 11 [(0, .ref a_o), (1, .int x1), (2, .long x2), (4, .long x4), (6, .int x6)] → W p l e ({ frames := 0, cells := 0, slots := 0, locals := 0 }) s m args below meth c H locs 0 0 Q (F0 m 132 ls []) := by
    intro x1 x2 x4 x6 o_m kb hkb kx0 hkx0 kx1 hkx1  h H locs hP hD hS ls hl
    unfold wj_X7_determinant_132 at h
    refine lv_iload hx hb dX7_determinant_132 (lv_at hl 4 rfl) ?_
    refine lv_iconst (v := 1) hx hb dX7_determinant_134 (by decide) ?_
    refine lv_iadd hx hb dX7_determinant_135 ?_
    refine lv_istore (lv' := [(8, .int (x6 + (1 : Int32))), (0, .ref a_o), (1, .int x1), (2, .long x2), (4, .long x4), (6, .int x6)]) hx hb dX7_determinant_136 hl (by decide) rfl (fun ls hl => ?_)
    obtain ⟨n20, h⟩ := h
    refine l_138 x1 x2 x4 x6 _ ?_ n20 (x6 + (1 : Int32)) o_m h _ _ hP hD hS _ (lv_sub hl [1, 2, 3, 4, 5, 0] rfl)
    · intro o_m_18 h H locs hP hD hS ls hl
      refine lv_aload_n hx hb dX7_determinant_234 rfl (lv_at hl 0 rfl) ?_
      refine va_get (D := D) (ci := 7) (v := .ref a_o_m) (C := RX7) (T := TX7) (N := 43) hx hb hts in_X7 hown hK hP 0 rfl rfl 40 (by decide) fl_88 (fun _ h9 => h9) rfl dX7_determinant_235 ?_
      refine lv_iconst (v := 4) hx hb dX7_determinant_238 (by decide) ?_
      refine lv_iload hx hb dX7_determinant_239 (lv_at hl 3 rfl) ?_
      refine lv_imul hx hb dX7_determinant_241 ?_
      refine lv_iload hx hb dX7_determinant_242 (lv_at hl 3 rfl) ?_
      refine lv_iadd hx hb dX7_determinant_244 ?_
      obtain ⟨i19, h⟩ := h
      refine va_lald hx hb hK hP 1 2 rfl rfl i19 dX7_determinant_245 ?_
      refine lv_lstore (lv' := [(4, .long (o_m_18 ((((4 : Int32) * x6) + x6)).toNatClampNeg)), (0, .ref a_o), (1, .int x1), (2, .long x2), (6, .int x6)]) hx hb dX7_determinant_246 hl (by decide) rfl (fun ls hl => ?_)
      refine lv_iinc (v := (x6 + (1 : Int32))) (lv' := [(6, .int (x6 + (1 : Int32))), (4, .long (o_m_18 ((((4 : Int32) * x6) + x6)).toNatClampNeg)), (0, .ref a_o), (1, .int x1), (2, .long x2)]) hx hb dX7_determinant_248 hl (k := 4) rfl (congrArg (fun z => x6 + z) (by decide : Int32.ofInt (1) = (1 : Int32))) (by decide) rfl (fun ls hl => ?_)
      refine lv_goto (tgt := 8) hx hb dX7_determinant_251 (by decide) ?_
      exact hkb x2 (o_m_18 ((((4 : Int32) * x6) + x6)).toNatClampNeg) (x6 + (1 : Int32)) o_m_18 h _ _ hP hD hS _ (lv_sub hl [2, 3, 4, 1, 0] rfl)
  have l_65 : ∀ (x1 : Int32) (x2 : Int64) (x4 : Int64) (x6 : Int32) (x7 : Int32), ∀ (kx0 : (Nat → Int64) → Prop), (∀ (o_m : Nat → Int64), kx0 o_m → ∀ (H : Heap) (locs : List Loc), va_P D vwCl (w_X7_determinant cy a_o a_o_text a_o_letter a_o_least a_o_carries a_o_gateOff a_o_worth a_o_kind a_o_most a_o_wishOff a_o_use a_o_toldUp a_o_toldDown a_o_priceUp a_o_priceDown a_o_draftGate a_o_draftCarries a_o_draftWorth a_o_draftKind a_o_draftMost a_o_draftUse a_o_x a_o_bestX a_o_part a_o_row a_o_right a_o_m a_o_given a_o_wasOff o_trace o_typed o_gates o_wishes o_at o_start o_sort o_value o_fault o_drafted o_by o_bestBy o_bestWorth o_isBest o_parts o_m) H → va_D A (w_X7_determinant cy a_o a_o_text a_o_letter a_o_least a_o_carries a_o_gateOff a_o_worth a_o_kind a_o_most a_o_wishOff a_o_use a_o_toldUp a_o_toldDown a_o_priceUp a_o_priceDown a_o_draftGate a_o_draftCarries a_o_draftWorth a_o_draftKind a_o_draftMost a_o_draftUse a_o_x a_o_bestX a_o_part a_o_row a_o_right a_o_m a_o_given a_o_wasOff o_trace o_typed o_gates o_wishes o_at o_start o_sort o_value o_fault o_drafted o_by o_bestBy o_bestWorth o_isBest o_parts o_m) → va_S A s.heap H locs → ∀ (ls : Array Slot), lv_has ls 11 [(0, .ref a_o), (1, .int x1), (2, .long x2), (4, .long x4), (6, .int x6)] → W p l e ({ frames := 0, cells := 0, slots := 0, locals := 0 }) s m args below meth c H locs 0 0 Q (F0 m 129 ls [])) → ∀ (n : Nat) (x8 : Int32) (o_m : Nat → Int64), wl_X7_determinant_65 x1 x2 x4 x6 x7 kx0 post n x8 o_m → ∀ (H : Heap) (locs : List Loc), va_P D vwCl (w_X7_determinant cy a_o a_o_text a_o_letter a_o_least a_o_carries a_o_gateOff a_o_worth a_o_kind a_o_most a_o_wishOff a_o_use a_o_toldUp a_o_toldDown a_o_priceUp a_o_priceDown a_o_draftGate a_o_draftCarries a_o_draftWorth a_o_draftKind a_o_draftMost a_o_draftUse a_o_x a_o_bestX a_o_part a_o_row a_o_right a_o_m a_o_given a_o_wasOff o_trace o_typed o_gates o_wishes o_at o_start o_sort o_value o_fault o_drafted o_by o_bestBy o_bestWorth o_isBest o_parts o_m) H → va_D A (w_X7_determinant cy a_o a_o_text a_o_letter a_o_least a_o_carries a_o_gateOff a_o_worth a_o_kind a_o_most a_o_wishOff a_o_use a_o_toldUp a_o_toldDown a_o_priceUp a_o_priceDown a_o_draftGate a_o_draftCarries a_o_draftWorth a_o_draftKind a_o_draftMost a_o_draftUse a_o_x a_o_bestX a_o_part a_o_row a_o_right a_o_m a_o_given a_o_wasOff o_trace o_typed o_gates o_wishes o_at o_start o_sort o_value o_fault o_drafted o_by o_bestBy o_bestWorth o_isBest o_parts o_m) → va_S A s.heap H locs → ∀ (ls : Array Slot), lv_has ls 11 [(0, .ref a_o), (1, .int x1), (2, .long x2), (4, .long x4), (6, .int x6), (7, .int x7), (8, .int x8)] → W p l e ({ frames := 0, cells := 0, slots := 0, locals := 0 }) s m args below meth c H locs 0 0 Q (F0 m 65 ls []) := by
    intro x1 x2 x4 x6 x7 kx0 hkx0  n
    induction n with
    | zero => intro x8 o_m h; exact h.elim
    | succ n hkb =>
      intro x8 o_m h H locs hP hD hS ls hl
      replace h : ws_X7_determinant_65 x1 x2 x4 x6 x7 (wl_X7_determinant_65 x1 x2 x4 x6 x7 kx0 post n) kx0 post x8 o_m := h
      generalize wl_X7_determinant_65 x1 x2 x4 x6 x7 kx0 post n = kb at h hkb
      unfold ws_X7_determinant_65 at h
      refine lv_iload hx hb dX7_determinant_65 (lv_at hl 6 rfl) ?_
      refine lv_iload_n hx hb dX7_determinant_67 rfl (lv_at hl 1 rfl) ?_
      refine lv_icmp_ge (tgt := 129) hx hb dX7_determinant_68 (by decide) (fun c21 => ?_) (fun c21 => ?_)
      · have h := h.1 c21
        exact hkx0 o_m h _ _ hP hD hS _ (lv_sub hl [0, 1, 2, 3, 4] rfl)
      · have h := h.2 c21
        refine lv_aload_n hx hb dX7_determinant_71 rfl (lv_at hl 0 rfl) ?_
        refine va_get (D := D) (ci := 7) (v := .ref a_o_m) (C := RX7) (T := TX7) (N := 43) hx hb hts in_X7 hown hK hP 0 rfl rfl 40 (by decide) fl_88 (fun _ h9 => h9) rfl dX7_determinant_72 ?_
        refine lv_iconst (v := 4) hx hb dX7_determinant_75 (by decide) ?_
        refine lv_iload hx hb dX7_determinant_76 (lv_at hl 5 rfl) ?_
        refine lv_imul hx hb dX7_determinant_78 ?_
        refine lv_iload hx hb dX7_determinant_79 (lv_at hl 6 rfl) ?_
        refine lv_iadd hx hb dX7_determinant_81 ?_
        obtain ⟨i22, h⟩ := h
        refine va_lald hx hb hK hP 1 2 rfl rfl i22 dX7_determinant_82 ?_
        refine lv_lstore (lv' := [(9, .long (o_m ((((4 : Int32) * x7) + x8)).toNatClampNeg)), (0, .ref a_o), (1, .int x1), (2, .long x2), (4, .long x4), (6, .int x6), (7, .int x7), (8, .int x8)]) hx hb dX7_determinant_83 hl (by decide) rfl (fun ls hl => ?_)
        refine lv_aload_n hx hb dX7_determinant_85 rfl (lv_at hl 1 rfl) ?_
        refine va_get (D := D) (ci := 7) (v := .ref a_o_m) (C := RX7) (T := TX7) (N := 43) hx hb hts in_X7 hown hK hP 0 rfl rfl 40 (by decide) fl_88 (fun _ h9 => h9) rfl dX7_determinant_86 ?_
        refine lv_iconst (v := 4) hx hb dX7_determinant_89 (by decide) ?_
        refine lv_iload hx hb dX7_determinant_90 (lv_at hl 6 rfl) ?_
        refine lv_imul hx hb dX7_determinant_92 ?_
        refine lv_iload hx hb dX7_determinant_93 (lv_at hl 7 rfl) ?_
        refine lv_iadd hx hb dX7_determinant_95 ?_
        refine lv_aload_n hx hb dX7_determinant_96 rfl (lv_at hl 1 rfl) ?_
        refine va_get (D := D) (ci := 7) (v := .ref a_o_m) (C := RX7) (T := TX7) (N := 43) hx hb hts in_X7 hown hK hP 0 rfl rfl 40 (by decide) fl_88 (fun _ h9 => h9) rfl dX7_determinant_97 ?_
        refine lv_iconst (v := 4) hx hb dX7_determinant_100 (by decide) ?_
        refine lv_iload hx hb dX7_determinant_101 (lv_at hl 5 rfl) ?_
        refine lv_imul hx hb dX7_determinant_103 ?_
        refine lv_iload hx hb dX7_determinant_104 (lv_at hl 7 rfl) ?_
        refine lv_iadd hx hb dX7_determinant_106 ?_
        obtain ⟨i23, h⟩ := h
        refine va_lald hx hb hK hP 1 2 rfl rfl i23 dX7_determinant_107 ?_
        refine va_last hx hb hK hP hD hS 1 2 rfl rfl i22 dX7_determinant_108 (fun H locs hP hD hS => ?_)
        have hP : va_P D vwCl (w_X7_determinant cy a_o a_o_text a_o_letter a_o_least a_o_carries a_o_gateOff a_o_worth a_o_kind a_o_most a_o_wishOff a_o_use a_o_toldUp a_o_toldDown a_o_priceUp a_o_priceDown a_o_draftGate a_o_draftCarries a_o_draftWorth a_o_draftKind a_o_draftMost a_o_draftUse a_o_x a_o_bestX a_o_part a_o_row a_o_right a_o_m a_o_given a_o_wasOff o_trace o_typed o_gates o_wishes o_at o_start o_sort o_value o_fault o_drafted o_by o_bestBy o_bestWorth o_isBest o_parts (vp_updL o_m ((((4 : Int32) * x7) + x8)).toNatClampNeg (o_m ((((4 : Int32) * x6) + x8)).toNatClampNeg))) H := hP
        have hD : va_D A (w_X7_determinant cy a_o a_o_text a_o_letter a_o_least a_o_carries a_o_gateOff a_o_worth a_o_kind a_o_most a_o_wishOff a_o_use a_o_toldUp a_o_toldDown a_o_priceUp a_o_priceDown a_o_draftGate a_o_draftCarries a_o_draftWorth a_o_draftKind a_o_draftMost a_o_draftUse a_o_x a_o_bestX a_o_part a_o_row a_o_right a_o_m a_o_given a_o_wasOff o_trace o_typed o_gates o_wishes o_at o_start o_sort o_value o_fault o_drafted o_by o_bestBy o_bestWorth o_isBest o_parts (vp_updL o_m ((((4 : Int32) * x7) + x8)).toNatClampNeg (o_m ((((4 : Int32) * x6) + x8)).toNatClampNeg))) := hD
        obtain ⟨f24, ef24⟩ : ∃ z : Nat → Int64, z = (vp_updL o_m ((((4 : Int32) * x7) + x8)).toNatClampNeg (o_m ((((4 : Int32) * x6) + x8)).toNatClampNeg)) := ⟨_, rfl⟩
        have h := h f24 ef24
        rw [← ef24] at hP hD
        refine lv_aload_n hx hb dX7_determinant_109 rfl (lv_at hl 1 rfl) ?_
        refine va_get (D := D) (ci := 7) (v := .ref a_o_m) (C := RX7) (T := TX7) (N := 43) hx hb hts in_X7 hown hK hP 0 rfl rfl 40 (by decide) fl_88 (fun _ h9 => h9) rfl dX7_determinant_110 ?_
        refine lv_iconst (v := 4) hx hb dX7_determinant_113 (by decide) ?_
        refine lv_iload hx hb dX7_determinant_114 (lv_at hl 5 rfl) ?_
        refine lv_imul hx hb dX7_determinant_116 ?_
        refine lv_iload hx hb dX7_determinant_117 (lv_at hl 7 rfl) ?_
        refine lv_iadd hx hb dX7_determinant_119 ?_
        refine lv_lload hx hb dX7_determinant_120 (lv_at hl 0 rfl) ?_
        refine va_last hx hb hK hP hD hS 1 2 rfl rfl i23 dX7_determinant_122 (fun H locs hP hD hS => ?_)
        have hP : va_P D vwCl (w_X7_determinant cy a_o a_o_text a_o_letter a_o_least a_o_carries a_o_gateOff a_o_worth a_o_kind a_o_most a_o_wishOff a_o_use a_o_toldUp a_o_toldDown a_o_priceUp a_o_priceDown a_o_draftGate a_o_draftCarries a_o_draftWorth a_o_draftKind a_o_draftMost a_o_draftUse a_o_x a_o_bestX a_o_part a_o_row a_o_right a_o_m a_o_given a_o_wasOff o_trace o_typed o_gates o_wishes o_at o_start o_sort o_value o_fault o_drafted o_by o_bestBy o_bestWorth o_isBest o_parts (vp_updL f24 ((((4 : Int32) * x6) + x8)).toNatClampNeg (o_m ((((4 : Int32) * x7) + x8)).toNatClampNeg))) H := hP
        have hD : va_D A (w_X7_determinant cy a_o a_o_text a_o_letter a_o_least a_o_carries a_o_gateOff a_o_worth a_o_kind a_o_most a_o_wishOff a_o_use a_o_toldUp a_o_toldDown a_o_priceUp a_o_priceDown a_o_draftGate a_o_draftCarries a_o_draftWorth a_o_draftKind a_o_draftMost a_o_draftUse a_o_x a_o_bestX a_o_part a_o_row a_o_right a_o_m a_o_given a_o_wasOff o_trace o_typed o_gates o_wishes o_at o_start o_sort o_value o_fault o_drafted o_by o_bestBy o_bestWorth o_isBest o_parts (vp_updL f24 ((((4 : Int32) * x6) + x8)).toNatClampNeg (o_m ((((4 : Int32) * x7) + x8)).toNatClampNeg))) := hD
        obtain ⟨f25, ef25⟩ : ∃ z : Nat → Int64, z = (vp_updL f24 ((((4 : Int32) * x6) + x8)).toNatClampNeg (o_m ((((4 : Int32) * x7) + x8)).toNatClampNeg)) := ⟨_, rfl⟩
        have h := h f25 ef25
        rw [← ef25] at hP hD
        refine lv_iinc (v := (x8 + (1 : Int32))) (lv' := [(8, .int (x8 + (1 : Int32))), (9, .long (o_m ((((4 : Int32) * x7) + x8)).toNatClampNeg)), (0, .ref a_o), (1, .int x1), (2, .long x2), (4, .long x4), (6, .int x6), (7, .int x7)]) hx hb dX7_determinant_123 hl (k := 7) rfl (congrArg (fun z => x8 + z) (by decide : Int32.ofInt (1) = (1 : Int32))) (by decide) rfl (fun ls hl => ?_)
        refine lv_goto (tgt := 65) hx hb dX7_determinant_126 (by decide) ?_
        exact hkb (x8 + (1 : Int32)) f25 h _ _ hP hD hS _ (lv_sub hl [2, 3, 4, 5, 6, 7, 0] rfl)
  have j_47_0 : ∀ (x1 : Int32) (x2 : Int64) (x4 : Int64) (x6 : Int32) (x7 : Int32) (o_m : Nat → Int64), ∀ (kb : Int64 → Int64 → Int32 → (Nat → Int64) → Prop), (∀ (x2 : Int64) (x4 : Int64) (x6 : Int32) (o_m : Nat → Int64), kb x2 x4 x6 o_m → ∀ (H : Heap) (locs : List Loc), va_P D vwCl (w_X7_determinant cy a_o a_o_text a_o_letter a_o_least a_o_carries a_o_gateOff a_o_worth a_o_kind a_o_most a_o_wishOff a_o_use a_o_toldUp a_o_toldDown a_o_priceUp a_o_priceDown a_o_draftGate a_o_draftCarries a_o_draftWorth a_o_draftKind a_o_draftMost a_o_draftUse a_o_x a_o_bestX a_o_part a_o_row a_o_right a_o_m a_o_given a_o_wasOff o_trace o_typed o_gates o_wishes o_at o_start o_sort o_value o_fault o_drafted o_by o_bestBy o_bestWorth o_isBest o_parts o_m) H → va_D A (w_X7_determinant cy a_o a_o_text a_o_letter a_o_least a_o_carries a_o_gateOff a_o_worth a_o_kind a_o_most a_o_wishOff a_o_use a_o_toldUp a_o_toldDown a_o_priceUp a_o_priceDown a_o_draftGate a_o_draftCarries a_o_draftWorth a_o_draftKind a_o_draftMost a_o_draftUse a_o_x a_o_bestX a_o_part a_o_row a_o_right a_o_m a_o_given a_o_wasOff o_trace o_typed o_gates o_wishes o_at o_start o_sort o_value o_fault o_drafted o_by o_bestBy o_bestWorth o_isBest o_parts o_m) → va_S A s.heap H locs → ∀ (ls : Array Slot), lv_has ls 11 [(0, .ref a_o), (1, .int x1), (2, .long x2), (4, .long x4), (6, .int x6)] → W p l e ({ frames := 0, cells := 0, slots := 0, locals := 0 }) s m args below meth c H locs 0 0 Q (F0 m 8 ls [])) → ∀ (kx0 : Int64 → Int64 → (Nat → Int64) → Prop), (∀ (x2 : Int64) (x4 : Int64) (o_m : Nat → Int64), kx0 x2 x4 o_m → ∀ (H : Heap) (locs : List Loc), va_P D vwCl (w_X7_determinant cy a_o a_o_text a_o_letter a_o_least a_o_carries a_o_gateOff a_o_worth a_o_kind a_o_most a_o_wishOff a_o_use a_o_toldUp a_o_toldDown a_o_priceUp a_o_priceDown a_o_draftGate a_o_draftCarries a_o_draftWorth a_o_draftKind a_o_draftMost a_o_draftUse a_o_x a_o_bestX a_o_part a_o_row a_o_right a_o_m a_o_given a_o_wasOff o_trace o_typed o_gates o_wishes o_at o_start o_sort o_value o_fault o_drafted o_by o_bestBy o_bestWorth o_isBest o_parts o_m) H → va_D A (w_X7_determinant cy a_o a_o_text a_o_letter a_o_least a_o_carries a_o_gateOff a_o_worth a_o_kind a_o_most a_o_wishOff a_o_use a_o_toldUp a_o_toldDown a_o_priceUp a_o_priceDown a_o_draftGate a_o_draftCarries a_o_draftWorth a_o_draftKind a_o_draftMost a_o_draftUse a_o_x a_o_bestX a_o_part a_o_row a_o_right a_o_m a_o_given a_o_wasOff o_trace o_typed o_gates o_wishes o_at o_start o_sort o_value o_fault o_drafted o_by o_bestBy o_bestWorth o_isBest o_parts o_m) → va_S A s.heap H locs → ∀ (ls : Array Slot), lv_has ls 11 [(2, .long x2), (4, .long x4)] → W p l e ({ frames := 0, cells := 0, slots := 0, locals := 0 }) s m args below meth c H locs 0 0 Q (F0 m 254 ls [])) → ∀ (kx1 : (Nat → Int64) → Prop), (∀ (o_m : Nat → Int64), kx1 o_m → ∀ (H : Heap) (locs : List Loc), va_P D vwCl (w_X7_determinant cy a_o a_o_text a_o_letter a_o_least a_o_carries a_o_gateOff a_o_worth a_o_kind a_o_most a_o_wishOff a_o_use a_o_toldUp a_o_toldDown a_o_priceUp a_o_priceDown a_o_draftGate a_o_draftCarries a_o_draftWorth a_o_draftKind a_o_draftMost a_o_draftUse a_o_x a_o_bestX a_o_part a_o_row a_o_right a_o_m a_o_given a_o_wasOff o_trace o_typed o_gates o_wishes o_at o_start o_sort o_value o_fault o_drafted o_by o_bestBy o_bestWorth o_isBest o_parts o_m) H → va_D A (w_X7_determinant cy a_o a_o_text a_o_letter a_o_least a_o_carries a_o_gateOff a_o_worth a_o_kind a_o_most a_o_wishOff a_o_use a_o_toldUp a_o_toldDown a_o_priceUp a_o_priceDown a_o_draftGate a_o_draftCarries a_o_draftWorth a_o_draftKind a_o_draftMost a_o_draftUse a_o_x a_o_bestX a_o_part a_o_row a_o_right a_o_m a_o_given a_o_wasOff o_trace o_typed o_gates o_wishes o_at o_start o_sort o_value o_fault o_drafted o_by o_bestBy o_bestWorth o_isBest o_parts o_m) → va_S A s.heap H locs → ∀ (ls : Array Slot), lv_has ls 11 [] → W p l e ({ frames := 0, cells := 0, slots := 0, locals := 0 }) s m args below meth c H locs 0 0 Q (F0 m 53 ls [])) → wj_X7_determinant_47  x1 x2 x4 x6 x7 o_m kb kx0 kx1 post → ∀ (H : Heap) (locs : List Loc), va_P D vwCl (w_X7_determinant cy a_o a_o_text a_o_letter a_o_least a_o_carries a_o_gateOff a_o_worth a_o_kind a_o_most a_o_wishOff a_o_use a_o_toldUp a_o_toldDown a_o_priceUp a_o_priceDown a_o_draftGate a_o_draftCarries a_o_draftWorth a_o_draftKind a_o_draftMost a_o_draftUse a_o_x a_o_bestX a_o_part a_o_row a_o_right a_o_m a_o_given a_o_wasOff o_trace o_typed o_gates o_wishes o_at o_start o_sort o_value o_fault o_drafted o_by o_bestBy o_bestWorth o_isBest o_parts o_m) H → va_D A (w_X7_determinant cy a_o a_o_text a_o_letter a_o_least a_o_carries a_o_gateOff a_o_worth a_o_kind a_o_most a_o_wishOff a_o_use a_o_toldUp a_o_toldDown a_o_priceUp a_o_priceDown a_o_draftGate a_o_draftCarries a_o_draftWorth a_o_draftKind a_o_draftMost a_o_draftUse a_o_x a_o_bestX a_o_part a_o_row a_o_right a_o_m a_o_given a_o_wasOff o_trace o_typed o_gates o_wishes o_at o_start o_sort o_value o_fault o_drafted o_by o_bestBy o_bestWorth o_isBest o_parts o_m) → va_S A s.heap H locs → ∀ (ls : Array Slot), lv_has ls 11 [(0, .ref a_o), (1, .int x1), (2, .long x2), (4, .long x4), (6, .int x6), (7, .int x7)] → W p l e ({ frames := 0, cells := 0, slots := 0, locals := 0 }) s m args below meth c H locs 0 0 Q (F0 m 47 ls []) := by
    intro x1 x2 x4 x6 x7 o_m kb hkb kx0 hkx0 kx1 hkx1  h H locs hP hD hS ls hl
    unfold wj_X7_determinant_47 at h
    refine lv_iload hx hb dX7_determinant_47 (lv_at hl 5 rfl) ?_
    refine lv_iload_n hx hb dX7_determinant_49 rfl (lv_at hl 1 rfl) ?_
    refine lv_icmp_ne (tgt := 55) hx hb dX7_determinant_50 (by decide) (fun c6 => ?_) (fun c6 => ?_)
    · have h := h.2 c6
      refine lv_iload hx hb dX7_determinant_55 (lv_at hl 5 rfl) ?_
      refine lv_iload hx hb dX7_determinant_57 (lv_at hl 4 rfl) ?_
      refine lv_icmp_eq (tgt := 132) hx hb dX7_determinant_59 (by decide) (fun c7 => ?_) (fun c7 => ?_)
      · have h := h.1 c7
        exact j_132_1 x1 x2 x4 x6 o_m kb hkb kx0 hkx0 kx1 hkx1 h _ _ hP hD hS _ (lv_sub hl [0, 1, 2, 3, 4] rfl)
      · have h := h.2 c7
        refine lv_iconst (v := 0) hx hb dX7_determinant_62 (by decide) ?_
        refine lv_istore (lv' := [(8, .int (0 : Int32)), (0, .ref a_o), (1, .int x1), (2, .long x2), (4, .long x4), (6, .int x6), (7, .int x7)]) hx hb dX7_determinant_63 hl (by decide) rfl (fun ls hl => ?_)
        obtain ⟨n27, h⟩ := h
        refine l_65 x1 x2 x4 x6 x7 _ ?_ n27 (0 : Int32) o_m h _ _ hP hD hS _ (lv_sub hl [1, 2, 3, 4, 5, 6, 0] rfl)
        · intro o_m_26 h H locs hP hD hS ls hl
          refine lv_lload_n hx hb dX7_determinant_129 rfl (lv_at hl 2 rfl) ?_
          refine lv_lneg hx hb dX7_determinant_130 ?_
          refine lv_lstore_n (lv' := [(2, .long (-x2)), (0, .ref a_o), (1, .int x1), (4, .long x4), (6, .int x6)]) hx hb dX7_determinant_131 rfl hl (by decide) rfl (fun ls hl => ?_)
          exact j_132_1 x1 (-x2) x4 x6 o_m_26 kb hkb kx0 hkx0 kx1 hkx1 h _ _ hP hD hS _ (lv_sub hl [1, 2, 0, 3, 4] rfl)
    · have h := h.1 c6
      exact hkx1 o_m h _ _ hP hD hS _ (lv_sub hl [] rfl)
  have l_8 : ∀ (x1 : Int32), ∀ (kx0 : Int64 → Int64 → (Nat → Int64) → Prop), (∀ (x2 : Int64) (x4 : Int64) (o_m : Nat → Int64), kx0 x2 x4 o_m → ∀ (H : Heap) (locs : List Loc), va_P D vwCl (w_X7_determinant cy a_o a_o_text a_o_letter a_o_least a_o_carries a_o_gateOff a_o_worth a_o_kind a_o_most a_o_wishOff a_o_use a_o_toldUp a_o_toldDown a_o_priceUp a_o_priceDown a_o_draftGate a_o_draftCarries a_o_draftWorth a_o_draftKind a_o_draftMost a_o_draftUse a_o_x a_o_bestX a_o_part a_o_row a_o_right a_o_m a_o_given a_o_wasOff o_trace o_typed o_gates o_wishes o_at o_start o_sort o_value o_fault o_drafted o_by o_bestBy o_bestWorth o_isBest o_parts o_m) H → va_D A (w_X7_determinant cy a_o a_o_text a_o_letter a_o_least a_o_carries a_o_gateOff a_o_worth a_o_kind a_o_most a_o_wishOff a_o_use a_o_toldUp a_o_toldDown a_o_priceUp a_o_priceDown a_o_draftGate a_o_draftCarries a_o_draftWorth a_o_draftKind a_o_draftMost a_o_draftUse a_o_x a_o_bestX a_o_part a_o_row a_o_right a_o_m a_o_given a_o_wasOff o_trace o_typed o_gates o_wishes o_at o_start o_sort o_value o_fault o_drafted o_by o_bestBy o_bestWorth o_isBest o_parts o_m) → va_S A s.heap H locs → ∀ (ls : Array Slot), lv_has ls 11 [(2, .long x2), (4, .long x4)] → W p l e ({ frames := 0, cells := 0, slots := 0, locals := 0 }) s m args below meth c H locs 0 0 Q (F0 m 254 ls [])) → ∀ (kx1 : (Nat → Int64) → Prop), (∀ (o_m : Nat → Int64), kx1 o_m → ∀ (H : Heap) (locs : List Loc), va_P D vwCl (w_X7_determinant cy a_o a_o_text a_o_letter a_o_least a_o_carries a_o_gateOff a_o_worth a_o_kind a_o_most a_o_wishOff a_o_use a_o_toldUp a_o_toldDown a_o_priceUp a_o_priceDown a_o_draftGate a_o_draftCarries a_o_draftWorth a_o_draftKind a_o_draftMost a_o_draftUse a_o_x a_o_bestX a_o_part a_o_row a_o_right a_o_m a_o_given a_o_wasOff o_trace o_typed o_gates o_wishes o_at o_start o_sort o_value o_fault o_drafted o_by o_bestBy o_bestWorth o_isBest o_parts o_m) H → va_D A (w_X7_determinant cy a_o a_o_text a_o_letter a_o_least a_o_carries a_o_gateOff a_o_worth a_o_kind a_o_most a_o_wishOff a_o_use a_o_toldUp a_o_toldDown a_o_priceUp a_o_priceDown a_o_draftGate a_o_draftCarries a_o_draftWorth a_o_draftKind a_o_draftMost a_o_draftUse a_o_x a_o_bestX a_o_part a_o_row a_o_right a_o_m a_o_given a_o_wasOff o_trace o_typed o_gates o_wishes o_at o_start o_sort o_value o_fault o_drafted o_by o_bestBy o_bestWorth o_isBest o_parts o_m) → va_S A s.heap H locs → ∀ (ls : Array Slot), lv_has ls 11 [] → W p l e ({ frames := 0, cells := 0, slots := 0, locals := 0 }) s m args below meth c H locs 0 0 Q (F0 m 53 ls [])) → ∀ (n : Nat) (x2 : Int64) (x4 : Int64) (x6 : Int32) (o_m : Nat → Int64), wl_X7_determinant_8 x1 kx0 kx1 post n x2 x4 x6 o_m → ∀ (H : Heap) (locs : List Loc), va_P D vwCl (w_X7_determinant cy a_o a_o_text a_o_letter a_o_least a_o_carries a_o_gateOff a_o_worth a_o_kind a_o_most a_o_wishOff a_o_use a_o_toldUp a_o_toldDown a_o_priceUp a_o_priceDown a_o_draftGate a_o_draftCarries a_o_draftWorth a_o_draftKind a_o_draftMost a_o_draftUse a_o_x a_o_bestX a_o_part a_o_row a_o_right a_o_m a_o_given a_o_wasOff o_trace o_typed o_gates o_wishes o_at o_start o_sort o_value o_fault o_drafted o_by o_bestBy o_bestWorth o_isBest o_parts o_m) H → va_D A (w_X7_determinant cy a_o a_o_text a_o_letter a_o_least a_o_carries a_o_gateOff a_o_worth a_o_kind a_o_most a_o_wishOff a_o_use a_o_toldUp a_o_toldDown a_o_priceUp a_o_priceDown a_o_draftGate a_o_draftCarries a_o_draftWorth a_o_draftKind a_o_draftMost a_o_draftUse a_o_x a_o_bestX a_o_part a_o_row a_o_right a_o_m a_o_given a_o_wasOff o_trace o_typed o_gates o_wishes o_at o_start o_sort o_value o_fault o_drafted o_by o_bestBy o_bestWorth o_isBest o_parts o_m) → va_S A s.heap H locs → ∀ (ls : Array Slot), lv_has ls 11 [(0, .ref a_o), (1, .int x1), (2, .long x2), (4, .long x4), (6, .int x6)] → W p l e ({ frames := 0, cells := 0, slots := 0, locals := 0 }) s m args below meth c H locs 0 0 Q (F0 m 8 ls []) := by
    intro x1 kx0 hkx0 kx1 hkx1  n
    induction n with
    | zero => intro x2 x4 x6 o_m h; exact h.elim
    | succ n hkb =>
      intro x2 x4 x6 o_m h H locs hP hD hS ls hl
      replace h : ws_X7_determinant_8 x1 (wl_X7_determinant_8 x1 kx0 kx1 post n) kx0 kx1 post x2 x4 x6 o_m := h
      generalize wl_X7_determinant_8 x1 kx0 kx1 post n = kb at h hkb
      unfold ws_X7_determinant_8 at h
      refine lv_iload hx hb dX7_determinant_8 (lv_at hl 4 rfl) ?_
      refine lv_iload_n hx hb dX7_determinant_10 rfl (lv_at hl 1 rfl) ?_
      refine lv_icmp_ge (tgt := 254) hx hb dX7_determinant_11 (by decide) (fun c1 => ?_) (fun c1 => ?_)
      · have h := h.1 c1
        exact hkx0 x2 x4 o_m h _ _ hP hD hS _ (lv_sub hl [2, 3] rfl)
      · have h := h.2 c1
        refine lv_iload hx hb dX7_determinant_14 (lv_at hl 4 rfl) ?_
        refine lv_istore (lv' := [(7, .int x6), (0, .ref a_o), (1, .int x1), (2, .long x2), (4, .long x4), (6, .int x6)]) hx hb dX7_determinant_16 hl (by decide) rfl (fun ls hl => ?_)
        obtain ⟨n28, h⟩ := h
        refine l_18 x1 x2 x4 x6 o_m _ ?_ n28 x6 h _ _ hP hD hS _ (lv_sub hl [1, 2, 3, 4, 5, 0] rfl)
        · intro x7_5 h H locs hP hD hS ls hl
          exact j_47_0 x1 x2 x4 x6 x7_5 o_m kb hkb kx0 hkx0 kx1 hkx1 h _ _ hP hD hS _ (lv_sub hl [0, 1, 2, 3, 4, 5] rfl)
  refine ent [.ref a_o, .int x1] (Nat.le_of_ble_eq_true rfl) (fun ls hl => ?_)
  have hl : lv_has ls 11 [(0, .ref a_o), (1, .int x1)] := hl
  unfold wp_X7_determinant at h
  refine lv_lconst (v := 1) hx hb dX7_determinant_0 (by decide) ?_
  refine lv_lstore_n (lv' := [(2, .long (1 : Int64)), (0, .ref a_o), (1, .int x1)]) hx hb dX7_determinant_1 rfl hl (by decide) rfl (fun ls hl => ?_)
  refine lv_lconst (v := 1) hx hb dX7_determinant_2 (by decide) ?_
  refine lv_lstore (lv' := [(4, .long (1 : Int64)), (2, .long (1 : Int64)), (0, .ref a_o), (1, .int x1)]) hx hb dX7_determinant_3 hl (by decide) rfl (fun ls hl => ?_)
  refine lv_iconst (v := 0) hx hb dX7_determinant_5 (by decide) ?_
  refine lv_istore (lv' := [(6, .int (0 : Int32)), (4, .long (1 : Int64)), (2, .long (1 : Int64)), (0, .ref a_o), (1, .int x1)]) hx hb dX7_determinant_6 hl (by decide) rfl (fun ls hl => ?_)
  obtain ⟨n33, h⟩ := h
  refine l_8 x1 _ ?_ _ ?_ n33 (1 : Int64) (1 : Int64) (0 : Int32) o_m h _ _ hP hD hS _ (lv_sub hl [3, 4, 2, 1, 0] rfl)
  · intro x2_29 x4_30 o_m_31 h H locs hP hD hS ls hl
    refine lv_lload_n hx hb dX7_determinant_254 rfl (lv_at hl 0 rfl) ?_
    refine lv_lload hx hb dX7_determinant_255 (lv_at hl 1 rfl) ?_
    refine lv_lmul hx hb dX7_determinant_257 ?_
    exact hret (x2_29 * x4_30) (o_m_31) _ _ _ _ h hP hD hS dX7_determinant_258
  · intro o_m_32 h H locs hP hD hS ls hl
    refine lv_lconst (v := 0) hx hb dX7_determinant_53 (by decide) ?_
    exact hret (0 : Int64) (o_m_32) _ _ _ _ h hP hD hS dX7_determinant_54
abbrev w_X7_solved (cy : Nat → ClassId) (a_o a_o_text a_o_letter a_o_least a_o_carries a_o_gateOff a_o_worth a_o_kind a_o_most a_o_wishOff a_o_use a_o_toldUp a_o_toldDown a_o_priceUp a_o_priceDown a_o_draftGate a_o_draftCarries a_o_draftWorth a_o_draftKind a_o_draftMost a_o_draftUse a_o_x a_o_bestX a_o_part a_o_row a_o_right a_o_m a_o_given a_o_wasOff : Nat) (o_trace : Int64) (o_typed : Int32) (o_gates : Int32) (o_wishes : Int32) (o_at : Int32) (o_start : Int32) (o_sort : Int32) (o_value : Int32) (o_fault : Int32) (o_drafted : Int32) (o_by : Int64) (o_bestBy : Int64) (o_bestWorth : Int64) (o_isBest : Int32) (o_parts : Int32) (o_row : Nat → Int64) (o_right : Nat → Int64) (o_m : Nat → Int64) : va_W := [(a_o, .inr (7, [.long o_trace, .ref a_o_text, .int o_typed, .int o_gates, .int o_wishes, .ref a_o_letter, .ref a_o_least, .ref a_o_carries, .ref a_o_gateOff, .ref a_o_worth, .ref a_o_kind, .ref a_o_most, .ref a_o_wishOff, .ref a_o_use, .ref a_o_toldUp, .ref a_o_toldDown, .ref a_o_priceUp, .ref a_o_priceDown, .int o_at, .int o_start, .int o_sort, .int o_value, .int o_fault, .ref a_o_draftGate, .ref a_o_draftCarries, .ref a_o_draftWorth, .ref a_o_draftKind, .ref a_o_draftMost, .ref a_o_draftUse, .int o_drafted, .ref a_o_x, .long o_by, .ref a_o_bestX, .long o_bestBy, .long o_bestWorth, .int o_isBest, .ref a_o_part, .int o_parts, .ref a_o_row, .ref a_o_right, .ref a_o_m, .ref a_o_given, .ref a_o_wasOff])), (a_o_row, .inl (cy 2, 16, .inr (.inl o_row))), (a_o_right, .inl (cy 2, 4, .inr (.inl o_right))), (a_o_m, .inl (cy 2, 16, .inr (.inl o_m)))]
set_option maxRecDepth 20000 in
theorem ggX7_solved_X7_determinant : GoodIn wsX7_solved wsX7_determinant := goodIn_r _ [8, 1, 9, 10, 11, 12, 13, 14, 15, 16, 17, 18, 19, 20, 21, 22, 23, 24, 25, 26, 27, 28, 29, 30, 31, 32, 33, 34, 35, 36, 37, 38, 39, 40, 41, 42, 43, 44, 45, 46, 47, 48, 49, 50, 51] (by decide +kernel) (by decide +kernel)
set_option maxRecDepth 20000 in
theorem gX7_solved_X7_determinant : GoodIn wsX7_solved (wsV RX7 199 RX7 yX7_determinant wsX7_determinant) := goodIn_app (goodIn_of _ (by decide +kernel)) ggX7_solved_X7_determinant
set_option maxHeartbeats 4000000 in
set_option maxRecDepth 100000 in
theorem c_X7_solved (l : Launch) (D : va_G) (cy : Nat → ClassId) (a_o a_o_text a_o_letter a_o_least a_o_carries a_o_gateOff a_o_worth a_o_kind a_o_most a_o_wishOff a_o_use a_o_toldUp a_o_toldDown a_o_priceUp a_o_priceDown a_o_draftGate a_o_draftCarries a_o_draftWorth a_o_draftKind a_o_draftMost a_o_draftUse a_o_x a_o_bestX a_o_part a_o_row a_o_right a_o_m a_o_given a_o_wasOff : Nat) (sz : Nat)  {o_trace : Int64} {o_typed : Int32} {o_gates : Int32} {o_wishes : Int32} {o_at : Int32} {o_start : Int32} {o_sort : Int32} {o_value : Int32} {o_fault : Int32} {o_drafted : Int32} {o_by : Int64} {o_bestBy : Int64} {o_bestWorth : Int64} {o_isBest : Int32} {o_parts : Int32} {o_row : Nat → Int64} {o_right : Nat → Int64} {o_m : Nat → Int64} {x1 : Int32} {x2 : Int32} {post : Int64 → (Nat → Int64) → Prop} (h : wp_X7_solved o_row o_right o_m x1 x2 post) : Met l yX7_solved wsX7_solved ({ frames := 1, cells := 0, slots := 0, locals := 30 }) (va_Pc [.ref a_o, .int x1, .int x2] (wI D cy sz (w_X7_solved cy a_o a_o_text a_o_letter a_o_least a_o_carries a_o_gateOff a_o_worth a_o_kind a_o_most a_o_wishOff a_o_use a_o_toldUp a_o_toldDown a_o_priceUp a_o_priceDown a_o_draftGate a_o_draftCarries a_o_draftWorth a_o_draftKind a_o_draftMost a_o_draftUse a_o_x a_o_bestX a_o_part a_o_row a_o_right a_o_m a_o_given a_o_wasOff o_trace o_typed o_gates o_wishes o_at o_start o_sort o_value o_fault o_drafted o_by o_bestBy o_bestWorth o_isBest o_parts o_row o_right o_m))) (va_Ql (fun (r : Int64) (u : (Nat → Int64)) => post r u) (fun (u : (Nat → Int64)) t => wO D cy (va_A (w_X7_solved cy a_o a_o_text a_o_letter a_o_least a_o_carries a_o_gateOff a_o_worth a_o_kind a_o_most a_o_wishOff a_o_use a_o_toldUp a_o_toldDown a_o_priceUp a_o_priceDown a_o_draftGate a_o_draftCarries a_o_draftWorth a_o_draftKind a_o_draftMost a_o_draftUse a_o_x a_o_bestX a_o_part a_o_row a_o_right a_o_m a_o_given a_o_wasOff o_trace o_typed o_gates o_wishes o_at o_start o_sort o_value o_fault o_drafted o_by o_bestBy o_bestWorth o_isBest o_parts o_row o_right o_m) sz) (w_X7_solved cy a_o a_o_text a_o_letter a_o_least a_o_carries a_o_gateOff a_o_worth a_o_kind a_o_most a_o_wishOff a_o_use a_o_toldUp a_o_toldDown a_o_priceUp a_o_priceDown a_o_draftGate a_o_draftCarries a_o_draftWorth a_o_draftKind a_o_draftMost a_o_draftUse a_o_x a_o_bestX a_o_part a_o_row a_o_right a_o_m a_o_given a_o_wasOff o_trace o_typed o_gates o_wishes o_at o_start o_sort o_value o_fault o_drafted o_by o_bestBy o_bestWorth o_isBest o_parts o_row o_right u) t) (va_A (w_X7_solved cy a_o a_o_text a_o_letter a_o_least a_o_carries a_o_gateOff a_o_worth a_o_kind a_o_most a_o_wishOff a_o_use a_o_toldUp a_o_toldDown a_o_priceUp a_o_priceDown a_o_draftGate a_o_draftCarries a_o_draftWorth a_o_draftKind a_o_draftMost a_o_draftUse a_o_x a_o_bestX a_o_part a_o_row a_o_right a_o_m a_o_given a_o_wasOff o_trace o_typed o_gates o_wishes o_at o_start o_sort o_value o_fault o_drafted o_by o_bestBy o_bestWorth o_isBest o_parts o_row o_right o_m) sz)) 0 0 (va_A (w_X7_solved cy a_o a_o_text a_o_letter a_o_least a_o_carries a_o_gateOff a_o_worth a_o_kind a_o_most a_o_wishOff a_o_use a_o_toldUp a_o_toldDown a_o_priceUp a_o_priceDown a_o_draftGate a_o_draftCarries a_o_draftWorth a_o_draftKind a_o_draftMost a_o_draftUse a_o_x a_o_bestX a_o_part a_o_row a_o_right a_o_m a_o_given a_o_wasOff o_trace o_typed o_gates o_wishes o_at o_start o_sort o_value o_fault o_drafted o_by o_bestBy o_bestWorth o_isBest o_parts o_row o_right o_m) sz) := by
  refine contrL (S := (Nat → Int64)) (post := fun (r : Int64) (u : (Nat → Int64)) => post r u) (wOut := fun (u : (Nat → Int64)) => (w_X7_solved cy a_o a_o_text a_o_letter a_o_least a_o_carries a_o_gateOff a_o_worth a_o_kind a_o_most a_o_wishOff a_o_use a_o_toldUp a_o_toldDown a_o_priceUp a_o_priceDown a_o_draftGate a_o_draftCarries a_o_draftWorth a_o_draftKind a_o_draftMost a_o_draftUse a_o_x a_o_bestX a_o_part a_o_row a_o_right a_o_m a_o_given a_o_wasOff o_trace o_typed o_gates o_wishes o_at o_start o_sort o_value o_fault o_drafted o_by o_bestBy o_bestWorth o_isBest o_parts o_row o_right u)) (cc := cX7_solved) (maxL := 5) (own := RX7) (by decide +kernel) rfl rfl ?_
  intro p e s m args below meth c A Q hx hb hml hown hts hK hN hP hD hS hA hret
  have in_X7 : ∀ w ∈ u_ws RX7 TX7 43, w ∈ wsX7_solved := by decide +kernel
  have fl_88 := hts (.fieldLink RX7 88 "DawnTableModel" "m" "[J") (by decide +kernel)
  have fl_82 := hts (.fieldLink RX7 82 "DawnTableModel" "row" "[J") (by decide +kernel)
  have fl_85 := hts (.fieldLink RX7 85 "DawnTableModel" "right" "[J") (by decide +kernel)
  have j_52_0 : ∀ (x1 : Int32) (x2 : Int32) (x3 : Int32) (x4 : Int32) (s1 : Int32) (s2 : Int64) (o_m : Nat → Int64), ∀ (kb : Int32 → (Nat → Int64) → Prop), (∀ (x4 : Int32) (o_m : Nat → Int64), kb x4 o_m → ∀ (H : Heap) (locs : List Loc), va_P D vwCl (w_X7_solved cy a_o a_o_text a_o_letter a_o_least a_o_carries a_o_gateOff a_o_worth a_o_kind a_o_most a_o_wishOff a_o_use a_o_toldUp a_o_toldDown a_o_priceUp a_o_priceDown a_o_draftGate a_o_draftCarries a_o_draftWorth a_o_draftKind a_o_draftMost a_o_draftUse a_o_x a_o_bestX a_o_part a_o_row a_o_right a_o_m a_o_given a_o_wasOff o_trace o_typed o_gates o_wishes o_at o_start o_sort o_value o_fault o_drafted o_by o_bestBy o_bestWorth o_isBest o_parts o_row o_right o_m) H → va_D A (w_X7_solved cy a_o a_o_text a_o_letter a_o_least a_o_carries a_o_gateOff a_o_worth a_o_kind a_o_most a_o_wishOff a_o_use a_o_toldUp a_o_toldDown a_o_priceUp a_o_priceDown a_o_draftGate a_o_draftCarries a_o_draftWorth a_o_draftKind a_o_draftMost a_o_draftUse a_o_x a_o_bestX a_o_part a_o_row a_o_right a_o_m a_o_given a_o_wasOff o_trace o_typed o_gates o_wishes o_at o_start o_sort o_value o_fault o_drafted o_by o_bestBy o_bestWorth o_isBest o_parts o_row o_right o_m) → va_S A s.heap H locs → ∀ (ls : Array Slot), lv_has ls 5 [(0, .ref a_o), (1, .int x1), (2, .int x2), (3, .int x3), (4, .int x4)] → W p l e ({ frames := 1, cells := 0, slots := 0, locals := 30 }) s m args below meth c H locs 0 0 Q (F0 m 10 ls [])) → ∀ (kx0 : (Nat → Int64) → Prop), (∀ (o_m : Nat → Int64), kx0 o_m → ∀ (H : Heap) (locs : List Loc), va_P D vwCl (w_X7_solved cy a_o a_o_text a_o_letter a_o_least a_o_carries a_o_gateOff a_o_worth a_o_kind a_o_most a_o_wishOff a_o_use a_o_toldUp a_o_toldDown a_o_priceUp a_o_priceDown a_o_draftGate a_o_draftCarries a_o_draftWorth a_o_draftKind a_o_draftMost a_o_draftUse a_o_x a_o_bestX a_o_part a_o_row a_o_right a_o_m a_o_given a_o_wasOff o_trace o_typed o_gates o_wishes o_at o_start o_sort o_value o_fault o_drafted o_by o_bestBy o_bestWorth o_isBest o_parts o_row o_right o_m) H → va_D A (w_X7_solved cy a_o a_o_text a_o_letter a_o_least a_o_carries a_o_gateOff a_o_worth a_o_kind a_o_most a_o_wishOff a_o_use a_o_toldUp a_o_toldDown a_o_priceUp a_o_priceDown a_o_draftGate a_o_draftCarries a_o_draftWorth a_o_draftKind a_o_draftMost a_o_draftUse a_o_x a_o_bestX a_o_part a_o_row a_o_right a_o_m a_o_given a_o_wasOff o_trace o_typed o_gates o_wishes o_at o_start o_sort o_value o_fault o_drafted o_by o_bestBy o_bestWorth o_isBest o_parts o_row o_right o_m) → va_S A s.heap H locs → ∀ (ls : Array Slot), lv_has ls 5 [(0, .ref a_o), (1, .int x1), (2, .int x2), (3, .int x3)] → W p l e ({ frames := 1, cells := 0, slots := 0, locals := 30 }) s m args below meth c H locs 0 0 Q (F0 m 59 ls [])) → wj_X7_solved_52  x1 x2 x3 x4 s1 s2 o_row o_right o_m kb kx0 post → ∀ (H : Heap) (locs : List Loc), va_P D vwCl (w_X7_solved cy a_o a_o_text a_o_letter a_o_least a_o_carries a_o_gateOff a_o_worth a_o_kind a_o_most a_o_wishOff a_o_use a_o_toldUp a_o_toldDown a_o_priceUp a_o_priceDown a_o_draftGate a_o_draftCarries a_o_draftWorth a_o_draftKind a_o_draftMost a_o_draftUse a_o_x a_o_bestX a_o_part a_o_row a_o_right a_o_m a_o_given a_o_wasOff o_trace o_typed o_gates o_wishes o_at o_start o_sort o_value o_fault o_drafted o_by o_bestBy o_bestWorth o_isBest o_parts o_row o_right o_m) H → va_D A (w_X7_solved cy a_o a_o_text a_o_letter a_o_least a_o_carries a_o_gateOff a_o_worth a_o_kind a_o_most a_o_wishOff a_o_use a_o_toldUp a_o_toldDown a_o_priceUp a_o_priceDown a_o_draftGate a_o_draftCarries a_o_draftWorth a_o_draftKind a_o_draftMost a_o_draftUse a_o_x a_o_bestX a_o_part a_o_row a_o_right a_o_m a_o_given a_o_wasOff o_trace o_typed o_gates o_wishes o_at o_start o_sort o_value o_fault o_drafted o_by o_bestBy o_bestWorth o_isBest o_parts o_row o_right o_m) → va_S A s.heap H locs → ∀ (ls : Array Slot), lv_has ls 5 [(0, .ref a_o), (1, .int x1), (2, .int x2), (3, .int x3), (4, .int x4)] → W p l e ({ frames := 1, cells := 0, slots := 0, locals := 30 }) s m args below meth c H locs 0 0 Q (F0 m 52 ls [.long s2, .int s1, .ref a_o_m]) := by
    intro x1 x2 x3 x4 s1 s2 o_m kb hkb kx0 hkx0  h H locs hP hD hS ls hl
    unfold wj_X7_solved_52 at h
    obtain ⟨i5, h⟩ := h
    refine va_last hx hb hK hP hD hS 3 2 rfl rfl i5 dX7_solved_52 (fun H locs hP hD hS => ?_)
    have hP : va_P D vwCl (w_X7_solved cy a_o a_o_text a_o_letter a_o_least a_o_carries a_o_gateOff a_o_worth a_o_kind a_o_most a_o_wishOff a_o_use a_o_toldUp a_o_toldDown a_o_priceUp a_o_priceDown a_o_draftGate a_o_draftCarries a_o_draftWorth a_o_draftKind a_o_draftMost a_o_draftUse a_o_x a_o_bestX a_o_part a_o_row a_o_right a_o_m a_o_given a_o_wasOff o_trace o_typed o_gates o_wishes o_at o_start o_sort o_value o_fault o_drafted o_by o_bestBy o_bestWorth o_isBest o_parts o_row o_right (vp_updL o_m (s1).toNatClampNeg s2)) H := hP
    have hD : va_D A (w_X7_solved cy a_o a_o_text a_o_letter a_o_least a_o_carries a_o_gateOff a_o_worth a_o_kind a_o_most a_o_wishOff a_o_use a_o_toldUp a_o_toldDown a_o_priceUp a_o_priceDown a_o_draftGate a_o_draftCarries a_o_draftWorth a_o_draftKind a_o_draftMost a_o_draftUse a_o_x a_o_bestX a_o_part a_o_row a_o_right a_o_m a_o_given a_o_wasOff o_trace o_typed o_gates o_wishes o_at o_start o_sort o_value o_fault o_drafted o_by o_bestBy o_bestWorth o_isBest o_parts o_row o_right (vp_updL o_m (s1).toNatClampNeg s2)) := hD
    refine lv_iinc (v := (x4 + (1 : Int32))) (lv' := [(4, .int (x4 + (1 : Int32))), (0, .ref a_o), (1, .int x1), (2, .int x2), (3, .int x3)]) hx hb dX7_solved_53 hl (k := 4) rfl (congrArg (fun z => x4 + z) (by decide : Int32.ofInt (1) = (1 : Int32))) (by decide) rfl (fun ls hl => ?_)
    refine lv_goto (tgt := 10) hx hb dX7_solved_56 (by decide) ?_
    exact hkb (x4 + (1 : Int32)) (vp_updL o_m (s1).toNatClampNeg s2) h _ _ hP hD hS _ (lv_sub hl [1, 2, 3, 4, 0] rfl)
  have l_10 : ∀ (x1 : Int32) (x2 : Int32) (x3 : Int32), ∀ (kx0 : (Nat → Int64) → Prop), (∀ (o_m : Nat → Int64), kx0 o_m → ∀ (H : Heap) (locs : List Loc), va_P D vwCl (w_X7_solved cy a_o a_o_text a_o_letter a_o_least a_o_carries a_o_gateOff a_o_worth a_o_kind a_o_most a_o_wishOff a_o_use a_o_toldUp a_o_toldDown a_o_priceUp a_o_priceDown a_o_draftGate a_o_draftCarries a_o_draftWorth a_o_draftKind a_o_draftMost a_o_draftUse a_o_x a_o_bestX a_o_part a_o_row a_o_right a_o_m a_o_given a_o_wasOff o_trace o_typed o_gates o_wishes o_at o_start o_sort o_value o_fault o_drafted o_by o_bestBy o_bestWorth o_isBest o_parts o_row o_right o_m) H → va_D A (w_X7_solved cy a_o a_o_text a_o_letter a_o_least a_o_carries a_o_gateOff a_o_worth a_o_kind a_o_most a_o_wishOff a_o_use a_o_toldUp a_o_toldDown a_o_priceUp a_o_priceDown a_o_draftGate a_o_draftCarries a_o_draftWorth a_o_draftKind a_o_draftMost a_o_draftUse a_o_x a_o_bestX a_o_part a_o_row a_o_right a_o_m a_o_given a_o_wasOff o_trace o_typed o_gates o_wishes o_at o_start o_sort o_value o_fault o_drafted o_by o_bestBy o_bestWorth o_isBest o_parts o_row o_right o_m) → va_S A s.heap H locs → ∀ (ls : Array Slot), lv_has ls 5 [(0, .ref a_o), (1, .int x1), (2, .int x2), (3, .int x3)] → W p l e ({ frames := 1, cells := 0, slots := 0, locals := 30 }) s m args below meth c H locs 0 0 Q (F0 m 59 ls [])) → ∀ (n : Nat) (x4 : Int32) (o_m : Nat → Int64), wl_X7_solved_10 x1 x2 x3 o_row o_right kx0 post n x4 o_m → ∀ (H : Heap) (locs : List Loc), va_P D vwCl (w_X7_solved cy a_o a_o_text a_o_letter a_o_least a_o_carries a_o_gateOff a_o_worth a_o_kind a_o_most a_o_wishOff a_o_use a_o_toldUp a_o_toldDown a_o_priceUp a_o_priceDown a_o_draftGate a_o_draftCarries a_o_draftWorth a_o_draftKind a_o_draftMost a_o_draftUse a_o_x a_o_bestX a_o_part a_o_row a_o_right a_o_m a_o_given a_o_wasOff o_trace o_typed o_gates o_wishes o_at o_start o_sort o_value o_fault o_drafted o_by o_bestBy o_bestWorth o_isBest o_parts o_row o_right o_m) H → va_D A (w_X7_solved cy a_o a_o_text a_o_letter a_o_least a_o_carries a_o_gateOff a_o_worth a_o_kind a_o_most a_o_wishOff a_o_use a_o_toldUp a_o_toldDown a_o_priceUp a_o_priceDown a_o_draftGate a_o_draftCarries a_o_draftWorth a_o_draftKind a_o_draftMost a_o_draftUse a_o_x a_o_bestX a_o_part a_o_row a_o_right a_o_m a_o_given a_o_wasOff o_trace o_typed o_gates o_wishes o_at o_start o_sort o_value o_fault o_drafted o_by o_bestBy o_bestWorth o_isBest o_parts o_row o_right o_m) → va_S A s.heap H locs → ∀ (ls : Array Slot), lv_has ls 5 [(0, .ref a_o), (1, .int x1), (2, .int x2), (3, .int x3), (4, .int x4)] → W p l e ({ frames := 1, cells := 0, slots := 0, locals := 30 }) s m args below meth c H locs 0 0 Q (F0 m 10 ls []) := by
    intro x1 x2 x3 kx0 hkx0  n
    induction n with
    | zero => intro x4 o_m h; exact h.elim
    | succ n hkb =>
      intro x4 o_m h H locs hP hD hS ls hl
      replace h : ws_X7_solved_10 x1 x2 x3 o_row o_right (wl_X7_solved_10 x1 x2 x3 o_row o_right kx0 post n) kx0 post x4 o_m := h
      generalize wl_X7_solved_10 x1 x2 x3 o_row o_right kx0 post n = kb at h hkb
      unfold ws_X7_solved_10 at h
      refine lv_iload hx hb dX7_solved_10 (lv_at hl 4 rfl) ?_
      refine lv_iload_n hx hb dX7_solved_12 rfl (lv_at hl 1 rfl) ?_
      refine lv_icmp_ge (tgt := 59) hx hb dX7_solved_13 (by decide) (fun c2 => ?_) (fun c2 => ?_)
      · have h := h.1 c2
        exact hkx0 o_m h _ _ hP hD hS _ (lv_sub hl [0, 1, 2, 3] rfl)
      · have h := h.2 c2
        refine lv_aload_n hx hb dX7_solved_16 rfl (lv_at hl 0 rfl) ?_
        refine va_get (D := D) (ci := 7) (v := .ref a_o_m) (C := RX7) (T := TX7) (N := 43) hx hb hts in_X7 hown hK hP 0 rfl rfl 40 (by decide) fl_88 (fun _ h9 => h9) rfl dX7_solved_17 ?_
        refine lv_iconst (v := 4) hx hb dX7_solved_20 (by decide) ?_
        refine lv_iload_n hx hb dX7_solved_21 rfl (lv_at hl 3 rfl) ?_
        refine lv_imul hx hb dX7_solved_22 ?_
        refine lv_iload hx hb dX7_solved_23 (lv_at hl 4 rfl) ?_
        refine lv_iadd hx hb dX7_solved_25 ?_
        refine lv_iload hx hb dX7_solved_26 (lv_at hl 4 rfl) ?_
        refine lv_iload_n hx hb dX7_solved_28 rfl (lv_at hl 2 rfl) ?_
        refine lv_icmp_ne (tgt := 41) hx hb dX7_solved_29 (by decide) (fun c3 => ?_) (fun c3 => ?_)
        · have h := h.2 c3
          refine lv_aload_n hx hb dX7_solved_41 rfl (lv_at hl 0 rfl) ?_
          refine va_get (D := D) (ci := 7) (v := .ref a_o_row) (C := RX7) (T := TX7) (N := 43) hx hb hts in_X7 hown hK hP 0 rfl rfl 38 (by decide) fl_82 (fun _ h9 => h9) rfl dX7_solved_42 ?_
          refine lv_iconst (v := 4) hx hb dX7_solved_45 (by decide) ?_
          refine lv_iload_n hx hb dX7_solved_46 rfl (lv_at hl 3 rfl) ?_
          refine lv_imul hx hb dX7_solved_47 ?_
          refine lv_iload hx hb dX7_solved_48 (lv_at hl 4 rfl) ?_
          refine lv_iadd hx hb dX7_solved_50 ?_
          obtain ⟨i4, h⟩ := h
          refine va_lald hx hb hK hP 1 2 rfl rfl i4 dX7_solved_51 ?_
          exact j_52_0 x1 x2 x3 x4 (((4 : Int32) * x3) + x4) (o_row ((((4 : Int32) * x3) + x4)).toNatClampNeg) o_m kb hkb kx0 hkx0 h _ _ hP hD hS _ (lv_sub hl [0, 1, 2, 3, 4] rfl)
        · have h := h.1 c3
          refine lv_aload_n hx hb dX7_solved_32 rfl (lv_at hl 0 rfl) ?_
          refine va_get (D := D) (ci := 7) (v := .ref a_o_right) (C := RX7) (T := TX7) (N := 43) hx hb hts in_X7 hown hK hP 0 rfl rfl 39 (by decide) fl_85 (fun _ h9 => h9) rfl dX7_solved_33 ?_
          refine lv_iload_n hx hb dX7_solved_36 rfl (lv_at hl 3 rfl) ?_
          obtain ⟨i6, h⟩ := h
          refine va_lald hx hb hK hP 2 2 rfl rfl i6 dX7_solved_37 ?_
          refine lv_goto (tgt := 52) hx hb dX7_solved_38 (by decide) ?_
          exact j_52_0 x1 x2 x3 x4 (((4 : Int32) * x3) + x4) (o_right (x3).toNatClampNeg) o_m kb hkb kx0 hkx0 h _ _ hP hD hS _ (lv_sub hl [0, 1, 2, 3, 4] rfl)
  have l_2 : ∀ (x1 : Int32) (x2 : Int32), ∀ (kx0 : (Nat → Int64) → Prop), (∀ (o_m : Nat → Int64), kx0 o_m → ∀ (H : Heap) (locs : List Loc), va_P D vwCl (w_X7_solved cy a_o a_o_text a_o_letter a_o_least a_o_carries a_o_gateOff a_o_worth a_o_kind a_o_most a_o_wishOff a_o_use a_o_toldUp a_o_toldDown a_o_priceUp a_o_priceDown a_o_draftGate a_o_draftCarries a_o_draftWorth a_o_draftKind a_o_draftMost a_o_draftUse a_o_x a_o_bestX a_o_part a_o_row a_o_right a_o_m a_o_given a_o_wasOff o_trace o_typed o_gates o_wishes o_at o_start o_sort o_value o_fault o_drafted o_by o_bestBy o_bestWorth o_isBest o_parts o_row o_right o_m) H → va_D A (w_X7_solved cy a_o a_o_text a_o_letter a_o_least a_o_carries a_o_gateOff a_o_worth a_o_kind a_o_most a_o_wishOff a_o_use a_o_toldUp a_o_toldDown a_o_priceUp a_o_priceDown a_o_draftGate a_o_draftCarries a_o_draftWorth a_o_draftKind a_o_draftMost a_o_draftUse a_o_x a_o_bestX a_o_part a_o_row a_o_right a_o_m a_o_given a_o_wasOff o_trace o_typed o_gates o_wishes o_at o_start o_sort o_value o_fault o_drafted o_by o_bestBy o_bestWorth o_isBest o_parts o_row o_right o_m) → va_S A s.heap H locs → ∀ (ls : Array Slot), lv_has ls 5 [(0, .ref a_o), (1, .int x1)] → W p l e ({ frames := 1, cells := 0, slots := 0, locals := 30 }) s m args below meth c H locs 0 0 Q (F0 m 65 ls [])) → ∀ (n : Nat) (x3 : Int32) (o_m : Nat → Int64), wl_X7_solved_2 x1 x2 o_row o_right kx0 post n x3 o_m → ∀ (H : Heap) (locs : List Loc), va_P D vwCl (w_X7_solved cy a_o a_o_text a_o_letter a_o_least a_o_carries a_o_gateOff a_o_worth a_o_kind a_o_most a_o_wishOff a_o_use a_o_toldUp a_o_toldDown a_o_priceUp a_o_priceDown a_o_draftGate a_o_draftCarries a_o_draftWorth a_o_draftKind a_o_draftMost a_o_draftUse a_o_x a_o_bestX a_o_part a_o_row a_o_right a_o_m a_o_given a_o_wasOff o_trace o_typed o_gates o_wishes o_at o_start o_sort o_value o_fault o_drafted o_by o_bestBy o_bestWorth o_isBest o_parts o_row o_right o_m) H → va_D A (w_X7_solved cy a_o a_o_text a_o_letter a_o_least a_o_carries a_o_gateOff a_o_worth a_o_kind a_o_most a_o_wishOff a_o_use a_o_toldUp a_o_toldDown a_o_priceUp a_o_priceDown a_o_draftGate a_o_draftCarries a_o_draftWorth a_o_draftKind a_o_draftMost a_o_draftUse a_o_x a_o_bestX a_o_part a_o_row a_o_right a_o_m a_o_given a_o_wasOff o_trace o_typed o_gates o_wishes o_at o_start o_sort o_value o_fault o_drafted o_by o_bestBy o_bestWorth o_isBest o_parts o_row o_right o_m) → va_S A s.heap H locs → ∀ (ls : Array Slot), lv_has ls 5 [(0, .ref a_o), (1, .int x1), (2, .int x2), (3, .int x3)] → W p l e ({ frames := 1, cells := 0, slots := 0, locals := 30 }) s m args below meth c H locs 0 0 Q (F0 m 2 ls []) := by
    intro x1 x2 kx0 hkx0  n
    induction n with
    | zero => intro x3 o_m h; exact h.elim
    | succ n hkb =>
      intro x3 o_m h H locs hP hD hS ls hl
      replace h : ws_X7_solved_2 x1 x2 o_row o_right (wl_X7_solved_2 x1 x2 o_row o_right kx0 post n) kx0 post x3 o_m := h
      generalize wl_X7_solved_2 x1 x2 o_row o_right kx0 post n = kb at h hkb
      unfold ws_X7_solved_2 at h
      refine lv_iload_n hx hb dX7_solved_2 rfl (lv_at hl 3 rfl) ?_
      refine lv_iload_n hx hb dX7_solved_3 rfl (lv_at hl 1 rfl) ?_
      refine lv_icmp_ge (tgt := 65) hx hb dX7_solved_4 (by decide) (fun c1 => ?_) (fun c1 => ?_)
      · have h := h.1 c1
        exact hkx0 o_m h _ _ hP hD hS _ (lv_sub hl [0, 1] rfl)
      · have h := h.2 c1
        refine lv_iconst (v := 0) hx hb dX7_solved_7 (by decide) ?_
        refine lv_istore (lv' := [(4, .int (0 : Int32)), (0, .ref a_o), (1, .int x1), (2, .int x2), (3, .int x3)]) hx hb dX7_solved_8 hl (by decide) rfl (fun ls hl => ?_)
        obtain ⟨n8, h⟩ := h
        refine l_10 x1 x2 x3 _ ?_ n8 (0 : Int32) o_m h _ _ hP hD hS _ (lv_sub hl [1, 2, 3, 4, 0] rfl)
        · intro o_m_7 h H locs hP hD hS ls hl
          refine lv_iinc (v := (x3 + (1 : Int32))) (lv' := [(3, .int (x3 + (1 : Int32))), (0, .ref a_o), (1, .int x1), (2, .int x2)]) hx hb dX7_solved_59 hl (k := 3) rfl (congrArg (fun z => x3 + z) (by decide : Int32.ofInt (1) = (1 : Int32))) (by decide) rfl (fun ls hl => ?_)
          refine lv_goto (tgt := 2) hx hb dX7_solved_62 (by decide) ?_
          exact hkb (x3 + (1 : Int32)) o_m_7 h _ _ hP hD hS _ (lv_sub hl [1, 2, 3, 0] rfl)
  refine ent [.ref a_o, .int x1, .int x2] (Nat.le_of_ble_eq_true rfl) (fun ls hl => ?_)
  have hl : lv_has ls 5 [(0, .ref a_o), (1, .int x1), (2, .int x2)] := hl
  unfold wp_X7_solved at h
  refine lv_iconst (v := 0) hx hb dX7_solved_0 (by decide) ?_
  refine lv_istore_n (lv' := [(3, .int (0 : Int32)), (0, .ref a_o), (1, .int x1), (2, .int x2)]) hx hb dX7_solved_1 rfl hl (by decide) rfl (fun ls hl => ?_)
  obtain ⟨n13, h⟩ := h
  refine l_2 x1 x2 _ ?_ n13 (0 : Int32) o_m h _ _ hP hD hS _ (lv_sub hl [1, 2, 3, 0] rfl)
  · intro o_m_9 h H locs hP hD hS ls hl
    refine lv_iload_n hx hb dX7_solved_65 rfl (lv_at hl 1 rfl) ?_
    refine lv_if_ne (tgt := 73) hx hb dX7_solved_66 (by decide) (fun c10 => ?_) (fun c10 => ?_)
    · have h := h.2 c10
      refine lv_aload_n hx hb dX7_solved_73 rfl (lv_at hl 0 rfl) ?_
      refine lv_iload_n hx hb dX7_solved_74 rfl (lv_at hl 1 rfl) ?_
      have hC : ([0, 3] : List Nat).map (fun i => ((w_X7_solved cy a_o a_o_text a_o_letter a_o_least a_o_carries a_o_gateOff a_o_worth a_o_kind a_o_most a_o_wishOff a_o_use a_o_toldUp a_o_toldDown a_o_priceUp a_o_priceDown a_o_draftGate a_o_draftCarries a_o_draftWorth a_o_draftKind a_o_draftMost a_o_draftUse a_o_x a_o_bestX a_o_part a_o_row a_o_right a_o_m a_o_given a_o_wasOff o_trace o_typed o_gates o_wishes o_at o_start o_sort o_value o_fault o_drafted o_by o_bestBy o_bestWorth o_isBest o_parts o_row o_right o_m_9) : va_W)[i]?) = ((w_X7_determinant cy a_o a_o_text a_o_letter a_o_least a_o_carries a_o_gateOff a_o_worth a_o_kind a_o_most a_o_wishOff a_o_use a_o_toldUp a_o_toldDown a_o_priceUp a_o_priceDown a_o_draftGate a_o_draftCarries a_o_draftWorth a_o_draftKind a_o_draftMost a_o_draftUse a_o_x a_o_bestX a_o_part a_o_row a_o_right a_o_m a_o_given a_o_wasOff o_trace o_typed o_gates o_wishes o_at o_start o_sort o_value o_fault o_drafted o_by o_bestBy o_bestWorth o_isBest o_parts o_m_9) : va_W).map some := rfl
      obtain ⟨hPc, hDc⟩ := cutC hP hD [0, 3] (by decide) hC
      have hFc := va_free hD hS hA [0, 3] hC
      refine va_calll (va_runV (As := [.int x1]) (rest := []) ⟨hx, hb, hml, hown, hts⟩ (c_X7_determinant l D cy a_o a_o_text a_o_letter a_o_least a_o_carries a_o_gateOff a_o_worth a_o_kind a_o_most a_o_wishOff a_o_use a_o_toldUp a_o_toldDown a_o_priceUp a_o_priceDown a_o_draftGate a_o_draftCarries a_o_draftWorth a_o_draftKind a_o_draftMost a_o_draftUse a_o_x a_o_bestX a_o_part a_o_row a_o_right a_o_m a_o_given a_o_wasOff _ h) (cwV 1 hts gX7_solved_X7_determinant rfl rfl rfl (by decide +kernel) ⟨Nat.le_of_ble_eq_true rfl, Nat.le_of_ble_eq_true rfl⟩) (preV hPc hDc hK hN (ci := 7) (q0 := 0) rfl rfl) rfl rfl hl.1 rfl (lv_room (Nat.le_of_ble_eq_true rfl)) dX7_solved_75 ⟨Nat.zero_le _, Nat.zero_le _⟩) hS (fun q _ h => hFc q h) hFc (fun r12 u11 t H1 locs ht hvm h hB hz1 hk1 hS => ?_)
      try dsimp only at h hB
      obtain ⟨hP, hD⟩ := joinU (wd := (w_X7_solved cy a_o a_o_text a_o_letter a_o_least a_o_carries a_o_gateOff a_o_worth a_o_kind a_o_most a_o_wishOff a_o_use a_o_toldUp a_o_toldDown a_o_priceUp a_o_priceDown a_o_draftGate a_o_draftCarries a_o_draftWorth a_o_draftKind a_o_draftMost a_o_draftUse a_o_x a_o_bestX a_o_part a_o_row a_o_right a_o_m a_o_given a_o_wasOff o_trace o_typed o_gates o_wishes o_at o_start o_sort o_value o_fault o_drafted o_by o_bestBy o_bestWorth o_isBest o_parts o_row o_right u11)) (wr := [(a_o_row, .inl (cy 2, 16, .inr (.inl o_row))), (a_o_right, .inl (cy 2, 4, .inr (.inl o_right)))]) hP hD [0, 3] [1, 2] [a_o, a_o_m] hC hk1 ht hB rfl rfl rfl (N := 4) rfl (by decide) rfl rfl
      generalize H1 = H at hP hS ⊢
      exact hret r12 (u11) _ _ _ _ h hP hD hS dX7_solved_78
    · have h := h.1 c10
      refine lv_lconst (v := 1) hx hb dX7_solved_69 (by decide) ?_
      refine lv_goto (tgt := 78) hx hb dX7_solved_70 (by decide) ?_
      exact hret (1 : Int64) (o_m_9) _ _ _ _ h hP hD hS dX7_solved_78
abbrev w_X7_holds (cy : Nat → ClassId) (a_o a_o_text a_o_letter a_o_least a_o_carries a_o_gateOff a_o_worth a_o_kind a_o_most a_o_wishOff a_o_use a_o_toldUp a_o_toldDown a_o_priceUp a_o_priceDown a_o_draftGate a_o_draftCarries a_o_draftWorth a_o_draftKind a_o_draftMost a_o_draftUse a_o_x a_o_bestX a_o_part a_o_row a_o_right a_o_m a_o_given a_o_wasOff : Nat) (o_trace : Int64) (o_typed : Int32) (o_gates : Int32) (o_wishes : Int32) (o_at : Int32) (o_start : Int32) (o_sort : Int32) (o_value : Int32) (o_fault : Int32) (o_drafted : Int32) (o_by : Int64) (o_bestBy : Int64) (o_bestWorth : Int64) (o_isBest : Int32) (o_parts : Int32) (o_least : Nat → Int32) (o_carries : Nat → Int32) (o_gateOff : Nat → Int32) (o_most : Nat → Int32) (o_use : Nat → Int32) (o_x : Nat → Int64) : va_W := [(a_o, .inr (7, [.long o_trace, .ref a_o_text, .int o_typed, .int o_gates, .int o_wishes, .ref a_o_letter, .ref a_o_least, .ref a_o_carries, .ref a_o_gateOff, .ref a_o_worth, .ref a_o_kind, .ref a_o_most, .ref a_o_wishOff, .ref a_o_use, .ref a_o_toldUp, .ref a_o_toldDown, .ref a_o_priceUp, .ref a_o_priceDown, .int o_at, .int o_start, .int o_sort, .int o_value, .int o_fault, .ref a_o_draftGate, .ref a_o_draftCarries, .ref a_o_draftWorth, .ref a_o_draftKind, .ref a_o_draftMost, .ref a_o_draftUse, .int o_drafted, .ref a_o_x, .long o_by, .ref a_o_bestX, .long o_bestBy, .long o_bestWorth, .int o_isBest, .ref a_o_part, .int o_parts, .ref a_o_row, .ref a_o_right, .ref a_o_m, .ref a_o_given, .ref a_o_wasOff])), (a_o_least, .inl (cy 1, 5, .inl o_least)), (a_o_carries, .inl (cy 1, 5, .inl o_carries)), (a_o_gateOff, .inl (cy 3, 5, .inl o_gateOff)), (a_o_most, .inl (cy 1, 4, .inl o_most)), (a_o_use, .inl (cy 1, 20, .inl o_use)), (a_o_x, .inl (cy 2, 4, .inr (.inl o_x)))]
set_option maxRecDepth 20000 in
theorem ggX7_holds_X7_in : GoodIn wsX7_holds wsX7_in := goodIn_r _ [13] (by decide +kernel) (by decide +kernel)
set_option maxRecDepth 20000 in
theorem gX7_holds_X7_in : GoodIn wsX7_holds (va_wsS RX7 102 yX7_in wsX7_in) := goodIn_app (goodIn_of _ (by decide +kernel)) ggX7_holds_X7_in
set_option maxHeartbeats 4000000 in
set_option maxRecDepth 100000 in
theorem c_X7_holds (l : Launch) (D : va_G) (cy : Nat → ClassId) (a_o a_o_text a_o_letter a_o_least a_o_carries a_o_gateOff a_o_worth a_o_kind a_o_most a_o_wishOff a_o_use a_o_toldUp a_o_toldDown a_o_priceUp a_o_priceDown a_o_draftGate a_o_draftCarries a_o_draftWorth a_o_draftKind a_o_draftMost a_o_draftUse a_o_x a_o_bestX a_o_part a_o_row a_o_right a_o_m a_o_given a_o_wasOff : Nat) (sz : Nat)  {o_trace : Int64} {o_typed : Int32} {o_gates : Int32} {o_wishes : Int32} {o_at : Int32} {o_start : Int32} {o_sort : Int32} {o_value : Int32} {o_fault : Int32} {o_drafted : Int32} {o_by : Int64} {o_bestBy : Int64} {o_bestWorth : Int64} {o_isBest : Int32} {o_parts : Int32} {o_least : Nat → Int32} {o_carries : Nat → Int32} {o_gateOff : Nat → Int32} {o_most : Nat → Int32} {o_use : Nat → Int32} {o_x : Nat → Int64}  {post : Int32 → Prop} (h : wp_X7_holds o_gates o_wishes o_by o_least o_carries o_gateOff o_most o_use o_x post) : Met l yX7_holds wsX7_holds ({ frames := 1, cells := 0, slots := 0, locals := 25 }) (va_Pc [.ref a_o] (wI D cy sz (w_X7_holds cy a_o a_o_text a_o_letter a_o_least a_o_carries a_o_gateOff a_o_worth a_o_kind a_o_most a_o_wishOff a_o_use a_o_toldUp a_o_toldDown a_o_priceUp a_o_priceDown a_o_draftGate a_o_draftCarries a_o_draftWorth a_o_draftKind a_o_draftMost a_o_draftUse a_o_x a_o_bestX a_o_part a_o_row a_o_right a_o_m a_o_given a_o_wasOff o_trace o_typed o_gates o_wishes o_at o_start o_sort o_value o_fault o_drafted o_by o_bestBy o_bestWorth o_isBest o_parts o_least o_carries o_gateOff o_most o_use o_x))) (va_Qi (fun (r : Int32) (u : Unit) => post r ) (fun (u : Unit) t => wO D cy (va_A (w_X7_holds cy a_o a_o_text a_o_letter a_o_least a_o_carries a_o_gateOff a_o_worth a_o_kind a_o_most a_o_wishOff a_o_use a_o_toldUp a_o_toldDown a_o_priceUp a_o_priceDown a_o_draftGate a_o_draftCarries a_o_draftWorth a_o_draftKind a_o_draftMost a_o_draftUse a_o_x a_o_bestX a_o_part a_o_row a_o_right a_o_m a_o_given a_o_wasOff o_trace o_typed o_gates o_wishes o_at o_start o_sort o_value o_fault o_drafted o_by o_bestBy o_bestWorth o_isBest o_parts o_least o_carries o_gateOff o_most o_use o_x) sz) (w_X7_holds cy a_o a_o_text a_o_letter a_o_least a_o_carries a_o_gateOff a_o_worth a_o_kind a_o_most a_o_wishOff a_o_use a_o_toldUp a_o_toldDown a_o_priceUp a_o_priceDown a_o_draftGate a_o_draftCarries a_o_draftWorth a_o_draftKind a_o_draftMost a_o_draftUse a_o_x a_o_bestX a_o_part a_o_row a_o_right a_o_m a_o_given a_o_wasOff o_trace o_typed o_gates o_wishes o_at o_start o_sort o_value o_fault o_drafted o_by o_bestBy o_bestWorth o_isBest o_parts o_least o_carries o_gateOff o_most o_use o_x) t) (va_A (w_X7_holds cy a_o a_o_text a_o_letter a_o_least a_o_carries a_o_gateOff a_o_worth a_o_kind a_o_most a_o_wishOff a_o_use a_o_toldUp a_o_toldDown a_o_priceUp a_o_priceDown a_o_draftGate a_o_draftCarries a_o_draftWorth a_o_draftKind a_o_draftMost a_o_draftUse a_o_x a_o_bestX a_o_part a_o_row a_o_right a_o_m a_o_given a_o_wasOff o_trace o_typed o_gates o_wishes o_at o_start o_sort o_value o_fault o_drafted o_by o_bestBy o_bestWorth o_isBest o_parts o_least o_carries o_gateOff o_most o_use o_x) sz)) 0 0 (va_A (w_X7_holds cy a_o a_o_text a_o_letter a_o_least a_o_carries a_o_gateOff a_o_worth a_o_kind a_o_most a_o_wishOff a_o_use a_o_toldUp a_o_toldDown a_o_priceUp a_o_priceDown a_o_draftGate a_o_draftCarries a_o_draftWorth a_o_draftKind a_o_draftMost a_o_draftUse a_o_x a_o_bestX a_o_part a_o_row a_o_right a_o_m a_o_given a_o_wasOff o_trace o_typed o_gates o_wishes o_at o_start o_sort o_value o_fault o_drafted o_by o_bestBy o_bestWorth o_isBest o_parts o_least o_carries o_gateOff o_most o_use o_x) sz) := by
  refine contrZ (S := Unit) (post := fun (r : Int32) (u : Unit) => post r ) (wOut := fun (u : Unit) => (w_X7_holds cy a_o a_o_text a_o_letter a_o_least a_o_carries a_o_gateOff a_o_worth a_o_kind a_o_most a_o_wishOff a_o_use a_o_toldUp a_o_toldDown a_o_priceUp a_o_priceDown a_o_draftGate a_o_draftCarries a_o_draftWorth a_o_draftKind a_o_draftMost a_o_draftUse a_o_x a_o_bestX a_o_part a_o_row a_o_right a_o_m a_o_given a_o_wasOff o_trace o_typed o_gates o_wishes o_at o_start o_sort o_value o_fault o_drafted o_by o_bestBy o_bestWorth o_isBest o_parts o_least o_carries o_gateOff o_most o_use o_x)) (cc := cX7_holds) (maxL := 6) (own := RX7) (by decide +kernel) rfl rfl ?_
  intro p e s m args below meth c A Q hx hb hml hown hts hK hN hP hD hS hA hret
  have in_X7 : ∀ w ∈ u_ws RX7 TX7 43, w ∈ wsX7_holds := by decide +kernel
  have fl_185 := hts (.fieldLink RX7 185 "DawnTableModel" "wishes" "I") (by decide +kernel)
  have fl_72 := hts (.fieldLink RX7 72 "DawnTableModel" "x" "[J") (by decide +kernel)
  have fl_33 := hts (.fieldLink RX7 33 "DawnTableModel" "most" "[I") (by decide +kernel)
  have fl_203 := hts (.fieldLink RX7 203 "DawnTableModel" "by" "J") (by decide +kernel)
  have fl_182 := hts (.fieldLink RX7 182 "DawnTableModel" "gates" "I") (by decide +kernel)
  have fl_39 := hts (.fieldLink RX7 39 "DawnTableModel" "use" "[I") (by decide +kernel)
  have fl_23 := hts (.fieldLink RX7 23 "DawnTableModel" "gateOff" "[Z") (by decide +kernel)
  have fl_17 := hts (.fieldLink RX7 17 "DawnTableModel" "least" "[I") (by decide +kernel)
  have fl_20 := hts (.fieldLink RX7 20 "DawnTableModel" "carries" "[I") (by decide +kernel)
  have l_4 : ∀ (kx0 : Int32 → Prop), (∀ (x1 : Int32), kx0 x1 → ∀ (H : Heap) (locs : List Loc), va_P D vwCl (w_X7_holds cy a_o a_o_text a_o_letter a_o_least a_o_carries a_o_gateOff a_o_worth a_o_kind a_o_most a_o_wishOff a_o_use a_o_toldUp a_o_toldDown a_o_priceUp a_o_priceDown a_o_draftGate a_o_draftCarries a_o_draftWorth a_o_draftKind a_o_draftMost a_o_draftUse a_o_x a_o_bestX a_o_part a_o_row a_o_right a_o_m a_o_given a_o_wasOff o_trace o_typed o_gates o_wishes o_at o_start o_sort o_value o_fault o_drafted o_by o_bestBy o_bestWorth o_isBest o_parts o_least o_carries o_gateOff o_most o_use o_x) H → va_D A (w_X7_holds cy a_o a_o_text a_o_letter a_o_least a_o_carries a_o_gateOff a_o_worth a_o_kind a_o_most a_o_wishOff a_o_use a_o_toldUp a_o_toldDown a_o_priceUp a_o_priceDown a_o_draftGate a_o_draftCarries a_o_draftWorth a_o_draftKind a_o_draftMost a_o_draftUse a_o_x a_o_bestX a_o_part a_o_row a_o_right a_o_m a_o_given a_o_wasOff o_trace o_typed o_gates o_wishes o_at o_start o_sort o_value o_fault o_drafted o_by o_bestBy o_bestWorth o_isBest o_parts o_least o_carries o_gateOff o_most o_use o_x) → va_S A s.heap H locs → ∀ (ls : Array Slot), lv_has ls 6 [(0, .ref a_o), (1, .int x1)] → W p l e ({ frames := 1, cells := 0, slots := 0, locals := 25 }) s m args below meth c H locs 0 0 Q (F0 m 53 ls [])) → ∀ (n : Nat) (x1 : Int32) (x2 : Int32), wl_X7_holds_4 o_gates o_wishes o_by o_least o_carries o_gateOff o_most o_use o_x kx0 post n x1 x2 → ∀ (H : Heap) (locs : List Loc), va_P D vwCl (w_X7_holds cy a_o a_o_text a_o_letter a_o_least a_o_carries a_o_gateOff a_o_worth a_o_kind a_o_most a_o_wishOff a_o_use a_o_toldUp a_o_toldDown a_o_priceUp a_o_priceDown a_o_draftGate a_o_draftCarries a_o_draftWorth a_o_draftKind a_o_draftMost a_o_draftUse a_o_x a_o_bestX a_o_part a_o_row a_o_right a_o_m a_o_given a_o_wasOff o_trace o_typed o_gates o_wishes o_at o_start o_sort o_value o_fault o_drafted o_by o_bestBy o_bestWorth o_isBest o_parts o_least o_carries o_gateOff o_most o_use o_x) H → va_D A (w_X7_holds cy a_o a_o_text a_o_letter a_o_least a_o_carries a_o_gateOff a_o_worth a_o_kind a_o_most a_o_wishOff a_o_use a_o_toldUp a_o_toldDown a_o_priceUp a_o_priceDown a_o_draftGate a_o_draftCarries a_o_draftWorth a_o_draftKind a_o_draftMost a_o_draftUse a_o_x a_o_bestX a_o_part a_o_row a_o_right a_o_m a_o_given a_o_wasOff o_trace o_typed o_gates o_wishes o_at o_start o_sort o_value o_fault o_drafted o_by o_bestBy o_bestWorth o_isBest o_parts o_least o_carries o_gateOff o_most o_use o_x) → va_S A s.heap H locs → ∀ (ls : Array Slot), lv_has ls 6 [(0, .ref a_o), (1, .int x1), (2, .int x2)] → W p l e ({ frames := 1, cells := 0, slots := 0, locals := 25 }) s m args below meth c H locs 0 0 Q (F0 m 4 ls []) := by
    intro  kx0 hkx0  n
    induction n with
    | zero => intro x1 x2 h; exact h.elim
    | succ n hkb =>
      intro x1 x2 h H locs hP hD hS ls hl
      replace h : ws_X7_holds_4 o_gates o_wishes o_by o_least o_carries o_gateOff o_most o_use o_x (wl_X7_holds_4 o_gates o_wishes o_by o_least o_carries o_gateOff o_most o_use o_x kx0 post n) kx0 post x1 x2 := h
      generalize wl_X7_holds_4 o_gates o_wishes o_by o_least o_carries o_gateOff o_most o_use o_x kx0 post n = kb at h hkb
      unfold ws_X7_holds_4 at h
      refine lv_iload_n hx hb dX7_holds_4 rfl (lv_at hl 2 rfl) ?_
      refine lv_aload_n hx hb dX7_holds_5 rfl (lv_at hl 0 rfl) ?_
      refine va_get (D := D) (ci := 7) (v := .int o_wishes) (C := RX7) (T := TX7) (N := 43) hx hb hts in_X7 hown hK hP 0 rfl rfl 4 (by decide) fl_185 (fun _ h9 => h9) rfl dX7_holds_6 ?_
      refine lv_icmp_ge (tgt := 53) hx hb dX7_holds_9 (by decide) (fun c1 => ?_) (fun c1 => ?_)
      · have h := h.1 c1
        exact hkx0 x1 h _ _ hP hD hS _ (lv_sub hl [0, 1] rfl)
      · have h := h.2 c1
        refine lv_iload_n hx hb dX7_holds_12 rfl (lv_at hl 1 rfl) ?_
        refine lv_if_eq (tgt := 45) hx hb dX7_holds_13 (by decide) (fun c2 => ?_) (fun c2 => ?_)
        · have h := h.1 c2
          refine lv_iconst (v := 0) hx hb dX7_holds_45 (by decide) ?_
          refine lv_istore_n (lv' := [(1, .int (0 : Int32)), (0, .ref a_o), (2, .int x2)]) hx hb dX7_holds_46 rfl hl (by decide) rfl (fun ls hl => ?_)
          refine lv_iinc (v := (x2 + (1 : Int32))) (lv' := [(2, .int (x2 + (1 : Int32))), (1, .int (0 : Int32)), (0, .ref a_o)]) hx hb dX7_holds_47 hl (k := 2) rfl (congrArg (fun z => x2 + z) (by decide : Int32.ofInt (1) = (1 : Int32))) (by decide) rfl (fun ls hl => ?_)
          refine lv_goto (tgt := 4) hx hb dX7_holds_50 (by decide) ?_
          exact hkb (0 : Int32) (x2 + (1 : Int32)) h _ _ hP hD hS _ (lv_sub hl [2, 1, 0] rfl)
        · have h := h.2 c2
          refine lv_aload_n hx hb dX7_holds_16 rfl (lv_at hl 0 rfl) ?_
          refine va_get (D := D) (ci := 7) (v := .ref a_o_x) (C := RX7) (T := TX7) (N := 43) hx hb hts in_X7 hown hK hP 0 rfl rfl 30 (by decide) fl_72 (fun _ h9 => h9) rfl dX7_holds_17 ?_
          refine lv_iload_n hx hb dX7_holds_20 rfl (lv_at hl 2 rfl) ?_
          obtain ⟨i3, h⟩ := h
          refine va_lald hx hb hK hP 6 2 rfl rfl i3 dX7_holds_21 ?_
          refine lv_lconst (v := 0) hx hb dX7_holds_22 (by decide) ?_
          refine lv_aload_n hx hb dX7_holds_23 rfl (lv_at hl 0 rfl) ?_
          refine va_get (D := D) (ci := 7) (v := .ref a_o_most) (C := RX7) (T := TX7) (N := 43) hx hb hts in_X7 hown hK hP 0 rfl rfl 11 (by decide) fl_33 (fun _ h9 => h9) rfl dX7_holds_24 ?_
          refine lv_iload_n hx hb dX7_holds_27 rfl (lv_at hl 2 rfl) ?_
          refine va_iald hx hb hK hP 4 1 rfl rfl i3 dX7_holds_28 ?_
          refine lv_i2l hx hb dX7_holds_29 rfl ?_
          refine lv_aload_n hx hb dX7_holds_30 rfl (lv_at hl 0 rfl) ?_
          refine va_get (D := D) (ci := 7) (v := .long o_by) (C := RX7) (T := TX7) (N := 43) hx hb hts in_X7 hown hK hP 0 rfl rfl 31 (by decide) fl_203 (fun _ h9 => h9) rfl dX7_holds_31 ?_
          refine lv_lmul hx hb dX7_holds_34 ?_
          have hC : ([] : List Nat).map (fun i => ((w_X7_holds cy a_o a_o_text a_o_letter a_o_least a_o_carries a_o_gateOff a_o_worth a_o_kind a_o_most a_o_wishOff a_o_use a_o_toldUp a_o_toldDown a_o_priceUp a_o_priceDown a_o_draftGate a_o_draftCarries a_o_draftWorth a_o_draftKind a_o_draftMost a_o_draftUse a_o_x a_o_bestX a_o_part a_o_row a_o_right a_o_m a_o_given a_o_wasOff o_trace o_typed o_gates o_wishes o_at o_start o_sort o_value o_fault o_drafted o_by o_bestBy o_bestWorth o_isBest o_parts o_least o_carries o_gateOff o_most o_use o_x) : va_W)[i]?) = ((w_X7_in cy ) : va_W).map some := rfl
          obtain ⟨hPc, hDc⟩ := cutC hP hD [] (by decide) hC
          have hFc := va_free hD hS hA [] hC
          refine va_calli (va_runS (As := [.long (o_x (x2).toNatClampNeg), .long (0 : Int64), .long (((o_most (x2).toNatClampNeg)).toInt64 * o_by)]) (rest := []) ⟨hx, hb, hml, hown, hts⟩ (c_X7_in l D cy _ h) (va_cwS 3 hts gX7_holds_X7_in rfl rfl rfl (by decide +kernel) ⟨Nat.le_of_ble_eq_true rfl, Nat.le_of_ble_eq_true rfl⟩) (preS hPc hDc hK hN) rfl rfl hl.1 rfl (lv_room (Nat.le_of_ble_eq_true rfl)) dX7_holds_35 ⟨Nat.zero_le _, Nat.zero_le _⟩) hS (fun q _ h => hFc q h) hFc (fun r4 u t H1 locs ht hvm h hB hz1 hk1 hS => ?_)
          try dsimp only at h hB
          obtain ⟨hP, hD⟩ := joinU (wd := (w_X7_holds cy a_o a_o_text a_o_letter a_o_least a_o_carries a_o_gateOff a_o_worth a_o_kind a_o_most a_o_wishOff a_o_use a_o_toldUp a_o_toldDown a_o_priceUp a_o_priceDown a_o_draftGate a_o_draftCarries a_o_draftWorth a_o_draftKind a_o_draftMost a_o_draftUse a_o_x a_o_bestX a_o_part a_o_row a_o_right a_o_m a_o_given a_o_wasOff o_trace o_typed o_gates o_wishes o_at o_start o_sort o_value o_fault o_drafted o_by o_bestBy o_bestWorth o_isBest o_parts o_least o_carries o_gateOff o_most o_use o_x)) (wr := [(a_o, .inr (7, [.long o_trace, .ref a_o_text, .int o_typed, .int o_gates, .int o_wishes, .ref a_o_letter, .ref a_o_least, .ref a_o_carries, .ref a_o_gateOff, .ref a_o_worth, .ref a_o_kind, .ref a_o_most, .ref a_o_wishOff, .ref a_o_use, .ref a_o_toldUp, .ref a_o_toldDown, .ref a_o_priceUp, .ref a_o_priceDown, .int o_at, .int o_start, .int o_sort, .int o_value, .int o_fault, .ref a_o_draftGate, .ref a_o_draftCarries, .ref a_o_draftWorth, .ref a_o_draftKind, .ref a_o_draftMost, .ref a_o_draftUse, .int o_drafted, .ref a_o_x, .long o_by, .ref a_o_bestX, .long o_bestBy, .long o_bestWorth, .int o_isBest, .ref a_o_part, .int o_parts, .ref a_o_row, .ref a_o_right, .ref a_o_m, .ref a_o_given, .ref a_o_wasOff])), (a_o_least, .inl (cy 1, 5, .inl o_least)), (a_o_carries, .inl (cy 1, 5, .inl o_carries)), (a_o_gateOff, .inl (cy 3, 5, .inl o_gateOff)), (a_o_most, .inl (cy 1, 4, .inl o_most)), (a_o_use, .inl (cy 1, 20, .inl o_use)), (a_o_x, .inl (cy 2, 4, .inr (.inl o_x)))]) hP hD [] [0, 1, 2, 3, 4, 5, 6] [] hC hk1 ht hB rfl rfl rfl (N := 7) rfl (by decide) rfl rfl
          generalize H1 = H at hP hS ⊢
          refine lv_if_eq (tgt := 45) hx hb dX7_holds_38 (by decide) (fun c5 => ?_) (fun c5 => ?_)
          · have h := h.1 c5
            refine lv_iconst (v := 0) hx hb dX7_holds_45 (by decide) ?_
            refine lv_istore_n (lv' := [(1, .int (0 : Int32)), (0, .ref a_o), (2, .int x2)]) hx hb dX7_holds_46 rfl hl (by decide) rfl (fun ls hl => ?_)
            refine lv_iinc (v := (x2 + (1 : Int32))) (lv' := [(2, .int (x2 + (1 : Int32))), (1, .int (0 : Int32)), (0, .ref a_o)]) hx hb dX7_holds_47 hl (k := 2) rfl (congrArg (fun z => x2 + z) (by decide : Int32.ofInt (1) = (1 : Int32))) (by decide) rfl (fun ls hl => ?_)
            refine lv_goto (tgt := 4) hx hb dX7_holds_50 (by decide) ?_
            exact hkb (0 : Int32) (x2 + (1 : Int32)) h _ _ hP hD hS _ (lv_sub hl [2, 1, 0] rfl)
          · have h := h.2 c5
            refine lv_iconst (v := 1) hx hb dX7_holds_41 (by decide) ?_
            refine lv_goto (tgt := 46) hx hb dX7_holds_42 (by decide) ?_
            refine lv_istore_n (lv' := [(1, .int (1 : Int32)), (0, .ref a_o), (2, .int x2)]) hx hb dX7_holds_46 rfl hl (by decide) rfl (fun ls hl => ?_)
            refine lv_iinc (v := (x2 + (1 : Int32))) (lv' := [(2, .int (x2 + (1 : Int32))), (1, .int (1 : Int32)), (0, .ref a_o)]) hx hb dX7_holds_47 hl (k := 2) rfl (congrArg (fun z => x2 + z) (by decide : Int32.ofInt (1) = (1 : Int32))) (by decide) rfl (fun ls hl => ?_)
            refine lv_goto (tgt := 4) hx hb dX7_holds_50 (by decide) ?_
            exact hkb (1 : Int32) (x2 + (1 : Int32)) h _ _ hP hD hS _ (lv_sub hl [2, 1, 0] rfl)
  have l_72 : ∀ (x2 : Int32), ∀ (kx0 : Int64 → Prop), (∀ (x3 : Int64), kx0 x3 → ∀ (H : Heap) (locs : List Loc), va_P D vwCl (w_X7_holds cy a_o a_o_text a_o_letter a_o_least a_o_carries a_o_gateOff a_o_worth a_o_kind a_o_most a_o_wishOff a_o_use a_o_toldUp a_o_toldDown a_o_priceUp a_o_priceDown a_o_draftGate a_o_draftCarries a_o_draftWorth a_o_draftKind a_o_draftMost a_o_draftUse a_o_x a_o_bestX a_o_part a_o_row a_o_right a_o_m a_o_given a_o_wasOff o_trace o_typed o_gates o_wishes o_at o_start o_sort o_value o_fault o_drafted o_by o_bestBy o_bestWorth o_isBest o_parts o_least o_carries o_gateOff o_most o_use o_x) H → va_D A (w_X7_holds cy a_o a_o_text a_o_letter a_o_least a_o_carries a_o_gateOff a_o_worth a_o_kind a_o_most a_o_wishOff a_o_use a_o_toldUp a_o_toldDown a_o_priceUp a_o_priceDown a_o_draftGate a_o_draftCarries a_o_draftWorth a_o_draftKind a_o_draftMost a_o_draftUse a_o_x a_o_bestX a_o_part a_o_row a_o_right a_o_m a_o_given a_o_wasOff o_trace o_typed o_gates o_wishes o_at o_start o_sort o_value o_fault o_drafted o_by o_bestBy o_bestWorth o_isBest o_parts o_least o_carries o_gateOff o_most o_use o_x) → va_S A s.heap H locs → ∀ (ls : Array Slot), lv_has ls 6 [(0, .ref a_o), (2, .int x2), (3, .long x3)] → W p l e ({ frames := 1, cells := 0, slots := 0, locals := 25 }) s m args below meth c H locs 0 0 Q (F0 m 110 ls [])) → ∀ (n : Nat) (x3 : Int64) (x5 : Int32), wl_X7_holds_72 x2 o_gates o_wishes o_by o_least o_carries o_gateOff o_most o_use o_x kx0 post n x3 x5 → ∀ (H : Heap) (locs : List Loc), va_P D vwCl (w_X7_holds cy a_o a_o_text a_o_letter a_o_least a_o_carries a_o_gateOff a_o_worth a_o_kind a_o_most a_o_wishOff a_o_use a_o_toldUp a_o_toldDown a_o_priceUp a_o_priceDown a_o_draftGate a_o_draftCarries a_o_draftWorth a_o_draftKind a_o_draftMost a_o_draftUse a_o_x a_o_bestX a_o_part a_o_row a_o_right a_o_m a_o_given a_o_wasOff o_trace o_typed o_gates o_wishes o_at o_start o_sort o_value o_fault o_drafted o_by o_bestBy o_bestWorth o_isBest o_parts o_least o_carries o_gateOff o_most o_use o_x) H → va_D A (w_X7_holds cy a_o a_o_text a_o_letter a_o_least a_o_carries a_o_gateOff a_o_worth a_o_kind a_o_most a_o_wishOff a_o_use a_o_toldUp a_o_toldDown a_o_priceUp a_o_priceDown a_o_draftGate a_o_draftCarries a_o_draftWorth a_o_draftKind a_o_draftMost a_o_draftUse a_o_x a_o_bestX a_o_part a_o_row a_o_right a_o_m a_o_given a_o_wasOff o_trace o_typed o_gates o_wishes o_at o_start o_sort o_value o_fault o_drafted o_by o_bestBy o_bestWorth o_isBest o_parts o_least o_carries o_gateOff o_most o_use o_x) → va_S A s.heap H locs → ∀ (ls : Array Slot), lv_has ls 6 [(0, .ref a_o), (2, .int x2), (3, .long x3), (5, .int x5)] → W p l e ({ frames := 1, cells := 0, slots := 0, locals := 25 }) s m args below meth c H locs 0 0 Q (F0 m 72 ls []) := by
    intro x2 kx0 hkx0  n
    induction n with
    | zero => intro x3 x5 h; exact h.elim
    | succ n hkb =>
      intro x3 x5 h H locs hP hD hS ls hl
      replace h : ws_X7_holds_72 x2 o_gates o_wishes o_by o_least o_carries o_gateOff o_most o_use o_x (wl_X7_holds_72 x2 o_gates o_wishes o_by o_least o_carries o_gateOff o_most o_use o_x kx0 post n) kx0 post x3 x5 := h
      generalize wl_X7_holds_72 x2 o_gates o_wishes o_by o_least o_carries o_gateOff o_most o_use o_x kx0 post n = kb at h hkb
      unfold ws_X7_holds_72 at h
      refine lv_iload hx hb dX7_holds_72 (lv_at hl 3 rfl) ?_
      refine lv_aload_n hx hb dX7_holds_74 rfl (lv_at hl 0 rfl) ?_
      refine va_get (D := D) (ci := 7) (v := .int o_wishes) (C := RX7) (T := TX7) (N := 43) hx hb hts in_X7 hown hK hP 0 rfl rfl 4 (by decide) fl_185 (fun _ h9 => h9) rfl dX7_holds_75 ?_
      refine lv_icmp_ge (tgt := 110) hx hb dX7_holds_78 (by decide) (fun c9 => ?_) (fun c9 => ?_)
      · have h := h.1 c9
        exact hkx0 x3 h _ _ hP hD hS _ (lv_sub hl [0, 1, 2] rfl)
      · have h := h.2 c9
        refine lv_lload_n hx hb dX7_holds_81 rfl (lv_at hl 2 rfl) ?_
        refine lv_aload_n hx hb dX7_holds_82 rfl (lv_at hl 0 rfl) ?_
        refine va_get (D := D) (ci := 7) (v := .ref a_o_use) (C := RX7) (T := TX7) (N := 43) hx hb hts in_X7 hown hK hP 0 rfl rfl 13 (by decide) fl_39 (fun _ h9 => h9) rfl dX7_holds_83 ?_
        refine lv_iconst (v := 5) hx hb dX7_holds_86 (by decide) ?_
        refine lv_iload hx hb dX7_holds_87 (lv_at hl 3 rfl) ?_
        refine lv_imul hx hb dX7_holds_89 ?_
        refine lv_iload_n hx hb dX7_holds_90 rfl (lv_at hl 1 rfl) ?_
        refine lv_iadd hx hb dX7_holds_91 ?_
        obtain ⟨i10, h⟩ := h
        refine va_iald hx hb hK hP 5 1 rfl rfl i10 dX7_holds_92 ?_
        refine lv_i2l hx hb dX7_holds_93 rfl ?_
        refine lv_aload_n hx hb dX7_holds_94 rfl (lv_at hl 0 rfl) ?_
        refine va_get (D := D) (ci := 7) (v := .ref a_o_x) (C := RX7) (T := TX7) (N := 43) hx hb hts in_X7 hown hK hP 0 rfl rfl 30 (by decide) fl_72 (fun _ h9 => h9) rfl dX7_holds_95 ?_
        refine lv_iload hx hb dX7_holds_98 (lv_at hl 3 rfl) ?_
        obtain ⟨i11, h⟩ := h
        refine va_lald hx hb hK hP 6 2 rfl rfl i11 dX7_holds_100 ?_
        refine lv_lmul hx hb dX7_holds_101 ?_
        refine lv_ladd hx hb dX7_holds_102 ?_
        refine lv_topl (fun v12 ev12 => ?_)
        have h := h v12 ev12
        refine lv_lstore_n (lv' := [(3, .long v12), (0, .ref a_o), (2, .int x2), (5, .int x5)]) hx hb dX7_holds_103 rfl hl (by decide) rfl (fun ls hl => ?_)
        refine lv_iinc (v := (x5 + (1 : Int32))) (lv' := [(5, .int (x5 + (1 : Int32))), (3, .long v12), (0, .ref a_o), (2, .int x2)]) hx hb dX7_holds_104 hl (k := 3) rfl (congrArg (fun z => x5 + z) (by decide : Int32.ofInt (1) = (1 : Int32))) (by decide) rfl (fun ls hl => ?_)
        refine lv_goto (tgt := 72) hx hb dX7_holds_107 (by decide) ?_
        exact hkb v12 (x5 + (1 : Int32)) h _ _ hP hD hS _ (lv_sub hl [2, 3, 1, 0] rfl)
  have l_55 : ∀ (kx0 : Int32 → Prop), (∀ (x1 : Int32), kx0 x1 → ∀ (H : Heap) (locs : List Loc), va_P D vwCl (w_X7_holds cy a_o a_o_text a_o_letter a_o_least a_o_carries a_o_gateOff a_o_worth a_o_kind a_o_most a_o_wishOff a_o_use a_o_toldUp a_o_toldDown a_o_priceUp a_o_priceDown a_o_draftGate a_o_draftCarries a_o_draftWorth a_o_draftKind a_o_draftMost a_o_draftUse a_o_x a_o_bestX a_o_part a_o_row a_o_right a_o_m a_o_given a_o_wasOff o_trace o_typed o_gates o_wishes o_at o_start o_sort o_value o_fault o_drafted o_by o_bestBy o_bestWorth o_isBest o_parts o_least o_carries o_gateOff o_most o_use o_x) H → va_D A (w_X7_holds cy a_o a_o_text a_o_letter a_o_least a_o_carries a_o_gateOff a_o_worth a_o_kind a_o_most a_o_wishOff a_o_use a_o_toldUp a_o_toldDown a_o_priceUp a_o_priceDown a_o_draftGate a_o_draftCarries a_o_draftWorth a_o_draftKind a_o_draftMost a_o_draftUse a_o_x a_o_bestX a_o_part a_o_row a_o_right a_o_m a_o_given a_o_wasOff o_trace o_typed o_gates o_wishes o_at o_start o_sort o_value o_fault o_drafted o_by o_bestBy o_bestWorth o_isBest o_parts o_least o_carries o_gateOff o_most o_use o_x) → va_S A s.heap H locs → ∀ (ls : Array Slot), lv_has ls 6 [(1, .int x1)] → W p l e ({ frames := 1, cells := 0, slots := 0, locals := 25 }) s m args below meth c H locs 0 0 Q (F0 m 178 ls [])) → ∀ (n : Nat) (x1 : Int32) (x2 : Int32), wl_X7_holds_55 o_gates o_wishes o_by o_least o_carries o_gateOff o_most o_use o_x kx0 post n x1 x2 → ∀ (H : Heap) (locs : List Loc), va_P D vwCl (w_X7_holds cy a_o a_o_text a_o_letter a_o_least a_o_carries a_o_gateOff a_o_worth a_o_kind a_o_most a_o_wishOff a_o_use a_o_toldUp a_o_toldDown a_o_priceUp a_o_priceDown a_o_draftGate a_o_draftCarries a_o_draftWorth a_o_draftKind a_o_draftMost a_o_draftUse a_o_x a_o_bestX a_o_part a_o_row a_o_right a_o_m a_o_given a_o_wasOff o_trace o_typed o_gates o_wishes o_at o_start o_sort o_value o_fault o_drafted o_by o_bestBy o_bestWorth o_isBest o_parts o_least o_carries o_gateOff o_most o_use o_x) H → va_D A (w_X7_holds cy a_o a_o_text a_o_letter a_o_least a_o_carries a_o_gateOff a_o_worth a_o_kind a_o_most a_o_wishOff a_o_use a_o_toldUp a_o_toldDown a_o_priceUp a_o_priceDown a_o_draftGate a_o_draftCarries a_o_draftWorth a_o_draftKind a_o_draftMost a_o_draftUse a_o_x a_o_bestX a_o_part a_o_row a_o_right a_o_m a_o_given a_o_wasOff o_trace o_typed o_gates o_wishes o_at o_start o_sort o_value o_fault o_drafted o_by o_bestBy o_bestWorth o_isBest o_parts o_least o_carries o_gateOff o_most o_use o_x) → va_S A s.heap H locs → ∀ (ls : Array Slot), lv_has ls 6 [(0, .ref a_o), (1, .int x1), (2, .int x2)] → W p l e ({ frames := 1, cells := 0, slots := 0, locals := 25 }) s m args below meth c H locs 0 0 Q (F0 m 55 ls []) := by
    intro  kx0 hkx0  n
    induction n with
    | zero => intro x1 x2 h; exact h.elim
    | succ n hkb =>
      intro x1 x2 h H locs hP hD hS ls hl
      replace h : ws_X7_holds_55 o_gates o_wishes o_by o_least o_carries o_gateOff o_most o_use o_x (wl_X7_holds_55 o_gates o_wishes o_by o_least o_carries o_gateOff o_most o_use o_x kx0 post n) kx0 post x1 x2 := h
      generalize wl_X7_holds_55 o_gates o_wishes o_by o_least o_carries o_gateOff o_most o_use o_x kx0 post n = kb at h hkb
      unfold ws_X7_holds_55 at h
      refine lv_iload_n hx hb dX7_holds_55 rfl (lv_at hl 2 rfl) ?_
      refine lv_aload_n hx hb dX7_holds_56 rfl (lv_at hl 0 rfl) ?_
      refine va_get (D := D) (ci := 7) (v := .int o_gates) (C := RX7) (T := TX7) (N := 43) hx hb hts in_X7 hown hK hP 0 rfl rfl 3 (by decide) fl_182 (fun _ h9 => h9) rfl dX7_holds_57 ?_
      refine lv_icmp_ge (tgt := 178) hx hb dX7_holds_60 (by decide) (fun c7 => ?_) (fun c7 => ?_)
      · have h := h.1 c7
        exact hkx0 x1 h _ _ hP hD hS _ (lv_sub hl [1] rfl)
      · have h := h.2 c7
        refine lv_iload_n hx hb dX7_holds_63 rfl (lv_at hl 1 rfl) ?_
        refine lv_if_eq (tgt := 178) hx hb dX7_holds_64 (by decide) (fun c8 => ?_) (fun c8 => ?_)
        · have h := h.1 c8
          exact hkx0 x1 h _ _ hP hD hS _ (lv_sub hl [1] rfl)
        · have h := h.2 c8
          refine lv_lconst (v := 0) hx hb dX7_holds_67 (by decide) ?_
          refine lv_lstore_n (lv' := [(3, .long (0 : Int64)), (0, .ref a_o), (1, .int x1), (2, .int x2)]) hx hb dX7_holds_68 rfl hl (by decide) rfl (fun ls hl => ?_)
          refine lv_iconst (v := 0) hx hb dX7_holds_69 (by decide) ?_
          refine lv_istore (lv' := [(5, .int (0 : Int32)), (3, .long (0 : Int64)), (0, .ref a_o), (1, .int x1), (2, .int x2)]) hx hb dX7_holds_70 hl (by decide) rfl (fun ls hl => ?_)
          obtain ⟨n19, h⟩ := h
          refine l_72 x2 _ ?_ n19 (0 : Int64) (0 : Int32) h _ _ hP hD hS _ (lv_sub hl [2, 4, 1, 0] rfl)
          · intro x3_13 h H locs hP hD hS ls hl
            refine lv_aload_n hx hb dX7_holds_110 rfl (lv_at hl 0 rfl) ?_
            refine va_get (D := D) (ci := 7) (v := .ref a_o_gateOff) (C := RX7) (T := TX7) (N := 43) hx hb hts in_X7 hown hK hP 0 rfl rfl 8 (by decide) fl_23 (fun _ h9 => h9) rfl dX7_holds_111 ?_
            refine lv_iload_n hx hb dX7_holds_114 rfl (lv_at hl 1 rfl) ?_
            obtain ⟨i14, h⟩ := h
            refine va_zald hx hb hK hP 3 3 rfl rfl i14 dX7_holds_115 ?_
            refine lv_if_ne (tgt := 166) hx hb dX7_holds_116 (by decide) (fun c15 => ?_) (fun c15 => ?_)
            · have h := h.2 c15
              refine lv_iconst (v := 1) hx hb dX7_holds_166 (by decide) ?_
              refine lv_goto (tgt := 171) hx hb dX7_holds_167 (by decide) ?_
              refine lv_istore_n (lv' := [(1, .int (1 : Int32)), (0, .ref a_o), (2, .int x2), (3, .long x3_13)]) hx hb dX7_holds_171 rfl hl (by decide) rfl (fun ls hl => ?_)
              refine lv_iinc (v := (x2 + (1 : Int32))) (lv' := [(2, .int (x2 + (1 : Int32))), (1, .int (1 : Int32)), (0, .ref a_o), (3, .long x3_13)]) hx hb dX7_holds_172 hl (k := 2) rfl (congrArg (fun z => x2 + z) (by decide : Int32.ofInt (1) = (1 : Int32))) (by decide) rfl (fun ls hl => ?_)
              refine lv_goto (tgt := 55) hx hb dX7_holds_175 (by decide) ?_
              exact hkb (1 : Int32) (x2 + (1 : Int32)) h _ _ hP hD hS _ (lv_sub hl [2, 1, 0] rfl)
            · have h := h.1 c15
              refine lv_aload_n hx hb dX7_holds_119 rfl (lv_at hl 0 rfl) ?_
              refine va_get (D := D) (ci := 7) (v := .ref a_o_least) (C := RX7) (T := TX7) (N := 43) hx hb hts in_X7 hown hK hP 0 rfl rfl 6 (by decide) fl_17 (fun _ h9 => h9) rfl dX7_holds_120 ?_
              refine lv_iload_n hx hb dX7_holds_123 rfl (lv_at hl 1 rfl) ?_
              refine va_iald hx hb hK hP 1 1 rfl rfl i14 dX7_holds_124 ?_
              refine lv_iconst (v := 1) hx hb dX7_holds_125 (by decide) ?_
              refine lv_icmp_ne (tgt := 149) hx hb dX7_holds_126 (by decide) (fun c16 => ?_) (fun c16 => ?_)
              · have h := h.2 c16
                refine lv_lload_n hx hb dX7_holds_149 rfl (lv_at hl 2 rfl) ?_
                refine lv_aload_n hx hb dX7_holds_150 rfl (lv_at hl 0 rfl) ?_
                refine va_get (D := D) (ci := 7) (v := .ref a_o_carries) (C := RX7) (T := TX7) (N := 43) hx hb hts in_X7 hown hK hP 0 rfl rfl 7 (by decide) fl_20 (fun _ h9 => h9) rfl dX7_holds_151 ?_
                refine lv_iload_n hx hb dX7_holds_154 rfl (lv_at hl 1 rfl) ?_
                refine va_iald hx hb hK hP 2 1 rfl rfl i14 dX7_holds_155 ?_
                refine lv_i2l hx hb dX7_holds_156 rfl ?_
                refine lv_aload_n hx hb dX7_holds_157 rfl (lv_at hl 0 rfl) ?_
                refine va_get (D := D) (ci := 7) (v := .long o_by) (C := RX7) (T := TX7) (N := 43) hx hb hts in_X7 hown hK hP 0 rfl rfl 31 (by decide) fl_203 (fun _ h9 => h9) rfl dX7_holds_158 ?_
                refine lv_lmul hx hb dX7_holds_161 ?_
                refine W.lcmp hx hb dX7_holds_162 ?_
                refine lv_if_gt (tgt := 170) hx hb dX7_holds_163 (by decide) (fun c17 => ?_) (fun c17 => ?_)
                · have h := h.1 (lc_gt.mp c17)
                  refine lv_iconst (v := 0) hx hb dX7_holds_170 (by decide) ?_
                  refine lv_istore_n (lv' := [(1, .int (0 : Int32)), (0, .ref a_o), (2, .int x2), (3, .long x3_13)]) hx hb dX7_holds_171 rfl hl (by decide) rfl (fun ls hl => ?_)
                  refine lv_iinc (v := (x2 + (1 : Int32))) (lv' := [(2, .int (x2 + (1 : Int32))), (1, .int (0 : Int32)), (0, .ref a_o), (3, .long x3_13)]) hx hb dX7_holds_172 hl (k := 2) rfl (congrArg (fun z => x2 + z) (by decide : Int32.ofInt (1) = (1 : Int32))) (by decide) rfl (fun ls hl => ?_)
                  refine lv_goto (tgt := 55) hx hb dX7_holds_175 (by decide) ?_
                  exact hkb (0 : Int32) (x2 + (1 : Int32)) h _ _ hP hD hS _ (lv_sub hl [2, 1, 0] rfl)
                · have h := h.2 (fun z => c17 (lc_gt.mpr z))
                  refine lv_iconst (v := 1) hx hb dX7_holds_166 (by decide) ?_
                  refine lv_goto (tgt := 171) hx hb dX7_holds_167 (by decide) ?_
                  refine lv_istore_n (lv' := [(1, .int (1 : Int32)), (0, .ref a_o), (2, .int x2), (3, .long x3_13)]) hx hb dX7_holds_171 rfl hl (by decide) rfl (fun ls hl => ?_)
                  refine lv_iinc (v := (x2 + (1 : Int32))) (lv' := [(2, .int (x2 + (1 : Int32))), (1, .int (1 : Int32)), (0, .ref a_o), (3, .long x3_13)]) hx hb dX7_holds_172 hl (k := 2) rfl (congrArg (fun z => x2 + z) (by decide : Int32.ofInt (1) = (1 : Int32))) (by decide) rfl (fun ls hl => ?_)
                  refine lv_goto (tgt := 55) hx hb dX7_holds_175 (by decide) ?_
                  exact hkb (1 : Int32) (x2 + (1 : Int32)) h _ _ hP hD hS _ (lv_sub hl [2, 1, 0] rfl)
              · have h := h.1 c16
                refine lv_lload_n hx hb dX7_holds_129 rfl (lv_at hl 2 rfl) ?_
                refine lv_aload_n hx hb dX7_holds_130 rfl (lv_at hl 0 rfl) ?_
                refine va_get (D := D) (ci := 7) (v := .ref a_o_carries) (C := RX7) (T := TX7) (N := 43) hx hb hts in_X7 hown hK hP 0 rfl rfl 7 (by decide) fl_20 (fun _ h9 => h9) rfl dX7_holds_131 ?_
                refine lv_iload_n hx hb dX7_holds_134 rfl (lv_at hl 1 rfl) ?_
                refine va_iald hx hb hK hP 2 1 rfl rfl i14 dX7_holds_135 ?_
                refine lv_i2l hx hb dX7_holds_136 rfl ?_
                refine lv_aload_n hx hb dX7_holds_137 rfl (lv_at hl 0 rfl) ?_
                refine va_get (D := D) (ci := 7) (v := .long o_by) (C := RX7) (T := TX7) (N := 43) hx hb hts in_X7 hown hK hP 0 rfl rfl 31 (by decide) fl_203 (fun _ h9 => h9) rfl dX7_holds_138 ?_
                refine lv_lmul hx hb dX7_holds_141 ?_
                refine W.lcmp hx hb dX7_holds_142 ?_
                refine lv_if_lt (tgt := 170) hx hb dX7_holds_143 (by decide) (fun c18 => ?_) (fun c18 => ?_)
                · have h := h.1 (lc_lt.mp c18)
                  refine lv_iconst (v := 0) hx hb dX7_holds_170 (by decide) ?_
                  refine lv_istore_n (lv' := [(1, .int (0 : Int32)), (0, .ref a_o), (2, .int x2), (3, .long x3_13)]) hx hb dX7_holds_171 rfl hl (by decide) rfl (fun ls hl => ?_)
                  refine lv_iinc (v := (x2 + (1 : Int32))) (lv' := [(2, .int (x2 + (1 : Int32))), (1, .int (0 : Int32)), (0, .ref a_o), (3, .long x3_13)]) hx hb dX7_holds_172 hl (k := 2) rfl (congrArg (fun z => x2 + z) (by decide : Int32.ofInt (1) = (1 : Int32))) (by decide) rfl (fun ls hl => ?_)
                  refine lv_goto (tgt := 55) hx hb dX7_holds_175 (by decide) ?_
                  exact hkb (0 : Int32) (x2 + (1 : Int32)) h _ _ hP hD hS _ (lv_sub hl [2, 1, 0] rfl)
                · have h := h.2 (fun z => c18 (lc_lt.mpr z))
                  refine lv_goto (tgt := 166) hx hb dX7_holds_146 (by decide) ?_
                  refine lv_iconst (v := 1) hx hb dX7_holds_166 (by decide) ?_
                  refine lv_goto (tgt := 171) hx hb dX7_holds_167 (by decide) ?_
                  refine lv_istore_n (lv' := [(1, .int (1 : Int32)), (0, .ref a_o), (2, .int x2), (3, .long x3_13)]) hx hb dX7_holds_171 rfl hl (by decide) rfl (fun ls hl => ?_)
                  refine lv_iinc (v := (x2 + (1 : Int32))) (lv' := [(2, .int (x2 + (1 : Int32))), (1, .int (1 : Int32)), (0, .ref a_o), (3, .long x3_13)]) hx hb dX7_holds_172 hl (k := 2) rfl (congrArg (fun z => x2 + z) (by decide : Int32.ofInt (1) = (1 : Int32))) (by decide) rfl (fun ls hl => ?_)
                  refine lv_goto (tgt := 55) hx hb dX7_holds_175 (by decide) ?_
                  exact hkb (1 : Int32) (x2 + (1 : Int32)) h _ _ hP hD hS _ (lv_sub hl [2, 1, 0] rfl)
  refine ent [.ref a_o] (Nat.le_of_ble_eq_true rfl) (fun ls hl => ?_)
  have hl : lv_has ls 6 [(0, .ref a_o)] := hl
  unfold wp_X7_holds at h
  refine lv_iconst (v := 1) hx hb dX7_holds_0 (by decide) ?_
  refine lv_istore_n (lv' := [(1, .int (1 : Int32)), (0, .ref a_o)]) hx hb dX7_holds_1 rfl hl (by decide) rfl (fun ls hl => ?_)
  refine lv_iconst (v := 0) hx hb dX7_holds_2 (by decide) ?_
  refine lv_istore_n (lv' := [(2, .int (0 : Int32)), (1, .int (1 : Int32)), (0, .ref a_o)]) hx hb dX7_holds_3 rfl hl (by decide) rfl (fun ls hl => ?_)
  obtain ⟨n23, h⟩ := h
  refine l_4  _ ?_ n23 (1 : Int32) (0 : Int32) h _ _ hP hD hS _ (lv_sub hl [2, 1, 0] rfl)
  · intro x1_6 h H locs hP hD hS ls hl
    refine lv_iconst (v := 0) hx hb dX7_holds_53 (by decide) ?_
    refine lv_istore_n (lv' := [(2, .int (0 : Int32)), (0, .ref a_o), (1, .int x1_6)]) hx hb dX7_holds_54 rfl hl (by decide) rfl (fun ls hl => ?_)
    obtain ⟨n22, h⟩ := h
    refine l_55  _ ?_ n22 x1_6 (0 : Int32) h _ _ hP hD hS _ (lv_sub hl [1, 2, 0] rfl)
    · intro x1_20 h H locs hP hD hS ls hl
      refine lv_iload_n hx hb dX7_holds_178 rfl (lv_at hl 0 rfl) ?_
      obtain ⟨b21, h⟩ := h
      exact hret x1_20 () _ _ _ _ b21 h hP hD hS dX7_holds_179
abbrev w_X7_compare (cy : Nat → ClassId) (a_o a_o_text a_o_letter a_o_least a_o_carries a_o_gateOff a_o_worth a_o_kind a_o_most a_o_wishOff a_o_use a_o_toldUp a_o_toldDown a_o_priceUp a_o_priceDown a_o_draftGate a_o_draftCarries a_o_draftWorth a_o_draftKind a_o_draftMost a_o_draftUse a_o_x a_o_bestX a_o_part a_o_row a_o_right a_o_m a_o_given a_o_wasOff : Nat) (o_trace : Int64) (o_typed : Int32) (o_gates : Int32) (o_wishes : Int32) (o_at : Int32) (o_start : Int32) (o_sort : Int32) (o_value : Int32) (o_fault : Int32) (o_drafted : Int32) (o_by : Int64) (o_bestBy : Int64) (o_bestWorth : Int64) (o_isBest : Int32) (o_parts : Int32) (o_worth : Nat → Int32) (o_x : Nat → Int64) (o_bestX : Nat → Int64) : va_W := [(a_o, .inr (7, [.long o_trace, .ref a_o_text, .int o_typed, .int o_gates, .int o_wishes, .ref a_o_letter, .ref a_o_least, .ref a_o_carries, .ref a_o_gateOff, .ref a_o_worth, .ref a_o_kind, .ref a_o_most, .ref a_o_wishOff, .ref a_o_use, .ref a_o_toldUp, .ref a_o_toldDown, .ref a_o_priceUp, .ref a_o_priceDown, .int o_at, .int o_start, .int o_sort, .int o_value, .int o_fault, .ref a_o_draftGate, .ref a_o_draftCarries, .ref a_o_draftWorth, .ref a_o_draftKind, .ref a_o_draftMost, .ref a_o_draftUse, .int o_drafted, .ref a_o_x, .long o_by, .ref a_o_bestX, .long o_bestBy, .long o_bestWorth, .int o_isBest, .ref a_o_part, .int o_parts, .ref a_o_row, .ref a_o_right, .ref a_o_m, .ref a_o_given, .ref a_o_wasOff])), (a_o_worth, .inl (cy 1, 4, .inl o_worth)), (a_o_x, .inl (cy 2, 4, .inr (.inl o_x))), (a_o_bestX, .inl (cy 2, 4, .inr (.inl o_bestX)))]
set_option maxHeartbeats 4000000 in
set_option maxRecDepth 100000 in
theorem c_X7_compare (l : Launch) (D : va_G) (cy : Nat → ClassId) (a_o a_o_text a_o_letter a_o_least a_o_carries a_o_gateOff a_o_worth a_o_kind a_o_most a_o_wishOff a_o_use a_o_toldUp a_o_toldDown a_o_priceUp a_o_priceDown a_o_draftGate a_o_draftCarries a_o_draftWorth a_o_draftKind a_o_draftMost a_o_draftUse a_o_x a_o_bestX a_o_part a_o_row a_o_right a_o_m a_o_given a_o_wasOff : Nat) (sz : Nat)  {o_trace : Int64} {o_typed : Int32} {o_gates : Int32} {o_wishes : Int32} {o_at : Int32} {o_start : Int32} {o_sort : Int32} {o_value : Int32} {o_fault : Int32} {o_drafted : Int32} {o_by : Int64} {o_bestBy : Int64} {o_bestWorth : Int64} {o_isBest : Int32} {o_parts : Int32} {o_worth : Nat → Int32} {o_x : Nat → Int64} {o_bestX : Nat → Int64}  {post : Int64 → Int64 → Int32 → (Nat → Int64) → Prop} (h : wp_X7_compare o_wishes o_by o_bestBy o_bestWorth o_isBest o_worth o_x o_bestX post) : Met l yX7_compare wsX7_compare ({ frames := 0, cells := 0, slots := 0, locals := 0 }) (va_Pc [.ref a_o] (wI D cy sz (w_X7_compare cy a_o a_o_text a_o_letter a_o_least a_o_carries a_o_gateOff a_o_worth a_o_kind a_o_most a_o_wishOff a_o_use a_o_toldUp a_o_toldDown a_o_priceUp a_o_priceDown a_o_draftGate a_o_draftCarries a_o_draftWorth a_o_draftKind a_o_draftMost a_o_draftUse a_o_x a_o_bestX a_o_part a_o_row a_o_right a_o_m a_o_given a_o_wasOff o_trace o_typed o_gates o_wishes o_at o_start o_sort o_value o_fault o_drafted o_by o_bestBy o_bestWorth o_isBest o_parts o_worth o_x o_bestX))) (va_Qv (fun (u : Int64 × Int64 × Int32 × (Nat → Int64)) => post u.1 u.2.1 u.2.2.1 u.2.2.2) (fun (u : Int64 × Int64 × Int32 × (Nat → Int64)) t => wO D cy (va_A (w_X7_compare cy a_o a_o_text a_o_letter a_o_least a_o_carries a_o_gateOff a_o_worth a_o_kind a_o_most a_o_wishOff a_o_use a_o_toldUp a_o_toldDown a_o_priceUp a_o_priceDown a_o_draftGate a_o_draftCarries a_o_draftWorth a_o_draftKind a_o_draftMost a_o_draftUse a_o_x a_o_bestX a_o_part a_o_row a_o_right a_o_m a_o_given a_o_wasOff o_trace o_typed o_gates o_wishes o_at o_start o_sort o_value o_fault o_drafted o_by o_bestBy o_bestWorth o_isBest o_parts o_worth o_x o_bestX) sz) (w_X7_compare cy a_o a_o_text a_o_letter a_o_least a_o_carries a_o_gateOff a_o_worth a_o_kind a_o_most a_o_wishOff a_o_use a_o_toldUp a_o_toldDown a_o_priceUp a_o_priceDown a_o_draftGate a_o_draftCarries a_o_draftWorth a_o_draftKind a_o_draftMost a_o_draftUse a_o_x a_o_bestX a_o_part a_o_row a_o_right a_o_m a_o_given a_o_wasOff o_trace o_typed o_gates o_wishes o_at o_start o_sort o_value o_fault o_drafted o_by u.1 u.2.1 u.2.2.1 o_parts o_worth o_x u.2.2.2) t) (va_A (w_X7_compare cy a_o a_o_text a_o_letter a_o_least a_o_carries a_o_gateOff a_o_worth a_o_kind a_o_most a_o_wishOff a_o_use a_o_toldUp a_o_toldDown a_o_priceUp a_o_priceDown a_o_draftGate a_o_draftCarries a_o_draftWorth a_o_draftKind a_o_draftMost a_o_draftUse a_o_x a_o_bestX a_o_part a_o_row a_o_right a_o_m a_o_given a_o_wasOff o_trace o_typed o_gates o_wishes o_at o_start o_sort o_value o_fault o_drafted o_by o_bestBy o_bestWorth o_isBest o_parts o_worth o_x o_bestX) sz)) 0 0 (va_A (w_X7_compare cy a_o a_o_text a_o_letter a_o_least a_o_carries a_o_gateOff a_o_worth a_o_kind a_o_most a_o_wishOff a_o_use a_o_toldUp a_o_toldDown a_o_priceUp a_o_priceDown a_o_draftGate a_o_draftCarries a_o_draftWorth a_o_draftKind a_o_draftMost a_o_draftUse a_o_x a_o_bestX a_o_part a_o_row a_o_right a_o_m a_o_given a_o_wasOff o_trace o_typed o_gates o_wishes o_at o_start o_sort o_value o_fault o_drafted o_by o_bestBy o_bestWorth o_isBest o_parts o_worth o_x o_bestX) sz) := by
  refine contrV (S := Int64 × Int64 × Int32 × (Nat → Int64)) (post := fun (u : Int64 × Int64 × Int32 × (Nat → Int64)) => post u.1 u.2.1 u.2.2.1 u.2.2.2) (wOut := fun (u : Int64 × Int64 × Int32 × (Nat → Int64)) => (w_X7_compare cy a_o a_o_text a_o_letter a_o_least a_o_carries a_o_gateOff a_o_worth a_o_kind a_o_most a_o_wishOff a_o_use a_o_toldUp a_o_toldDown a_o_priceUp a_o_priceDown a_o_draftGate a_o_draftCarries a_o_draftWorth a_o_draftKind a_o_draftMost a_o_draftUse a_o_x a_o_bestX a_o_part a_o_row a_o_right a_o_m a_o_given a_o_wasOff o_trace o_typed o_gates o_wishes o_at o_start o_sort o_value o_fault o_drafted o_by u.1 u.2.1 u.2.2.1 o_parts o_worth o_x u.2.2.2)) (cc := cX7_compare) (maxL := 7) (own := RX7) (by decide +kernel) rfl rfl ?_
  intro p e s m args below meth c A Q hx hb hml hown hts hK hN hP hD hS hA hret
  have in_X7 : ∀ w ∈ u_ws RX7 TX7 43, w ∈ wsX7_compare := by decide +kernel
  have fl_185 := hts (.fieldLink RX7 185 "DawnTableModel" "wishes" "I") (by decide +kernel)
  have fl_27 := hts (.fieldLink RX7 27 "DawnTableModel" "worth" "[I") (by decide +kernel)
  have fl_72 := hts (.fieldLink RX7 72 "DawnTableModel" "x" "[J") (by decide +kernel)
  have fl_207 := hts (.fieldLink RX7 207 "DawnTableModel" "isBest" "Z") (by decide +kernel)
  have fl_214 := hts (.fieldLink RX7 214 "DawnTableModel" "bestWorth" "J") (by decide +kernel)
  have fl_203 := hts (.fieldLink RX7 203 "DawnTableModel" "by" "J") (by decide +kernel)
  have fl_211 := hts (.fieldLink RX7 211 "DawnTableModel" "bestBy" "J") (by decide +kernel)
  have fl_76 := hts (.fieldLink RX7 76 "DawnTableModel" "bestX" "[J") (by decide +kernel)
  have l_4 : ∀ (o_bestBy : Int64) (o_bestWorth : Int64) (o_isBest : Int32) (o_bestX : Nat → Int64), ∀ (kx0 : Int64 → Prop), (∀ (x1 : Int64), kx0 x1 → ∀ (H : Heap) (locs : List Loc), va_P D vwCl (w_X7_compare cy a_o a_o_text a_o_letter a_o_least a_o_carries a_o_gateOff a_o_worth a_o_kind a_o_most a_o_wishOff a_o_use a_o_toldUp a_o_toldDown a_o_priceUp a_o_priceDown a_o_draftGate a_o_draftCarries a_o_draftWorth a_o_draftKind a_o_draftMost a_o_draftUse a_o_x a_o_bestX a_o_part a_o_row a_o_right a_o_m a_o_given a_o_wasOff o_trace o_typed o_gates o_wishes o_at o_start o_sort o_value o_fault o_drafted o_by o_bestBy o_bestWorth o_isBest o_parts o_worth o_x o_bestX) H → va_D A (w_X7_compare cy a_o a_o_text a_o_letter a_o_least a_o_carries a_o_gateOff a_o_worth a_o_kind a_o_most a_o_wishOff a_o_use a_o_toldUp a_o_toldDown a_o_priceUp a_o_priceDown a_o_draftGate a_o_draftCarries a_o_draftWorth a_o_draftKind a_o_draftMost a_o_draftUse a_o_x a_o_bestX a_o_part a_o_row a_o_right a_o_m a_o_given a_o_wasOff o_trace o_typed o_gates o_wishes o_at o_start o_sort o_value o_fault o_drafted o_by o_bestBy o_bestWorth o_isBest o_parts o_worth o_x o_bestX) → va_S A s.heap H locs → ∀ (ls : Array Slot), lv_has ls 7 [(0, .ref a_o), (1, .long x1)] → W p l e ({ frames := 0, cells := 0, slots := 0, locals := 0 }) s m args below meth c H locs 0 0 Q (F0 m 35 ls [])) → ∀ (n : Nat) (x1 : Int64) (x3 : Int32), wl_X7_compare_4 o_wishes o_by o_bestBy o_bestWorth o_isBest o_worth o_x o_bestX kx0 post n x1 x3 → ∀ (H : Heap) (locs : List Loc), va_P D vwCl (w_X7_compare cy a_o a_o_text a_o_letter a_o_least a_o_carries a_o_gateOff a_o_worth a_o_kind a_o_most a_o_wishOff a_o_use a_o_toldUp a_o_toldDown a_o_priceUp a_o_priceDown a_o_draftGate a_o_draftCarries a_o_draftWorth a_o_draftKind a_o_draftMost a_o_draftUse a_o_x a_o_bestX a_o_part a_o_row a_o_right a_o_m a_o_given a_o_wasOff o_trace o_typed o_gates o_wishes o_at o_start o_sort o_value o_fault o_drafted o_by o_bestBy o_bestWorth o_isBest o_parts o_worth o_x o_bestX) H → va_D A (w_X7_compare cy a_o a_o_text a_o_letter a_o_least a_o_carries a_o_gateOff a_o_worth a_o_kind a_o_most a_o_wishOff a_o_use a_o_toldUp a_o_toldDown a_o_priceUp a_o_priceDown a_o_draftGate a_o_draftCarries a_o_draftWorth a_o_draftKind a_o_draftMost a_o_draftUse a_o_x a_o_bestX a_o_part a_o_row a_o_right a_o_m a_o_given a_o_wasOff o_trace o_typed o_gates o_wishes o_at o_start o_sort o_value o_fault o_drafted o_by o_bestBy o_bestWorth o_isBest o_parts o_worth o_x o_bestX) → va_S A s.heap H locs → ∀ (ls : Array Slot), lv_has ls 7 [(0, .ref a_o), (1, .long x1), (3, .int x3)] → W p l e ({ frames := 0, cells := 0, slots := 0, locals := 0 }) s m args below meth c H locs 0 0 Q (F0 m 4 ls []) := by
    intro o_bestBy o_bestWorth o_isBest o_bestX kx0 hkx0  n
    induction n with
    | zero => intro x1 x3 h; exact h.elim
    | succ n hkb =>
      intro x1 x3 h H locs hP hD hS ls hl
      replace h : ws_X7_compare_4 o_wishes o_by o_bestBy o_bestWorth o_isBest o_worth o_x o_bestX (wl_X7_compare_4 o_wishes o_by o_bestBy o_bestWorth o_isBest o_worth o_x o_bestX kx0 post n) kx0 post x1 x3 := h
      generalize wl_X7_compare_4 o_wishes o_by o_bestBy o_bestWorth o_isBest o_worth o_x o_bestX kx0 post n = kb at h hkb
      unfold ws_X7_compare_4 at h
      refine lv_iload_n hx hb dX7_compare_4 rfl (lv_at hl 2 rfl) ?_
      refine lv_aload_n hx hb dX7_compare_5 rfl (lv_at hl 0 rfl) ?_
      refine va_get (D := D) (ci := 7) (v := .int o_wishes) (C := RX7) (T := TX7) (N := 43) hx hb hts in_X7 hown hK hP 0 rfl rfl 4 (by decide) fl_185 (fun _ h9 => h9) rfl dX7_compare_6 ?_
      refine lv_icmp_ge (tgt := 35) hx hb dX7_compare_9 (by decide) (fun c1 => ?_) (fun c1 => ?_)
      · have h := h.1 c1
        exact hkx0 x1 h _ _ hP hD hS _ (lv_sub hl [0, 1] rfl)
      · have h := h.2 c1
        refine lv_lload_n hx hb dX7_compare_12 rfl (lv_at hl 1 rfl) ?_
        refine lv_aload_n hx hb dX7_compare_13 rfl (lv_at hl 0 rfl) ?_
        refine va_get (D := D) (ci := 7) (v := .ref a_o_worth) (C := RX7) (T := TX7) (N := 43) hx hb hts in_X7 hown hK hP 0 rfl rfl 9 (by decide) fl_27 (fun _ h9 => h9) rfl dX7_compare_14 ?_
        refine lv_iload_n hx hb dX7_compare_17 rfl (lv_at hl 2 rfl) ?_
        obtain ⟨i2, h⟩ := h
        refine va_iald hx hb hK hP 1 1 rfl rfl i2 dX7_compare_18 ?_
        refine lv_i2l hx hb dX7_compare_19 rfl ?_
        refine lv_aload_n hx hb dX7_compare_20 rfl (lv_at hl 0 rfl) ?_
        refine va_get (D := D) (ci := 7) (v := .ref a_o_x) (C := RX7) (T := TX7) (N := 43) hx hb hts in_X7 hown hK hP 0 rfl rfl 30 (by decide) fl_72 (fun _ h9 => h9) rfl dX7_compare_21 ?_
        refine lv_iload_n hx hb dX7_compare_24 rfl (lv_at hl 2 rfl) ?_
        refine va_lald hx hb hK hP 2 2 rfl rfl i2 dX7_compare_25 ?_
        refine lv_lmul hx hb dX7_compare_26 ?_
        refine lv_ladd hx hb dX7_compare_27 ?_
        refine lv_topl (fun v3 ev3 => ?_)
        have h := h v3 ev3
        refine lv_lstore_n (lv' := [(1, .long v3), (0, .ref a_o), (3, .int x3)]) hx hb dX7_compare_28 rfl hl (by decide) rfl (fun ls hl => ?_)
        refine lv_iinc (v := (x3 + (1 : Int32))) (lv' := [(3, .int (x3 + (1 : Int32))), (1, .long v3), (0, .ref a_o)]) hx hb dX7_compare_29 hl (k := 2) rfl (congrArg (fun z => x3 + z) (by decide : Int32.ofInt (1) = (1 : Int32))) (by decide) rfl (fun ls hl => ?_)
        refine lv_goto (tgt := 4) hx hb dX7_compare_32 (by decide) ?_
        exact hkb v3 (x3 + (1 : Int32)) h _ _ hP hD hS _ (lv_sub hl [2, 1, 0] rfl)
  have l_188 : ∀ (o_bestBy : Int64) (o_bestWorth : Int64) (o_isBest : Int32), ∀ (kx0 : (Nat → Int64) → Prop), (∀ (o_bestX : Nat → Int64), kx0 o_bestX → ∀ (H : Heap) (locs : List Loc), va_P D vwCl (w_X7_compare cy a_o a_o_text a_o_letter a_o_least a_o_carries a_o_gateOff a_o_worth a_o_kind a_o_most a_o_wishOff a_o_use a_o_toldUp a_o_toldDown a_o_priceUp a_o_priceDown a_o_draftGate a_o_draftCarries a_o_draftWorth a_o_draftKind a_o_draftMost a_o_draftUse a_o_x a_o_bestX a_o_part a_o_row a_o_right a_o_m a_o_given a_o_wasOff o_trace o_typed o_gates o_wishes o_at o_start o_sort o_value o_fault o_drafted o_by o_bestBy o_bestWorth o_isBest o_parts o_worth o_x o_bestX) H → va_D A (w_X7_compare cy a_o a_o_text a_o_letter a_o_least a_o_carries a_o_gateOff a_o_worth a_o_kind a_o_most a_o_wishOff a_o_use a_o_toldUp a_o_toldDown a_o_priceUp a_o_priceDown a_o_draftGate a_o_draftCarries a_o_draftWorth a_o_draftKind a_o_draftMost a_o_draftUse a_o_x a_o_bestX a_o_part a_o_row a_o_right a_o_m a_o_given a_o_wasOff o_trace o_typed o_gates o_wishes o_at o_start o_sort o_value o_fault o_drafted o_by o_bestBy o_bestWorth o_isBest o_parts o_worth o_x o_bestX) → va_S A s.heap H locs → ∀ (ls : Array Slot), lv_has ls 7 [] → W p l e ({ frames := 0, cells := 0, slots := 0, locals := 0 }) s m args below meth c H locs 0 0 Q (F0 m 217 ls [])) → ∀ (n : Nat) (x4 : Int32) (o_bestX : Nat → Int64), wl_X7_compare_188 o_wishes o_by o_bestBy o_bestWorth o_isBest o_worth o_x kx0 post n x4 o_bestX → ∀ (H : Heap) (locs : List Loc), va_P D vwCl (w_X7_compare cy a_o a_o_text a_o_letter a_o_least a_o_carries a_o_gateOff a_o_worth a_o_kind a_o_most a_o_wishOff a_o_use a_o_toldUp a_o_toldDown a_o_priceUp a_o_priceDown a_o_draftGate a_o_draftCarries a_o_draftWorth a_o_draftKind a_o_draftMost a_o_draftUse a_o_x a_o_bestX a_o_part a_o_row a_o_right a_o_m a_o_given a_o_wasOff o_trace o_typed o_gates o_wishes o_at o_start o_sort o_value o_fault o_drafted o_by o_bestBy o_bestWorth o_isBest o_parts o_worth o_x o_bestX) H → va_D A (w_X7_compare cy a_o a_o_text a_o_letter a_o_least a_o_carries a_o_gateOff a_o_worth a_o_kind a_o_most a_o_wishOff a_o_use a_o_toldUp a_o_toldDown a_o_priceUp a_o_priceDown a_o_draftGate a_o_draftCarries a_o_draftWorth a_o_draftKind a_o_draftMost a_o_draftUse a_o_x a_o_bestX a_o_part a_o_row a_o_right a_o_m a_o_given a_o_wasOff o_trace o_typed o_gates o_wishes o_at o_start o_sort o_value o_fault o_drafted o_by o_bestBy o_bestWorth o_isBest o_parts o_worth o_x o_bestX) → va_S A s.heap H locs → ∀ (ls : Array Slot), lv_has ls 7 [(0, .ref a_o), (4, .int x4)] → W p l e ({ frames := 0, cells := 0, slots := 0, locals := 0 }) s m args below meth c H locs 0 0 Q (F0 m 188 ls []) := by
    intro o_bestBy o_bestWorth o_isBest kx0 hkx0  n
    induction n with
    | zero => intro x4 o_bestX h; exact h.elim
    | succ n hkb =>
      intro x4 o_bestX h H locs hP hD hS ls hl
      replace h : ws_X7_compare_188 o_wishes o_by o_bestBy o_bestWorth o_isBest o_worth o_x (wl_X7_compare_188 o_wishes o_by o_bestBy o_bestWorth o_isBest o_worth o_x kx0 post n) kx0 post x4 o_bestX := h
      generalize wl_X7_compare_188 o_wishes o_by o_bestBy o_bestWorth o_isBest o_worth o_x kx0 post n = kb at h hkb
      unfold ws_X7_compare_188 at h
      refine lv_iload hx hb dX7_compare_188 (lv_at hl 1 rfl) ?_
      refine lv_aload_n hx hb dX7_compare_190 rfl (lv_at hl 0 rfl) ?_
      refine va_get (D := D) (ci := 7) (v := .int o_wishes) (C := RX7) (T := TX7) (N := 43) hx hb hts in_X7 hown hK hP 0 rfl rfl 4 (by decide) fl_185 (fun _ h9 => h9) rfl dX7_compare_191 ?_
      refine lv_icmp_ge (tgt := 217) hx hb dX7_compare_194 (by decide) (fun c8 => ?_) (fun c8 => ?_)
      · have h := h.1 c8
        exact hkx0 o_bestX h _ _ hP hD hS _ (lv_sub hl [] rfl)
      · have h := h.2 c8
        refine lv_aload_n hx hb dX7_compare_197 rfl (lv_at hl 0 rfl) ?_
        refine va_get (D := D) (ci := 7) (v := .ref a_o_bestX) (C := RX7) (T := TX7) (N := 43) hx hb hts in_X7 hown hK hP 0 rfl rfl 32 (by decide) fl_76 (fun _ h9 => h9) rfl dX7_compare_198 ?_
        refine lv_iload hx hb dX7_compare_201 (lv_at hl 1 rfl) ?_
        refine lv_aload_n hx hb dX7_compare_203 rfl (lv_at hl 0 rfl) ?_
        refine va_get (D := D) (ci := 7) (v := .ref a_o_x) (C := RX7) (T := TX7) (N := 43) hx hb hts in_X7 hown hK hP 0 rfl rfl 30 (by decide) fl_72 (fun _ h9 => h9) rfl dX7_compare_204 ?_
        refine lv_iload hx hb dX7_compare_207 (lv_at hl 1 rfl) ?_
        obtain ⟨i9, h⟩ := h
        refine va_lald hx hb hK hP 2 2 rfl rfl i9 dX7_compare_209 ?_
        refine va_last hx hb hK hP hD hS 3 2 rfl rfl i9 dX7_compare_210 (fun H locs hP hD hS => ?_)
        have hP : va_P D vwCl (w_X7_compare cy a_o a_o_text a_o_letter a_o_least a_o_carries a_o_gateOff a_o_worth a_o_kind a_o_most a_o_wishOff a_o_use a_o_toldUp a_o_toldDown a_o_priceUp a_o_priceDown a_o_draftGate a_o_draftCarries a_o_draftWorth a_o_draftKind a_o_draftMost a_o_draftUse a_o_x a_o_bestX a_o_part a_o_row a_o_right a_o_m a_o_given a_o_wasOff o_trace o_typed o_gates o_wishes o_at o_start o_sort o_value o_fault o_drafted o_by o_bestBy o_bestWorth o_isBest o_parts o_worth o_x (vp_updL o_bestX (x4).toNatClampNeg (o_x (x4).toNatClampNeg))) H := hP
        have hD : va_D A (w_X7_compare cy a_o a_o_text a_o_letter a_o_least a_o_carries a_o_gateOff a_o_worth a_o_kind a_o_most a_o_wishOff a_o_use a_o_toldUp a_o_toldDown a_o_priceUp a_o_priceDown a_o_draftGate a_o_draftCarries a_o_draftWorth a_o_draftKind a_o_draftMost a_o_draftUse a_o_x a_o_bestX a_o_part a_o_row a_o_right a_o_m a_o_given a_o_wasOff o_trace o_typed o_gates o_wishes o_at o_start o_sort o_value o_fault o_drafted o_by o_bestBy o_bestWorth o_isBest o_parts o_worth o_x (vp_updL o_bestX (x4).toNatClampNeg (o_x (x4).toNatClampNeg))) := hD
        refine lv_iinc (v := (x4 + (1 : Int32))) (lv' := [(4, .int (x4 + (1 : Int32))), (0, .ref a_o)]) hx hb dX7_compare_211 hl (k := 1) rfl (congrArg (fun z => x4 + z) (by decide : Int32.ofInt (1) = (1 : Int32))) (by decide) rfl (fun ls hl => ?_)
        refine lv_goto (tgt := 188) hx hb dX7_compare_214 (by decide) ?_
        exact hkb (x4 + (1 : Int32)) (vp_updL o_bestX (x4).toNatClampNeg (o_x (x4).toNatClampNeg)) h _ _ hP hD hS _ (lv_sub hl [1, 0] rfl)
  have j_163_1 : ∀ (x1 : Int64) (x3 : Int32) (o_bestBy : Int64) (o_bestWorth : Int64) (o_isBest : Int32) (o_bestX : Nat → Int64), wj_X7_compare_163  x1 x3 o_wishes o_by o_bestBy o_bestWorth o_isBest o_worth o_x o_bestX  post → ∀ (H : Heap) (locs : List Loc), va_P D vwCl (w_X7_compare cy a_o a_o_text a_o_letter a_o_least a_o_carries a_o_gateOff a_o_worth a_o_kind a_o_most a_o_wishOff a_o_use a_o_toldUp a_o_toldDown a_o_priceUp a_o_priceDown a_o_draftGate a_o_draftCarries a_o_draftWorth a_o_draftKind a_o_draftMost a_o_draftUse a_o_x a_o_bestX a_o_part a_o_row a_o_right a_o_m a_o_given a_o_wasOff o_trace o_typed o_gates o_wishes o_at o_start o_sort o_value o_fault o_drafted o_by o_bestBy o_bestWorth o_isBest o_parts o_worth o_x o_bestX) H → va_D A (w_X7_compare cy a_o a_o_text a_o_letter a_o_least a_o_carries a_o_gateOff a_o_worth a_o_kind a_o_most a_o_wishOff a_o_use a_o_toldUp a_o_toldDown a_o_priceUp a_o_priceDown a_o_draftGate a_o_draftCarries a_o_draftWorth a_o_draftKind a_o_draftMost a_o_draftUse a_o_x a_o_bestX a_o_part a_o_row a_o_right a_o_m a_o_given a_o_wasOff o_trace o_typed o_gates o_wishes o_at o_start o_sort o_value o_fault o_drafted o_by o_bestBy o_bestWorth o_isBest o_parts o_worth o_x o_bestX) → va_S A s.heap H locs → ∀ (ls : Array Slot), lv_has ls 7 [(0, .ref a_o), (1, .long x1), (3, .int x3)] → W p l e ({ frames := 0, cells := 0, slots := 0, locals := 0 }) s m args below meth c H locs 0 0 Q (F0 m 163 ls []) := by
    intro x1 x3 o_bestBy o_bestWorth o_isBest o_bestX  h H locs hP hD hS ls hl
    unfold wj_X7_compare_163 at h
    refine lv_iload_n hx hb dX7_compare_163 rfl (lv_at hl 2 rfl) ?_
    refine lv_if_eq (tgt := 217) hx hb dX7_compare_164 (by decide) (fun c7 => ?_) (fun c7 => ?_)
    · have h := h.1 c7
      exact hret (o_bestBy, o_bestWorth, o_isBest, o_bestX) _ _ _ _ h hP hD hS dX7_compare_217
    · have h := h.2 c7
      refine lv_aload_n hx hb dX7_compare_167 rfl (lv_at hl 0 rfl) ?_
      refine lv_iconst (v := 1) hx hb dX7_compare_168 (by decide) ?_
      refine va_put (D := D) (ci := 7) (v := .int (1 : Int32)) (ty := .boolean) (C := RX7) (T := TX7) (N := 43) hx hb hts in_X7 tyX7 tyX7_ok nmX7 hown hK hP hD hS 0 rfl rfl 35 (by decide) fl_207 (fun _ h9 => h9) rfl (by decide +kernel) rfl rfl (Nat.le_of_ble_eq_true rfl) dX7_compare_169 (fun H locs hP hD hS => ?_)
      have hP : va_P D vwCl (w_X7_compare cy a_o a_o_text a_o_letter a_o_least a_o_carries a_o_gateOff a_o_worth a_o_kind a_o_most a_o_wishOff a_o_use a_o_toldUp a_o_toldDown a_o_priceUp a_o_priceDown a_o_draftGate a_o_draftCarries a_o_draftWorth a_o_draftKind a_o_draftMost a_o_draftUse a_o_x a_o_bestX a_o_part a_o_row a_o_right a_o_m a_o_given a_o_wasOff o_trace o_typed o_gates o_wishes o_at o_start o_sort o_value o_fault o_drafted o_by o_bestBy o_bestWorth (1 : Int32) o_parts o_worth o_x o_bestX) H := hP
      have hD : va_D A (w_X7_compare cy a_o a_o_text a_o_letter a_o_least a_o_carries a_o_gateOff a_o_worth a_o_kind a_o_most a_o_wishOff a_o_use a_o_toldUp a_o_toldDown a_o_priceUp a_o_priceDown a_o_draftGate a_o_draftCarries a_o_draftWorth a_o_draftKind a_o_draftMost a_o_draftUse a_o_x a_o_bestX a_o_part a_o_row a_o_right a_o_m a_o_given a_o_wasOff o_trace o_typed o_gates o_wishes o_at o_start o_sort o_value o_fault o_drafted o_by o_bestBy o_bestWorth (1 : Int32) o_parts o_worth o_x o_bestX) := hD
      refine lv_aload_n hx hb dX7_compare_172 rfl (lv_at hl 0 rfl) ?_
      refine lv_lload_n hx hb dX7_compare_173 rfl (lv_at hl 1 rfl) ?_
      refine va_put (D := D) (ci := 7) (v := .long x1) (ty := .long) (C := RX7) (T := TX7) (N := 43) hx hb hts in_X7 tyX7 tyX7_ok nmX7 hown hK hP hD hS 0 rfl rfl 34 (by decide) fl_214 (fun _ h9 => h9) rfl (by decide +kernel) rfl rfl (Nat.le_of_ble_eq_true rfl) dX7_compare_174 (fun H locs hP hD hS => ?_)
      have hP : va_P D vwCl (w_X7_compare cy a_o a_o_text a_o_letter a_o_least a_o_carries a_o_gateOff a_o_worth a_o_kind a_o_most a_o_wishOff a_o_use a_o_toldUp a_o_toldDown a_o_priceUp a_o_priceDown a_o_draftGate a_o_draftCarries a_o_draftWorth a_o_draftKind a_o_draftMost a_o_draftUse a_o_x a_o_bestX a_o_part a_o_row a_o_right a_o_m a_o_given a_o_wasOff o_trace o_typed o_gates o_wishes o_at o_start o_sort o_value o_fault o_drafted o_by o_bestBy x1 (1 : Int32) o_parts o_worth o_x o_bestX) H := hP
      have hD : va_D A (w_X7_compare cy a_o a_o_text a_o_letter a_o_least a_o_carries a_o_gateOff a_o_worth a_o_kind a_o_most a_o_wishOff a_o_use a_o_toldUp a_o_toldDown a_o_priceUp a_o_priceDown a_o_draftGate a_o_draftCarries a_o_draftWorth a_o_draftKind a_o_draftMost a_o_draftUse a_o_x a_o_bestX a_o_part a_o_row a_o_right a_o_m a_o_given a_o_wasOff o_trace o_typed o_gates o_wishes o_at o_start o_sort o_value o_fault o_drafted o_by o_bestBy x1 (1 : Int32) o_parts o_worth o_x o_bestX) := hD
      refine lv_aload_n hx hb dX7_compare_177 rfl (lv_at hl 0 rfl) ?_
      refine lv_aload_n hx hb dX7_compare_178 rfl (lv_at hl 0 rfl) ?_
      refine va_get (D := D) (ci := 7) (v := .long o_by) (C := RX7) (T := TX7) (N := 43) hx hb hts in_X7 hown hK hP 0 rfl rfl 31 (by decide) fl_203 (fun _ h9 => h9) rfl dX7_compare_179 ?_
      refine va_put (D := D) (ci := 7) (v := .long o_by) (ty := .long) (C := RX7) (T := TX7) (N := 43) hx hb hts in_X7 tyX7 tyX7_ok nmX7 hown hK hP hD hS 0 rfl rfl 33 (by decide) fl_211 (fun _ h9 => h9) rfl (by decide +kernel) rfl rfl (Nat.le_of_ble_eq_true rfl) dX7_compare_182 (fun H locs hP hD hS => ?_)
      have hP : va_P D vwCl (w_X7_compare cy a_o a_o_text a_o_letter a_o_least a_o_carries a_o_gateOff a_o_worth a_o_kind a_o_most a_o_wishOff a_o_use a_o_toldUp a_o_toldDown a_o_priceUp a_o_priceDown a_o_draftGate a_o_draftCarries a_o_draftWorth a_o_draftKind a_o_draftMost a_o_draftUse a_o_x a_o_bestX a_o_part a_o_row a_o_right a_o_m a_o_given a_o_wasOff o_trace o_typed o_gates o_wishes o_at o_start o_sort o_value o_fault o_drafted o_by o_by x1 (1 : Int32) o_parts o_worth o_x o_bestX) H := hP
      have hD : va_D A (w_X7_compare cy a_o a_o_text a_o_letter a_o_least a_o_carries a_o_gateOff a_o_worth a_o_kind a_o_most a_o_wishOff a_o_use a_o_toldUp a_o_toldDown a_o_priceUp a_o_priceDown a_o_draftGate a_o_draftCarries a_o_draftWorth a_o_draftKind a_o_draftMost a_o_draftUse a_o_x a_o_bestX a_o_part a_o_row a_o_right a_o_m a_o_given a_o_wasOff o_trace o_typed o_gates o_wishes o_at o_start o_sort o_value o_fault o_drafted o_by o_by x1 (1 : Int32) o_parts o_worth o_x o_bestX) := hD
      refine lv_iconst (v := 0) hx hb dX7_compare_185 (by decide) ?_
      refine lv_istore (lv' := [(4, .int (0 : Int32)), (0, .ref a_o), (1, .long x1), (3, .int x3)]) hx hb dX7_compare_186 hl (by decide) rfl (fun ls hl => ?_)
      obtain ⟨n11, h⟩ := h
      refine l_188 o_by x1 (1 : Int32) _ ?_ n11 (0 : Int32) o_bestX h _ _ hP hD hS _ (lv_sub hl [1, 0] rfl)
      · intro o_bestX_10 h H locs hP hD hS ls hl
        exact hret (o_by, x1, (1 : Int32), o_bestX_10) _ _ _ _ h hP hD hS dX7_compare_217
  have l_101 : ∀ (x1 : Int64) (o_bestBy : Int64) (o_bestWorth : Int64) (o_isBest : Int32) (o_bestX : Nat → Int64), ∀ (kx0 : Int32 → Prop), (∀ (x3 : Int32), kx0 x3 → ∀ (H : Heap) (locs : List Loc), va_P D vwCl (w_X7_compare cy a_o a_o_text a_o_letter a_o_least a_o_carries a_o_gateOff a_o_worth a_o_kind a_o_most a_o_wishOff a_o_use a_o_toldUp a_o_toldDown a_o_priceUp a_o_priceDown a_o_draftGate a_o_draftCarries a_o_draftWorth a_o_draftKind a_o_draftMost a_o_draftUse a_o_x a_o_bestX a_o_part a_o_row a_o_right a_o_m a_o_given a_o_wasOff o_trace o_typed o_gates o_wishes o_at o_start o_sort o_value o_fault o_drafted o_by o_bestBy o_bestWorth o_isBest o_parts o_worth o_x o_bestX) H → va_D A (w_X7_compare cy a_o a_o_text a_o_letter a_o_least a_o_carries a_o_gateOff a_o_worth a_o_kind a_o_most a_o_wishOff a_o_use a_o_toldUp a_o_toldDown a_o_priceUp a_o_priceDown a_o_draftGate a_o_draftCarries a_o_draftWorth a_o_draftKind a_o_draftMost a_o_draftUse a_o_x a_o_bestX a_o_part a_o_row a_o_right a_o_m a_o_given a_o_wasOff o_trace o_typed o_gates o_wishes o_at o_start o_sort o_value o_fault o_drafted o_by o_bestBy o_bestWorth o_isBest o_parts o_worth o_x o_bestX) → va_S A s.heap H locs → ∀ (ls : Array Slot), lv_has ls 7 [(0, .ref a_o), (1, .long x1), (3, .int x3)] → W p l e ({ frames := 0, cells := 0, slots := 0, locals := 0 }) s m args below meth c H locs 0 0 Q (F0 m 163 ls [])) → ∀ (n : Nat) (x3 : Int32) (x4 : Int32), wl_X7_compare_101 x1 o_wishes o_by o_bestBy o_bestWorth o_isBest o_worth o_x o_bestX kx0 post n x3 x4 → ∀ (H : Heap) (locs : List Loc), va_P D vwCl (w_X7_compare cy a_o a_o_text a_o_letter a_o_least a_o_carries a_o_gateOff a_o_worth a_o_kind a_o_most a_o_wishOff a_o_use a_o_toldUp a_o_toldDown a_o_priceUp a_o_priceDown a_o_draftGate a_o_draftCarries a_o_draftWorth a_o_draftKind a_o_draftMost a_o_draftUse a_o_x a_o_bestX a_o_part a_o_row a_o_right a_o_m a_o_given a_o_wasOff o_trace o_typed o_gates o_wishes o_at o_start o_sort o_value o_fault o_drafted o_by o_bestBy o_bestWorth o_isBest o_parts o_worth o_x o_bestX) H → va_D A (w_X7_compare cy a_o a_o_text a_o_letter a_o_least a_o_carries a_o_gateOff a_o_worth a_o_kind a_o_most a_o_wishOff a_o_use a_o_toldUp a_o_toldDown a_o_priceUp a_o_priceDown a_o_draftGate a_o_draftCarries a_o_draftWorth a_o_draftKind a_o_draftMost a_o_draftUse a_o_x a_o_bestX a_o_part a_o_row a_o_right a_o_m a_o_given a_o_wasOff o_trace o_typed o_gates o_wishes o_at o_start o_sort o_value o_fault o_drafted o_by o_bestBy o_bestWorth o_isBest o_parts o_worth o_x o_bestX) → va_S A s.heap H locs → ∀ (ls : Array Slot), lv_has ls 7 [(0, .ref a_o), (1, .long x1), (3, .int x3), (4, .int x4)] → W p l e ({ frames := 0, cells := 0, slots := 0, locals := 0 }) s m args below meth c H locs 0 0 Q (F0 m 101 ls []) := by
    intro x1 o_bestBy o_bestWorth o_isBest o_bestX kx0 hkx0  n
    induction n with
    | zero => intro x3 x4 h; exact h.elim
    | succ n hkb =>
      intro x3 x4 h H locs hP hD hS ls hl
      replace h : ws_X7_compare_101 x1 o_wishes o_by o_bestBy o_bestWorth o_isBest o_worth o_x o_bestX (wl_X7_compare_101 x1 o_wishes o_by o_bestBy o_bestWorth o_isBest o_worth o_x o_bestX kx0 post n) kx0 post x3 x4 := h
      generalize wl_X7_compare_101 x1 o_wishes o_by o_bestBy o_bestWorth o_isBest o_worth o_x o_bestX kx0 post n = kb at h hkb
      unfold ws_X7_compare_101 at h
      refine lv_iload hx hb dX7_compare_101 (lv_at hl 3 rfl) ?_
      refine lv_if_lt (tgt := 163) hx hb dX7_compare_103 (by decide) (fun c13 => ?_) (fun c13 => ?_)
      · have h := h.1 c13
        exact hkx0 x3 h _ _ hP hD hS _ (lv_sub hl [0, 1, 2] rfl)
      · have h := h.2 c13
        refine lv_aload_n hx hb dX7_compare_106 rfl (lv_at hl 0 rfl) ?_
        refine va_get (D := D) (ci := 7) (v := .ref a_o_x) (C := RX7) (T := TX7) (N := 43) hx hb hts in_X7 hown hK hP 0 rfl rfl 30 (by decide) fl_72 (fun _ h9 => h9) rfl dX7_compare_107 ?_
        refine lv_iload hx hb dX7_compare_110 (lv_at hl 3 rfl) ?_
        obtain ⟨i14, h⟩ := h
        refine va_lald hx hb hK hP 2 2 rfl rfl i14 dX7_compare_112 ?_
        refine lv_aload_n hx hb dX7_compare_113 rfl (lv_at hl 0 rfl) ?_
        refine va_get (D := D) (ci := 7) (v := .long o_bestBy) (C := RX7) (T := TX7) (N := 43) hx hb hts in_X7 hown hK hP 0 rfl rfl 33 (by decide) fl_211 (fun _ h9 => h9) rfl dX7_compare_114 ?_
        refine lv_lmul hx hb dX7_compare_117 ?_
        refine lv_aload_n hx hb dX7_compare_118 rfl (lv_at hl 0 rfl) ?_
        refine va_get (D := D) (ci := 7) (v := .ref a_o_bestX) (C := RX7) (T := TX7) (N := 43) hx hb hts in_X7 hown hK hP 0 rfl rfl 32 (by decide) fl_76 (fun _ h9 => h9) rfl dX7_compare_119 ?_
        refine lv_iload hx hb dX7_compare_122 (lv_at hl 3 rfl) ?_
        refine va_lald hx hb hK hP 3 2 rfl rfl i14 dX7_compare_124 ?_
        refine lv_aload_n hx hb dX7_compare_125 rfl (lv_at hl 0 rfl) ?_
        refine va_get (D := D) (ci := 7) (v := .long o_by) (C := RX7) (T := TX7) (N := 43) hx hb hts in_X7 hown hK hP 0 rfl rfl 31 (by decide) fl_203 (fun _ h9 => h9) rfl dX7_compare_126 ?_
        refine lv_lmul hx hb dX7_compare_129 ?_
        refine lv_lsub hx hb dX7_compare_130 ?_
        refine lv_topl (fun v15 ev15 => ?_)
        have h := h v15 ev15
        refine lv_lstore (lv' := [(5, .long v15), (0, .ref a_o), (1, .long x1), (3, .int x3), (4, .int x4)]) hx hb dX7_compare_131 hl (by decide) rfl (fun ls hl => ?_)
        refine lv_lload hx hb dX7_compare_133 (lv_at hl 0 rfl) ?_
        refine lv_lconst (v := 0) hx hb dX7_compare_135 (by decide) ?_
        refine W.lcmp hx hb dX7_compare_136 ?_
        refine lv_if_ne (tgt := 144) hx hb dX7_compare_137 (by decide) (fun c16 => ?_) (fun c16 => ?_)
        · have h := h.2 (fun z => c16 (lc_eq.mpr z))
          refine lv_lload hx hb dX7_compare_144 (lv_at hl 0 rfl) ?_
          refine lv_lconst (v := 0) hx hb dX7_compare_146 (by decide) ?_
          refine W.lcmp hx hb dX7_compare_147 ?_
          refine lv_if_ge (tgt := 155) hx hb dX7_compare_148 (by decide) (fun c17 => ?_) (fun c17 => ?_)
          · have h := h.1 (lc_ge.mp c17)
            refine lv_iconst (v := 0) hx hb dX7_compare_155 (by decide) ?_
            refine lv_istore_n (lv' := [(3, .int (0 : Int32)), (5, .long v15), (0, .ref a_o), (1, .long x1), (4, .int x4)]) hx hb dX7_compare_156 rfl hl (by decide) rfl (fun ls hl => ?_)
            refine lv_iinc (v := (x4 + (-1 : Int32))) (lv' := [(4, .int (x4 + (-1 : Int32))), (3, .int (0 : Int32)), (5, .long v15), (0, .ref a_o), (1, .long x1)]) hx hb dX7_compare_157 hl (k := 4) rfl (congrArg (fun z => x4 + z) (by decide : Int32.ofInt (-1) = (-1 : Int32))) (by decide) rfl (fun ls hl => ?_)
            refine lv_goto (tgt := 101) hx hb dX7_compare_160 (by decide) ?_
            exact hkb (0 : Int32) (x4 + (-1 : Int32)) h _ _ hP hD hS _ (lv_sub hl [3, 4, 1, 0] rfl)
          · have h := h.2 (fun z => c17 (lc_ge.mpr z))
            refine lv_iconst (v := 1) hx hb dX7_compare_151 (by decide) ?_
            refine lv_goto (tgt := 156) hx hb dX7_compare_152 (by decide) ?_
            refine lv_istore_n (lv' := [(3, .int (1 : Int32)), (5, .long v15), (0, .ref a_o), (1, .long x1), (4, .int x4)]) hx hb dX7_compare_156 rfl hl (by decide) rfl (fun ls hl => ?_)
            refine lv_iinc (v := (x4 + (-1 : Int32))) (lv' := [(4, .int (x4 + (-1 : Int32))), (3, .int (1 : Int32)), (5, .long v15), (0, .ref a_o), (1, .long x1)]) hx hb dX7_compare_157 hl (k := 4) rfl (congrArg (fun z => x4 + z) (by decide : Int32.ofInt (-1) = (-1 : Int32))) (by decide) rfl (fun ls hl => ?_)
            refine lv_goto (tgt := 101) hx hb dX7_compare_160 (by decide) ?_
            exact hkb (1 : Int32) (x4 + (-1 : Int32)) h _ _ hP hD hS _ (lv_sub hl [3, 4, 1, 0] rfl)
        · have h := h.1 (lc_eq.mp c16)
          refine lv_iload_n hx hb dX7_compare_140 rfl (lv_at hl 3 rfl) ?_
          refine lv_goto (tgt := 156) hx hb dX7_compare_141 (by decide) ?_
          refine lv_istore_n (lv' := [(3, .int x3), (5, .long v15), (0, .ref a_o), (1, .long x1), (4, .int x4)]) hx hb dX7_compare_156 rfl hl (by decide) rfl (fun ls hl => ?_)
          refine lv_iinc (v := (x4 + (-1 : Int32))) (lv' := [(4, .int (x4 + (-1 : Int32))), (3, .int x3), (5, .long v15), (0, .ref a_o), (1, .long x1)]) hx hb dX7_compare_157 hl (k := 4) rfl (congrArg (fun z => x4 + z) (by decide : Int32.ofInt (-1) = (-1 : Int32))) (by decide) rfl (fun ls hl => ?_)
          refine lv_goto (tgt := 101) hx hb dX7_compare_160 (by decide) ?_
          exact hkb x3 (x4 + (-1 : Int32)) h _ _ hP hD hS _ (lv_sub hl [3, 4, 1, 0] rfl)
  have j_66_0 : ∀ (x1 : Int64) (s0 : Int32) (o_bestBy : Int64) (o_bestWorth : Int64) (o_isBest : Int32) (o_bestX : Nat → Int64), wj_X7_compare_66  x1 s0 o_wishes o_by o_bestBy o_bestWorth o_isBest o_worth o_x o_bestX  post → ∀ (H : Heap) (locs : List Loc), va_P D vwCl (w_X7_compare cy a_o a_o_text a_o_letter a_o_least a_o_carries a_o_gateOff a_o_worth a_o_kind a_o_most a_o_wishOff a_o_use a_o_toldUp a_o_toldDown a_o_priceUp a_o_priceDown a_o_draftGate a_o_draftCarries a_o_draftWorth a_o_draftKind a_o_draftMost a_o_draftUse a_o_x a_o_bestX a_o_part a_o_row a_o_right a_o_m a_o_given a_o_wasOff o_trace o_typed o_gates o_wishes o_at o_start o_sort o_value o_fault o_drafted o_by o_bestBy o_bestWorth o_isBest o_parts o_worth o_x o_bestX) H → va_D A (w_X7_compare cy a_o a_o_text a_o_letter a_o_least a_o_carries a_o_gateOff a_o_worth a_o_kind a_o_most a_o_wishOff a_o_use a_o_toldUp a_o_toldDown a_o_priceUp a_o_priceDown a_o_draftGate a_o_draftCarries a_o_draftWorth a_o_draftKind a_o_draftMost a_o_draftUse a_o_x a_o_bestX a_o_part a_o_row a_o_right a_o_m a_o_given a_o_wasOff o_trace o_typed o_gates o_wishes o_at o_start o_sort o_value o_fault o_drafted o_by o_bestBy o_bestWorth o_isBest o_parts o_worth o_x o_bestX) → va_S A s.heap H locs → ∀ (ls : Array Slot), lv_has ls 7 [(0, .ref a_o), (1, .long x1)] → W p l e ({ frames := 0, cells := 0, slots := 0, locals := 0 }) s m args below meth c H locs 0 0 Q (F0 m 66 ls [.int s0]) := by
    intro x1 s0 o_bestBy o_bestWorth o_isBest o_bestX  h H locs hP hD hS ls hl
    unfold wj_X7_compare_66 at h
    refine lv_istore_n (lv' := [(3, .int s0), (0, .ref a_o), (1, .long x1)]) hx hb dX7_compare_66 rfl hl (by decide) rfl (fun ls hl => ?_)
    refine lv_aload_n hx hb dX7_compare_67 rfl (lv_at hl 1 rfl) ?_
    refine va_get (D := D) (ci := 7) (v := .int o_isBest) (C := RX7) (T := TX7) (N := 43) hx hb hts in_X7 hown hK hP 0 rfl rfl 35 (by decide) fl_207 (fun _ h9 => h9) rfl dX7_compare_68 ?_
    refine lv_if_eq (tgt := 163) hx hb dX7_compare_71 (by decide) (fun c6 => ?_) (fun c6 => ?_)
    · have h := h.1 c6
      exact j_163_1 x1 s0 o_bestBy o_bestWorth o_isBest o_bestX h _ _ hP hD hS _ (lv_sub hl [1, 2, 0] rfl)
    · have h := h.2 c6
      refine lv_lload_n hx hb dX7_compare_74 rfl (lv_at hl 2 rfl) ?_
      refine lv_aload_n hx hb dX7_compare_75 rfl (lv_at hl 1 rfl) ?_
      refine va_get (D := D) (ci := 7) (v := .long o_bestBy) (C := RX7) (T := TX7) (N := 43) hx hb hts in_X7 hown hK hP 0 rfl rfl 33 (by decide) fl_211 (fun _ h9 => h9) rfl dX7_compare_76 ?_
      refine lv_lmul hx hb dX7_compare_79 ?_
      refine lv_aload_n hx hb dX7_compare_80 rfl (lv_at hl 1 rfl) ?_
      refine va_get (D := D) (ci := 7) (v := .long o_bestWorth) (C := RX7) (T := TX7) (N := 43) hx hb hts in_X7 hown hK hP 0 rfl rfl 34 (by decide) fl_214 (fun _ h9 => h9) rfl dX7_compare_81 ?_
      refine lv_aload_n hx hb dX7_compare_84 rfl (lv_at hl 1 rfl) ?_
      refine va_get (D := D) (ci := 7) (v := .long o_by) (C := RX7) (T := TX7) (N := 43) hx hb hts in_X7 hown hK hP 0 rfl rfl 31 (by decide) fl_203 (fun _ h9 => h9) rfl dX7_compare_85 ?_
      refine lv_lmul hx hb dX7_compare_88 ?_
      refine W.lcmp hx hb dX7_compare_89 ?_
      refine lv_if_ne (tgt := 163) hx hb dX7_compare_90 (by decide) (fun c12 => ?_) (fun c12 => ?_)
      · have h := h.2 (fun z => c12 (lc_eq.mpr z))
        exact j_163_1 x1 s0 o_bestBy o_bestWorth o_isBest o_bestX h _ _ hP hD hS _ (lv_sub hl [1, 2, 0] rfl)
      · have h := h.1 (lc_eq.mp c12)
        refine lv_aload_n hx hb dX7_compare_93 rfl (lv_at hl 1 rfl) ?_
        refine va_get (D := D) (ci := 7) (v := .int o_wishes) (C := RX7) (T := TX7) (N := 43) hx hb hts in_X7 hown hK hP 0 rfl rfl 4 (by decide) fl_185 (fun _ h9 => h9) rfl dX7_compare_94 ?_
        refine lv_iconst (v := 1) hx hb dX7_compare_97 (by decide) ?_
        refine lv_isub hx hb dX7_compare_98 ?_
        refine lv_istore (lv' := [(4, .int (o_wishes - (1 : Int32))), (3, .int s0), (0, .ref a_o), (1, .long x1)]) hx hb dX7_compare_99 hl (by decide) rfl (fun ls hl => ?_)
        obtain ⟨n19, h⟩ := h
        refine l_101 x1 o_bestBy o_bestWorth o_isBest o_bestX _ ?_ n19 s0 (o_wishes - (1 : Int32)) h _ _ hP hD hS _ (lv_sub hl [2, 3, 1, 0] rfl)
        · intro x3_18 h H locs hP hD hS ls hl
          exact j_163_1 x1 x3_18 o_bestBy o_bestWorth o_isBest o_bestX h _ _ hP hD hS _ (lv_sub hl [0, 1, 2] rfl)
  refine ent [.ref a_o] (Nat.le_of_ble_eq_true rfl) (fun ls hl => ?_)
  have hl : lv_has ls 7 [(0, .ref a_o)] := hl
  unfold wp_X7_compare at h
  refine lv_lconst (v := 0) hx hb dX7_compare_0 (by decide) ?_
  refine lv_lstore_n (lv' := [(1, .long (0 : Int64)), (0, .ref a_o)]) hx hb dX7_compare_1 rfl hl (by decide) rfl (fun ls hl => ?_)
  refine lv_iconst (v := 0) hx hb dX7_compare_2 (by decide) ?_
  refine lv_istore_n (lv' := [(3, .int (0 : Int32)), (1, .long (0 : Int64)), (0, .ref a_o)]) hx hb dX7_compare_3 rfl hl (by decide) rfl (fun ls hl => ?_)
  obtain ⟨n21, h⟩ := h
  refine l_4 o_bestBy o_bestWorth o_isBest o_bestX _ ?_ n21 (0 : Int64) (0 : Int32) h _ _ hP hD hS _ (lv_sub hl [2, 1, 0] rfl)
  · intro x1_4 h H locs hP hD hS ls hl
    refine lv_aload_n hx hb dX7_compare_35 rfl (lv_at hl 0 rfl) ?_
    refine va_get (D := D) (ci := 7) (v := .int o_isBest) (C := RX7) (T := TX7) (N := 43) hx hb hts in_X7 hown hK hP 0 rfl rfl 35 (by decide) fl_207 (fun _ h9 => h9) rfl dX7_compare_36 ?_
    refine lv_if_eq (tgt := 61) hx hb dX7_compare_39 (by decide) (fun c5 => ?_) (fun c5 => ?_)
    · have h := h.1 c5
      refine lv_iconst (v := 1) hx hb dX7_compare_61 (by decide) ?_
      refine lv_goto (tgt := 66) hx hb dX7_compare_62 (by decide) ?_
      exact j_66_0 x1_4 (1 : Int32) o_bestBy o_bestWorth o_isBest o_bestX h _ _ hP hD hS _ (lv_sub hl [0, 1] rfl)
    · have h := h.2 c5
      refine lv_lload_n hx hb dX7_compare_42 rfl (lv_at hl 1 rfl) ?_
      refine lv_aload_n hx hb dX7_compare_43 rfl (lv_at hl 0 rfl) ?_
      refine va_get (D := D) (ci := 7) (v := .long o_bestBy) (C := RX7) (T := TX7) (N := 43) hx hb hts in_X7 hown hK hP 0 rfl rfl 33 (by decide) fl_211 (fun _ h9 => h9) rfl dX7_compare_44 ?_
      refine lv_lmul hx hb dX7_compare_47 ?_
      refine lv_aload_n hx hb dX7_compare_48 rfl (lv_at hl 0 rfl) ?_
      refine va_get (D := D) (ci := 7) (v := .long o_bestWorth) (C := RX7) (T := TX7) (N := 43) hx hb hts in_X7 hown hK hP 0 rfl rfl 34 (by decide) fl_214 (fun _ h9 => h9) rfl dX7_compare_49 ?_
      refine lv_aload_n hx hb dX7_compare_52 rfl (lv_at hl 0 rfl) ?_
      refine va_get (D := D) (ci := 7) (v := .long o_by) (C := RX7) (T := TX7) (N := 43) hx hb hts in_X7 hown hK hP 0 rfl rfl 31 (by decide) fl_203 (fun _ h9 => h9) rfl dX7_compare_53 ?_
      refine lv_lmul hx hb dX7_compare_56 ?_
      refine W.lcmp hx hb dX7_compare_57 ?_
      refine lv_if_le (tgt := 65) hx hb dX7_compare_58 (by decide) (fun c20 => ?_) (fun c20 => ?_)
      · have h := h.1 (lc_le.mp c20)
        refine lv_iconst (v := 0) hx hb dX7_compare_65 (by decide) ?_
        exact j_66_0 x1_4 (0 : Int32) o_bestBy o_bestWorth o_isBest o_bestX h _ _ hP hD hS _ (lv_sub hl [0, 1] rfl)
      · have h := h.2 (fun z => c20 (lc_le.mpr z))
        refine lv_iconst (v := 1) hx hb dX7_compare_61 (by decide) ?_
        refine lv_goto (tgt := 66) hx hb dX7_compare_62 (by decide) ?_
        exact j_66_0 x1_4 (1 : Int32) o_bestBy o_bestWorth o_isBest o_bestX h _ _ hP hD hS _ (lv_sub hl [0, 1] rfl)
abbrev w_X7_put (cy : Nat → ClassId) (a_o a_o_text a_o_letter a_o_least a_o_carries a_o_gateOff a_o_worth a_o_kind a_o_most a_o_wishOff a_o_use a_o_toldUp a_o_toldDown a_o_priceUp a_o_priceDown a_o_draftGate a_o_draftCarries a_o_draftWorth a_o_draftKind a_o_draftMost a_o_draftUse a_o_x a_o_bestX a_o_part a_o_row a_o_right a_o_m a_o_given a_o_wasOff : Nat) (o_trace : Int64) (o_typed : Int32) (o_gates : Int32) (o_wishes : Int32) (o_at : Int32) (o_start : Int32) (o_sort : Int32) (o_value : Int32) (o_fault : Int32) (o_drafted : Int32) (o_by : Int64) (o_bestBy : Int64) (o_bestWorth : Int64) (o_isBest : Int32) (o_parts : Int32) (o_carries : Nat → Int32) (o_most : Nat → Int32) (o_use : Nat → Int32) (o_part : Nat → Int32) (o_row : Nat → Int64) (o_right : Nat → Int64) (o_given : Nat → Int64) : va_W := [(a_o, .inr (7, [.long o_trace, .ref a_o_text, .int o_typed, .int o_gates, .int o_wishes, .ref a_o_letter, .ref a_o_least, .ref a_o_carries, .ref a_o_gateOff, .ref a_o_worth, .ref a_o_kind, .ref a_o_most, .ref a_o_wishOff, .ref a_o_use, .ref a_o_toldUp, .ref a_o_toldDown, .ref a_o_priceUp, .ref a_o_priceDown, .int o_at, .int o_start, .int o_sort, .int o_value, .int o_fault, .ref a_o_draftGate, .ref a_o_draftCarries, .ref a_o_draftWorth, .ref a_o_draftKind, .ref a_o_draftMost, .ref a_o_draftUse, .int o_drafted, .ref a_o_x, .long o_by, .ref a_o_bestX, .long o_bestBy, .long o_bestWorth, .int o_isBest, .ref a_o_part, .int o_parts, .ref a_o_row, .ref a_o_right, .ref a_o_m, .ref a_o_given, .ref a_o_wasOff])), (a_o_carries, .inl (cy 1, 5, .inl o_carries)), (a_o_most, .inl (cy 1, 4, .inl o_most)), (a_o_use, .inl (cy 1, 20, .inl o_use)), (a_o_part, .inl (cy 1, 4, .inl o_part)), (a_o_row, .inl (cy 2, 16, .inr (.inl o_row))), (a_o_right, .inl (cy 2, 4, .inr (.inl o_right))), (a_o_given, .inl (cy 2, 4, .inr (.inl o_given)))]
set_option maxHeartbeats 4000000 in
set_option maxRecDepth 100000 in
theorem c_X7_put (l : Launch) (D : va_G) (cy : Nat → ClassId) (a_o a_o_text a_o_letter a_o_least a_o_carries a_o_gateOff a_o_worth a_o_kind a_o_most a_o_wishOff a_o_use a_o_toldUp a_o_toldDown a_o_priceUp a_o_priceDown a_o_draftGate a_o_draftCarries a_o_draftWorth a_o_draftKind a_o_draftMost a_o_draftUse a_o_x a_o_bestX a_o_part a_o_row a_o_right a_o_m a_o_given a_o_wasOff : Nat) (sz : Nat)  {o_trace : Int64} {o_typed : Int32} {o_gates : Int32} {o_wishes : Int32} {o_at : Int32} {o_start : Int32} {o_sort : Int32} {o_value : Int32} {o_fault : Int32} {o_drafted : Int32} {o_by : Int64} {o_bestBy : Int64} {o_bestWorth : Int64} {o_isBest : Int32} {o_parts : Int32} {o_carries : Nat → Int32} {o_most : Nat → Int32} {o_use : Nat → Int32} {o_part : Nat → Int32} {o_row : Nat → Int64} {o_right : Nat → Int64} {o_given : Nat → Int64} {x1 : Int32} {x2 : Int32} {post : (Nat → Int64) → (Nat → Int64) → Prop} (h : wp_X7_put o_gates o_wishes o_parts o_carries o_most o_use o_part o_row o_right o_given x1 x2 post) : Met l yX7_put wsX7_put ({ frames := 0, cells := 0, slots := 0, locals := 0 }) (va_Pc [.ref a_o, .int x1, .int x2] (wI D cy sz (w_X7_put cy a_o a_o_text a_o_letter a_o_least a_o_carries a_o_gateOff a_o_worth a_o_kind a_o_most a_o_wishOff a_o_use a_o_toldUp a_o_toldDown a_o_priceUp a_o_priceDown a_o_draftGate a_o_draftCarries a_o_draftWorth a_o_draftKind a_o_draftMost a_o_draftUse a_o_x a_o_bestX a_o_part a_o_row a_o_right a_o_m a_o_given a_o_wasOff o_trace o_typed o_gates o_wishes o_at o_start o_sort o_value o_fault o_drafted o_by o_bestBy o_bestWorth o_isBest o_parts o_carries o_most o_use o_part o_row o_right o_given))) (va_Qv (fun (u : (Nat → Int64) × (Nat → Int64)) => post u.1 u.2) (fun (u : (Nat → Int64) × (Nat → Int64)) t => wO D cy (va_A (w_X7_put cy a_o a_o_text a_o_letter a_o_least a_o_carries a_o_gateOff a_o_worth a_o_kind a_o_most a_o_wishOff a_o_use a_o_toldUp a_o_toldDown a_o_priceUp a_o_priceDown a_o_draftGate a_o_draftCarries a_o_draftWorth a_o_draftKind a_o_draftMost a_o_draftUse a_o_x a_o_bestX a_o_part a_o_row a_o_right a_o_m a_o_given a_o_wasOff o_trace o_typed o_gates o_wishes o_at o_start o_sort o_value o_fault o_drafted o_by o_bestBy o_bestWorth o_isBest o_parts o_carries o_most o_use o_part o_row o_right o_given) sz) (w_X7_put cy a_o a_o_text a_o_letter a_o_least a_o_carries a_o_gateOff a_o_worth a_o_kind a_o_most a_o_wishOff a_o_use a_o_toldUp a_o_toldDown a_o_priceUp a_o_priceDown a_o_draftGate a_o_draftCarries a_o_draftWorth a_o_draftKind a_o_draftMost a_o_draftUse a_o_x a_o_bestX a_o_part a_o_row a_o_right a_o_m a_o_given a_o_wasOff o_trace o_typed o_gates o_wishes o_at o_start o_sort o_value o_fault o_drafted o_by o_bestBy o_bestWorth o_isBest o_parts o_carries o_most o_use o_part u.1 u.2 o_given) t) (va_A (w_X7_put cy a_o a_o_text a_o_letter a_o_least a_o_carries a_o_gateOff a_o_worth a_o_kind a_o_most a_o_wishOff a_o_use a_o_toldUp a_o_toldDown a_o_priceUp a_o_priceDown a_o_draftGate a_o_draftCarries a_o_draftWorth a_o_draftKind a_o_draftMost a_o_draftUse a_o_x a_o_bestX a_o_part a_o_row a_o_right a_o_m a_o_given a_o_wasOff o_trace o_typed o_gates o_wishes o_at o_start o_sort o_value o_fault o_drafted o_by o_bestBy o_bestWorth o_isBest o_parts o_carries o_most o_use o_part o_row o_right o_given) sz)) 0 0 (va_A (w_X7_put cy a_o a_o_text a_o_letter a_o_least a_o_carries a_o_gateOff a_o_worth a_o_kind a_o_most a_o_wishOff a_o_use a_o_toldUp a_o_toldDown a_o_priceUp a_o_priceDown a_o_draftGate a_o_draftCarries a_o_draftWorth a_o_draftKind a_o_draftMost a_o_draftUse a_o_x a_o_bestX a_o_part a_o_row a_o_right a_o_m a_o_given a_o_wasOff o_trace o_typed o_gates o_wishes o_at o_start o_sort o_value o_fault o_drafted o_by o_bestBy o_bestWorth o_isBest o_parts o_carries o_most o_use o_part o_row o_right o_given) sz) := by
  refine contrV (S := (Nat → Int64) × (Nat → Int64)) (post := fun (u : (Nat → Int64) × (Nat → Int64)) => post u.1 u.2) (wOut := fun (u : (Nat → Int64) × (Nat → Int64)) => (w_X7_put cy a_o a_o_text a_o_letter a_o_least a_o_carries a_o_gateOff a_o_worth a_o_kind a_o_most a_o_wishOff a_o_use a_o_toldUp a_o_toldDown a_o_priceUp a_o_priceDown a_o_draftGate a_o_draftCarries a_o_draftWorth a_o_draftKind a_o_draftMost a_o_draftUse a_o_x a_o_bestX a_o_part a_o_row a_o_right a_o_m a_o_given a_o_wasOff o_trace o_typed o_gates o_wishes o_at o_start o_sort o_value o_fault o_drafted o_by o_bestBy o_bestWorth o_isBest o_parts o_carries o_most o_use o_part u.1 u.2 o_given)) (cc := cX7_put) (maxL := 5) (own := RX7) (by decide +kernel) rfl rfl ?_
  intro p e s m args below meth c A Q hx hb hml hown hts hK hN hP hD hS hA hret
  have in_X7 : ∀ w ∈ u_ws RX7 TX7 43, w ∈ wsX7_put := by decide +kernel
  have fl_182 := hts (.fieldLink RX7 182 "DawnTableModel" "gates" "I") (by decide +kernel)
  have fl_85 := hts (.fieldLink RX7 85 "DawnTableModel" "right" "[J") (by decide +kernel)
  have fl_33 := hts (.fieldLink RX7 33 "DawnTableModel" "most" "[I") (by decide +kernel)
  have fl_79 := hts (.fieldLink RX7 79 "DawnTableModel" "part" "[I") (by decide +kernel)
  have fl_217 := hts (.fieldLink RX7 217 "DawnTableModel" "parts" "I") (by decide +kernel)
  have fl_82 := hts (.fieldLink RX7 82 "DawnTableModel" "row" "[J") (by decide +kernel)
  have fl_20 := hts (.fieldLink RX7 20 "DawnTableModel" "carries" "[I") (by decide +kernel)
  have fl_185 := hts (.fieldLink RX7 185 "DawnTableModel" "wishes" "I") (by decide +kernel)
  have fl_39 := hts (.fieldLink RX7 39 "DawnTableModel" "use" "[I") (by decide +kernel)
  have fl_91 := hts (.fieldLink RX7 91 "DawnTableModel" "given" "[J") (by decide +kernel)
  have j_184_1 : ∀ (x1 : Int32) (x3 : Int32) (x4 : Int32) (s1 : Int32) (s2 : Int64) (o_row : Nat → Int64) (o_right : Nat → Int64), ∀ (kb : Int32 → (Nat → Int64) → Prop), (∀ (x4 : Int32) (o_row : Nat → Int64), kb x4 o_row → ∀ (H : Heap) (locs : List Loc), va_P D vwCl (w_X7_put cy a_o a_o_text a_o_letter a_o_least a_o_carries a_o_gateOff a_o_worth a_o_kind a_o_most a_o_wishOff a_o_use a_o_toldUp a_o_toldDown a_o_priceUp a_o_priceDown a_o_draftGate a_o_draftCarries a_o_draftWorth a_o_draftKind a_o_draftMost a_o_draftUse a_o_x a_o_bestX a_o_part a_o_row a_o_right a_o_m a_o_given a_o_wasOff o_trace o_typed o_gates o_wishes o_at o_start o_sort o_value o_fault o_drafted o_by o_bestBy o_bestWorth o_isBest o_parts o_carries o_most o_use o_part o_row o_right o_given) H → va_D A (w_X7_put cy a_o a_o_text a_o_letter a_o_least a_o_carries a_o_gateOff a_o_worth a_o_kind a_o_most a_o_wishOff a_o_use a_o_toldUp a_o_toldDown a_o_priceUp a_o_priceDown a_o_draftGate a_o_draftCarries a_o_draftWorth a_o_draftKind a_o_draftMost a_o_draftUse a_o_x a_o_bestX a_o_part a_o_row a_o_right a_o_m a_o_given a_o_wasOff o_trace o_typed o_gates o_wishes o_at o_start o_sort o_value o_fault o_drafted o_by o_bestBy o_bestWorth o_isBest o_parts o_carries o_most o_use o_part o_row o_right o_given) → va_S A s.heap H locs → ∀ (ls : Array Slot), lv_has ls 5 [(0, .ref a_o), (1, .int x1), (3, .int x3), (4, .int x4)] → W p l e ({ frames := 0, cells := 0, slots := 0, locals := 0 }) s m args below meth c H locs 0 0 Q (F0 m 154 ls [])) → ∀ (kx0 : (Nat → Int64) → Prop), (∀ (o_row : Nat → Int64), kx0 o_row → ∀ (H : Heap) (locs : List Loc), va_P D vwCl (w_X7_put cy a_o a_o_text a_o_letter a_o_least a_o_carries a_o_gateOff a_o_worth a_o_kind a_o_most a_o_wishOff a_o_use a_o_toldUp a_o_toldDown a_o_priceUp a_o_priceDown a_o_draftGate a_o_draftCarries a_o_draftWorth a_o_draftKind a_o_draftMost a_o_draftUse a_o_x a_o_bestX a_o_part a_o_row a_o_right a_o_m a_o_given a_o_wasOff o_trace o_typed o_gates o_wishes o_at o_start o_sort o_value o_fault o_drafted o_by o_bestBy o_bestWorth o_isBest o_parts o_carries o_most o_use o_part o_row o_right o_given) H → va_D A (w_X7_put cy a_o a_o_text a_o_letter a_o_least a_o_carries a_o_gateOff a_o_worth a_o_kind a_o_most a_o_wishOff a_o_use a_o_toldUp a_o_toldDown a_o_priceUp a_o_priceDown a_o_draftGate a_o_draftCarries a_o_draftWorth a_o_draftKind a_o_draftMost a_o_draftUse a_o_x a_o_bestX a_o_part a_o_row a_o_right a_o_m a_o_given a_o_wasOff o_trace o_typed o_gates o_wishes o_at o_start o_sort o_value o_fault o_drafted o_by o_bestBy o_bestWorth o_isBest o_parts o_carries o_most o_use o_part o_row o_right o_given) → va_S A s.heap H locs → ∀ (ls : Array Slot), lv_has ls 5 [] → W p l e ({ frames := 0, cells := 0, slots := 0, locals := 0 }) s m args below meth c H locs 0 0 Q (F0 m 191 ls [])) → wj_X7_put_184  x1 x3 x4 s1 s2 o_gates o_wishes o_parts o_carries o_most o_use o_part o_row o_right o_given kb kx0 post → ∀ (H : Heap) (locs : List Loc), va_P D vwCl (w_X7_put cy a_o a_o_text a_o_letter a_o_least a_o_carries a_o_gateOff a_o_worth a_o_kind a_o_most a_o_wishOff a_o_use a_o_toldUp a_o_toldDown a_o_priceUp a_o_priceDown a_o_draftGate a_o_draftCarries a_o_draftWorth a_o_draftKind a_o_draftMost a_o_draftUse a_o_x a_o_bestX a_o_part a_o_row a_o_right a_o_m a_o_given a_o_wasOff o_trace o_typed o_gates o_wishes o_at o_start o_sort o_value o_fault o_drafted o_by o_bestBy o_bestWorth o_isBest o_parts o_carries o_most o_use o_part o_row o_right o_given) H → va_D A (w_X7_put cy a_o a_o_text a_o_letter a_o_least a_o_carries a_o_gateOff a_o_worth a_o_kind a_o_most a_o_wishOff a_o_use a_o_toldUp a_o_toldDown a_o_priceUp a_o_priceDown a_o_draftGate a_o_draftCarries a_o_draftWorth a_o_draftKind a_o_draftMost a_o_draftUse a_o_x a_o_bestX a_o_part a_o_row a_o_right a_o_m a_o_given a_o_wasOff o_trace o_typed o_gates o_wishes o_at o_start o_sort o_value o_fault o_drafted o_by o_bestBy o_bestWorth o_isBest o_parts o_carries o_most o_use o_part o_row o_right o_given) → va_S A s.heap H locs → ∀ (ls : Array Slot), lv_has ls 5 [(0, .ref a_o), (1, .int x1), (3, .int x3), (4, .int x4)] → W p l e ({ frames := 0, cells := 0, slots := 0, locals := 0 }) s m args below meth c H locs 0 0 Q (F0 m 184 ls [.long s2, .int s1, .ref a_o_row]) := by
    intro x1 x3 x4 s1 s2 o_row o_right kb hkb kx0 hkx0  h H locs hP hD hS ls hl
    unfold wj_X7_put_184 at h
    obtain ⟨i8, h⟩ := h
    refine va_last hx hb hK hP hD hS 5 2 rfl rfl i8 dX7_put_184 (fun H locs hP hD hS => ?_)
    have hP : va_P D vwCl (w_X7_put cy a_o a_o_text a_o_letter a_o_least a_o_carries a_o_gateOff a_o_worth a_o_kind a_o_most a_o_wishOff a_o_use a_o_toldUp a_o_toldDown a_o_priceUp a_o_priceDown a_o_draftGate a_o_draftCarries a_o_draftWorth a_o_draftKind a_o_draftMost a_o_draftUse a_o_x a_o_bestX a_o_part a_o_row a_o_right a_o_m a_o_given a_o_wasOff o_trace o_typed o_gates o_wishes o_at o_start o_sort o_value o_fault o_drafted o_by o_bestBy o_bestWorth o_isBest o_parts o_carries o_most o_use o_part (vp_updL o_row (s1).toNatClampNeg s2) o_right o_given) H := hP
    have hD : va_D A (w_X7_put cy a_o a_o_text a_o_letter a_o_least a_o_carries a_o_gateOff a_o_worth a_o_kind a_o_most a_o_wishOff a_o_use a_o_toldUp a_o_toldDown a_o_priceUp a_o_priceDown a_o_draftGate a_o_draftCarries a_o_draftWorth a_o_draftKind a_o_draftMost a_o_draftUse a_o_x a_o_bestX a_o_part a_o_row a_o_right a_o_m a_o_given a_o_wasOff o_trace o_typed o_gates o_wishes o_at o_start o_sort o_value o_fault o_drafted o_by o_bestBy o_bestWorth o_isBest o_parts o_carries o_most o_use o_part (vp_updL o_row (s1).toNatClampNeg s2) o_right o_given) := hD
    refine lv_iinc (v := (x4 + (1 : Int32))) (lv' := [(4, .int (x4 + (1 : Int32))), (0, .ref a_o), (1, .int x1), (3, .int x3)]) hx hb dX7_put_185 hl (k := 3) rfl (congrArg (fun z => x4 + z) (by decide : Int32.ofInt (1) = (1 : Int32))) (by decide) rfl (fun ls hl => ?_)
    refine lv_goto (tgt := 154) hx hb dX7_put_188 (by decide) ?_
    exact hkb (x4 + (1 : Int32)) (vp_updL o_row (s1).toNatClampNeg s2) h _ _ hP hD hS _ (lv_sub hl [1, 2, 3, 0] rfl)
  have l_154 : ∀ (x1 : Int32) (x3 : Int32) (o_right : Nat → Int64), ∀ (kx0 : (Nat → Int64) → Prop), (∀ (o_row : Nat → Int64), kx0 o_row → ∀ (H : Heap) (locs : List Loc), va_P D vwCl (w_X7_put cy a_o a_o_text a_o_letter a_o_least a_o_carries a_o_gateOff a_o_worth a_o_kind a_o_most a_o_wishOff a_o_use a_o_toldUp a_o_toldDown a_o_priceUp a_o_priceDown a_o_draftGate a_o_draftCarries a_o_draftWorth a_o_draftKind a_o_draftMost a_o_draftUse a_o_x a_o_bestX a_o_part a_o_row a_o_right a_o_m a_o_given a_o_wasOff o_trace o_typed o_gates o_wishes o_at o_start o_sort o_value o_fault o_drafted o_by o_bestBy o_bestWorth o_isBest o_parts o_carries o_most o_use o_part o_row o_right o_given) H → va_D A (w_X7_put cy a_o a_o_text a_o_letter a_o_least a_o_carries a_o_gateOff a_o_worth a_o_kind a_o_most a_o_wishOff a_o_use a_o_toldUp a_o_toldDown a_o_priceUp a_o_priceDown a_o_draftGate a_o_draftCarries a_o_draftWorth a_o_draftKind a_o_draftMost a_o_draftUse a_o_x a_o_bestX a_o_part a_o_row a_o_right a_o_m a_o_given a_o_wasOff o_trace o_typed o_gates o_wishes o_at o_start o_sort o_value o_fault o_drafted o_by o_bestBy o_bestWorth o_isBest o_parts o_carries o_most o_use o_part o_row o_right o_given) → va_S A s.heap H locs → ∀ (ls : Array Slot), lv_has ls 5 [] → W p l e ({ frames := 0, cells := 0, slots := 0, locals := 0 }) s m args below meth c H locs 0 0 Q (F0 m 191 ls [])) → ∀ (n : Nat) (x4 : Int32) (o_row : Nat → Int64), wl_X7_put_154 x1 x3 o_gates o_wishes o_parts o_carries o_most o_use o_part o_right o_given kx0 post n x4 o_row → ∀ (H : Heap) (locs : List Loc), va_P D vwCl (w_X7_put cy a_o a_o_text a_o_letter a_o_least a_o_carries a_o_gateOff a_o_worth a_o_kind a_o_most a_o_wishOff a_o_use a_o_toldUp a_o_toldDown a_o_priceUp a_o_priceDown a_o_draftGate a_o_draftCarries a_o_draftWorth a_o_draftKind a_o_draftMost a_o_draftUse a_o_x a_o_bestX a_o_part a_o_row a_o_right a_o_m a_o_given a_o_wasOff o_trace o_typed o_gates o_wishes o_at o_start o_sort o_value o_fault o_drafted o_by o_bestBy o_bestWorth o_isBest o_parts o_carries o_most o_use o_part o_row o_right o_given) H → va_D A (w_X7_put cy a_o a_o_text a_o_letter a_o_least a_o_carries a_o_gateOff a_o_worth a_o_kind a_o_most a_o_wishOff a_o_use a_o_toldUp a_o_toldDown a_o_priceUp a_o_priceDown a_o_draftGate a_o_draftCarries a_o_draftWorth a_o_draftKind a_o_draftMost a_o_draftUse a_o_x a_o_bestX a_o_part a_o_row a_o_right a_o_m a_o_given a_o_wasOff o_trace o_typed o_gates o_wishes o_at o_start o_sort o_value o_fault o_drafted o_by o_bestBy o_bestWorth o_isBest o_parts o_carries o_most o_use o_part o_row o_right o_given) → va_S A s.heap H locs → ∀ (ls : Array Slot), lv_has ls 5 [(0, .ref a_o), (1, .int x1), (3, .int x3), (4, .int x4)] → W p l e ({ frames := 0, cells := 0, slots := 0, locals := 0 }) s m args below meth c H locs 0 0 Q (F0 m 154 ls []) := by
    intro x1 x3 o_right kx0 hkx0  n
    induction n with
    | zero => intro x4 o_row h; exact h.elim
    | succ n hkb =>
      intro x4 o_row h H locs hP hD hS ls hl
      replace h : ws_X7_put_154 x1 x3 o_gates o_wishes o_parts o_carries o_most o_use o_part o_right o_given (wl_X7_put_154 x1 x3 o_gates o_wishes o_parts o_carries o_most o_use o_part o_right o_given kx0 post n) kx0 post x4 o_row := h
      generalize wl_X7_put_154 x1 x3 o_gates o_wishes o_parts o_carries o_most o_use o_part o_right o_given kx0 post n = kb at h hkb
      unfold ws_X7_put_154 at h
      refine lv_iload hx hb dX7_put_154 (lv_at hl 3 rfl) ?_
      refine lv_aload_n hx hb dX7_put_156 rfl (lv_at hl 0 rfl) ?_
      refine va_get (D := D) (ci := 7) (v := .int o_parts) (C := RX7) (T := TX7) (N := 43) hx hb hts in_X7 hown hK hP 0 rfl rfl 37 (by decide) fl_217 (fun _ h9 => h9) rfl dX7_put_157 ?_
      refine lv_icmp_ge (tgt := 191) hx hb dX7_put_160 (by decide) (fun c6 => ?_) (fun c6 => ?_)
      · have h := h.1 c6
        exact hkx0 o_row h _ _ hP hD hS _ (lv_sub hl [] rfl)
      · have h := h.2 c6
        refine lv_aload_n hx hb dX7_put_163 rfl (lv_at hl 0 rfl) ?_
        refine va_get (D := D) (ci := 7) (v := .ref a_o_row) (C := RX7) (T := TX7) (N := 43) hx hb hts in_X7 hown hK hP 0 rfl rfl 38 (by decide) fl_82 (fun _ h9 => h9) rfl dX7_put_164 ?_
        refine lv_iconst (v := 4) hx hb dX7_put_167 (by decide) ?_
        refine lv_iload_n hx hb dX7_put_168 rfl (lv_at hl 1 rfl) ?_
        refine lv_imul hx hb dX7_put_169 ?_
        refine lv_iload hx hb dX7_put_170 (lv_at hl 3 rfl) ?_
        refine lv_iadd hx hb dX7_put_172 ?_
        refine lv_iload hx hb dX7_put_173 (lv_at hl 3 rfl) ?_
        refine lv_iload_n hx hb dX7_put_175 rfl (lv_at hl 2 rfl) ?_
        refine lv_icmp_ne (tgt := 183) hx hb dX7_put_176 (by decide) (fun c7 => ?_) (fun c7 => ?_)
        · have h := h.2 c7
          refine lv_lconst (v := 0) hx hb dX7_put_183 (by decide) ?_
          exact j_184_1 x1 x3 x4 (((4 : Int32) * x1) + x4) (0 : Int64) o_row o_right kb hkb kx0 hkx0 h _ _ hP hD hS _ (lv_sub hl [0, 1, 2, 3] rfl)
        · have h := h.1 c7
          refine lv_lconst (v := 1) hx hb dX7_put_179 (by decide) ?_
          refine lv_goto (tgt := 184) hx hb dX7_put_180 (by decide) ?_
          exact j_184_1 x1 x3 x4 (((4 : Int32) * x1) + x4) (1 : Int64) o_row o_right kb hkb kx0 hkx0 h _ _ hP hD hS _ (lv_sub hl [0, 1, 2, 3] rfl)
  have j_150_0 : ∀ (x1 : Int32) (x3 : Int32) (s1 : Int32) (s2 : Int64) (o_row : Nat → Int64) (o_right : Nat → Int64), wj_X7_put_150  x1 x3 s1 s2 o_gates o_wishes o_parts o_carries o_most o_use o_part o_row o_right o_given  post → ∀ (H : Heap) (locs : List Loc), va_P D vwCl (w_X7_put cy a_o a_o_text a_o_letter a_o_least a_o_carries a_o_gateOff a_o_worth a_o_kind a_o_most a_o_wishOff a_o_use a_o_toldUp a_o_toldDown a_o_priceUp a_o_priceDown a_o_draftGate a_o_draftCarries a_o_draftWorth a_o_draftKind a_o_draftMost a_o_draftUse a_o_x a_o_bestX a_o_part a_o_row a_o_right a_o_m a_o_given a_o_wasOff o_trace o_typed o_gates o_wishes o_at o_start o_sort o_value o_fault o_drafted o_by o_bestBy o_bestWorth o_isBest o_parts o_carries o_most o_use o_part o_row o_right o_given) H → va_D A (w_X7_put cy a_o a_o_text a_o_letter a_o_least a_o_carries a_o_gateOff a_o_worth a_o_kind a_o_most a_o_wishOff a_o_use a_o_toldUp a_o_toldDown a_o_priceUp a_o_priceDown a_o_draftGate a_o_draftCarries a_o_draftWorth a_o_draftKind a_o_draftMost a_o_draftUse a_o_x a_o_bestX a_o_part a_o_row a_o_right a_o_m a_o_given a_o_wasOff o_trace o_typed o_gates o_wishes o_at o_start o_sort o_value o_fault o_drafted o_by o_bestBy o_bestWorth o_isBest o_parts o_carries o_most o_use o_part o_row o_right o_given) → va_S A s.heap H locs → ∀ (ls : Array Slot), lv_has ls 5 [(0, .ref a_o), (1, .int x1), (3, .int x3)] → W p l e ({ frames := 0, cells := 0, slots := 0, locals := 0 }) s m args below meth c H locs 0 0 Q (F0 m 150 ls [.long s2, .int s1, .ref a_o_right]) := by
    intro x1 x3 s1 s2 o_row o_right  h H locs hP hD hS ls hl
    unfold wj_X7_put_150 at h
    obtain ⟨i5, h⟩ := h
    refine va_last hx hb hK hP hD hS 6 2 rfl rfl i5 dX7_put_150 (fun H locs hP hD hS => ?_)
    have hP : va_P D vwCl (w_X7_put cy a_o a_o_text a_o_letter a_o_least a_o_carries a_o_gateOff a_o_worth a_o_kind a_o_most a_o_wishOff a_o_use a_o_toldUp a_o_toldDown a_o_priceUp a_o_priceDown a_o_draftGate a_o_draftCarries a_o_draftWorth a_o_draftKind a_o_draftMost a_o_draftUse a_o_x a_o_bestX a_o_part a_o_row a_o_right a_o_m a_o_given a_o_wasOff o_trace o_typed o_gates o_wishes o_at o_start o_sort o_value o_fault o_drafted o_by o_bestBy o_bestWorth o_isBest o_parts o_carries o_most o_use o_part o_row (vp_updL o_right (s1).toNatClampNeg s2) o_given) H := hP
    have hD : va_D A (w_X7_put cy a_o a_o_text a_o_letter a_o_least a_o_carries a_o_gateOff a_o_worth a_o_kind a_o_most a_o_wishOff a_o_use a_o_toldUp a_o_toldDown a_o_priceUp a_o_priceDown a_o_draftGate a_o_draftCarries a_o_draftWorth a_o_draftKind a_o_draftMost a_o_draftUse a_o_x a_o_bestX a_o_part a_o_row a_o_right a_o_m a_o_given a_o_wasOff o_trace o_typed o_gates o_wishes o_at o_start o_sort o_value o_fault o_drafted o_by o_bestBy o_bestWorth o_isBest o_parts o_carries o_most o_use o_part o_row (vp_updL o_right (s1).toNatClampNeg s2) o_given) := hD
    refine lv_iconst (v := 0) hx hb dX7_put_151 (by decide) ?_
    refine lv_istore (lv' := [(4, .int (0 : Int32)), (0, .ref a_o), (1, .int x1), (3, .int x3)]) hx hb dX7_put_152 hl (by decide) rfl (fun ls hl => ?_)
    obtain ⟨n10, h⟩ := h
    refine l_154 x1 x3 (vp_updL o_right (s1).toNatClampNeg s2) _ ?_ n10 (0 : Int32) o_row h _ _ hP hD hS _ (lv_sub hl [1, 2, 3, 0] rfl)
    · intro o_row_9 h H locs hP hD hS ls hl
      exact hret (o_row_9, (vp_updL o_right (s1).toNatClampNeg s2)) _ _ _ _ h hP hD hS dX7_put_191
  have l_23 : ∀ (x1 : Int32) (x2 : Int32) (o_row : Nat → Int64), ∀ (kx0 : (Nat → Int64) → Prop), (∀ (o_right : Nat → Int64), kx0 o_right → ∀ (H : Heap) (locs : List Loc), va_P D vwCl (w_X7_put cy a_o a_o_text a_o_letter a_o_least a_o_carries a_o_gateOff a_o_worth a_o_kind a_o_most a_o_wishOff a_o_use a_o_toldUp a_o_toldDown a_o_priceUp a_o_priceDown a_o_draftGate a_o_draftCarries a_o_draftWorth a_o_draftKind a_o_draftMost a_o_draftUse a_o_x a_o_bestX a_o_part a_o_row a_o_right a_o_m a_o_given a_o_wasOff o_trace o_typed o_gates o_wishes o_at o_start o_sort o_value o_fault o_drafted o_by o_bestBy o_bestWorth o_isBest o_parts o_carries o_most o_use o_part o_row o_right o_given) H → va_D A (w_X7_put cy a_o a_o_text a_o_letter a_o_least a_o_carries a_o_gateOff a_o_worth a_o_kind a_o_most a_o_wishOff a_o_use a_o_toldUp a_o_toldDown a_o_priceUp a_o_priceDown a_o_draftGate a_o_draftCarries a_o_draftWorth a_o_draftKind a_o_draftMost a_o_draftUse a_o_x a_o_bestX a_o_part a_o_row a_o_right a_o_m a_o_given a_o_wasOff o_trace o_typed o_gates o_wishes o_at o_start o_sort o_value o_fault o_drafted o_by o_bestBy o_bestWorth o_isBest o_parts o_carries o_most o_use o_part o_row o_right o_given) → va_S A s.heap H locs → ∀ (ls : Array Slot), lv_has ls 5 [(0, .ref a_o), (1, .int x1), (2, .int x2)] → W p l e ({ frames := 0, cells := 0, slots := 0, locals := 0 }) s m args below meth c H locs 0 0 Q (F0 m 64 ls [])) → ∀ (n : Nat) (x3 : Int32) (o_right : Nat → Int64), wl_X7_put_23 x1 x2 o_gates o_wishes o_parts o_carries o_most o_use o_part o_row o_given kx0 post n x3 o_right → ∀ (H : Heap) (locs : List Loc), va_P D vwCl (w_X7_put cy a_o a_o_text a_o_letter a_o_least a_o_carries a_o_gateOff a_o_worth a_o_kind a_o_most a_o_wishOff a_o_use a_o_toldUp a_o_toldDown a_o_priceUp a_o_priceDown a_o_draftGate a_o_draftCarries a_o_draftWorth a_o_draftKind a_o_draftMost a_o_draftUse a_o_x a_o_bestX a_o_part a_o_row a_o_right a_o_m a_o_given a_o_wasOff o_trace o_typed o_gates o_wishes o_at o_start o_sort o_value o_fault o_drafted o_by o_bestBy o_bestWorth o_isBest o_parts o_carries o_most o_use o_part o_row o_right o_given) H → va_D A (w_X7_put cy a_o a_o_text a_o_letter a_o_least a_o_carries a_o_gateOff a_o_worth a_o_kind a_o_most a_o_wishOff a_o_use a_o_toldUp a_o_toldDown a_o_priceUp a_o_priceDown a_o_draftGate a_o_draftCarries a_o_draftWorth a_o_draftKind a_o_draftMost a_o_draftUse a_o_x a_o_bestX a_o_part a_o_row a_o_right a_o_m a_o_given a_o_wasOff o_trace o_typed o_gates o_wishes o_at o_start o_sort o_value o_fault o_drafted o_by o_bestBy o_bestWorth o_isBest o_parts o_carries o_most o_use o_part o_row o_right o_given) → va_S A s.heap H locs → ∀ (ls : Array Slot), lv_has ls 5 [(0, .ref a_o), (1, .int x1), (2, .int x2), (3, .int x3)] → W p l e ({ frames := 0, cells := 0, slots := 0, locals := 0 }) s m args below meth c H locs 0 0 Q (F0 m 23 ls []) := by
    intro x1 x2 o_row kx0 hkx0  n
    induction n with
    | zero => intro x3 o_right h; exact h.elim
    | succ n hkb =>
      intro x3 o_right h H locs hP hD hS ls hl
      replace h : ws_X7_put_23 x1 x2 o_gates o_wishes o_parts o_carries o_most o_use o_part o_row o_given (wl_X7_put_23 x1 x2 o_gates o_wishes o_parts o_carries o_most o_use o_part o_row o_given kx0 post n) kx0 post x3 o_right := h
      generalize wl_X7_put_23 x1 x2 o_gates o_wishes o_parts o_carries o_most o_use o_part o_row o_given kx0 post n = kb at h hkb
      unfold ws_X7_put_23 at h
      refine lv_iload_n hx hb dX7_put_23 rfl (lv_at hl 3 rfl) ?_
      refine lv_aload_n hx hb dX7_put_24 rfl (lv_at hl 0 rfl) ?_
      refine va_get (D := D) (ci := 7) (v := .int o_wishes) (C := RX7) (T := TX7) (N := 43) hx hb hts in_X7 hown hK hP 0 rfl rfl 4 (by decide) fl_185 (fun _ h9 => h9) rfl dX7_put_25 ?_
      refine lv_icmp_ge (tgt := 64) hx hb dX7_put_28 (by decide) (fun c13 => ?_) (fun c13 => ?_)
      · have h := h.1 c13
        exact hkx0 o_right h _ _ hP hD hS _ (lv_sub hl [0, 1, 2] rfl)
      · have h := h.2 c13
        refine lv_aload_n hx hb dX7_put_31 rfl (lv_at hl 0 rfl) ?_
        refine va_get (D := D) (ci := 7) (v := .ref a_o_right) (C := RX7) (T := TX7) (N := 43) hx hb hts in_X7 hown hK hP 0 rfl rfl 39 (by decide) fl_85 (fun _ h9 => h9) rfl dX7_put_32 ?_
        refine lv_iload_n hx hb dX7_put_35 rfl (lv_at hl 1 rfl) ?_
        refine lv_dup2_11 hx hb dX7_put_36 rfl rfl ?_
        obtain ⟨i14, h⟩ := h
        refine va_lald hx hb hK hP 6 2 rfl rfl i14 dX7_put_37 ?_
        refine lv_aload_n hx hb dX7_put_38 rfl (lv_at hl 0 rfl) ?_
        refine va_get (D := D) (ci := 7) (v := .ref a_o_use) (C := RX7) (T := TX7) (N := 43) hx hb hts in_X7 hown hK hP 0 rfl rfl 13 (by decide) fl_39 (fun _ h9 => h9) rfl dX7_put_39 ?_
        refine lv_iconst (v := 5) hx hb dX7_put_42 (by decide) ?_
        refine lv_iload_n hx hb dX7_put_43 rfl (lv_at hl 3 rfl) ?_
        refine lv_imul hx hb dX7_put_44 ?_
        refine lv_iload_n hx hb dX7_put_45 rfl (lv_at hl 2 rfl) ?_
        refine lv_iadd hx hb dX7_put_46 ?_
        obtain ⟨i15, h⟩ := h
        refine va_iald hx hb hK hP 3 1 rfl rfl i15 dX7_put_47 ?_
        refine lv_i2l hx hb dX7_put_48 rfl ?_
        refine lv_aload_n hx hb dX7_put_49 rfl (lv_at hl 0 rfl) ?_
        refine va_get (D := D) (ci := 7) (v := .ref a_o_given) (C := RX7) (T := TX7) (N := 43) hx hb hts in_X7 hown hK hP 0 rfl rfl 41 (by decide) fl_91 (fun _ h9 => h9) rfl dX7_put_50 ?_
        refine lv_iload_n hx hb dX7_put_53 rfl (lv_at hl 3 rfl) ?_
        obtain ⟨i16, h⟩ := h
        refine va_lald hx hb hK hP 7 2 rfl rfl i16 dX7_put_54 ?_
        refine lv_lmul hx hb dX7_put_55 ?_
        refine lv_lsub hx hb dX7_put_56 ?_
        refine lv_topl (fun v17 ev17 => ?_)
        have h := h v17 ev17
        refine va_last hx hb hK hP hD hS 6 2 rfl rfl i14 dX7_put_57 (fun H locs hP hD hS => ?_)
        have hP : va_P D vwCl (w_X7_put cy a_o a_o_text a_o_letter a_o_least a_o_carries a_o_gateOff a_o_worth a_o_kind a_o_most a_o_wishOff a_o_use a_o_toldUp a_o_toldDown a_o_priceUp a_o_priceDown a_o_draftGate a_o_draftCarries a_o_draftWorth a_o_draftKind a_o_draftMost a_o_draftUse a_o_x a_o_bestX a_o_part a_o_row a_o_right a_o_m a_o_given a_o_wasOff o_trace o_typed o_gates o_wishes o_at o_start o_sort o_value o_fault o_drafted o_by o_bestBy o_bestWorth o_isBest o_parts o_carries o_most o_use o_part o_row (vp_updL o_right (x1).toNatClampNeg v17) o_given) H := hP
        have hD : va_D A (w_X7_put cy a_o a_o_text a_o_letter a_o_least a_o_carries a_o_gateOff a_o_worth a_o_kind a_o_most a_o_wishOff a_o_use a_o_toldUp a_o_toldDown a_o_priceUp a_o_priceDown a_o_draftGate a_o_draftCarries a_o_draftWorth a_o_draftKind a_o_draftMost a_o_draftUse a_o_x a_o_bestX a_o_part a_o_row a_o_right a_o_m a_o_given a_o_wasOff o_trace o_typed o_gates o_wishes o_at o_start o_sort o_value o_fault o_drafted o_by o_bestBy o_bestWorth o_isBest o_parts o_carries o_most o_use o_part o_row (vp_updL o_right (x1).toNatClampNeg v17) o_given) := hD
        refine lv_iinc (v := (x3 + (1 : Int32))) (lv' := [(3, .int (x3 + (1 : Int32))), (0, .ref a_o), (1, .int x1), (2, .int x2)]) hx hb dX7_put_58 hl (k := 3) rfl (congrArg (fun z => x3 + z) (by decide : Int32.ofInt (1) = (1 : Int32))) (by decide) rfl (fun ls hl => ?_)
        refine lv_goto (tgt := 23) hx hb dX7_put_61 (by decide) ?_
        exact hkb (x3 + (1 : Int32)) (vp_updL o_right (x1).toNatClampNeg v17) h _ _ hP hD hS _ (lv_sub hl [1, 2, 3, 0] rfl)
  have l_66 : ∀ (x1 : Int32) (x2 : Int32) (o_right : Nat → Int64), ∀ (kx0 : (Nat → Int64) → Prop), (∀ (o_row : Nat → Int64), kx0 o_row → ∀ (H : Heap) (locs : List Loc), va_P D vwCl (w_X7_put cy a_o a_o_text a_o_letter a_o_least a_o_carries a_o_gateOff a_o_worth a_o_kind a_o_most a_o_wishOff a_o_use a_o_toldUp a_o_toldDown a_o_priceUp a_o_priceDown a_o_draftGate a_o_draftCarries a_o_draftWorth a_o_draftKind a_o_draftMost a_o_draftUse a_o_x a_o_bestX a_o_part a_o_row a_o_right a_o_m a_o_given a_o_wasOff o_trace o_typed o_gates o_wishes o_at o_start o_sort o_value o_fault o_drafted o_by o_bestBy o_bestWorth o_isBest o_parts o_carries o_most o_use o_part o_row o_right o_given) H → va_D A (w_X7_put cy a_o a_o_text a_o_letter a_o_least a_o_carries a_o_gateOff a_o_worth a_o_kind a_o_most a_o_wishOff a_o_use a_o_toldUp a_o_toldDown a_o_priceUp a_o_priceDown a_o_draftGate a_o_draftCarries a_o_draftWorth a_o_draftKind a_o_draftMost a_o_draftUse a_o_x a_o_bestX a_o_part a_o_row a_o_right a_o_m a_o_given a_o_wasOff o_trace o_typed o_gates o_wishes o_at o_start o_sort o_value o_fault o_drafted o_by o_bestBy o_bestWorth o_isBest o_parts o_carries o_most o_use o_part o_row o_right o_given) → va_S A s.heap H locs → ∀ (ls : Array Slot), lv_has ls 5 [] → W p l e ({ frames := 0, cells := 0, slots := 0, locals := 0 }) s m args below meth c H locs 0 0 Q (F0 m 191 ls [])) → ∀ (n : Nat) (x3 : Int32) (o_row : Nat → Int64), wl_X7_put_66 x1 x2 o_gates o_wishes o_parts o_carries o_most o_use o_part o_right o_given kx0 post n x3 o_row → ∀ (H : Heap) (locs : List Loc), va_P D vwCl (w_X7_put cy a_o a_o_text a_o_letter a_o_least a_o_carries a_o_gateOff a_o_worth a_o_kind a_o_most a_o_wishOff a_o_use a_o_toldUp a_o_toldDown a_o_priceUp a_o_priceDown a_o_draftGate a_o_draftCarries a_o_draftWorth a_o_draftKind a_o_draftMost a_o_draftUse a_o_x a_o_bestX a_o_part a_o_row a_o_right a_o_m a_o_given a_o_wasOff o_trace o_typed o_gates o_wishes o_at o_start o_sort o_value o_fault o_drafted o_by o_bestBy o_bestWorth o_isBest o_parts o_carries o_most o_use o_part o_row o_right o_given) H → va_D A (w_X7_put cy a_o a_o_text a_o_letter a_o_least a_o_carries a_o_gateOff a_o_worth a_o_kind a_o_most a_o_wishOff a_o_use a_o_toldUp a_o_toldDown a_o_priceUp a_o_priceDown a_o_draftGate a_o_draftCarries a_o_draftWorth a_o_draftKind a_o_draftMost a_o_draftUse a_o_x a_o_bestX a_o_part a_o_row a_o_right a_o_m a_o_given a_o_wasOff o_trace o_typed o_gates o_wishes o_at o_start o_sort o_value o_fault o_drafted o_by o_bestBy o_bestWorth o_isBest o_parts o_carries o_most o_use o_part o_row o_right o_given) → va_S A s.heap H locs → ∀ (ls : Array Slot), lv_has ls 5 [(0, .ref a_o), (1, .int x1), (2, .int x2), (3, .int x3)] → W p l e ({ frames := 0, cells := 0, slots := 0, locals := 0 }) s m args below meth c H locs 0 0 Q (F0 m 66 ls []) := by
    intro x1 x2 o_right kx0 hkx0  n
    induction n with
    | zero => intro x3 o_row h; exact h.elim
    | succ n hkb =>
      intro x3 o_row h H locs hP hD hS ls hl
      replace h : ws_X7_put_66 x1 x2 o_gates o_wishes o_parts o_carries o_most o_use o_part o_right o_given (wl_X7_put_66 x1 x2 o_gates o_wishes o_parts o_carries o_most o_use o_part o_right o_given kx0 post n) kx0 post x3 o_row := h
      generalize wl_X7_put_66 x1 x2 o_gates o_wishes o_parts o_carries o_most o_use o_part o_right o_given kx0 post n = kb at h hkb
      unfold ws_X7_put_66 at h
      refine lv_iload_n hx hb dX7_put_66 rfl (lv_at hl 3 rfl) ?_
      refine lv_aload_n hx hb dX7_put_67 rfl (lv_at hl 0 rfl) ?_
      refine va_get (D := D) (ci := 7) (v := .int o_parts) (C := RX7) (T := TX7) (N := 43) hx hb hts in_X7 hown hK hP 0 rfl rfl 37 (by decide) fl_217 (fun _ h9 => h9) rfl dX7_put_68 ?_
      refine lv_icmp_ge (tgt := 106) hx hb dX7_put_71 (by decide) (fun c19 => ?_) (fun c19 => ?_)
      · have h := h.1 c19
        refine lv_goto (tgt := 191) hx hb dX7_put_106 (by decide) ?_
        exact hkx0 o_row h _ _ hP hD hS _ (lv_sub hl [] rfl)
      · have h := h.2 c19
        refine lv_aload_n hx hb dX7_put_74 rfl (lv_at hl 0 rfl) ?_
        refine va_get (D := D) (ci := 7) (v := .ref a_o_row) (C := RX7) (T := TX7) (N := 43) hx hb hts in_X7 hown hK hP 0 rfl rfl 38 (by decide) fl_82 (fun _ h9 => h9) rfl dX7_put_75 ?_
        refine lv_iconst (v := 4) hx hb dX7_put_78 (by decide) ?_
        refine lv_iload_n hx hb dX7_put_79 rfl (lv_at hl 1 rfl) ?_
        refine lv_imul hx hb dX7_put_80 ?_
        refine lv_iload_n hx hb dX7_put_81 rfl (lv_at hl 3 rfl) ?_
        refine lv_iadd hx hb dX7_put_82 ?_
        refine lv_aload_n hx hb dX7_put_83 rfl (lv_at hl 0 rfl) ?_
        refine va_get (D := D) (ci := 7) (v := .ref a_o_use) (C := RX7) (T := TX7) (N := 43) hx hb hts in_X7 hown hK hP 0 rfl rfl 13 (by decide) fl_39 (fun _ h9 => h9) rfl dX7_put_84 ?_
        refine lv_iconst (v := 5) hx hb dX7_put_87 (by decide) ?_
        refine lv_aload_n hx hb dX7_put_88 rfl (lv_at hl 0 rfl) ?_
        refine va_get (D := D) (ci := 7) (v := .ref a_o_part) (C := RX7) (T := TX7) (N := 43) hx hb hts in_X7 hown hK hP 0 rfl rfl 36 (by decide) fl_79 (fun _ h9 => h9) rfl dX7_put_89 ?_
        refine lv_iload_n hx hb dX7_put_92 rfl (lv_at hl 3 rfl) ?_
        obtain ⟨i20, h⟩ := h
        refine va_iald hx hb hK hP 4 1 rfl rfl i20 dX7_put_93 ?_
        refine lv_imul hx hb dX7_put_94 ?_
        refine lv_iload_n hx hb dX7_put_95 rfl (lv_at hl 2 rfl) ?_
        refine lv_iadd hx hb dX7_put_96 ?_
        obtain ⟨i21, h⟩ := h
        refine va_iald hx hb hK hP 3 1 rfl rfl i21 dX7_put_97 ?_
        refine lv_i2l hx hb dX7_put_98 rfl ?_
        refine lv_topl (fun v22 ev22 => ?_)
        have h := h v22 ev22
        obtain ⟨i23, h⟩ := h
        refine va_last hx hb hK hP hD hS 5 2 rfl rfl i23 dX7_put_99 (fun H locs hP hD hS => ?_)
        have hP : va_P D vwCl (w_X7_put cy a_o a_o_text a_o_letter a_o_least a_o_carries a_o_gateOff a_o_worth a_o_kind a_o_most a_o_wishOff a_o_use a_o_toldUp a_o_toldDown a_o_priceUp a_o_priceDown a_o_draftGate a_o_draftCarries a_o_draftWorth a_o_draftKind a_o_draftMost a_o_draftUse a_o_x a_o_bestX a_o_part a_o_row a_o_right a_o_m a_o_given a_o_wasOff o_trace o_typed o_gates o_wishes o_at o_start o_sort o_value o_fault o_drafted o_by o_bestBy o_bestWorth o_isBest o_parts o_carries o_most o_use o_part (vp_updL o_row ((((4 : Int32) * x1) + x3)).toNatClampNeg v22) o_right o_given) H := hP
        have hD : va_D A (w_X7_put cy a_o a_o_text a_o_letter a_o_least a_o_carries a_o_gateOff a_o_worth a_o_kind a_o_most a_o_wishOff a_o_use a_o_toldUp a_o_toldDown a_o_priceUp a_o_priceDown a_o_draftGate a_o_draftCarries a_o_draftWorth a_o_draftKind a_o_draftMost a_o_draftUse a_o_x a_o_bestX a_o_part a_o_row a_o_right a_o_m a_o_given a_o_wasOff o_trace o_typed o_gates o_wishes o_at o_start o_sort o_value o_fault o_drafted o_by o_bestBy o_bestWorth o_isBest o_parts o_carries o_most o_use o_part (vp_updL o_row ((((4 : Int32) * x1) + x3)).toNatClampNeg v22) o_right o_given) := hD
        refine lv_iinc (v := (x3 + (1 : Int32))) (lv' := [(3, .int (x3 + (1 : Int32))), (0, .ref a_o), (1, .int x1), (2, .int x2)]) hx hb dX7_put_100 hl (k := 3) rfl (congrArg (fun z => x3 + z) (by decide : Int32.ofInt (1) = (1 : Int32))) (by decide) rfl (fun ls hl => ?_)
        refine lv_goto (tgt := 66) hx hb dX7_put_103 (by decide) ?_
        exact hkb (x3 + (1 : Int32)) (vp_updL o_row ((((4 : Int32) * x1) + x3)).toNatClampNeg v22) h _ _ hP hD hS _ (lv_sub hl [1, 2, 3, 0] rfl)
  refine ent [.ref a_o, .int x1, .int x2] (Nat.le_of_ble_eq_true rfl) (fun ls hl => ?_)
  have hl : lv_has ls 5 [(0, .ref a_o), (1, .int x1), (2, .int x2)] := hl
  unfold wp_X7_put at h
  refine lv_iload_n hx hb dX7_put_0 rfl (lv_at hl 2 rfl) ?_
  refine lv_aload_n hx hb dX7_put_1 rfl (lv_at hl 0 rfl) ?_
  refine va_get (D := D) (ci := 7) (v := .int o_gates) (C := RX7) (T := TX7) (N := 43) hx hb hts in_X7 hown hK hP 0 rfl rfl 3 (by decide) fl_182 (fun _ h9 => h9) rfl dX7_put_2 ?_
  refine lv_icmp_ge (tgt := 109) hx hb dX7_put_5 (by decide) (fun c1 => ?_) (fun c1 => ?_)
  · have h := h.1 c1
    refine lv_iload_n hx hb dX7_put_109 rfl (lv_at hl 2 rfl) ?_
    refine lv_aload_n hx hb dX7_put_110 rfl (lv_at hl 0 rfl) ?_
    refine va_get (D := D) (ci := 7) (v := .int o_gates) (C := RX7) (T := TX7) (N := 43) hx hb hts in_X7 hown hK hP 0 rfl rfl 3 (by decide) fl_182 (fun _ h9 => h9) rfl dX7_put_111 ?_
    refine lv_isub hx hb dX7_put_114 ?_
    refine lv_iconst (v := 2) hx hb dX7_put_115 (by decide) ?_
    refine lv_idiv hx hb dX7_put_116 (by decide) ?_
    refine lv_istore_n (lv' := [(3, .int ((x2 - o_gates) / (2 : Int32))), (0, .ref a_o), (1, .int x1), (2, .int x2)]) hx hb dX7_put_117 rfl hl (by decide) rfl (fun ls hl => ?_)
    refine lv_aload_n hx hb dX7_put_118 rfl (lv_at hl 1 rfl) ?_
    refine va_get (D := D) (ci := 7) (v := .ref a_o_right) (C := RX7) (T := TX7) (N := 43) hx hb hts in_X7 hown hK hP 0 rfl rfl 39 (by decide) fl_85 (fun _ h9 => h9) rfl dX7_put_119 ?_
    refine lv_iload_n hx hb dX7_put_122 rfl (lv_at hl 2 rfl) ?_
    refine lv_iload_n hx hb dX7_put_123 rfl (lv_at hl 3 rfl) ?_
    refine lv_aload_n hx hb dX7_put_124 rfl (lv_at hl 1 rfl) ?_
    refine va_get (D := D) (ci := 7) (v := .int o_gates) (C := RX7) (T := TX7) (N := 43) hx hb hts in_X7 hown hK hP 0 rfl rfl 3 (by decide) fl_182 (fun _ h9 => h9) rfl dX7_put_125 ?_
    refine lv_isub hx hb dX7_put_128 ?_
    refine lv_iconst (v := 2) hx hb dX7_put_129 (by decide) ?_
    refine lv_irem hx hb dX7_put_130 (by decide) ?_
    refine lv_if_ne (tgt := 138) hx hb dX7_put_131 (by decide) (fun c2 => ?_) (fun c2 => ?_)
    · have h := h.2 c2
      refine lv_aload_n hx hb dX7_put_138 rfl (lv_at hl 1 rfl) ?_
      refine va_get (D := D) (ci := 7) (v := .ref a_o_most) (C := RX7) (T := TX7) (N := 43) hx hb hts in_X7 hown hK hP 0 rfl rfl 11 (by decide) fl_33 (fun _ h9 => h9) rfl dX7_put_139 ?_
      refine lv_aload_n hx hb dX7_put_142 rfl (lv_at hl 1 rfl) ?_
      refine va_get (D := D) (ci := 7) (v := .ref a_o_part) (C := RX7) (T := TX7) (N := 43) hx hb hts in_X7 hown hK hP 0 rfl rfl 36 (by decide) fl_79 (fun _ h9 => h9) rfl dX7_put_143 ?_
      refine lv_iload_n hx hb dX7_put_146 rfl (lv_at hl 0 rfl) ?_
      obtain ⟨i3, h⟩ := h
      refine va_iald hx hb hK hP 4 1 rfl rfl i3 dX7_put_147 ?_
      obtain ⟨i4, h⟩ := h
      refine va_iald hx hb hK hP 2 1 rfl rfl i4 dX7_put_148 ?_
      refine lv_i2l hx hb dX7_put_149 rfl ?_
      exact j_150_0 x1 ((x2 - o_gates) / (2 : Int32)) x1 (((o_most ((o_part (((x2 - o_gates) / (2 : Int32))).toNatClampNeg)).toNatClampNeg)).toInt64) o_row o_right h _ _ hP hD hS _ (lv_sub hl [1, 2, 0] rfl)
    · have h := h.1 c2
      refine lv_lconst (v := 0) hx hb dX7_put_134 (by decide) ?_
      refine lv_goto (tgt := 150) hx hb dX7_put_135 (by decide) ?_
      exact j_150_0 x1 ((x2 - o_gates) / (2 : Int32)) x1 (0 : Int64) o_row o_right h _ _ hP hD hS _ (lv_sub hl [1, 2, 0] rfl)
  · have h := h.2 c1
    refine lv_aload_n hx hb dX7_put_8 rfl (lv_at hl 0 rfl) ?_
    refine va_get (D := D) (ci := 7) (v := .ref a_o_right) (C := RX7) (T := TX7) (N := 43) hx hb hts in_X7 hown hK hP 0 rfl rfl 39 (by decide) fl_85 (fun _ h9 => h9) rfl dX7_put_9 ?_
    refine lv_iload_n hx hb dX7_put_12 rfl (lv_at hl 1 rfl) ?_
    refine lv_aload_n hx hb dX7_put_13 rfl (lv_at hl 0 rfl) ?_
    refine va_get (D := D) (ci := 7) (v := .ref a_o_carries) (C := RX7) (T := TX7) (N := 43) hx hb hts in_X7 hown hK hP 0 rfl rfl 7 (by decide) fl_20 (fun _ h9 => h9) rfl dX7_put_14 ?_
    refine lv_iload_n hx hb dX7_put_17 rfl (lv_at hl 2 rfl) ?_
    obtain ⟨i11, h⟩ := h
    refine va_iald hx hb hK hP 1 1 rfl rfl i11 dX7_put_18 ?_
    refine lv_i2l hx hb dX7_put_19 rfl ?_
    obtain ⟨i12, h⟩ := h
    refine va_last hx hb hK hP hD hS 6 2 rfl rfl i12 dX7_put_20 (fun H locs hP hD hS => ?_)
    have hP : va_P D vwCl (w_X7_put cy a_o a_o_text a_o_letter a_o_least a_o_carries a_o_gateOff a_o_worth a_o_kind a_o_most a_o_wishOff a_o_use a_o_toldUp a_o_toldDown a_o_priceUp a_o_priceDown a_o_draftGate a_o_draftCarries a_o_draftWorth a_o_draftKind a_o_draftMost a_o_draftUse a_o_x a_o_bestX a_o_part a_o_row a_o_right a_o_m a_o_given a_o_wasOff o_trace o_typed o_gates o_wishes o_at o_start o_sort o_value o_fault o_drafted o_by o_bestBy o_bestWorth o_isBest o_parts o_carries o_most o_use o_part o_row (vp_updL o_right (x1).toNatClampNeg (((o_carries (x2).toNatClampNeg)).toInt64)) o_given) H := hP
    have hD : va_D A (w_X7_put cy a_o a_o_text a_o_letter a_o_least a_o_carries a_o_gateOff a_o_worth a_o_kind a_o_most a_o_wishOff a_o_use a_o_toldUp a_o_toldDown a_o_priceUp a_o_priceDown a_o_draftGate a_o_draftCarries a_o_draftWorth a_o_draftKind a_o_draftMost a_o_draftUse a_o_x a_o_bestX a_o_part a_o_row a_o_right a_o_m a_o_given a_o_wasOff o_trace o_typed o_gates o_wishes o_at o_start o_sort o_value o_fault o_drafted o_by o_bestBy o_bestWorth o_isBest o_parts o_carries o_most o_use o_part o_row (vp_updL o_right (x1).toNatClampNeg (((o_carries (x2).toNatClampNeg)).toInt64)) o_given) := hD
    refine lv_iconst (v := 0) hx hb dX7_put_21 (by decide) ?_
    refine lv_istore_n (lv' := [(3, .int (0 : Int32)), (0, .ref a_o), (1, .int x1), (2, .int x2)]) hx hb dX7_put_22 rfl hl (by decide) rfl (fun ls hl => ?_)
    obtain ⟨n26, h⟩ := h
    refine l_23 x1 x2 o_row _ ?_ n26 (0 : Int32) (vp_updL o_right (x1).toNatClampNeg (((o_carries (x2).toNatClampNeg)).toInt64)) h _ _ hP hD hS _ (lv_sub hl [1, 2, 3, 0] rfl)
    · intro o_right_18 h H locs hP hD hS ls hl
      refine lv_iconst (v := 0) hx hb dX7_put_64 (by decide) ?_
      refine lv_istore_n (lv' := [(3, .int (0 : Int32)), (0, .ref a_o), (1, .int x1), (2, .int x2)]) hx hb dX7_put_65 rfl hl (by decide) rfl (fun ls hl => ?_)
      obtain ⟨n25, h⟩ := h
      refine l_66 x1 x2 o_right_18 _ ?_ n25 (0 : Int32) o_row h _ _ hP hD hS _ (lv_sub hl [1, 2, 3, 0] rfl)
      · intro o_row_24 h H locs hP hD hS ls hl
        exact hret (o_row_24, o_right_18) _ _ _ _ h hP hD hS dX7_put_191
