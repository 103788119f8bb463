abbrev w_X6_bit (cy : Nat → ClassId)  : va_W := []
set_option maxHeartbeats 4000000 in
set_option maxRecDepth 100000 in
theorem c_X6_bit (l : Launch) (D : va_G) (cy : Nat → ClassId) (sz : Nat)   {x0 : Int32} {post : Int32 → Prop} (h : wp_X6_bit x0 post) : Met l yX6_bit wsX6_bit ({ frames := 0, cells := 0, slots := 0, locals := 0 }) (va_Pc [.int x0] (wI D cy sz (w_X6_bit cy ))) (va_Qi (fun (r : Int32) (u : Unit) => post r ) (fun (u : Unit) t => wO D cy (va_A (w_X6_bit cy ) sz) (w_X6_bit cy ) t) (va_A (w_X6_bit cy ) sz)) 0 0 (va_A (w_X6_bit cy ) sz) := by
  refine contrI (S := Unit) (post := fun (r : Int32) (u : Unit) => post r ) (wOut := fun (u : Unit) => (w_X6_bit cy )) (cc := cX6_bit) (maxL := 1) (own := RX6) (by decide +kernel) rfl rfl ?_
  intro p e s m args below meth c A Q hx hb hml hown hts hK hN hP hD hS hA hret
  refine ent [.int x0] (Nat.le_of_ble_eq_true rfl) (fun ls hl => ?_)
  have hl : lv_has ls 1 [(0, .int x0)] := hl
  unfold wp_X6_bit at h
  refine lv_iload_n hx hb dX6_bit_0 rfl (lv_at hl 0 rfl) ?_
  refine lv_if_eq (tgt := 8) hx hb dX6_bit_1 (by decide) (fun c1 => ?_) (fun c1 => ?_)
  · have h := h.1 c1
    refine lv_iconst (v := 0) hx hb dX6_bit_8 (by decide) ?_
    exact hret (0 : Int32) () _ _ _ _ h hP hD hS dX6_bit_9
  · have h := h.2 c1
    refine lv_iconst (v := 1) hx hb dX6_bit_4 (by decide) ?_
    refine lv_goto (tgt := 9) hx hb dX6_bit_5 (by decide) ?_
    exact hret (1 : Int32) () _ _ _ _ h hP hD hS dX6_bit_9
abbrev w_X4_letterOf (cy : Nat → ClassId) (a_o a_o_isTold a_o_least a_o_gateOff a_o_limit a_o_value a_o_kind a_o_most a_o_wishOff a_o_use : Nat) (o_wishes : Int32) (o_isTold : Nat → Int32) : va_W := [(a_o, .inr (4, [.ref a_o_isTold, .ref a_o_least, .ref a_o_gateOff, .ref a_o_limit, .ref a_o_value, .ref a_o_kind, .ref a_o_most, .ref a_o_wishOff, .ref a_o_use, .int o_wishes])), (a_o_isTold, .inl (cy 3, 5, .inl o_isTold))]
set_option maxHeartbeats 4000000 in
set_option maxRecDepth 100000 in
theorem c_X4_letterOf (l : Launch) (D : va_G) (cy : Nat → ClassId) (a_o a_o_isTold a_o_least a_o_gateOff a_o_limit a_o_value a_o_kind a_o_most a_o_wishOff a_o_use : Nat) (sz : Nat)  {o_wishes : Int32} {o_isTold : Nat → Int32} {x1 : Int32} {post : Int32 → Prop} (h : wp_X4_letterOf o_isTold x1 post) : Met l yX4_letterOf wsX4_letterOf ({ frames := 0, cells := 0, slots := 0, locals := 0 }) (va_Pc [.ref a_o, .int x1] (wI D cy sz (w_X4_letterOf cy a_o a_o_isTold a_o_least a_o_gateOff a_o_limit a_o_value a_o_kind a_o_most a_o_wishOff a_o_use o_wishes o_isTold))) (va_Qi (fun (r : Int32) (u : Unit) => post r ) (fun (u : Unit) t => wO D cy (va_A (w_X4_letterOf cy a_o a_o_isTold a_o_least a_o_gateOff a_o_limit a_o_value a_o_kind a_o_most a_o_wishOff a_o_use o_wishes o_isTold) sz) (w_X4_letterOf cy a_o a_o_isTold a_o_least a_o_gateOff a_o_limit a_o_value a_o_kind a_o_most a_o_wishOff a_o_use o_wishes o_isTold) t) (va_A (w_X4_letterOf cy a_o a_o_isTold a_o_least a_o_gateOff a_o_limit a_o_value a_o_kind a_o_most a_o_wishOff a_o_use o_wishes o_isTold) sz)) 0 0 (va_A (w_X4_letterOf cy a_o a_o_isTold a_o_least a_o_gateOff a_o_limit a_o_value a_o_kind a_o_most a_o_wishOff a_o_use o_wishes o_isTold) sz) := by
  refine contrI (S := Unit) (post := fun (r : Int32) (u : Unit) => post r ) (wOut := fun (u : Unit) => (w_X4_letterOf cy a_o a_o_isTold a_o_least a_o_gateOff a_o_limit a_o_value a_o_kind a_o_most a_o_wishOff a_o_use o_wishes o_isTold)) (cc := cX4_letterOf) (maxL := 4) (own := RX4) (by decide +kernel) rfl rfl ?_
  intro p e s m args below meth c A Q hx hb hml hown hts hK hN hP hD hS hA hret
  have in_X4 : ∀ w ∈ u_ws RX4 TX4 10, w ∈ wsX4_letterOf := by decide +kernel
  have fl_9 := hts (.fieldLink RX4 9 "DawnTable$Table" "isTold" "[Z") (by decide +kernel)
  have l_4 : ∀ (x1 : Int32), ∀ (kx0 : Prop), (kx0  → ∀ (H : Heap) (locs : List Loc), va_P D vwCl (w_X4_letterOf cy a_o a_o_isTold a_o_least a_o_gateOff a_o_limit a_o_value a_o_kind a_o_most a_o_wishOff a_o_use o_wishes o_isTold) H → va_D A (w_X4_letterOf cy a_o a_o_isTold a_o_least a_o_gateOff a_o_limit a_o_value a_o_kind a_o_most a_o_wishOff a_o_use o_wishes o_isTold) → va_S A s.heap H locs → ∀ (ls : Array Slot), lv_has ls 4 [] → W p l e ({ frames := 0, cells := 0, slots := 0, locals := 0 }) s m args below meth c H locs 0 0 Q (F0 m 37 ls [])) → ∀ (kx1 : Int32 → Prop), (∀ (x3 : Int32), kx1 x3 → ∀ (H : Heap) (locs : List Loc), va_P D vwCl (w_X4_letterOf cy a_o a_o_isTold a_o_least a_o_gateOff a_o_limit a_o_value a_o_kind a_o_most a_o_wishOff a_o_use o_wishes o_isTold) H → va_D A (w_X4_letterOf cy a_o a_o_isTold a_o_least a_o_gateOff a_o_limit a_o_value a_o_kind a_o_most a_o_wishOff a_o_use o_wishes o_isTold) → va_S A s.heap H locs → ∀ (ls : Array Slot), lv_has ls 4 [(3, .int x3)] → W p l e ({ frames := 0, cells := 0, slots := 0, locals := 0 }) s m args below meth c H locs 0 0 Q (F0 m 26 ls [])) → ∀ (n : Nat) (x2 : Int32) (x3 : Int32), wl_X4_letterOf_4 x1 o_isTold kx0 kx1 post n x2 x3 → ∀ (H : Heap) (locs : List Loc), va_P D vwCl (w_X4_letterOf cy a_o a_o_isTold a_o_least a_o_gateOff a_o_limit a_o_value a_o_kind a_o_most a_o_wishOff a_o_use o_wishes o_isTold) H → va_D A (w_X4_letterOf cy a_o a_o_isTold a_o_least a_o_gateOff a_o_limit a_o_value a_o_kind a_o_most a_o_wishOff a_o_use o_wishes o_isTold) → va_S A s.heap H locs → ∀ (ls : Array Slot), lv_has ls 4 [(0, .ref a_o), (1, .int x1), (2, .int x2), (3, .int x3)] → W p l e ({ frames := 0, cells := 0, slots := 0, locals := 0 }) s m args below meth c H locs 0 0 Q (F0 m 4 ls []) := by
    intro x1 kx0 hkx0 kx1 hkx1  n
    induction n with
    | zero => intro x2 x3 h; exact h.elim
    | succ n hkb =>
      intro x2 x3 h H locs hP hD hS ls hl
      replace h : ws_X4_letterOf_4 x1 o_isTold (wl_X4_letterOf_4 x1 o_isTold kx0 kx1 post n) kx0 kx1 post x2 x3 := h
      generalize wl_X4_letterOf_4 x1 o_isTold kx0 kx1 post n = kb at h hkb
      unfold ws_X4_letterOf_4 at h
      refine lv_iload_n hx hb dX4_letterOf_4 rfl (lv_at hl 3 rfl) ?_
      refine lv_iconst (v := 5) hx hb dX4_letterOf_5 (by decide) ?_
      refine lv_icmp_ge (tgt := 37) hx hb dX4_letterOf_6 (by decide) (fun c1 => ?_) (fun c1 => ?_)
      · have h := h.1 c1
        exact hkx0 h _ _ hP hD hS _ (lv_sub hl [] rfl)
      · have h := h.2 c1
        refine lv_aload_n hx hb dX4_letterOf_9 rfl (lv_at hl 0 rfl) ?_
        refine va_get (D := D) (ci := 4) (v := .ref a_o_isTold) (C := RX4) (T := TX4) (N := 10) hx hb hts in_X4 hown hK hP 0 rfl rfl 0 (by decide) fl_9 (fun _ h9 => h9) rfl dX4_letterOf_10 ?_
        refine lv_iload_n hx hb dX4_letterOf_13 rfl (lv_at hl 3 rfl) ?_
        obtain ⟨i2, h⟩ := h
        refine va_zald hx hb hK hP 1 3 rfl rfl i2 dX4_letterOf_14 ?_
        refine lv_if_ne (tgt := 21) hx hb dX4_letterOf_15 (by decide) (fun c3 => ?_) (fun c3 => ?_)
        · have h := h.2 c3
          refine lv_iload_n hx hb dX4_letterOf_21 rfl (lv_at hl 2 rfl) ?_
          refine lv_iload_n hx hb dX4_letterOf_22 rfl (lv_at hl 1 rfl) ?_
          refine lv_icmp_ne (tgt := 28) hx hb dX4_letterOf_23 (by decide) (fun c4 => ?_) (fun c4 => ?_)
          · have h := h.2 c4
            refine lv_iinc (v := (x2 + (1 : Int32))) (lv' := [(2, .int (x2 + (1 : Int32))), (0, .ref a_o), (1, .int x1), (3, .int x3)]) hx hb dX4_letterOf_28 hl (k := 2) rfl (congrArg (fun z => x2 + z) (by decide : Int32.ofInt (1) = (1 : Int32))) (by decide) rfl (fun ls hl => ?_)
            refine lv_iinc (v := (x3 + (1 : Int32))) (lv' := [(3, .int (x3 + (1 : Int32))), (2, .int (x2 + (1 : Int32))), (0, .ref a_o), (1, .int x1)]) hx hb dX4_letterOf_31 hl (k := 3) rfl (congrArg (fun z => x3 + z) (by decide : Int32.ofInt (1) = (1 : Int32))) (by decide) rfl (fun ls hl => ?_)
            refine lv_goto (tgt := 4) hx hb dX4_letterOf_34 (by decide) ?_
            exact hkb (x2 + (1 : Int32)) (x3 + (1 : Int32)) h _ _ hP hD hS _ (lv_sub hl [2, 3, 1, 0] rfl)
          · have h := h.1 c4
            exact hkx1 x3 h _ _ hP hD hS _ (lv_sub hl [3] rfl)
        · have h := h.1 c3
          refine lv_goto (tgt := 31) hx hb dX4_letterOf_18 (by decide) ?_
          refine lv_iinc (v := (x3 + (1 : Int32))) (lv' := [(3, .int (x3 + (1 : Int32))), (0, .ref a_o), (1, .int x1), (2, .int x2)]) hx hb dX4_letterOf_31 hl (k := 3) rfl (congrArg (fun z => x3 + z) (by decide : Int32.ofInt (1) = (1 : Int32))) (by decide) rfl (fun ls hl => ?_)
          refine lv_goto (tgt := 4) hx hb dX4_letterOf_34 (by decide) ?_
          exact hkb x2 (x3 + (1 : Int32)) h _ _ hP hD hS _ (lv_sub hl [1, 2, 3, 0] rfl)
  refine ent [.ref a_o, .int x1] (Nat.le_of_ble_eq_true rfl) (fun ls hl => ?_)
  have hl : lv_has ls 4 [(0, .ref a_o), (1, .int x1)] := hl
  unfold wp_X4_letterOf at h
  refine lv_iconst (v := 0) hx hb dX4_letterOf_0 (by decide) ?_
  refine lv_istore_n (lv' := [(2, .int (0 : Int32)), (0, .ref a_o), (1, .int x1)]) hx hb dX4_letterOf_1 rfl hl (by decide) rfl (fun ls hl => ?_)
  refine lv_iconst (v := 0) hx hb dX4_letterOf_2 (by decide) ?_
  refine lv_istore_n (lv' := [(3, .int (0 : Int32)), (2, .int (0 : Int32)), (0, .ref a_o), (1, .int x1)]) hx hb dX4_letterOf_3 rfl hl (by decide) rfl (fun ls hl => ?_)
  obtain ⟨n6, h⟩ := h
  refine l_4 x1 _ ?_ _ ?_ n6 (0 : Int32) (0 : Int32) h _ _ hP hD hS _ (lv_sub hl [2, 3, 1, 0] rfl)
  · intro  h H locs hP hD hS ls hl
    refine lv_iconst (v := -1) hx hb dX4_letterOf_37 (by decide) ?_
    exact hret (-1 : Int32) () _ _ _ _ h hP hD hS dX4_letterOf_38
  · intro x3_5 h H locs hP hD hS ls hl
    refine lv_iload_n hx hb dX4_letterOf_26 rfl (lv_at hl 0 rfl) ?_
    exact hret x3_5 () _ _ _ _ h hP hD hS dX4_letterOf_27
abbrev w_X4_heldGates (cy : Nat → ClassId) (a_o a_o_isTold a_o_least a_o_gateOff a_o_limit a_o_value a_o_kind a_o_most a_o_wishOff a_o_use : Nat) (o_wishes : Int32) (o_isTold : Nat → Int32) (o_gateOff : Nat → Int32) : va_W := [(a_o, .inr (4, [.ref a_o_isTold, .ref a_o_least, .ref a_o_gateOff, .ref a_o_limit, .ref a_o_value, .ref a_o_kind, .ref a_o_most, .ref a_o_wishOff, .ref a_o_use, .int o_wishes])), (a_o_isTold, .inl (cy 3, 5, .inl o_isTold)), (a_o_gateOff, .inl (cy 3, 5, .inl o_gateOff))]
set_option maxHeartbeats 4000000 in
set_option maxRecDepth 100000 in
theorem c_X4_heldGates (l : Launch) (D : va_G) (cy : Nat → ClassId) (a_o a_o_isTold a_o_least a_o_gateOff a_o_limit a_o_value a_o_kind a_o_most a_o_wishOff a_o_use : Nat) (sz : Nat)  {o_wishes : Int32} {o_isTold : Nat → Int32} {o_gateOff : Nat → Int32}  {post : Int32 → Prop} (h : wp_X4_heldGates o_isTold o_gateOff post) : Met l yX4_heldGates wsX4_heldGates ({ frames := 0, cells := 0, slots := 0, locals := 0 }) (va_Pc [.ref a_o] (wI D cy sz (w_X4_heldGates cy a_o a_o_isTold a_o_least a_o_gateOff a_o_limit a_o_value a_o_kind a_o_most a_o_wishOff a_o_use o_wishes o_isTold o_gateOff))) (va_Qi (fun (r : Int32) (u : Unit) => post r ) (fun (u : Unit) t => wO D cy (va_A (w_X4_heldGates cy a_o a_o_isTold a_o_least a_o_gateOff a_o_limit a_o_value a_o_kind a_o_most a_o_wishOff a_o_use o_wishes o_isTold o_gateOff) sz) (w_X4_heldGates cy a_o a_o_isTold a_o_least a_o_gateOff a_o_limit a_o_value a_o_kind a_o_most a_o_wishOff a_o_use o_wishes o_isTold o_gateOff) t) (va_A (w_X4_heldGates cy a_o a_o_isTold a_o_least a_o_gateOff a_o_limit a_o_value a_o_kind a_o_most a_o_wishOff a_o_use o_wishes o_isTold o_gateOff) sz)) 0 0 (va_A (w_X4_heldGates cy a_o a_o_isTold a_o_least a_o_gateOff a_o_limit a_o_value a_o_kind a_o_most a_o_wishOff a_o_use o_wishes o_isTold o_gateOff) sz) := by
  refine contrI (S := Unit) (post := fun (r : Int32) (u : Unit) => post r ) (wOut := fun (u : Unit) => (w_X4_heldGates cy a_o a_o_isTold a_o_least a_o_gateOff a_o_limit a_o_value a_o_kind a_o_most a_o_wishOff a_o_use o_wishes o_isTold o_gateOff)) (cc := cX4_heldGates) (maxL := 3) (own := RX4) (by decide +kernel) rfl rfl ?_
  intro p e s m args below meth c A Q hx hb hml hown hts hK hN hP hD hS hA hret
  have in_X4 : ∀ w ∈ u_ws RX4 TX4 10, w ∈ wsX4_heldGates := by decide +kernel
  have fl_9 := hts (.fieldLink RX4 9 "DawnTable$Table" "isTold" "[Z") (by decide +kernel)
  have fl_18 := hts (.fieldLink RX4 18 "DawnTable$Table" "gateOff" "[Z") (by decide +kernel)
  have l_4 : ∀ (kx0 : Int32 → Prop), (∀ (x1 : Int32), kx0 x1 → ∀ (H : Heap) (locs : List Loc), va_P D vwCl (w_X4_heldGates cy a_o a_o_isTold a_o_least a_o_gateOff a_o_limit a_o_value a_o_kind a_o_most a_o_wishOff a_o_use o_wishes o_isTold o_gateOff) H → va_D A (w_X4_heldGates cy a_o a_o_isTold a_o_least a_o_gateOff a_o_limit a_o_value a_o_kind a_o_most a_o_wishOff a_o_use o_wishes o_isTold o_gateOff) → va_S A s.heap H locs → ∀ (ls : Array Slot), lv_has ls 3 [(1, .int x1)] → W p l e ({ frames := 0, cells := 0, slots := 0, locals := 0 }) s m args below meth c H locs 0 0 Q (F0 m 39 ls [])) → ∀ (n : Nat) (x1 : Int32) (x2 : Int32), wl_X4_heldGates_4 o_isTold o_gateOff kx0 post n x1 x2 → ∀ (H : Heap) (locs : List Loc), va_P D vwCl (w_X4_heldGates cy a_o a_o_isTold a_o_least a_o_gateOff a_o_limit a_o_value a_o_kind a_o_most a_o_wishOff a_o_use o_wishes o_isTold o_gateOff) H → va_D A (w_X4_heldGates cy a_o a_o_isTold a_o_least a_o_gateOff a_o_limit a_o_value a_o_kind a_o_most a_o_wishOff a_o_use o_wishes o_isTold o_gateOff) → va_S A s.heap H locs → ∀ (ls : Array Slot), lv_has ls 3 [(0, .ref a_o), (1, .int x1), (2, .int x2)] → W p l e ({ frames := 0, cells := 0, slots := 0, locals := 0 }) s m args below meth c H locs 0 0 Q (F0 m 4 ls []) := by
    intro  kx0 hkx0  n
    induction n with
    | zero => intro x1 x2 h; exact h.elim
    | succ n hkb =>
      intro x1 x2 h H locs hP hD hS ls hl
      replace h : ws_X4_heldGates_4 o_isTold o_gateOff (wl_X4_heldGates_4 o_isTold o_gateOff kx0 post n) kx0 post x1 x2 := h
      generalize wl_X4_heldGates_4 o_isTold o_gateOff kx0 post n = kb at h hkb
      unfold ws_X4_heldGates_4 at h
      refine lv_iload_n hx hb dX4_heldGates_4 rfl (lv_at hl 2 rfl) ?_
      refine lv_iconst (v := 5) hx hb dX4_heldGates_5 (by decide) ?_
      refine lv_icmp_ge (tgt := 39) hx hb dX4_heldGates_6 (by decide) (fun c1 => ?_) (fun c1 => ?_)
      · have h := h.1 c1
        exact hkx0 x1 h _ _ hP hD hS _ (lv_sub hl [1] rfl)
      · have h := h.2 c1
        refine lv_aload_n hx hb dX4_heldGates_9 rfl (lv_at hl 0 rfl) ?_
        refine va_get (D := D) (ci := 4) (v := .ref a_o_isTold) (C := RX4) (T := TX4) (N := 10) hx hb hts in_X4 hown hK hP 0 rfl rfl 0 (by decide) fl_9 (fun _ h9 => h9) rfl dX4_heldGates_10 ?_
        refine lv_iload_n hx hb dX4_heldGates_13 rfl (lv_at hl 2 rfl) ?_
        obtain ⟨i2, h⟩ := h
        refine va_zald hx hb hK hP 1 3 rfl rfl i2 dX4_heldGates_14 ?_
        refine lv_if_eq (tgt := 33) hx hb dX4_heldGates_15 (by decide) (fun c3 => ?_) (fun c3 => ?_)
        · have h := h.1 c3
          refine lv_iinc (v := (x2 + (1 : Int32))) (lv' := [(2, .int (x2 + (1 : Int32))), (0, .ref a_o), (1, .int x1)]) hx hb dX4_heldGates_33 hl (k := 2) rfl (congrArg (fun z => x2 + z) (by decide : Int32.ofInt (1) = (1 : Int32))) (by decide) rfl (fun ls hl => ?_)
          refine lv_goto (tgt := 4) hx hb dX4_heldGates_36 (by decide) ?_
          exact hkb x1 (x2 + (1 : Int32)) h _ _ hP hD hS _ (lv_sub hl [1, 2, 0] rfl)
        · have h := h.2 c3
          refine lv_aload_n hx hb dX4_heldGates_18 rfl (lv_at hl 0 rfl) ?_
          refine va_get (D := D) (ci := 4) (v := .ref a_o_gateOff) (C := RX4) (T := TX4) (N := 10) hx hb hts in_X4 hown hK hP 0 rfl rfl 2 (by decide) fl_18 (fun _ h9 => h9) rfl dX4_heldGates_19 ?_
          refine lv_iload_n hx hb dX4_heldGates_22 rfl (lv_at hl 2 rfl) ?_
          refine va_zald hx hb hK hP 2 3 rfl rfl i2 dX4_heldGates_23 ?_
          refine lv_if_ne (tgt := 33) hx hb dX4_heldGates_24 (by decide) (fun c4 => ?_) (fun c4 => ?_)
          · have h := h.2 c4
            refine lv_iinc (v := (x2 + (1 : Int32))) (lv' := [(2, .int (x2 + (1 : Int32))), (0, .ref a_o), (1, .int x1)]) hx hb dX4_heldGates_33 hl (k := 2) rfl (congrArg (fun z => x2 + z) (by decide : Int32.ofInt (1) = (1 : Int32))) (by decide) rfl (fun ls hl => ?_)
            refine lv_goto (tgt := 4) hx hb dX4_heldGates_36 (by decide) ?_
            exact hkb x1 (x2 + (1 : Int32)) h _ _ hP hD hS _ (lv_sub hl [1, 2, 0] rfl)
          · have h := h.1 c4
            refine lv_iload_n hx hb dX4_heldGates_27 rfl (lv_at hl 1 rfl) ?_
            refine lv_iconst (v := 1) hx hb dX4_heldGates_28 (by decide) ?_
            refine lv_iload_n hx hb dX4_heldGates_29 rfl (lv_at hl 2 rfl) ?_
            refine lv_ishl hx hb dX4_heldGates_30 ?_
            refine lv_ior hx hb dX4_heldGates_31 ?_
            refine lv_istore_n (lv' := [(1, .int (x1 ||| ((1 : Int32) <<< (x2 &&& 31)))), (0, .ref a_o), (2, .int x2)]) hx hb dX4_heldGates_32 rfl hl (by decide) rfl (fun ls hl => ?_)
            refine lv_iinc (v := (x2 + (1 : Int32))) (lv' := [(2, .int (x2 + (1 : Int32))), (1, .int (x1 ||| ((1 : Int32) <<< (x2 &&& 31)))), (0, .ref a_o)]) hx hb dX4_heldGates_33 hl (k := 2) rfl (congrArg (fun z => x2 + z) (by decide : Int32.ofInt (1) = (1 : Int32))) (by decide) rfl (fun ls hl => ?_)
            refine lv_goto (tgt := 4) hx hb dX4_heldGates_36 (by decide) ?_
            exact hkb (x1 ||| ((1 : Int32) <<< (x2 &&& 31))) (x2 + (1 : Int32)) h _ _ hP hD hS _ (lv_sub hl [2, 1, 0] rfl)
  refine ent [.ref a_o] (Nat.le_of_ble_eq_true rfl) (fun ls hl => ?_)
  have hl : lv_has ls 3 [(0, .ref a_o)] := hl
  unfold wp_X4_heldGates at h
  refine lv_iconst (v := 0) hx hb dX4_heldGates_0 (by decide) ?_
  refine lv_istore_n (lv' := [(1, .int (0 : Int32)), (0, .ref a_o)]) hx hb dX4_heldGates_1 rfl hl (by decide) rfl (fun ls hl => ?_)
  refine lv_iconst (v := 0) hx hb dX4_heldGates_2 (by decide) ?_
  refine lv_istore_n (lv' := [(2, .int (0 : Int32)), (1, .int (0 : Int32)), (0, .ref a_o)]) hx hb dX4_heldGates_3 rfl hl (by decide) rfl (fun ls hl => ?_)
  obtain ⟨n6, h⟩ := h
  refine l_4  _ ?_ n6 (0 : Int32) (0 : Int32) h _ _ hP hD hS _ (lv_sub hl [2, 1, 0] rfl)
  · intro x1_5 h H locs hP hD hS ls hl
    refine lv_iload_n hx hb dX4_heldGates_39 rfl (lv_at hl 0 rfl) ?_
    exact hret x1_5 () _ _ _ _ h hP hD hS dX4_heldGates_40
abbrev w_X4_gates (cy : Nat → ClassId) (a_o a_o_isTold a_o_least a_o_gateOff a_o_limit a_o_value a_o_kind a_o_most a_o_wishOff a_o_use : Nat) (o_wishes : Int32) (o_isTold : Nat → Int32) : va_W := [(a_o, .inr (4, [.ref a_o_isTold, .ref a_o_least, .ref a_o_gateOff, .ref a_o_limit, .ref a_o_value, .ref a_o_kind, .ref a_o_most, .ref a_o_wishOff, .ref a_o_use, .int o_wishes])), (a_o_isTold, .inl (cy 3, 5, .inl o_isTold))]
set_option maxRecDepth 20000 in
theorem ggX4_gates_X6_bit : GoodIn wsX4_gates wsX6_bit := goodIn_r _ [4] (by decide +kernel) (by decide +kernel)
set_option maxRecDepth 20000 in
theorem gX4_gates_X6_bit_n52 : GoodIn wsX4_gates (wsX6_bit) := ggX4_gates_X6_bit
set_option maxHeartbeats 4000000 in
set_option maxRecDepth 100000 in
theorem c_X4_gates (l : Launch) (D : va_G) (cy : Nat → ClassId) (a_o a_o_isTold a_o_least a_o_gateOff a_o_limit a_o_value a_o_kind a_o_most a_o_wishOff a_o_use : Nat) (sz : Nat)  {o_wishes : Int32} {o_isTold : Nat → Int32}  {post : Int32 → Prop} (h : wp_X4_gates o_isTold post) : Met l yX4_gates wsX4_gates ({ frames := 1, cells := 0, slots := 0, locals := 20 }) (va_Pc [.ref a_o] (wI D cy sz (w_X4_gates cy a_o a_o_isTold a_o_least a_o_gateOff a_o_limit a_o_value a_o_kind a_o_most a_o_wishOff a_o_use o_wishes o_isTold))) (va_Qi (fun (r : Int32) (u : Unit) => post r ) (fun (u : Unit) t => wO D cy (va_A (w_X4_gates cy a_o a_o_isTold a_o_least a_o_gateOff a_o_limit a_o_value a_o_kind a_o_most a_o_wishOff a_o_use o_wishes o_isTold) sz) (w_X4_gates cy a_o a_o_isTold a_o_least a_o_gateOff a_o_limit a_o_value a_o_kind a_o_most a_o_wishOff a_o_use o_wishes o_isTold) t) (va_A (w_X4_gates cy a_o a_o_isTold a_o_least a_o_gateOff a_o_limit a_o_value a_o_kind a_o_most a_o_wishOff a_o_use o_wishes o_isTold) sz)) 0 0 (va_A (w_X4_gates cy a_o a_o_isTold a_o_least a_o_gateOff a_o_limit a_o_value a_o_kind a_o_most a_o_wishOff a_o_use o_wishes o_isTold) sz) := by
  refine contrI (S := Unit) (post := fun (r : Int32) (u : Unit) => post r ) (wOut := fun (u : Unit) => (w_X4_gates cy a_o a_o_isTold a_o_least a_o_gateOff a_o_limit a_o_value a_o_kind a_o_most a_o_wishOff a_o_use o_wishes o_isTold)) (cc := cX4_gates) (maxL := 3) (own := RX4) (by decide +kernel) rfl rfl ?_
  intro p e s m args below meth c A Q hx hb hml hown hts hK hN hP hD hS hA hret
  have in_X4 : ∀ w ∈ u_ws RX4 TX4 10, w ∈ wsX4_gates := by decide +kernel
  have fl_9 := hts (.fieldLink RX4 9 "DawnTable$Table" "isTold" "[Z") (by decide +kernel)
  have l_4 : ∀ (kx0 : Int32 → Prop), (∀ (x1 : Int32), kx0 x1 → ∀ (H : Heap) (locs : List Loc), va_P D vwCl (w_X4_gates cy a_o a_o_isTold a_o_least a_o_gateOff a_o_limit a_o_value a_o_kind a_o_most a_o_wishOff a_o_use o_wishes o_isTold) H → va_D A (w_X4_gates cy a_o a_o_isTold a_o_least a_o_gateOff a_o_limit a_o_value a_o_kind a_o_most a_o_wishOff a_o_use o_wishes o_isTold) → va_S A s.heap H locs → ∀ (ls : Array Slot), lv_has ls 3 [(1, .int x1)] → W p l e ({ frames := 1, cells := 0, slots := 0, locals := 20 }) s m args below meth c H locs 0 0 Q (F0 m 27 ls [])) → ∀ (n : Nat) (x1 : Int32) (x2 : Int32), wl_X4_gates_4 o_isTold kx0 post n x1 x2 → ∀ (H : Heap) (locs : List Loc), va_P D vwCl (w_X4_gates cy a_o a_o_isTold a_o_least a_o_gateOff a_o_limit a_o_value a_o_kind a_o_most a_o_wishOff a_o_use o_wishes o_isTold) H → va_D A (w_X4_gates cy a_o a_o_isTold a_o_least a_o_gateOff a_o_limit a_o_value a_o_kind a_o_most a_o_wishOff a_o_use o_wishes o_isTold) → va_S A s.heap H locs → ∀ (ls : Array Slot), lv_has ls 3 [(0, .ref a_o), (1, .int x1), (2, .int x2)] → W p l e ({ frames := 1, cells := 0, slots := 0, locals := 20 }) s m args below meth c H locs 0 0 Q (F0 m 4 ls []) := by
    intro  kx0 hkx0  n
    induction n with
    | zero => intro x1 x2 h; exact h.elim
    | succ n hkb =>
      intro x1 x2 h H locs hP hD hS ls hl
      replace h : ws_X4_gates_4 o_isTold (wl_X4_gates_4 o_isTold kx0 post n) kx0 post x1 x2 := h
      generalize wl_X4_gates_4 o_isTold kx0 post n = kb at h hkb
      unfold ws_X4_gates_4 at h
      refine lv_iload_n hx hb dX4_gates_4 rfl (lv_at hl 2 rfl) ?_
      refine lv_iconst (v := 5) hx hb dX4_gates_5 (by decide) ?_
      refine lv_icmp_ge (tgt := 27) hx hb dX4_gates_6 (by decide) (fun c1 => ?_) (fun c1 => ?_)
      · have h := h.1 c1
        exact hkx0 x1 h _ _ hP hD hS _ (lv_sub hl [1] rfl)
      · have h := h.2 c1
        refine lv_iload_n hx hb dX4_gates_9 rfl (lv_at hl 1 rfl) ?_
        refine lv_aload_n hx hb dX4_gates_10 rfl (lv_at hl 0 rfl) ?_
        refine va_get (D := D) (ci := 4) (v := .ref a_o_isTold) (C := RX4) (T := TX4) (N := 10) hx hb hts in_X4 hown hK hP 0 rfl rfl 0 (by decide) fl_9 (fun _ h9 => h9) rfl dX4_gates_11 ?_
        refine lv_iload_n hx hb dX4_gates_14 rfl (lv_at hl 2 rfl) ?_
        obtain ⟨i2, h⟩ := h
        refine va_zald hx hb hK hP 1 3 rfl rfl i2 dX4_gates_15 ?_
        have hC : ([] : List Nat).map (fun i => ((w_X4_gates cy a_o a_o_isTold a_o_least a_o_gateOff a_o_limit a_o_value a_o_kind a_o_most a_o_wishOff a_o_use o_wishes o_isTold) : va_W)[i]?) = ((w_X6_bit cy ) : va_W).map some := rfl
        obtain ⟨hPc, hDc⟩ := cutC hP hD [] (by decide) hC
        have hFc := va_free hD hS hA [] hC
        refine va_calli (va_runSN (As := [.int (o_isTold (x2).toNatClampNeg)]) (rest := [.int x1]) ⟨hx, hb, hml, hown, hts⟩ (c_X6_bit l D cy _ h) ⟨va_cnB 1 hts gX4_gates_X6_bit_n52 rfl rfl rfl hN.1 (hts (.initialized RX6) (by decide +kernel)) (by decide +kernel) ⟨Nat.le_of_ble_eq_true rfl, Nat.le_of_ble_eq_true rfl⟩, hts (.static yX6_bit) (by decide +kernel), trivial⟩ (preS hPc hDc hK hN) rfl rfl hl.1 rfl (lv_room (Nat.le_of_ble_eq_true rfl)) dX4_gates_16 ⟨Nat.zero_le _, Nat.zero_le _⟩) hS (fun q _ h => hFc q h) hFc (fun r3 u t H1 locs ht hvm h hB hz1 hk1 hS => ?_)
        try dsimp only at h hB
        obtain ⟨hP, hD⟩ := joinU (wd := (w_X4_gates cy a_o a_o_isTold a_o_least a_o_gateOff a_o_limit a_o_value a_o_kind a_o_most a_o_wishOff a_o_use o_wishes o_isTold)) (wr := [(a_o, .inr (4, [.ref a_o_isTold, .ref a_o_least, .ref a_o_gateOff, .ref a_o_limit, .ref a_o_value, .ref a_o_kind, .ref a_o_most, .ref a_o_wishOff, .ref a_o_use, .int o_wishes])), (a_o_isTold, .inl (cy 3, 5, .inl o_isTold))]) hP hD [] [0, 1] [] hC hk1 ht hB rfl rfl rfl (N := 2) rfl (by decide) rfl rfl
        generalize H1 = H at hP hS ⊢
        refine lv_iadd hx hb dX4_gates_19 ?_
        refine lv_istore_n (lv' := [(1, .int (x1 + r3)), (0, .ref a_o), (2, .int x2)]) hx hb dX4_gates_20 rfl hl (by decide) rfl (fun ls hl => ?_)
        refine lv_iinc (v := (x2 + (1 : Int32))) (lv' := [(2, .int (x2 + (1 : Int32))), (1, .int (x1 + r3)), (0, .ref a_o)]) hx hb dX4_gates_21 hl (k := 2) rfl (congrArg (fun z => x2 + z) (by decide : Int32.ofInt (1) = (1 : Int32))) (by decide) rfl (fun ls hl => ?_)
        refine lv_goto (tgt := 4) hx hb dX4_gates_24 (by decide) ?_
        exact hkb (x1 + r3) (x2 + (1 : Int32)) h _ _ hP hD hS _ (lv_sub hl [2, 1, 0] rfl)
  refine ent [.ref a_o] (Nat.le_of_ble_eq_true rfl) (fun ls hl => ?_)
  have hl : lv_has ls 3 [(0, .ref a_o)] := hl
  unfold wp_X4_gates at h
  refine lv_iconst (v := 0) hx hb dX4_gates_0 (by decide) ?_
  refine lv_istore_n (lv' := [(1, .int (0 : Int32)), (0, .ref a_o)]) hx hb dX4_gates_1 rfl hl (by decide) rfl (fun ls hl => ?_)
  refine lv_iconst (v := 0) hx hb dX4_gates_2 (by decide) ?_
  refine lv_istore_n (lv' := [(2, .int (0 : Int32)), (1, .int (0 : Int32)), (0, .ref a_o)]) hx hb dX4_gates_3 rfl hl (by decide) rfl (fun ls hl => ?_)
  obtain ⟨n5, h⟩ := h
  refine l_4  _ ?_ n5 (0 : Int32) (0 : Int32) h _ _ hP hD hS _ (lv_sub hl [2, 1, 0] rfl)
  · intro x1_4 h H locs hP hD hS ls hl
    refine lv_iload_n hx hb dX4_gates_27 rfl (lv_at hl 0 rfl) ?_
    exact hret x1_4 () _ _ _ _ h hP hD hS dX4_gates_28
abbrev w_X4_gatesOff (cy : Nat → ClassId) (a_o a_o_isTold a_o_least a_o_gateOff a_o_limit a_o_value a_o_kind a_o_most a_o_wishOff a_o_use : Nat) (o_wishes : Int32) (o_isTold : Nat → Int32) (o_gateOff : Nat → Int32) : va_W := [(a_o, .inr (4, [.ref a_o_isTold, .ref a_o_least, .ref a_o_gateOff, .ref a_o_limit, .ref a_o_value, .ref a_o_kind, .ref a_o_most, .ref a_o_wishOff, .ref a_o_use, .int o_wishes])), (a_o_isTold, .inl (cy 3, 5, .inl o_isTold)), (a_o_gateOff, .inl (cy 3, 5, .inl o_gateOff))]
set_option maxRecDepth 20000 in
theorem ggX4_gatesOff_X6_bit : GoodIn wsX4_gatesOff wsX6_bit := goodIn_r _ [5] (by decide +kernel) (by decide +kernel)
set_option maxRecDepth 20000 in
theorem gX4_gatesOff_X6_bit_n52 : GoodIn wsX4_gatesOff (wsX6_bit) := ggX4_gatesOff_X6_bit
set_option maxHeartbeats 4000000 in
set_option maxRecDepth 100000 in
theorem c_X4_gatesOff (l : Launch) (D : va_G) (cy : Nat → ClassId) (a_o a_o_isTold a_o_least a_o_gateOff a_o_limit a_o_value a_o_kind a_o_most a_o_wishOff a_o_use : Nat) (sz : Nat)  {o_wishes : Int32} {o_isTold : Nat → Int32} {o_gateOff : Nat → Int32}  {post : Int32 → Prop} (h : wp_X4_gatesOff o_isTold o_gateOff post) : Met l yX4_gatesOff wsX4_gatesOff ({ frames := 1, cells := 0, slots := 0, locals := 20 }) (va_Pc [.ref a_o] (wI D cy sz (w_X4_gatesOff cy a_o a_o_isTold a_o_least a_o_gateOff a_o_limit a_o_value a_o_kind a_o_most a_o_wishOff a_o_use o_wishes o_isTold o_gateOff))) (va_Qi (fun (r : Int32) (u : Unit) => post r ) (fun (u : Unit) t => wO D cy (va_A (w_X4_gatesOff cy a_o a_o_isTold a_o_least a_o_gateOff a_o_limit a_o_value a_o_kind a_o_most a_o_wishOff a_o_use o_wishes o_isTold o_gateOff) sz) (w_X4_gatesOff cy a_o a_o_isTold a_o_least a_o_gateOff a_o_limit a_o_value a_o_kind a_o_most a_o_wishOff a_o_use o_wishes o_isTold o_gateOff) t) (va_A (w_X4_gatesOff cy a_o a_o_isTold a_o_least a_o_gateOff a_o_limit a_o_value a_o_kind a_o_most a_o_wishOff a_o_use o_wishes o_isTold o_gateOff) sz)) 0 0 (va_A (w_X4_gatesOff cy a_o a_o_isTold a_o_least a_o_gateOff a_o_limit a_o_value a_o_kind a_o_most a_o_wishOff a_o_use o_wishes o_isTold o_gateOff) sz) := by
  refine contrI (S := Unit) (post := fun (r : Int32) (u : Unit) => post r ) (wOut := fun (u : Unit) => (w_X4_gatesOff cy a_o a_o_isTold a_o_least a_o_gateOff a_o_limit a_o_value a_o_kind a_o_most a_o_wishOff a_o_use o_wishes o_isTold o_gateOff)) (cc := cX4_gatesOff) (maxL := 3) (own := RX4) (by decide +kernel) rfl rfl ?_
  intro p e s m args below meth c A Q hx hb hml hown hts hK hN hP hD hS hA hret
  have in_X4 : ∀ w ∈ u_ws RX4 TX4 10, w ∈ wsX4_gatesOff := by decide +kernel
  have fl_9 := hts (.fieldLink RX4 9 "DawnTable$Table" "isTold" "[Z") (by decide +kernel)
  have fl_18 := hts (.fieldLink RX4 18 "DawnTable$Table" "gateOff" "[Z") (by decide +kernel)
  have j_33_0 : ∀ (x2 : Int32) (s0 : Int32) (s1 : Int32), ∀ (kb : Int32 → Int32 → Prop), (∀ (x1 : Int32) (x2 : Int32), kb x1 x2 → ∀ (H : Heap) (locs : List Loc), va_P D vwCl (w_X4_gatesOff cy a_o a_o_isTold a_o_least a_o_gateOff a_o_limit a_o_value a_o_kind a_o_most a_o_wishOff a_o_use o_wishes o_isTold o_gateOff) H → va_D A (w_X4_gatesOff cy a_o a_o_isTold a_o_least a_o_gateOff a_o_limit a_o_value a_o_kind a_o_most a_o_wishOff a_o_use o_wishes o_isTold o_gateOff) → va_S A s.heap H locs → ∀ (ls : Array Slot), lv_has ls 3 [(0, .ref a_o), (1, .int x1), (2, .int x2)] → W p l e ({ frames := 1, cells := 0, slots := 0, locals := 20 }) s m args below meth c H locs 0 0 Q (F0 m 4 ls [])) → ∀ (kx0 : Int32 → Prop), (∀ (x1 : Int32), kx0 x1 → ∀ (H : Heap) (locs : List Loc), va_P D vwCl (w_X4_gatesOff cy a_o a_o_isTold a_o_least a_o_gateOff a_o_limit a_o_value a_o_kind a_o_most a_o_wishOff a_o_use o_wishes o_isTold o_gateOff) H → va_D A (w_X4_gatesOff cy a_o a_o_isTold a_o_least a_o_gateOff a_o_limit a_o_value a_o_kind a_o_most a_o_wishOff a_o_use o_wishes o_isTold o_gateOff) → va_S A s.heap H locs → ∀ (ls : Array Slot), lv_has ls 3 [(1, .int x1)] → W p l e ({ frames := 1, cells := 0, slots := 0, locals := 20 }) s m args below meth c H locs 0 0 Q (F0 m 44 ls [])) → wj_X4_gatesOff_33  x2 s0 s1 o_isTold o_gateOff kb kx0 post → ∀ (H : Heap) (locs : List Loc), va_P D vwCl (w_X4_gatesOff cy a_o a_o_isTold a_o_least a_o_gateOff a_o_limit a_o_value a_o_kind a_o_most a_o_wishOff a_o_use o_wishes o_isTold o_gateOff) H → va_D A (w_X4_gatesOff cy a_o a_o_isTold a_o_least a_o_gateOff a_o_limit a_o_value a_o_kind a_o_most a_o_wishOff a_o_use o_wishes o_isTold o_gateOff) → va_S A s.heap H locs → ∀ (ls : Array Slot), lv_has ls 3 [(0, .ref a_o), (2, .int x2)] → W p l e ({ frames := 1, cells := 0, slots := 0, locals := 20 }) s m args below meth c H locs 0 0 Q (F0 m 33 ls [.int s1, .int s0]) := by
    intro x2 s0 s1 kb hkb kx0 hkx0  h H locs hP hD hS ls hl
    unfold wj_X4_gatesOff_33 at h
    have hC : ([] : List Nat).map (fun i => ((w_X4_gatesOff cy a_o a_o_isTold a_o_least a_o_gateOff a_o_limit a_o_value a_o_kind a_o_most a_o_wishOff a_o_use o_wishes o_isTold o_gateOff) : va_W)[i]?) = ((w_X6_bit cy ) : va_W).map some := rfl
    obtain ⟨hPc, hDc⟩ := cutC hP hD [] (by decide) hC
    have hFc := va_free hD hS hA [] hC
    refine va_calli (va_runSN (As := [.int s1]) (rest := [.int s0]) ⟨hx, hb, hml, hown, hts⟩ (c_X6_bit l D cy _ h) ⟨va_cnB 1 hts gX4_gatesOff_X6_bit_n52 rfl rfl rfl hN.1 (hts (.initialized RX6) (by decide +kernel)) (by decide +kernel) ⟨Nat.le_of_ble_eq_true rfl, Nat.le_of_ble_eq_true rfl⟩, hts (.static yX6_bit) (by decide +kernel), trivial⟩ (preS hPc hDc hK hN) rfl rfl hl.1 rfl (lv_room (Nat.le_of_ble_eq_true rfl)) dX4_gatesOff_33 ⟨Nat.zero_le _, Nat.zero_le _⟩) hS (fun q _ h => hFc q h) hFc (fun r4 u t H1 locs ht hvm h hB hz1 hk1 hS => ?_)
    try dsimp only at h hB
    obtain ⟨hP, hD⟩ := joinU (wd := (w_X4_gatesOff cy a_o a_o_isTold a_o_least a_o_gateOff a_o_limit a_o_value a_o_kind a_o_most a_o_wishOff a_o_use o_wishes o_isTold o_gateOff)) (wr := [(a_o, .inr (4, [.ref a_o_isTold, .ref a_o_least, .ref a_o_gateOff, .ref a_o_limit, .ref a_o_value, .ref a_o_kind, .ref a_o_most, .ref a_o_wishOff, .ref a_o_use, .int o_wishes])), (a_o_isTold, .inl (cy 3, 5, .inl o_isTold)), (a_o_gateOff, .inl (cy 3, 5, .inl o_gateOff))]) hP hD [] [0, 1, 2] [] hC hk1 ht hB rfl rfl rfl (N := 3) rfl (by decide) rfl rfl
    generalize H1 = H at hP hS ⊢
    refine lv_iadd hx hb dX4_gatesOff_36 ?_
    refine lv_istore_n (lv' := [(1, .int (s0 + r4)), (0, .ref a_o), (2, .int x2)]) hx hb dX4_gatesOff_37 rfl hl (by decide) rfl (fun ls hl => ?_)
    refine lv_iinc (v := (x2 + (1 : Int32))) (lv' := [(2, .int (x2 + (1 : Int32))), (1, .int (s0 + r4)), (0, .ref a_o)]) hx hb dX4_gatesOff_38 hl (k := 2) rfl (congrArg (fun z => x2 + z) (by decide : Int32.ofInt (1) = (1 : Int32))) (by decide) rfl (fun ls hl => ?_)
    refine lv_goto (tgt := 4) hx hb dX4_gatesOff_41 (by decide) ?_
    exact hkb (s0 + r4) (x2 + (1 : Int32)) h _ _ hP hD hS _ (lv_sub hl [2, 1, 0] rfl)
  have l_4 : ∀ (kx0 : Int32 → Prop), (∀ (x1 : Int32), kx0 x1 → ∀ (H : Heap) (locs : List Loc), va_P D vwCl (w_X4_gatesOff cy a_o a_o_isTold a_o_least a_o_gateOff a_o_limit a_o_value a_o_kind a_o_most a_o_wishOff a_o_use o_wishes o_isTold o_gateOff) H → va_D A (w_X4_gatesOff cy a_o a_o_isTold a_o_least a_o_gateOff a_o_limit a_o_value a_o_kind a_o_most a_o_wishOff a_o_use o_wishes o_isTold o_gateOff) → va_S A s.heap H locs → ∀ (ls : Array Slot), lv_has ls 3 [(1, .int x1)] → W p l e ({ frames := 1, cells := 0, slots := 0, locals := 20 }) s m args below meth c H locs 0 0 Q (F0 m 44 ls [])) → ∀ (n : Nat) (x1 : Int32) (x2 : Int32), wl_X4_gatesOff_4 o_isTold o_gateOff kx0 post n x1 x2 → ∀ (H : Heap) (locs : List Loc), va_P D vwCl (w_X4_gatesOff cy a_o a_o_isTold a_o_least a_o_gateOff a_o_limit a_o_value a_o_kind a_o_most a_o_wishOff a_o_use o_wishes o_isTold o_gateOff) H → va_D A (w_X4_gatesOff cy a_o a_o_isTold a_o_least a_o_gateOff a_o_limit a_o_value a_o_kind a_o_most a_o_wishOff a_o_use o_wishes o_isTold o_gateOff) → va_S A s.heap H locs → ∀ (ls : Array Slot), lv_has ls 3 [(0, .ref a_o), (1, .int x1), (2, .int x2)] → W p l e ({ frames := 1, cells := 0, slots := 0, locals := 20 }) s m args below meth c H locs 0 0 Q (F0 m 4 ls []) := by
    intro  kx0 hkx0  n
    induction n with
    | zero => intro x1 x2 h; exact h.elim
    | succ n hkb =>
      intro x1 x2 h H locs hP hD hS ls hl
      replace h : ws_X4_gatesOff_4 o_isTold o_gateOff (wl_X4_gatesOff_4 o_isTold o_gateOff kx0 post n) kx0 post x1 x2 := h
      generalize wl_X4_gatesOff_4 o_isTold o_gateOff kx0 post n = kb at h hkb
      unfold ws_X4_gatesOff_4 at h
      refine lv_iload_n hx hb dX4_gatesOff_4 rfl (lv_at hl 2 rfl) ?_
      refine lv_iconst (v := 5) hx hb dX4_gatesOff_5 (by decide) ?_
      refine lv_icmp_ge (tgt := 44) hx hb dX4_gatesOff_6 (by decide) (fun c1 => ?_) (fun c1 => ?_)
      · have h := h.1 c1
        exact hkx0 x1 h _ _ hP hD hS _ (lv_sub hl [1] rfl)
      · have h := h.2 c1
        refine lv_iload_n hx hb dX4_gatesOff_9 rfl (lv_at hl 1 rfl) ?_
        refine lv_aload_n hx hb dX4_gatesOff_10 rfl (lv_at hl 0 rfl) ?_
        refine va_get (D := D) (ci := 4) (v := .ref a_o_isTold) (C := RX4) (T := TX4) (N := 10) hx hb hts in_X4 hown hK hP 0 rfl rfl 0 (by decide) fl_9 (fun _ h9 => h9) rfl dX4_gatesOff_11 ?_
        refine lv_iload_n hx hb dX4_gatesOff_14 rfl (lv_at hl 2 rfl) ?_
        obtain ⟨i2, h⟩ := h
        refine va_zald hx hb hK hP 1 3 rfl rfl i2 dX4_gatesOff_15 ?_
        refine lv_if_eq (tgt := 32) hx hb dX4_gatesOff_16 (by decide) (fun c3 => ?_) (fun c3 => ?_)
        · have h := h.1 c3
          refine lv_iconst (v := 0) hx hb dX4_gatesOff_32 (by decide) ?_
          exact j_33_0 x2 x1 (0 : Int32) kb hkb kx0 hkx0 h _ _ hP hD hS _ (lv_sub hl [0, 2] rfl)
        · have h := h.2 c3
          refine lv_aload_n hx hb dX4_gatesOff_19 rfl (lv_at hl 0 rfl) ?_
          refine va_get (D := D) (ci := 4) (v := .ref a_o_gateOff) (C := RX4) (T := TX4) (N := 10) hx hb hts in_X4 hown hK hP 0 rfl rfl 2 (by decide) fl_18 (fun _ h9 => h9) rfl dX4_gatesOff_20 ?_
          refine lv_iload_n hx hb dX4_gatesOff_23 rfl (lv_at hl 2 rfl) ?_
          refine va_zald hx hb hK hP 2 3 rfl rfl i2 dX4_gatesOff_24 ?_
          refine lv_if_eq (tgt := 32) hx hb dX4_gatesOff_25 (by decide) (fun c5 => ?_) (fun c5 => ?_)
          · have h := h.1 c5
            refine lv_iconst (v := 0) hx hb dX4_gatesOff_32 (by decide) ?_
            exact j_33_0 x2 x1 (0 : Int32) kb hkb kx0 hkx0 h _ _ hP hD hS _ (lv_sub hl [0, 2] rfl)
          · have h := h.2 c5
            refine lv_iconst (v := 1) hx hb dX4_gatesOff_28 (by decide) ?_
            refine lv_goto (tgt := 33) hx hb dX4_gatesOff_29 (by decide) ?_
            exact j_33_0 x2 x1 (1 : Int32) kb hkb kx0 hkx0 h _ _ hP hD hS _ (lv_sub hl [0, 2] rfl)
  refine ent [.ref a_o] (Nat.le_of_ble_eq_true rfl) (fun ls hl => ?_)
  have hl : lv_has ls 3 [(0, .ref a_o)] := hl
  unfold wp_X4_gatesOff at h
  refine lv_iconst (v := 0) hx hb dX4_gatesOff_0 (by decide) ?_
  refine lv_istore_n (lv' := [(1, .int (0 : Int32)), (0, .ref a_o)]) hx hb dX4_gatesOff_1 rfl hl (by decide) rfl (fun ls hl => ?_)
  refine lv_iconst (v := 0) hx hb dX4_gatesOff_2 (by decide) ?_
  refine lv_istore_n (lv' := [(2, .int (0 : Int32)), (1, .int (0 : Int32)), (0, .ref a_o)]) hx hb dX4_gatesOff_3 rfl hl (by decide) rfl (fun ls hl => ?_)
  obtain ⟨n7, h⟩ := h
  refine l_4  _ ?_ n7 (0 : Int32) (0 : Int32) h _ _ hP hD hS _ (lv_sub hl [2, 1, 0] rfl)
  · intro x1_6 h H locs hP hD hS ls hl
    refine lv_iload_n hx hb dX4_gatesOff_44 rfl (lv_at hl 0 rfl) ?_
    exact hret x1_6 () _ _ _ _ h hP hD hS dX4_gatesOff_45
abbrev w_X4_wishesOff (cy : Nat → ClassId) (a_o a_o_isTold a_o_least a_o_gateOff a_o_limit a_o_value a_o_kind a_o_most a_o_wishOff a_o_use : Nat) (o_wishes : Int32) (o_wishOff : Nat → Int32) : va_W := [(a_o, .inr (4, [.ref a_o_isTold, .ref a_o_least, .ref a_o_gateOff, .ref a_o_limit, .ref a_o_value, .ref a_o_kind, .ref a_o_most, .ref a_o_wishOff, .ref a_o_use, .int o_wishes])), (a_o_wishOff, .inl (cy 3, 4, .inl o_wishOff))]
set_option maxRecDepth 20000 in
theorem ggX4_wishesOff_X6_bit : GoodIn wsX4_wishesOff wsX6_bit := goodIn_r _ [5] (by decide +kernel) (by decide +kernel)
set_option maxRecDepth 20000 in
theorem gX4_wishesOff_X6_bit_n52 : GoodIn wsX4_wishesOff (wsX6_bit) := ggX4_wishesOff_X6_bit
set_option maxHeartbeats 4000000 in
set_option maxRecDepth 100000 in
theorem c_X4_wishesOff (l : Launch) (D : va_G) (cy : Nat → ClassId) (a_o a_o_isTold a_o_least a_o_gateOff a_o_limit a_o_value a_o_kind a_o_most a_o_wishOff a_o_use : Nat) (sz : Nat)  {o_wishes : Int32} {o_wishOff : Nat → Int32}  {post : Int32 → Prop} (h : wp_X4_wishesOff o_wishes o_wishOff post) : Met l yX4_wishesOff wsX4_wishesOff ({ frames := 1, cells := 0, slots := 0, locals := 20 }) (va_Pc [.ref a_o] (wI D cy sz (w_X4_wishesOff cy a_o a_o_isTold a_o_least a_o_gateOff a_o_limit a_o_value a_o_kind a_o_most a_o_wishOff a_o_use o_wishes o_wishOff))) (va_Qi (fun (r : Int32) (u : Unit) => post r ) (fun (u : Unit) t => wO D cy (va_A (w_X4_wishesOff cy a_o a_o_isTold a_o_least a_o_gateOff a_o_limit a_o_value a_o_kind a_o_most a_o_wishOff a_o_use o_wishes o_wishOff) sz) (w_X4_wishesOff cy a_o a_o_isTold a_o_least a_o_gateOff a_o_limit a_o_value a_o_kind a_o_most a_o_wishOff a_o_use o_wishes o_wishOff) t) (va_A (w_X4_wishesOff cy a_o a_o_isTold a_o_least a_o_gateOff a_o_limit a_o_value a_o_kind a_o_most a_o_wishOff a_o_use o_wishes o_wishOff) sz)) 0 0 (va_A (w_X4_wishesOff cy a_o a_o_isTold a_o_least a_o_gateOff a_o_limit a_o_value a_o_kind a_o_most a_o_wishOff a_o_use o_wishes o_wishOff) sz) := by
  refine contrI (S := Unit) (post := fun (r : Int32) (u : Unit) => post r ) (wOut := fun (u : Unit) => (w_X4_wishesOff cy a_o a_o_isTold a_o_least a_o_gateOff a_o_limit a_o_value a_o_kind a_o_most a_o_wishOff a_o_use o_wishes o_wishOff)) (cc := cX4_wishesOff) (maxL := 3) (own := RX4) (by decide +kernel) rfl rfl ?_
  intro p e s m args below meth c A Q hx hb hml hown hts hK hN hP hD hS hA hret
  have in_X4 : ∀ w ∈ u_ws RX4 TX4 10, w ∈ wsX4_wishesOff := by decide +kernel
  have fl_42 := hts (.fieldLink RX4 42 "DawnTable$Table" "wishes" "I") (by decide +kernel)
  have fl_34 := hts (.fieldLink RX4 34 "DawnTable$Table" "wishOff" "[Z") (by decide +kernel)
  have l_4 : ∀ (kx0 : Int32 → Prop), (∀ (x1 : Int32), kx0 x1 → ∀ (H : Heap) (locs : List Loc), va_P D vwCl (w_X4_wishesOff cy a_o a_o_isTold a_o_least a_o_gateOff a_o_limit a_o_value a_o_kind a_o_most a_o_wishOff a_o_use o_wishes o_wishOff) H → va_D A (w_X4_wishesOff cy a_o a_o_isTold a_o_least a_o_gateOff a_o_limit a_o_value a_o_kind a_o_most a_o_wishOff a_o_use o_wishes o_wishOff) → va_S A s.heap H locs → ∀ (ls : Array Slot), lv_has ls 3 [(1, .int x1)] → W p l e ({ frames := 1, cells := 0, slots := 0, locals := 20 }) s m args below meth c H locs 0 0 Q (F0 m 30 ls [])) → ∀ (n : Nat) (x1 : Int32) (x2 : Int32), wl_X4_wishesOff_4 o_wishes o_wishOff kx0 post n x1 x2 → ∀ (H : Heap) (locs : List Loc), va_P D vwCl (w_X4_wishesOff cy a_o a_o_isTold a_o_least a_o_gateOff a_o_limit a_o_value a_o_kind a_o_most a_o_wishOff a_o_use o_wishes o_wishOff) H → va_D A (w_X4_wishesOff cy a_o a_o_isTold a_o_least a_o_gateOff a_o_limit a_o_value a_o_kind a_o_most a_o_wishOff a_o_use o_wishes o_wishOff) → va_S A s.heap H locs → ∀ (ls : Array Slot), lv_has ls 3 [(0, .ref a_o), (1, .int x1), (2, .int x2)] → W p l e ({ frames := 1, cells := 0, slots := 0, locals := 20 }) s m args below meth c H locs 0 0 Q (F0 m 4 ls []) := by
    intro  kx0 hkx0  n
    induction n with
    | zero => intro x1 x2 h; exact h.elim
    | succ n hkb =>
      intro x1 x2 h H locs hP hD hS ls hl
      replace h : ws_X4_wishesOff_4 o_wishes o_wishOff (wl_X4_wishesOff_4 o_wishes o_wishOff kx0 post n) kx0 post x1 x2 := h
      generalize wl_X4_wishesOff_4 o_wishes o_wishOff kx0 post n = kb at h hkb
      unfold ws_X4_wishesOff_4 at h
      refine lv_iload_n hx hb dX4_wishesOff_4 rfl (lv_at hl 2 rfl) ?_
      refine lv_aload_n hx hb dX4_wishesOff_5 rfl (lv_at hl 0 rfl) ?_
      refine va_get (D := D) (ci := 4) (v := .int o_wishes) (C := RX4) (T := TX4) (N := 10) hx hb hts in_X4 hown hK hP 0 rfl rfl 9 (by decide) fl_42 (fun _ h9 => h9) rfl dX4_wishesOff_6 ?_
      refine lv_icmp_ge (tgt := 30) hx hb dX4_wishesOff_9 (by decide) (fun c1 => ?_) (fun c1 => ?_)
      · have h := h.1 c1
        exact hkx0 x1 h _ _ hP hD hS _ (lv_sub hl [1] rfl)
      · have h := h.2 c1
        refine lv_iload_n hx hb dX4_wishesOff_12 rfl (lv_at hl 1 rfl) ?_
        refine lv_aload_n hx hb dX4_wishesOff_13 rfl (lv_at hl 0 rfl) ?_
        refine va_get (D := D) (ci := 4) (v := .ref a_o_wishOff) (C := RX4) (T := TX4) (N := 10) hx hb hts in_X4 hown hK hP 0 rfl rfl 7 (by decide) fl_34 (fun _ h9 => h9) rfl dX4_wishesOff_14 ?_
        refine lv_iload_n hx hb dX4_wishesOff_17 rfl (lv_at hl 2 rfl) ?_
        obtain ⟨i2, h⟩ := h
        refine va_zald hx hb hK hP 1 3 rfl rfl i2 dX4_wishesOff_18 ?_
        have hC : ([] : List Nat).map (fun i => ((w_X4_wishesOff cy a_o a_o_isTold a_o_least a_o_gateOff a_o_limit a_o_value a_o_kind a_o_most a_o_wishOff a_o_use o_wishes o_wishOff) : va_W)[i]?) = ((w_X6_bit cy ) : va_W).map some := rfl
        obtain ⟨hPc, hDc⟩ := cutC hP hD [] (by decide) hC
        have hFc := va_free hD hS hA [] hC
        refine va_calli (va_runSN (As := [.int (o_wishOff (x2).toNatClampNeg)]) (rest := [.int x1]) ⟨hx, hb, hml, hown, hts⟩ (c_X6_bit l D cy _ h) ⟨va_cnB 1 hts gX4_wishesOff_X6_bit_n52 rfl rfl rfl hN.1 (hts (.initialized RX6) (by decide +kernel)) (by decide +kernel) ⟨Nat.le_of_ble_eq_true rfl, Nat.le_of_ble_eq_true rfl⟩, hts (.static yX6_bit) (by decide +kernel), trivial⟩ (preS hPc hDc hK hN) rfl rfl hl.1 rfl (lv_room (Nat.le_of_ble_eq_true rfl)) dX4_wishesOff_19 ⟨Nat.zero_le _, Nat.zero_le _⟩) hS (fun q _ h => hFc q h) hFc (fun r3 u t H1 locs ht hvm h hB hz1 hk1 hS => ?_)
        try dsimp only at h hB
        obtain ⟨hP, hD⟩ := joinU (wd := (w_X4_wishesOff cy a_o a_o_isTold a_o_least a_o_gateOff a_o_limit a_o_value a_o_kind a_o_most a_o_wishOff a_o_use o_wishes o_wishOff)) (wr := [(a_o, .inr (4, [.ref a_o_isTold, .ref a_o_least, .ref a_o_gateOff, .ref a_o_limit, .ref a_o_value, .ref a_o_kind, .ref a_o_most, .ref a_o_wishOff, .ref a_o_use, .int o_wishes])), (a_o_wishOff, .inl (cy 3, 4, .inl o_wishOff))]) hP hD [] [0, 1] [] hC hk1 ht hB rfl rfl rfl (N := 2) rfl (by decide) rfl rfl
        generalize H1 = H at hP hS ⊢
        refine lv_iadd hx hb dX4_wishesOff_22 ?_
        refine lv_istore_n (lv' := [(1, .int (x1 + r3)), (0, .ref a_o), (2, .int x2)]) hx hb dX4_wishesOff_23 rfl hl (by decide) rfl (fun ls hl => ?_)
        refine lv_iinc (v := (x2 + (1 : Int32))) (lv' := [(2, .int (x2 + (1 : Int32))), (1, .int (x1 + r3)), (0, .ref a_o)]) hx hb dX4_wishesOff_24 hl (k := 2) rfl (congrArg (fun z => x2 + z) (by decide : Int32.ofInt (1) = (1 : Int32))) (by decide) rfl (fun ls hl => ?_)
        refine lv_goto (tgt := 4) hx hb dX4_wishesOff_27 (by decide) ?_
        exact hkb (x1 + r3) (x2 + (1 : Int32)) h _ _ hP hD hS _ (lv_sub hl [2, 1, 0] rfl)
  refine ent [.ref a_o] (Nat.le_of_ble_eq_true rfl) (fun ls hl => ?_)
  have hl : lv_has ls 3 [(0, .ref a_o)] := hl
  unfold wp_X4_wishesOff at h
  refine lv_iconst (v := 0) hx hb dX4_wishesOff_0 (by decide) ?_
  refine lv_istore_n (lv' := [(1, .int (0 : Int32)), (0, .ref a_o)]) hx hb dX4_wishesOff_1 rfl hl (by decide) rfl (fun ls hl => ?_)
  refine lv_iconst (v := 0) hx hb dX4_wishesOff_2 (by decide) ?_
  refine lv_istore_n (lv' := [(2, .int (0 : Int32)), (1, .int (0 : Int32)), (0, .ref a_o)]) hx hb dX4_wishesOff_3 rfl hl (by decide) rfl (fun ls hl => ?_)
  obtain ⟨n5, h⟩ := h
  refine l_4  _ ?_ n5 (0 : Int32) (0 : Int32) h _ _ hP hD hS _ (lv_sub hl [2, 1, 0] rfl)
  · intro x1_4 h H locs hP hD hS ls hl
    refine lv_iload_n hx hb dX4_wishesOff_30 rfl (lv_at hl 0 rfl) ?_
    exact hret x1_4 () _ _ _ _ h hP hD hS dX4_wishesOff_31
abbrev w_X4_unpartedWishes (cy : Nat → ClassId) (a_o a_o_isTold a_o_least a_o_gateOff a_o_limit a_o_value a_o_kind a_o_most a_o_wishOff a_o_use : Nat) (o_wishes : Int32) (o_kind : Nat → Int32) : va_W := [(a_o, .inr (4, [.ref a_o_isTold, .ref a_o_least, .ref a_o_gateOff, .ref a_o_limit, .ref a_o_value, .ref a_o_kind, .ref a_o_most, .ref a_o_wishOff, .ref a_o_use, .int o_wishes])), (a_o_kind, .inl (cy 1, 4, .inl o_kind))]
set_option maxRecDepth 20000 in
theorem ggX4_unpartedWishes_X6_bit : GoodIn wsX4_unpartedWishes wsX6_bit := goodIn_r _ [5] (by decide +kernel) (by decide +kernel)
set_option maxRecDepth 20000 in
theorem gX4_unpartedWishes_X6_bit_n52 : GoodIn wsX4_unpartedWishes (wsX6_bit) := ggX4_unpartedWishes_X6_bit
set_option maxHeartbeats 4000000 in
set_option maxRecDepth 100000 in
theorem c_X4_unpartedWishes (l : Launch) (D : va_G) (cy : Nat → ClassId) (a_o a_o_isTold a_o_least a_o_gateOff a_o_limit a_o_value a_o_kind a_o_most a_o_wishOff a_o_use : Nat) (sz : Nat)  {o_wishes : Int32} {o_kind : Nat → Int32}  {post : Int32 → Prop} (h : wp_X4_unpartedWishes o_wishes o_kind post) : Met l yX4_unpartedWishes wsX4_unpartedWishes ({ frames := 1, cells := 0, slots := 0, locals := 20 }) (va_Pc [.ref a_o] (wI D cy sz (w_X4_unpartedWishes cy a_o a_o_isTold a_o_least a_o_gateOff a_o_limit a_o_value a_o_kind a_o_most a_o_wishOff a_o_use o_wishes o_kind))) (va_Qi (fun (r : Int32) (u : Unit) => post r ) (fun (u : Unit) t => wO D cy (va_A (w_X4_unpartedWishes cy a_o a_o_isTold a_o_least a_o_gateOff a_o_limit a_o_value a_o_kind a_o_most a_o_wishOff a_o_use o_wishes o_kind) sz) (w_X4_unpartedWishes cy a_o a_o_isTold a_o_least a_o_gateOff a_o_limit a_o_value a_o_kind a_o_most a_o_wishOff a_o_use o_wishes o_kind) t) (va_A (w_X4_unpartedWishes cy a_o a_o_isTold a_o_least a_o_gateOff a_o_limit a_o_value a_o_kind a_o_most a_o_wishOff a_o_use o_wishes o_kind) sz)) 0 0 (va_A (w_X4_unpartedWishes cy a_o a_o_isTold a_o_least a_o_gateOff a_o_limit a_o_value a_o_kind a_o_most a_o_wishOff a_o_use o_wishes o_kind) sz) := by
  refine contrI (S := Unit) (post := fun (r : Int32) (u : Unit) => post r ) (wOut := fun (u : Unit) => (w_X4_unpartedWishes cy a_o a_o_isTold a_o_least a_o_gateOff a_o_limit a_o_value a_o_kind a_o_most a_o_wishOff a_o_use o_wishes o_kind)) (cc := cX4_unpartedWishes) (maxL := 3) (own := RX4) (by decide +kernel) rfl rfl ?_
  intro p e s m args below meth c A Q hx hb hml hown hts hK hN hP hD hS hA hret
  have in_X4 : ∀ w ∈ u_ws RX4 TX4 10, w ∈ wsX4_unpartedWishes := by decide +kernel
  have fl_42 := hts (.fieldLink RX4 42 "DawnTable$Table" "wishes" "I") (by decide +kernel)
  have fl_28 := hts (.fieldLink RX4 28 "DawnTable$Table" "kind" "[I") (by decide +kernel)
  have j_27_0 : ∀ (x2 : Int32) (s0 : Int32) (s1 : Int32), ∀ (kb : Int32 → Int32 → Prop), (∀ (x1 : Int32) (x2 : Int32), kb x1 x2 → ∀ (H : Heap) (locs : List Loc), va_P D vwCl (w_X4_unpartedWishes cy a_o a_o_isTold a_o_least a_o_gateOff a_o_limit a_o_value a_o_kind a_o_most a_o_wishOff a_o_use o_wishes o_kind) H → va_D A (w_X4_unpartedWishes cy a_o a_o_isTold a_o_least a_o_gateOff a_o_limit a_o_value a_o_kind a_o_most a_o_wishOff a_o_use o_wishes o_kind) → va_S A s.heap H locs → ∀ (ls : Array Slot), lv_has ls 3 [(0, .ref a_o), (1, .int x1), (2, .int x2)] → W p l e ({ frames := 1, cells := 0, slots := 0, locals := 20 }) s m args below meth c H locs 0 0 Q (F0 m 4 ls [])) → ∀ (kx0 : Int32 → Prop), (∀ (x1 : Int32), kx0 x1 → ∀ (H : Heap) (locs : List Loc), va_P D vwCl (w_X4_unpartedWishes cy a_o a_o_isTold a_o_least a_o_gateOff a_o_limit a_o_value a_o_kind a_o_most a_o_wishOff a_o_use o_wishes o_kind) H → va_D A (w_X4_unpartedWishes cy a_o a_o_isTold a_o_least a_o_gateOff a_o_limit a_o_value a_o_kind a_o_most a_o_wishOff a_o_use o_wishes o_kind) → va_S A s.heap H locs → ∀ (ls : Array Slot), lv_has ls 3 [(1, .int x1)] → W p l e ({ frames := 1, cells := 0, slots := 0, locals := 20 }) s m args below meth c H locs 0 0 Q (F0 m 38 ls [])) → wj_X4_unpartedWishes_27  x2 s0 s1 o_wishes o_kind kb kx0 post → ∀ (H : Heap) (locs : List Loc), va_P D vwCl (w_X4_unpartedWishes cy a_o a_o_isTold a_o_least a_o_gateOff a_o_limit a_o_value a_o_kind a_o_most a_o_wishOff a_o_use o_wishes o_kind) H → va_D A (w_X4_unpartedWishes cy a_o a_o_isTold a_o_least a_o_gateOff a_o_limit a_o_value a_o_kind a_o_most a_o_wishOff a_o_use o_wishes o_kind) → va_S A s.heap H locs → ∀ (ls : Array Slot), lv_has ls 3 [(0, .ref a_o), (2, .int x2)] → W p l e ({ frames := 1, cells := 0, slots := 0, locals := 20 }) s m args below meth c H locs 0 0 Q (F0 m 27 ls [.int s1, .int s0]) := by
    intro x2 s0 s1 kb hkb kx0 hkx0  h H locs hP hD hS ls hl
    unfold wj_X4_unpartedWishes_27 at h
    have hC : ([] : List Nat).map (fun i => ((w_X4_unpartedWishes cy a_o a_o_isTold a_o_least a_o_gateOff a_o_limit a_o_value a_o_kind a_o_most a_o_wishOff a_o_use o_wishes o_kind) : va_W)[i]?) = ((w_X6_bit cy ) : va_W).map some := rfl
    obtain ⟨hPc, hDc⟩ := cutC hP hD [] (by decide) hC
    have hFc := va_free hD hS hA [] hC
    refine va_calli (va_runSN (As := [.int s1]) (rest := [.int s0]) ⟨hx, hb, hml, hown, hts⟩ (c_X6_bit l D cy _ h) ⟨va_cnB 1 hts gX4_unpartedWishes_X6_bit_n52 rfl rfl rfl hN.1 (hts (.initialized RX6) (by decide +kernel)) (by decide +kernel) ⟨Nat.le_of_ble_eq_true rfl, Nat.le_of_ble_eq_true rfl⟩, hts (.static yX6_bit) (by decide +kernel), trivial⟩ (preS hPc hDc hK hN) rfl rfl hl.1 rfl (lv_room (Nat.le_of_ble_eq_true rfl)) dX4_unpartedWishes_27 ⟨Nat.zero_le _, Nat.zero_le _⟩) hS (fun q _ h => hFc q h) hFc (fun r4 u t H1 locs ht hvm h hB hz1 hk1 hS => ?_)
    try dsimp only at h hB
    obtain ⟨hP, hD⟩ := joinU (wd := (w_X4_unpartedWishes cy a_o a_o_isTold a_o_least a_o_gateOff a_o_limit a_o_value a_o_kind a_o_most a_o_wishOff a_o_use o_wishes o_kind)) (wr := [(a_o, .inr (4, [.ref a_o_isTold, .ref a_o_least, .ref a_o_gateOff, .ref a_o_limit, .ref a_o_value, .ref a_o_kind, .ref a_o_most, .ref a_o_wishOff, .ref a_o_use, .int o_wishes])), (a_o_kind, .inl (cy 1, 4, .inl o_kind))]) hP hD [] [0, 1] [] hC hk1 ht hB rfl rfl rfl (N := 2) rfl (by decide) rfl rfl
    generalize H1 = H at hP hS ⊢
    refine lv_iadd hx hb dX4_unpartedWishes_30 ?_
    refine lv_istore_n (lv' := [(1, .int (s0 + r4)), (0, .ref a_o), (2, .int x2)]) hx hb dX4_unpartedWishes_31 rfl hl (by decide) rfl (fun ls hl => ?_)
    refine lv_iinc (v := (x2 + (1 : Int32))) (lv' := [(2, .int (x2 + (1 : Int32))), (1, .int (s0 + r4)), (0, .ref a_o)]) hx hb dX4_unpartedWishes_32 hl (k := 2) rfl (congrArg (fun z => x2 + z) (by decide : Int32.ofInt (1) = (1 : Int32))) (by decide) rfl (fun ls hl => ?_)
    refine lv_goto (tgt := 4) hx hb dX4_unpartedWishes_35 (by decide) ?_
    exact hkb (s0 + r4) (x2 + (1 : Int32)) h _ _ hP hD hS _ (lv_sub hl [2, 1, 0] rfl)
  have l_4 : ∀ (kx0 : Int32 → Prop), (∀ (x1 : Int32), kx0 x1 → ∀ (H : Heap) (locs : List Loc), va_P D vwCl (w_X4_unpartedWishes cy a_o a_o_isTold a_o_least a_o_gateOff a_o_limit a_o_value a_o_kind a_o_most a_o_wishOff a_o_use o_wishes o_kind) H → va_D A (w_X4_unpartedWishes cy a_o a_o_isTold a_o_least a_o_gateOff a_o_limit a_o_value a_o_kind a_o_most a_o_wishOff a_o_use o_wishes o_kind) → va_S A s.heap H locs → ∀ (ls : Array Slot), lv_has ls 3 [(1, .int x1)] → W p l e ({ frames := 1, cells := 0, slots := 0, locals := 20 }) s m args below meth c H locs 0 0 Q (F0 m 38 ls [])) → ∀ (n : Nat) (x1 : Int32) (x2 : Int32), wl_X4_unpartedWishes_4 o_wishes o_kind kx0 post n x1 x2 → ∀ (H : Heap) (locs : List Loc), va_P D vwCl (w_X4_unpartedWishes cy a_o a_o_isTold a_o_least a_o_gateOff a_o_limit a_o_value a_o_kind a_o_most a_o_wishOff a_o_use o_wishes o_kind) H → va_D A (w_X4_unpartedWishes cy a_o a_o_isTold a_o_least a_o_gateOff a_o_limit a_o_value a_o_kind a_o_most a_o_wishOff a_o_use o_wishes o_kind) → va_S A s.heap H locs → ∀ (ls : Array Slot), lv_has ls 3 [(0, .ref a_o), (1, .int x1), (2, .int x2)] → W p l e ({ frames := 1, cells := 0, slots := 0, locals := 20 }) s m args below meth c H locs 0 0 Q (F0 m 4 ls []) := by
    intro  kx0 hkx0  n
    induction n with
    | zero => intro x1 x2 h; exact h.elim
    | succ n hkb =>
      intro x1 x2 h H locs hP hD hS ls hl
      replace h : ws_X4_unpartedWishes_4 o_wishes o_kind (wl_X4_unpartedWishes_4 o_wishes o_kind kx0 post n) kx0 post x1 x2 := h
      generalize wl_X4_unpartedWishes_4 o_wishes o_kind kx0 post n = kb at h hkb
      unfold ws_X4_unpartedWishes_4 at h
      refine lv_iload_n hx hb dX4_unpartedWishes_4 rfl (lv_at hl 2 rfl) ?_
      refine lv_aload_n hx hb dX4_unpartedWishes_5 rfl (lv_at hl 0 rfl) ?_
      refine va_get (D := D) (ci := 4) (v := .int o_wishes) (C := RX4) (T := TX4) (N := 10) hx hb hts in_X4 hown hK hP 0 rfl rfl 9 (by decide) fl_42 (fun _ h9 => h9) rfl dX4_unpartedWishes_6 ?_
      refine lv_icmp_ge (tgt := 38) hx hb dX4_unpartedWishes_9 (by decide) (fun c1 => ?_) (fun c1 => ?_)
      · have h := h.1 c1
        exact hkx0 x1 h _ _ hP hD hS _ (lv_sub hl [1] rfl)
      · have h := h.2 c1
        refine lv_iload_n hx hb dX4_unpartedWishes_12 rfl (lv_at hl 1 rfl) ?_
        refine lv_aload_n hx hb dX4_unpartedWishes_13 rfl (lv_at hl 0 rfl) ?_
        refine va_get (D := D) (ci := 4) (v := .ref a_o_kind) (C := RX4) (T := TX4) (N := 10) hx hb hts in_X4 hown hK hP 0 rfl rfl 5 (by decide) fl_28 (fun _ h9 => h9) rfl dX4_unpartedWishes_14 ?_
        refine lv_iload_n hx hb dX4_unpartedWishes_17 rfl (lv_at hl 2 rfl) ?_
        obtain ⟨i2, h⟩ := h
        refine va_iald hx hb hK hP 1 1 rfl rfl i2 dX4_unpartedWishes_18 ?_
        refine lv_if_eq (tgt := 26) hx hb dX4_unpartedWishes_19 (by decide) (fun c3 => ?_) (fun c3 => ?_)
        · have h := h.1 c3
          refine lv_iconst (v := 0) hx hb dX4_unpartedWishes_26 (by decide) ?_
          exact j_27_0 x2 x1 (0 : Int32) kb hkb kx0 hkx0 h _ _ hP hD hS _ (lv_sub hl [0, 2] rfl)
        · have h := h.2 c3
          refine lv_iconst (v := 1) hx hb dX4_unpartedWishes_22 (by decide) ?_
          refine lv_goto (tgt := 27) hx hb dX4_unpartedWishes_23 (by decide) ?_
          exact j_27_0 x2 x1 (1 : Int32) kb hkb kx0 hkx0 h _ _ hP hD hS _ (lv_sub hl [0, 2] rfl)
  refine ent [.ref a_o] (Nat.le_of_ble_eq_true rfl) (fun ls hl => ?_)
  have hl : lv_has ls 3 [(0, .ref a_o)] := hl
  unfold wp_X4_unpartedWishes at h
  refine lv_iconst (v := 0) hx hb dX4_unpartedWishes_0 (by decide) ?_
  refine lv_istore_n (lv' := [(1, .int (0 : Int32)), (0, .ref a_o)]) hx hb dX4_unpartedWishes_1 rfl hl (by decide) rfl (fun ls hl => ?_)
  refine lv_iconst (v := 0) hx hb dX4_unpartedWishes_2 (by decide) ?_
  refine lv_istore_n (lv' := [(2, .int (0 : Int32)), (1, .int (0 : Int32)), (0, .ref a_o)]) hx hb dX4_unpartedWishes_3 rfl hl (by decide) rfl (fun ls hl => ?_)
  obtain ⟨n6, h⟩ := h
  refine l_4  _ ?_ n6 (0 : Int32) (0 : Int32) h _ _ hP hD hS _ (lv_sub hl [2, 1, 0] rfl)
  · intro x1_5 h H locs hP hD hS ls hl
    refine lv_iload_n hx hb dX4_unpartedWishes_38 rfl (lv_at hl 0 rfl) ?_
    exact hret x1_5 () _ _ _ _ h hP hD hS dX4_unpartedWishes_39
abbrev w_X4_narrowWishes (cy : Nat → ClassId) (a_o a_o_isTold a_o_least a_o_gateOff a_o_limit a_o_value a_o_kind a_o_most a_o_wishOff a_o_use : Nat) (r_o_use : Nat → Nat) (o_wishes : Int32) (o_use : Nat → Nat → Int32) : va_W := [(a_o, .inr (4, [.ref a_o_isTold, .ref a_o_least, .ref a_o_gateOff, .ref a_o_limit, .ref a_o_value, .ref a_o_kind, .ref a_o_most, .ref a_o_wishOff, .ref a_o_use, .int o_wishes])), (a_o_use, .inl (cy 4, 4, .inr (.inr (.inr (.inr (mref r_o_use 4))))))] ++ rows4 r_o_use (rowI (cy 1) 5 o_use) ++ []
set_option maxRecDepth 20000 in
theorem ggX4_narrowWishes_X6_bit : GoodIn wsX4_narrowWishes wsX6_bit := goodIn_r _ [5] (by decide +kernel) (by decide +kernel)
set_option maxRecDepth 20000 in
theorem gX4_narrowWishes_X6_bit_n52 : GoodIn wsX4_narrowWishes (wsX6_bit) := ggX4_narrowWishes_X6_bit
set_option maxHeartbeats 4000000 in
set_option maxRecDepth 100000 in
theorem c_X4_narrowWishes (l : Launch) (D : va_G) (cy : Nat → ClassId) (a_o a_o_isTold a_o_least a_o_gateOff a_o_limit a_o_value a_o_kind a_o_most a_o_wishOff a_o_use : Nat) (r_o_use : Nat → Nat) (sz : Nat)  {o_wishes : Int32} {o_use : Nat → Nat → Int32}  {post : Int32 → Prop} (h : wp_X4_narrowWishes o_wishes o_use post) : Met l yX4_narrowWishes wsX4_narrowWishes ({ frames := 1, cells := 0, slots := 0, locals := 20 }) (va_Pc [.ref a_o] (wI D cy sz (w_X4_narrowWishes cy a_o a_o_isTold a_o_least a_o_gateOff a_o_limit a_o_value a_o_kind a_o_most a_o_wishOff a_o_use r_o_use o_wishes o_use))) (va_Qi (fun (r : Int32) (u : Unit) => post r ) (fun (u : Unit) t => wO D cy (va_A (w_X4_narrowWishes cy a_o a_o_isTold a_o_least a_o_gateOff a_o_limit a_o_value a_o_kind a_o_most a_o_wishOff a_o_use r_o_use o_wishes o_use) sz) (w_X4_narrowWishes cy a_o a_o_isTold a_o_least a_o_gateOff a_o_limit a_o_value a_o_kind a_o_most a_o_wishOff a_o_use r_o_use o_wishes o_use) t) (va_A (w_X4_narrowWishes cy a_o a_o_isTold a_o_least a_o_gateOff a_o_limit a_o_value a_o_kind a_o_most a_o_wishOff a_o_use r_o_use o_wishes o_use) sz)) 0 0 (va_A (w_X4_narrowWishes cy a_o a_o_isTold a_o_least a_o_gateOff a_o_limit a_o_value a_o_kind a_o_most a_o_wishOff a_o_use r_o_use o_wishes o_use) sz) := by
  refine contrI (S := Unit) (post := fun (r : Int32) (u : Unit) => post r ) (wOut := fun (u : Unit) => (w_X4_narrowWishes cy a_o a_o_isTold a_o_least a_o_gateOff a_o_limit a_o_value a_o_kind a_o_most a_o_wishOff a_o_use r_o_use o_wishes o_use)) (cc := cX4_narrowWishes) (maxL := 5) (own := RX4) (by decide +kernel) rfl rfl ?_
  intro p e s m args below meth c A Q hx hb hml hown hts hK hN hP hD hS hA hret
  have in_X4 : ∀ w ∈ u_ws RX4 TX4 10, w ∈ wsX4_narrowWishes := by decide +kernel
  have fl_42 := hts (.fieldLink RX4 42 "DawnTable$Table" "wishes" "I") (by decide +kernel)
  have fl_39 := hts (.fieldLink RX4 39 "DawnTable$Table" "use" "[[I") (by decide +kernel)
  have j_41_0 : ∀ (x1 : Int32) (x2 : Int32) (x4 : Int32) (s0 : Int32) (s1 : Int32), ∀ (kb : Int32 → Int32 → Prop), (∀ (x3 : Int32) (x4 : Int32), kb x3 x4 → ∀ (H : Heap) (locs : List Loc), va_P D vwCl (w_X4_narrowWishes cy a_o a_o_isTold a_o_least a_o_gateOff a_o_limit a_o_value a_o_kind a_o_most a_o_wishOff a_o_use r_o_use o_wishes o_use) H → va_D A (w_X4_narrowWishes cy a_o a_o_isTold a_o_least a_o_gateOff a_o_limit a_o_value a_o_kind a_o_most a_o_wishOff a_o_use r_o_use o_wishes o_use) → va_S A s.heap H locs → ∀ (ls : Array Slot), lv_has ls 5 [(0, .ref a_o), (1, .int x1), (2, .int x2), (3, .int x3), (4, .int x4)] → W p l e ({ frames := 1, cells := 0, slots := 0, locals := 20 }) s m args below meth c H locs 0 0 Q (F0 m 17 ls [])) → ∀ (kx0 : Int32 → Prop), (∀ (x3 : Int32), kx0 x3 → ∀ (H : Heap) (locs : List Loc), va_P D vwCl (w_X4_narrowWishes cy a_o a_o_isTold a_o_least a_o_gateOff a_o_limit a_o_value a_o_kind a_o_most a_o_wishOff a_o_use r_o_use o_wishes o_use) H → va_D A (w_X4_narrowWishes cy a_o a_o_isTold a_o_least a_o_gateOff a_o_limit a_o_value a_o_kind a_o_most a_o_wishOff a_o_use r_o_use o_wishes o_use) → va_S A s.heap H locs → ∀ (ls : Array Slot), lv_has ls 5 [(0, .ref a_o), (1, .int x1), (2, .int x2), (3, .int x3)] → W p l e ({ frames := 1, cells := 0, slots := 0, locals := 20 }) s m args below meth c H locs 0 0 Q (F0 m 52 ls [])) → wj_X4_narrowWishes_41  x1 x2 x4 s0 s1 o_wishes o_use kb kx0 post → ∀ (H : Heap) (locs : List Loc), va_P D vwCl (w_X4_narrowWishes cy a_o a_o_isTold a_o_least a_o_gateOff a_o_limit a_o_value a_o_kind a_o_most a_o_wishOff a_o_use r_o_use o_wishes o_use) H → va_D A (w_X4_narrowWishes cy a_o a_o_isTold a_o_least a_o_gateOff a_o_limit a_o_value a_o_kind a_o_most a_o_wishOff a_o_use r_o_use o_wishes o_use) → va_S A s.heap H locs → ∀ (ls : Array Slot), lv_has ls 5 [(0, .ref a_o), (1, .int x1), (2, .int x2), (4, .int x4)] → W p l e ({ frames := 1, cells := 0, slots := 0, locals := 20 }) s m args below meth c H locs 0 0 Q (F0 m 41 ls [.int s1, .int s0]) := by
    intro x1 x2 x4 s0 s1 kb hkb kx0 hkx0  h H locs hP hD hS ls hl
    unfold wj_X4_narrowWishes_41 at h
    have hC : ([] : List Nat).map (fun i => ((w_X4_narrowWishes cy a_o a_o_isTold a_o_least a_o_gateOff a_o_limit a_o_value a_o_kind a_o_most a_o_wishOff a_o_use r_o_use o_wishes o_use) : va_W)[i]?) = ((w_X6_bit cy ) : va_W).map some := rfl
    obtain ⟨hPc, hDc⟩ := cutC hP hD [] (by decide) hC
    have hFc := va_free hD hS hA [] hC
    refine va_calli (va_runSN (As := [.int s1]) (rest := [.int s0]) ⟨hx, hb, hml, hown, hts⟩ (c_X6_bit l D cy _ h) ⟨va_cnB 1 hts gX4_narrowWishes_X6_bit_n52 rfl rfl rfl hN.1 (hts (.initialized RX6) (by decide +kernel)) (by decide +kernel) ⟨Nat.le_of_ble_eq_true rfl, Nat.le_of_ble_eq_true rfl⟩, hts (.static yX6_bit) (by decide +kernel), trivial⟩ (preS hPc hDc hK hN) rfl rfl hl.1 rfl (lv_room (Nat.le_of_ble_eq_true rfl)) dX4_narrowWishes_41 ⟨Nat.zero_le _, Nat.zero_le _⟩) hS (fun q _ h => hFc q h) hFc (fun r6 u t H1 locs ht hvm h hB hz1 hk1 hS => ?_)
    try dsimp only at h hB
    obtain ⟨hP, hD⟩ := joinU (wd := (w_X4_narrowWishes cy a_o a_o_isTold a_o_least a_o_gateOff a_o_limit a_o_value a_o_kind a_o_most a_o_wishOff a_o_use r_o_use o_wishes o_use)) (wr := [(a_o, .inr (4, [.ref a_o_isTold, .ref a_o_least, .ref a_o_gateOff, .ref a_o_limit, .ref a_o_value, .ref a_o_kind, .ref a_o_most, .ref a_o_wishOff, .ref a_o_use, .int o_wishes])), (a_o_use, .inl (cy 4, 4, .inr (.inr (.inr (.inr (mref r_o_use 4)))))), (r_o_use 0, rowI (cy 1) 5 o_use 0), (r_o_use 1, rowI (cy 1) 5 o_use 1), (r_o_use 2, rowI (cy 1) 5 o_use 2), (r_o_use 3, rowI (cy 1) 5 o_use 3)]) hP hD [] [0, 1, 2, 3, 4, 5] [] hC hk1 ht hB rfl rfl rfl (N := 6) rfl (by decide) rfl rfl
    generalize H1 = H at hP hS ⊢
    refine lv_iadd hx hb dX4_narrowWishes_44 ?_
    refine lv_istore_n (lv' := [(3, .int (s0 + r6)), (0, .ref a_o), (1, .int x1), (2, .int x2), (4, .int x4)]) hx hb dX4_narrowWishes_45 rfl hl (by decide) rfl (fun ls hl => ?_)
    refine lv_iinc (v := (x4 + (1 : Int32))) (lv' := [(4, .int (x4 + (1 : Int32))), (3, .int (s0 + r6)), (0, .ref a_o), (1, .int x1), (2, .int x2)]) hx hb dX4_narrowWishes_46 hl (k := 4) rfl (congrArg (fun z => x4 + z) (by decide : Int32.ofInt (1) = (1 : Int32))) (by decide) rfl (fun ls hl => ?_)
    refine lv_goto (tgt := 17) hx hb dX4_narrowWishes_49 (by decide) ?_
    exact hkb (s0 + r6) (x4 + (1 : Int32)) h _ _ hP hD hS _ (lv_sub hl [2, 3, 4, 1, 0] rfl)
  have l_17 : ∀ (x1 : Int32) (x2 : Int32), ∀ (kx0 : Int32 → Prop), (∀ (x3 : Int32), kx0 x3 → ∀ (H : Heap) (locs : List Loc), va_P D vwCl (w_X4_narrowWishes cy a_o a_o_isTold a_o_least a_o_gateOff a_o_limit a_o_value a_o_kind a_o_most a_o_wishOff a_o_use r_o_use o_wishes o_use) H → va_D A (w_X4_narrowWishes cy a_o a_o_isTold a_o_least a_o_gateOff a_o_limit a_o_value a_o_kind a_o_most a_o_wishOff a_o_use r_o_use o_wishes o_use) → va_S A s.heap H locs → ∀ (ls : Array Slot), lv_has ls 5 [(0, .ref a_o), (1, .int x1), (2, .int x2), (3, .int x3)] → W p l e ({ frames := 1, cells := 0, slots := 0, locals := 20 }) s m args below meth c H locs 0 0 Q (F0 m 52 ls [])) → ∀ (n : Nat) (x3 : Int32) (x4 : Int32), wl_X4_narrowWishes_17 x1 x2 o_wishes o_use kx0 post n x3 x4 → ∀ (H : Heap) (locs : List Loc), va_P D vwCl (w_X4_narrowWishes cy a_o a_o_isTold a_o_least a_o_gateOff a_o_limit a_o_value a_o_kind a_o_most a_o_wishOff a_o_use r_o_use o_wishes o_use) H → va_D A (w_X4_narrowWishes cy a_o a_o_isTold a_o_least a_o_gateOff a_o_limit a_o_value a_o_kind a_o_most a_o_wishOff a_o_use r_o_use o_wishes o_use) → va_S A s.heap H locs → ∀ (ls : Array Slot), lv_has ls 5 [(0, .ref a_o), (1, .int x1), (2, .int x2), (3, .int x3), (4, .int x4)] → W p l e ({ frames := 1, cells := 0, slots := 0, locals := 20 }) s m args below meth c H locs 0 0 Q (F0 m 17 ls []) := by
    intro x1 x2 kx0 hkx0  n
    induction n with
    | zero => intro x3 x4 h; exact h.elim
    | succ n hkb =>
      intro x3 x4 h H locs hP hD hS ls hl
      replace h : ws_X4_narrowWishes_17 x1 x2 o_wishes o_use (wl_X4_narrowWishes_17 x1 x2 o_wishes o_use kx0 post n) kx0 post x3 x4 := h
      generalize wl_X4_narrowWishes_17 x1 x2 o_wishes o_use kx0 post n = kb at h hkb
      unfold ws_X4_narrowWishes_17 at h
      refine lv_iload hx hb dX4_narrowWishes_17 (lv_at hl 4 rfl) ?_
      refine lv_iconst (v := 5) hx hb dX4_narrowWishes_19 (by decide) ?_
      refine lv_icmp_ge (tgt := 52) hx hb dX4_narrowWishes_20 (by decide) (fun c2 => ?_) (fun c2 => ?_)
      · have h := h.1 c2
        exact hkx0 x3 h _ _ hP hD hS _ (lv_sub hl [0, 1, 2, 3] rfl)
      · have h := h.2 c2
        refine lv_iload_n hx hb dX4_narrowWishes_23 rfl (lv_at hl 3 rfl) ?_
        refine lv_aload_n hx hb dX4_narrowWishes_24 rfl (lv_at hl 0 rfl) ?_
        refine va_get (D := D) (ci := 4) (v := .ref a_o_use) (C := RX4) (T := TX4) (N := 10) hx hb hts in_X4 hown hK hP 0 rfl rfl 8 (by decide) fl_39 (fun _ h9 => h9) rfl dX4_narrowWishes_25 ?_
        refine lv_iload_n hx hb dX4_narrowWishes_28 rfl (lv_at hl 2 rfl) ?_
        obtain ⟨i3, h⟩ := h
        refine mx_ald hx hb hK hP 1 4 rfl rfl i3 dX4_narrowWishes_29 ?_
        refine lv_iload hx hb dX4_narrowWishes_30 (lv_at hl 4 rfl) ?_
        obtain ⟨i4, h⟩ := h
        refine va_iald hx hb hK hP (2 + (x2).toNatClampNeg) 1 (gI0 (in_lt i3)) rfl i4 dX4_narrowWishes_32 ?_
        refine lv_if_le (tgt := 40) hx hb dX4_narrowWishes_33 (by decide) (fun c5 => ?_) (fun c5 => ?_)
        · have h := h.1 c5
          refine lv_iconst (v := 0) hx hb dX4_narrowWishes_40 (by decide) ?_
          exact j_41_0 x1 x2 x4 x3 (0 : Int32) kb hkb kx0 hkx0 h _ _ hP hD hS _ (lv_sub hl [0, 1, 2, 4] rfl)
        · have h := h.2 c5
          refine lv_iconst (v := 1) hx hb dX4_narrowWishes_36 (by decide) ?_
          refine lv_goto (tgt := 41) hx hb dX4_narrowWishes_37 (by decide) ?_
          exact j_41_0 x1 x2 x4 x3 (1 : Int32) kb hkb kx0 hkx0 h _ _ hP hD hS _ (lv_sub hl [0, 1, 2, 4] rfl)
  have j_63_1 : ∀ (x2 : Int32) (s0 : Int32) (s1 : Int32), ∀ (kb : Int32 → Int32 → Prop), (∀ (x1 : Int32) (x2 : Int32), kb x1 x2 → ∀ (H : Heap) (locs : List Loc), va_P D vwCl (w_X4_narrowWishes cy a_o a_o_isTold a_o_least a_o_gateOff a_o_limit a_o_value a_o_kind a_o_most a_o_wishOff a_o_use r_o_use o_wishes o_use) H → va_D A (w_X4_narrowWishes cy a_o a_o_isTold a_o_least a_o_gateOff a_o_limit a_o_value a_o_kind a_o_most a_o_wishOff a_o_use r_o_use o_wishes o_use) → va_S A s.heap H locs → ∀ (ls : Array Slot), lv_has ls 5 [(0, .ref a_o), (1, .int x1), (2, .int x2)] → W p l e ({ frames := 1, cells := 0, slots := 0, locals := 20 }) s m args below meth c H locs 0 0 Q (F0 m 4 ls [])) → ∀ (kx0 : Int32 → Prop), (∀ (x1 : Int32), kx0 x1 → ∀ (H : Heap) (locs : List Loc), va_P D vwCl (w_X4_narrowWishes cy a_o a_o_isTold a_o_least a_o_gateOff a_o_limit a_o_value a_o_kind a_o_most a_o_wishOff a_o_use r_o_use o_wishes o_use) H → va_D A (w_X4_narrowWishes cy a_o a_o_isTold a_o_least a_o_gateOff a_o_limit a_o_value a_o_kind a_o_most a_o_wishOff a_o_use r_o_use o_wishes o_use) → va_S A s.heap H locs → ∀ (ls : Array Slot), lv_has ls 5 [(1, .int x1)] → W p l e ({ frames := 1, cells := 0, slots := 0, locals := 20 }) s m args below meth c H locs 0 0 Q (F0 m 74 ls [])) → wj_X4_narrowWishes_63  x2 s0 s1 o_wishes o_use kb kx0 post → ∀ (H : Heap) (locs : List Loc), va_P D vwCl (w_X4_narrowWishes cy a_o a_o_isTold a_o_least a_o_gateOff a_o_limit a_o_value a_o_kind a_o_most a_o_wishOff a_o_use r_o_use o_wishes o_use) H → va_D A (w_X4_narrowWishes cy a_o a_o_isTold a_o_least a_o_gateOff a_o_limit a_o_value a_o_kind a_o_most a_o_wishOff a_o_use r_o_use o_wishes o_use) → va_S A s.heap H locs → ∀ (ls : Array Slot), lv_has ls 5 [(0, .ref a_o), (2, .int x2)] → W p l e ({ frames := 1, cells := 0, slots := 0, locals := 20 }) s m args below meth c H locs 0 0 Q (F0 m 63 ls [.int s1, .int s0]) := by
    intro x2 s0 s1 kb hkb kx0 hkx0  h H locs hP hD hS ls hl
    unfold wj_X4_narrowWishes_63 at h
    have hC : ([] : List Nat).map (fun i => ((w_X4_narrowWishes cy a_o a_o_isTold a_o_least a_o_gateOff a_o_limit a_o_value a_o_kind a_o_most a_o_wishOff a_o_use r_o_use o_wishes o_use) : va_W)[i]?) = ((w_X6_bit cy ) : va_W).map some := rfl
    obtain ⟨hPc, hDc⟩ := cutC hP hD [] (by decide) hC
    have hFc := va_free hD hS hA [] hC
    refine va_calli (va_runSN (As := [.int s1]) (rest := [.int s0]) ⟨hx, hb, hml, hown, hts⟩ (c_X6_bit l D cy _ h) ⟨va_cnB 1 hts gX4_narrowWishes_X6_bit_n52 rfl rfl rfl hN.1 (hts (.initialized RX6) (by decide +kernel)) (by decide +kernel) ⟨Nat.le_of_ble_eq_true rfl, Nat.le_of_ble_eq_true rfl⟩, hts (.static yX6_bit) (by decide +kernel), trivial⟩ (preS hPc hDc hK hN) rfl rfl hl.1 rfl (lv_room (Nat.le_of_ble_eq_true rfl)) dX4_narrowWishes_63 ⟨Nat.zero_le _, Nat.zero_le _⟩) hS (fun q _ h => hFc q h) hFc (fun r9 u t H1 locs ht hvm h hB hz1 hk1 hS => ?_)
    try dsimp only at h hB
    obtain ⟨hP, hD⟩ := joinU (wd := (w_X4_narrowWishes cy a_o a_o_isTold a_o_least a_o_gateOff a_o_limit a_o_value a_o_kind a_o_most a_o_wishOff a_o_use r_o_use o_wishes o_use)) (wr := [(a_o, .inr (4, [.ref a_o_isTold, .ref a_o_least, .ref a_o_gateOff, .ref a_o_limit, .ref a_o_value, .ref a_o_kind, .ref a_o_most, .ref a_o_wishOff, .ref a_o_use, .int o_wishes])), (a_o_use, .inl (cy 4, 4, .inr (.inr (.inr (.inr (mref r_o_use 4)))))), (r_o_use 0, rowI (cy 1) 5 o_use 0), (r_o_use 1, rowI (cy 1) 5 o_use 1), (r_o_use 2, rowI (cy 1) 5 o_use 2), (r_o_use 3, rowI (cy 1) 5 o_use 3)]) hP hD [] [0, 1, 2, 3, 4, 5] [] hC hk1 ht hB rfl rfl rfl (N := 6) rfl (by decide) rfl rfl
    generalize H1 = H at hP hS ⊢
    refine lv_iadd hx hb dX4_narrowWishes_66 ?_
    refine lv_istore_n (lv' := [(1, .int (s0 + r9)), (0, .ref a_o), (2, .int x2)]) hx hb dX4_narrowWishes_67 rfl hl (by decide) rfl (fun ls hl => ?_)
    refine lv_iinc (v := (x2 + (1 : Int32))) (lv' := [(2, .int (x2 + (1 : Int32))), (1, .int (s0 + r9)), (0, .ref a_o)]) hx hb dX4_narrowWishes_68 hl (k := 2) rfl (congrArg (fun z => x2 + z) (by decide : Int32.ofInt (1) = (1 : Int32))) (by decide) rfl (fun ls hl => ?_)
    refine lv_goto (tgt := 4) hx hb dX4_narrowWishes_71 (by decide) ?_
    exact hkb (s0 + r9) (x2 + (1 : Int32)) h _ _ hP hD hS _ (lv_sub hl [2, 1, 0] rfl)
  have l_4 : ∀ (kx0 : Int32 → Prop), (∀ (x1 : Int32), kx0 x1 → ∀ (H : Heap) (locs : List Loc), va_P D vwCl (w_X4_narrowWishes cy a_o a_o_isTold a_o_least a_o_gateOff a_o_limit a_o_value a_o_kind a_o_most a_o_wishOff a_o_use r_o_use o_wishes o_use) H → va_D A (w_X4_narrowWishes cy a_o a_o_isTold a_o_least a_o_gateOff a_o_limit a_o_value a_o_kind a_o_most a_o_wishOff a_o_use r_o_use o_wishes o_use) → va_S A s.heap H locs → ∀ (ls : Array Slot), lv_has ls 5 [(1, .int x1)] → W p l e ({ frames := 1, cells := 0, slots := 0, locals := 20 }) s m args below meth c H locs 0 0 Q (F0 m 74 ls [])) → ∀ (n : Nat) (x1 : Int32) (x2 : Int32), wl_X4_narrowWishes_4 o_wishes o_use kx0 post n x1 x2 → ∀ (H : Heap) (locs : List Loc), va_P D vwCl (w_X4_narrowWishes cy a_o a_o_isTold a_o_least a_o_gateOff a_o_limit a_o_value a_o_kind a_o_most a_o_wishOff a_o_use r_o_use o_wishes o_use) H → va_D A (w_X4_narrowWishes cy a_o a_o_isTold a_o_least a_o_gateOff a_o_limit a_o_value a_o_kind a_o_most a_o_wishOff a_o_use r_o_use o_wishes o_use) → va_S A s.heap H locs → ∀ (ls : Array Slot), lv_has ls 5 [(0, .ref a_o), (1, .int x1), (2, .int x2)] → W p l e ({ frames := 1, cells := 0, slots := 0, locals := 20 }) s m args below meth c H locs 0 0 Q (F0 m 4 ls []) := by
    intro  kx0 hkx0  n
    induction n with
    | zero => intro x1 x2 h; exact h.elim
    | succ n hkb =>
      intro x1 x2 h H locs hP hD hS ls hl
      replace h : ws_X4_narrowWishes_4 o_wishes o_use (wl_X4_narrowWishes_4 o_wishes o_use kx0 post n) kx0 post x1 x2 := h
      generalize wl_X4_narrowWishes_4 o_wishes o_use kx0 post n = kb at h hkb
      unfold ws_X4_narrowWishes_4 at h
      refine lv_iload_n hx hb dX4_narrowWishes_4 rfl (lv_at hl 2 rfl) ?_
      refine lv_aload_n hx hb dX4_narrowWishes_5 rfl (lv_at hl 0 rfl) ?_
      refine va_get (D := D) (ci := 4) (v := .int o_wishes) (C := RX4) (T := TX4) (N := 10) hx hb hts in_X4 hown hK hP 0 rfl rfl 9 (by decide) fl_42 (fun _ h9 => h9) rfl dX4_narrowWishes_6 ?_
      refine lv_icmp_ge (tgt := 74) hx hb dX4_narrowWishes_9 (by decide) (fun c1 => ?_) (fun c1 => ?_)
      · have h := h.1 c1
        exact hkx0 x1 h _ _ hP hD hS _ (lv_sub hl [1] rfl)
      · have h := h.2 c1
        refine lv_iconst (v := 0) hx hb dX4_narrowWishes_12 (by decide) ?_
        refine lv_istore_n (lv' := [(3, .int (0 : Int32)), (0, .ref a_o), (1, .int x1), (2, .int x2)]) hx hb dX4_narrowWishes_13 rfl hl (by decide) rfl (fun ls hl => ?_)
        refine lv_iconst (v := 0) hx hb dX4_narrowWishes_14 (by decide) ?_
        refine lv_istore (lv' := [(4, .int (0 : Int32)), (3, .int (0 : Int32)), (0, .ref a_o), (1, .int x1), (2, .int x2)]) hx hb dX4_narrowWishes_15 hl (by decide) rfl (fun ls hl => ?_)
        obtain ⟨n10, h⟩ := h
        refine l_17 x1 x2 _ ?_ n10 (0 : Int32) (0 : Int32) h _ _ hP hD hS _ (lv_sub hl [2, 3, 4, 1, 0] rfl)
        · intro x3_7 h H locs hP hD hS ls hl
          refine lv_iload_n hx hb dX4_narrowWishes_52 rfl (lv_at hl 1 rfl) ?_
          refine lv_iload_n hx hb dX4_narrowWishes_53 rfl (lv_at hl 3 rfl) ?_
          refine lv_iconst (v := 1) hx hb dX4_narrowWishes_54 (by decide) ?_
          refine lv_icmp_gt (tgt := 62) hx hb dX4_narrowWishes_55 (by decide) (fun c8 => ?_) (fun c8 => ?_)
          · have h := h.1 c8
            refine lv_iconst (v := 0) hx hb dX4_narrowWishes_62 (by decide) ?_
            exact j_63_1 x2 x1 (0 : Int32) kb hkb kx0 hkx0 h _ _ hP hD hS _ (lv_sub hl [0, 2] rfl)
          · have h := h.2 c8
            refine lv_iconst (v := 1) hx hb dX4_narrowWishes_58 (by decide) ?_
            refine lv_goto (tgt := 63) hx hb dX4_narrowWishes_59 (by decide) ?_
            exact j_63_1 x2 x1 (1 : Int32) kb hkb kx0 hkx0 h _ _ hP hD hS _ (lv_sub hl [0, 2] rfl)
  refine ent [.ref a_o] (Nat.le_of_ble_eq_true rfl) (fun ls hl => ?_)
  have hl : lv_has ls 5 [(0, .ref a_o)] := hl
  unfold wp_X4_narrowWishes at h
  refine lv_iconst (v := 0) hx hb dX4_narrowWishes_0 (by decide) ?_
  refine lv_istore_n (lv' := [(1, .int (0 : Int32)), (0, .ref a_o)]) hx hb dX4_narrowWishes_1 rfl hl (by decide) rfl (fun ls hl => ?_)
  refine lv_iconst (v := 0) hx hb dX4_narrowWishes_2 (by decide) ?_
  refine lv_istore_n (lv' := [(2, .int (0 : Int32)), (1, .int (0 : Int32)), (0, .ref a_o)]) hx hb dX4_narrowWishes_3 rfl hl (by decide) rfl (fun ls hl => ?_)
  obtain ⟨n12, h⟩ := h
  refine l_4  _ ?_ n12 (0 : Int32) (0 : Int32) h _ _ hP hD hS _ (lv_sub hl [2, 1, 0] rfl)
  · intro x1_11 h H locs hP hD hS ls hl
    refine lv_iload_n hx hb dX4_narrowWishes_74 rfl (lv_at hl 0 rfl) ?_
    exact hret x1_11 () _ _ _ _ h hP hD hS dX4_narrowWishes_75
abbrev w_X4_empty (cy : Nat → ClassId) (a_o a_o_isTold a_o_least a_o_gateOff a_o_limit a_o_value a_o_kind a_o_most a_o_wishOff a_o_use : Nat) (o_wishes : Int32) (o_isTold : Nat → Int32) (o_gateOff : Nat → Int32) : va_W := [(a_o, .inr (4, [.ref a_o_isTold, .ref a_o_least, .ref a_o_gateOff, .ref a_o_limit, .ref a_o_value, .ref a_o_kind, .ref a_o_most, .ref a_o_wishOff, .ref a_o_use, .int o_wishes])), (a_o_isTold, .inl (cy 3, 5, .inl o_isTold)), (a_o_gateOff, .inl (cy 3, 5, .inl o_gateOff))]
set_option maxHeartbeats 4000000 in
set_option maxRecDepth 100000 in
theorem c_X4_empty (l : Launch) (D : va_G) (cy : Nat → ClassId) (a_o a_o_isTold a_o_least a_o_gateOff a_o_limit a_o_value a_o_kind a_o_most a_o_wishOff a_o_use : Nat) (sz : Nat)  {o_wishes : Int32} {o_isTold : Nat → Int32} {o_gateOff : Nat → Int32}  {post : Int32 → (Nat → Int32) → (Nat → Int32) → Prop} (h : wp_X4_empty o_wishes o_isTold o_gateOff post) : Met l yX4_empty wsX4_empty ({ frames := 0, cells := 0, slots := 0, locals := 0 }) (va_Pc [.ref a_o] (wI D cy sz (w_X4_empty cy a_o a_o_isTold a_o_least a_o_gateOff a_o_limit a_o_value a_o_kind a_o_most a_o_wishOff a_o_use o_wishes o_isTold o_gateOff))) (va_Qv (fun (u : Int32 × (Nat → Int32) × (Nat → Int32)) => post u.1 u.2.1 u.2.2) (fun (u : Int32 × (Nat → Int32) × (Nat → Int32)) t => wO D cy (va_A (w_X4_empty cy a_o a_o_isTold a_o_least a_o_gateOff a_o_limit a_o_value a_o_kind a_o_most a_o_wishOff a_o_use o_wishes o_isTold o_gateOff) sz) (w_X4_empty cy a_o a_o_isTold a_o_least a_o_gateOff a_o_limit a_o_value a_o_kind a_o_most a_o_wishOff a_o_use u.1 u.2.1 u.2.2) t) (va_A (w_X4_empty cy a_o a_o_isTold a_o_least a_o_gateOff a_o_limit a_o_value a_o_kind a_o_most a_o_wishOff a_o_use o_wishes o_isTold o_gateOff) sz)) 0 0 (va_A (w_X4_empty cy a_o a_o_isTold a_o_least a_o_gateOff a_o_limit a_o_value a_o_kind a_o_most a_o_wishOff a_o_use o_wishes o_isTold o_gateOff) sz) := by
  refine contrV (S := Int32 × (Nat → Int32) × (Nat → Int32)) (post := fun (u : Int32 × (Nat → Int32) × (Nat → Int32)) => post u.1 u.2.1 u.2.2) (wOut := fun (u : Int32 × (Nat → Int32) × (Nat → Int32)) => (w_X4_empty cy a_o a_o_isTold a_o_least a_o_gateOff a_o_limit a_o_value a_o_kind a_o_most a_o_wishOff a_o_use u.1 u.2.1 u.2.2)) (cc := cX4_empty) (maxL := 2) (own := RX4) (by decide +kernel) rfl rfl ?_
  intro p e s m args below meth c A Q hx hb hml hown hts hK hN hP hD hS hA hret
  have in_X4 : ∀ w ∈ u_ws RX4 TX4 10, w ∈ wsX4_empty := by decide +kernel
  have fl_42 := hts (.fieldLink RX4 42 "DawnTable$Table" "wishes" "I") (by decide +kernel)
  have fl_9 := hts (.fieldLink RX4 9 "DawnTable$Table" "isTold" "[Z") (by decide +kernel)
  have fl_18 := hts (.fieldLink RX4 18 "DawnTable$Table" "gateOff" "[Z") (by decide +kernel)
  have l_7 : ∀ (o_wishes : Int32), ∀ (kx0 : (Nat → Int32) → (Nat → Int32) → Prop), (∀ (o_isTold : Nat → Int32) (o_gateOff : Nat → Int32), kx0 o_isTold o_gateOff → ∀ (H : Heap) (locs : List Loc), va_P D vwCl (w_X4_empty cy a_o a_o_isTold a_o_least a_o_gateOff a_o_limit a_o_value a_o_kind a_o_most a_o_wishOff a_o_use o_wishes o_isTold o_gateOff) H → va_D A (w_X4_empty cy a_o a_o_isTold a_o_least a_o_gateOff a_o_limit a_o_value a_o_kind a_o_most a_o_wishOff a_o_use o_wishes o_isTold o_gateOff) → va_S A s.heap H locs → ∀ (ls : Array Slot), lv_has ls 2 [] → W p l e ({ frames := 0, cells := 0, slots := 0, locals := 0 }) s m args below meth c H locs 0 0 Q (F0 m 32 ls [])) → ∀ (n : Nat) (x1 : Int32) (o_isTold : Nat → Int32) (o_gateOff : Nat → Int32), wl_X4_empty_7 o_wishes kx0 post n x1 o_isTold o_gateOff → ∀ (H : Heap) (locs : List Loc), va_P D vwCl (w_X4_empty cy a_o a_o_isTold a_o_least a_o_gateOff a_o_limit a_o_value a_o_kind a_o_most a_o_wishOff a_o_use o_wishes o_isTold o_gateOff) H → va_D A (w_X4_empty cy a_o a_o_isTold a_o_least a_o_gateOff a_o_limit a_o_value a_o_kind a_o_most a_o_wishOff a_o_use o_wishes o_isTold o_gateOff) → va_S A s.heap H locs → ∀ (ls : Array Slot), lv_has ls 2 [(0, .ref a_o), (1, .int x1)] → W p l e ({ frames := 0, cells := 0, slots := 0, locals := 0 }) s m args below meth c H locs 0 0 Q (F0 m 7 ls []) := by
    intro o_wishes kx0 hkx0  n
    induction n with
    | zero => intro x1 o_isTold o_gateOff h; exact h.elim
    | succ n hkb =>
      intro x1 o_isTold o_gateOff h H locs hP hD hS ls hl
      replace h : ws_X4_empty_7 o_wishes (wl_X4_empty_7 o_wishes kx0 post n) kx0 post x1 o_isTold o_gateOff := h
      generalize wl_X4_empty_7 o_wishes kx0 post n = kb at h hkb
      unfold ws_X4_empty_7 at h
      refine lv_iload_n hx hb dX4_empty_7 rfl (lv_at hl 1 rfl) ?_
      refine lv_iconst (v := 5) hx hb dX4_empty_8 (by decide) ?_
      refine lv_icmp_ge (tgt := 32) hx hb dX4_empty_9 (by decide) (fun c1 => ?_) (fun c1 => ?_)
      · have h := h.1 c1
        exact hkx0 o_isTold o_gateOff h _ _ hP hD hS _ (lv_sub hl [] rfl)
      · have h := h.2 c1
        refine lv_aload_n hx hb dX4_empty_12 rfl (lv_at hl 0 rfl) ?_
        refine va_get (D := D) (ci := 4) (v := .ref a_o_isTold) (C := RX4) (T := TX4) (N := 10) hx hb hts in_X4 hown hK hP 0 rfl rfl 0 (by decide) fl_9 (fun _ h9 => h9) rfl dX4_empty_13 ?_
        refine lv_iload_n hx hb dX4_empty_16 rfl (lv_at hl 1 rfl) ?_
        refine lv_iconst (v := 0) hx hb dX4_empty_17 (by decide) ?_
        obtain ⟨i2, h⟩ := h
        refine va_zast hx hb hK hP hD hS 1 3 rfl rfl i2 dX4_empty_18 (fun H locs hP hD hS => ?_)
        have hP : va_P D vwCl (w_X4_empty cy a_o a_o_isTold a_o_least a_o_gateOff a_o_limit a_o_value a_o_kind a_o_most a_o_wishOff a_o_use o_wishes (upd o_isTold (x1).toNatClampNeg (vp_nar .boolean (0 : Int32))) o_gateOff) H := hP
        have hD : va_D A (w_X4_empty cy a_o a_o_isTold a_o_least a_o_gateOff a_o_limit a_o_value a_o_kind a_o_most a_o_wishOff a_o_use o_wishes (upd o_isTold (x1).toNatClampNeg (vp_nar .boolean (0 : Int32))) o_gateOff) := hD
        refine lv_aload_n hx hb dX4_empty_19 rfl (lv_at hl 0 rfl) ?_
        refine va_get (D := D) (ci := 4) (v := .ref a_o_gateOff) (C := RX4) (T := TX4) (N := 10) hx hb hts in_X4 hown hK hP 0 rfl rfl 2 (by decide) fl_18 (fun _ h9 => h9) rfl dX4_empty_20 ?_
        refine lv_iload_n hx hb dX4_empty_23 rfl (lv_at hl 1 rfl) ?_
        refine lv_iconst (v := 0) hx hb dX4_empty_24 (by decide) ?_
        refine va_zast hx hb hK hP hD hS 2 3 rfl rfl i2 dX4_empty_25 (fun H locs hP hD hS => ?_)
        have hP : va_P D vwCl (w_X4_empty cy a_o a_o_isTold a_o_least a_o_gateOff a_o_limit a_o_value a_o_kind a_o_most a_o_wishOff a_o_use o_wishes (upd o_isTold (x1).toNatClampNeg (vp_nar .boolean (0 : Int32))) (upd o_gateOff (x1).toNatClampNeg (vp_nar .boolean (0 : Int32)))) H := hP
        have hD : va_D A (w_X4_empty cy a_o a_o_isTold a_o_least a_o_gateOff a_o_limit a_o_value a_o_kind a_o_most a_o_wishOff a_o_use o_wishes (upd o_isTold (x1).toNatClampNeg (vp_nar .boolean (0 : Int32))) (upd o_gateOff (x1).toNatClampNeg (vp_nar .boolean (0 : Int32)))) := hD
        refine lv_iinc (v := (x1 + (1 : Int32))) (lv' := [(1, .int (x1 + (1 : Int32))), (0, .ref a_o)]) hx hb dX4_empty_26 hl (k := 1) rfl (congrArg (fun z => x1 + z) (by decide : Int32.ofInt (1) = (1 : Int32))) (by decide) rfl (fun ls hl => ?_)
        refine lv_goto (tgt := 7) hx hb dX4_empty_29 (by decide) ?_
        exact hkb (x1 + (1 : Int32)) (upd o_isTold (x1).toNatClampNeg (vp_nar .boolean (0 : Int32))) (upd o_gateOff (x1).toNatClampNeg (vp_nar .boolean (0 : Int32))) h _ _ hP hD hS _ (lv_sub hl [1, 0] rfl)
  refine ent [.ref a_o] (Nat.le_of_ble_eq_true rfl) (fun ls hl => ?_)
  have hl : lv_has ls 2 [(0, .ref a_o)] := hl
  unfold wp_X4_empty at h
  refine lv_aload_n hx hb dX4_empty_0 rfl (lv_at hl 0 rfl) ?_
  refine lv_iconst (v := 0) hx hb dX4_empty_1 (by decide) ?_
  refine va_put (D := D) (ci := 4) (v := .int (0 : Int32)) (ty := .int) (C := RX4) (T := TX4) (N := 10) hx hb hts in_X4 tyX4 tyX4_ok nmX4 hown hK hP hD hS 0 rfl rfl 9 (by decide) fl_42 (fun _ h9 => h9) rfl (by decide +kernel) rfl rfl (Nat.le_of_ble_eq_true rfl) dX4_empty_2 (fun H locs hP hD hS => ?_)
  have hP : va_P D vwCl (w_X4_empty cy a_o a_o_isTold a_o_least a_o_gateOff a_o_limit a_o_value a_o_kind a_o_most a_o_wishOff a_o_use (0 : Int32) o_isTold o_gateOff) H := hP
  have hD : va_D A (w_X4_empty cy a_o a_o_isTold a_o_least a_o_gateOff a_o_limit a_o_value a_o_kind a_o_most a_o_wishOff a_o_use (0 : Int32) o_isTold o_gateOff) := hD
  refine lv_iconst (v := 0) hx hb dX4_empty_5 (by decide) ?_
  refine lv_istore_n (lv' := [(1, .int (0 : Int32)), (0, .ref a_o)]) hx hb dX4_empty_6 rfl hl (by decide) rfl (fun ls hl => ?_)
  obtain ⟨n5, h⟩ := h
  refine l_7 (0 : Int32) _ ?_ n5 (0 : Int32) o_isTold o_gateOff h _ _ hP hD hS _ (lv_sub hl [1, 0] rfl)
  · intro o_isTold_3 o_gateOff_4 h H locs hP hD hS ls hl
    exact hret ((0 : Int32), o_isTold_3, o_gateOff_4) _ _ _ _ h hP hD hS dX4_empty_32
abbrev w_X4_addGate (cy : Nat → ClassId) (a_o a_o_isTold a_o_least a_o_gateOff a_o_limit a_o_value a_o_kind a_o_most a_o_wishOff a_o_use : Nat) (o_wishes : Int32) (o_isTold : Nat → Int32) (o_least : Nat → Int32) (o_gateOff : Nat → Int32) (o_limit : Nat → Int32) : va_W := [(a_o, .inr (4, [.ref a_o_isTold, .ref a_o_least, .ref a_o_gateOff, .ref a_o_limit, .ref a_o_value, .ref a_o_kind, .ref a_o_most, .ref a_o_wishOff, .ref a_o_use, .int o_wishes])), (a_o_isTold, .inl (cy 3, 5, .inl o_isTold)), (a_o_least, .inl (cy 3, 5, .inl o_least)), (a_o_gateOff, .inl (cy 3, 5, .inl o_gateOff)), (a_o_limit, .inl (cy 1, 5, .inl o_limit))]
set_option maxHeartbeats 4000000 in
set_option maxRecDepth 100000 in
theorem c_X4_addGate (l : Launch) (D : va_G) (cy : Nat → ClassId) (a_o a_o_isTold a_o_least a_o_gateOff a_o_limit a_o_value a_o_kind a_o_most a_o_wishOff a_o_use : Nat) (sz : Nat)  {o_wishes : Int32} {o_isTold : Nat → Int32} {o_least : Nat → Int32} {o_gateOff : Nat → Int32} {o_limit : Nat → Int32} {x1 : Int32} {x2 : Int32} {x3 : Int32} {post : (Nat → Int32) → (Nat → Int32) → (Nat → Int32) → (Nat → Int32) → Prop} (h : wp_X4_addGate o_isTold o_least o_gateOff o_limit x1 x2 x3 post) : Met l yX4_addGate wsX4_addGate ({ frames := 0, cells := 0, slots := 0, locals := 0 }) (va_Pc [.ref a_o, .int x1, .int x2, .int x3] (wI D cy sz (w_X4_addGate cy a_o a_o_isTold a_o_least a_o_gateOff a_o_limit a_o_value a_o_kind a_o_most a_o_wishOff a_o_use o_wishes o_isTold o_least o_gateOff o_limit))) (va_Qv (fun (u : (Nat → Int32) × (Nat → Int32) × (Nat → Int32) × (Nat → Int32)) => post u.1 u.2.1 u.2.2.1 u.2.2.2) (fun (u : (Nat → Int32) × (Nat → Int32) × (Nat → Int32) × (Nat → Int32)) t => wO D cy (va_A (w_X4_addGate cy a_o a_o_isTold a_o_least a_o_gateOff a_o_limit a_o_value a_o_kind a_o_most a_o_wishOff a_o_use o_wishes o_isTold o_least o_gateOff o_limit) sz) (w_X4_addGate cy a_o a_o_isTold a_o_least a_o_gateOff a_o_limit a_o_value a_o_kind a_o_most a_o_wishOff a_o_use o_wishes u.1 u.2.1 u.2.2.1 u.2.2.2) t) (va_A (w_X4_addGate cy a_o a_o_isTold a_o_least a_o_gateOff a_o_limit a_o_value a_o_kind a_o_most a_o_wishOff a_o_use o_wishes o_isTold o_least o_gateOff o_limit) sz)) 0 0 (va_A (w_X4_addGate cy a_o a_o_isTold a_o_least a_o_gateOff a_o_limit a_o_value a_o_kind a_o_most a_o_wishOff a_o_use o_wishes o_isTold o_least o_gateOff o_limit) sz) := by
  refine contrV (S := (Nat → Int32) × (Nat → Int32) × (Nat → Int32) × (Nat → Int32)) (post := fun (u : (Nat → Int32) × (Nat → Int32) × (Nat → Int32) × (Nat → Int32)) => post u.1 u.2.1 u.2.2.1 u.2.2.2) (wOut := fun (u : (Nat → Int32) × (Nat → Int32) × (Nat → Int32) × (Nat → Int32)) => (w_X4_addGate cy a_o a_o_isTold a_o_least a_o_gateOff a_o_limit a_o_value a_o_kind a_o_most a_o_wishOff a_o_use o_wishes u.1 u.2.1 u.2.2.1 u.2.2.2)) (cc := cX4_addGate) (maxL := 4) (own := RX4) (by decide +kernel) rfl rfl ?_
  intro p e s m args below meth c A Q hx hb hml hown hts hK hN hP hD hS hA hret
  have in_X4 : ∀ w ∈ u_ws RX4 TX4 10, w ∈ wsX4_addGate := by decide +kernel
  have fl_9 := hts (.fieldLink RX4 9 "DawnTable$Table" "isTold" "[Z") (by decide +kernel)
  have fl_15 := hts (.fieldLink RX4 15 "DawnTable$Table" "least" "[Z") (by decide +kernel)
  have fl_21 := hts (.fieldLink RX4 21 "DawnTable$Table" "limit" "[I") (by decide +kernel)
  have fl_18 := hts (.fieldLink RX4 18 "DawnTable$Table" "gateOff" "[Z") (by decide +kernel)
  refine ent [.ref a_o, .int x1, .int x2, .int x3] (Nat.le_of_ble_eq_true rfl) (fun ls hl => ?_)
  have hl : lv_has ls 4 [(0, .ref a_o), (1, .int x1), (2, .int x2), (3, .int x3)] := hl
  unfold wp_X4_addGate at h
  refine lv_iload_n hx hb dX4_addGate_0 rfl (lv_at hl 1 rfl) ?_
  refine lv_if_lt (tgt := 9) hx hb dX4_addGate_1 (by decide) (fun c1 => ?_) (fun c1 => ?_)
  · have h := h.1 c1
    exact hret (o_isTold, o_least, o_gateOff, o_limit) _ _ _ _ h hP hD hS dX4_addGate_9
  · have h := h.2 c1
    refine lv_iload_n hx hb dX4_addGate_4 rfl (lv_at hl 1 rfl) ?_
    refine lv_iconst (v := 5) hx hb dX4_addGate_5 (by decide) ?_
    refine lv_icmp_lt (tgt := 10) hx hb dX4_addGate_6 (by decide) (fun c2 => ?_) (fun c2 => ?_)
    · have h := h.1 c2
      refine lv_aload_n hx hb dX4_addGate_10 rfl (lv_at hl 0 rfl) ?_
      refine va_get (D := D) (ci := 4) (v := .ref a_o_isTold) (C := RX4) (T := TX4) (N := 10) hx hb hts in_X4 hown hK hP 0 rfl rfl 0 (by decide) fl_9 (fun _ h9 => h9) rfl dX4_addGate_11 ?_
      refine lv_iload_n hx hb dX4_addGate_14 rfl (lv_at hl 1 rfl) ?_
      refine lv_iconst (v := 1) hx hb dX4_addGate_15 (by decide) ?_
      obtain ⟨i3, h⟩ := h
      refine va_zast hx hb hK hP hD hS 1 3 rfl rfl i3 dX4_addGate_16 (fun H locs hP hD hS => ?_)
      have hP : va_P D vwCl (w_X4_addGate cy a_o a_o_isTold a_o_least a_o_gateOff a_o_limit a_o_value a_o_kind a_o_most a_o_wishOff a_o_use o_wishes (upd o_isTold (x1).toNatClampNeg (vp_nar .boolean (1 : Int32))) o_least o_gateOff o_limit) H := hP
      have hD : va_D A (w_X4_addGate cy a_o a_o_isTold a_o_least a_o_gateOff a_o_limit a_o_value a_o_kind a_o_most a_o_wishOff a_o_use o_wishes (upd o_isTold (x1).toNatClampNeg (vp_nar .boolean (1 : Int32))) o_least o_gateOff o_limit) := hD
      refine lv_aload_n hx hb dX4_addGate_17 rfl (lv_at hl 0 rfl) ?_
      refine va_get (D := D) (ci := 4) (v := .ref a_o_least) (C := RX4) (T := TX4) (N := 10) hx hb hts in_X4 hown hK hP 0 rfl rfl 1 (by decide) fl_15 (fun _ h9 => h9) rfl dX4_addGate_18 ?_
      refine lv_iload_n hx hb dX4_addGate_21 rfl (lv_at hl 1 rfl) ?_
      refine lv_iload_n hx hb dX4_addGate_22 rfl (lv_at hl 2 rfl) ?_
      refine va_zast hx hb hK hP hD hS 2 3 rfl rfl i3 dX4_addGate_23 (fun H locs hP hD hS => ?_)
      have hP : va_P D vwCl (w_X4_addGate cy a_o a_o_isTold a_o_least a_o_gateOff a_o_limit a_o_value a_o_kind a_o_most a_o_wishOff a_o_use o_wishes (upd o_isTold (x1).toNatClampNeg (vp_nar .boolean (1 : Int32))) (upd o_least (x1).toNatClampNeg (vp_nar .boolean x2)) o_gateOff o_limit) H := hP
      have hD : va_D A (w_X4_addGate cy a_o a_o_isTold a_o_least a_o_gateOff a_o_limit a_o_value a_o_kind a_o_most a_o_wishOff a_o_use o_wishes (upd o_isTold (x1).toNatClampNeg (vp_nar .boolean (1 : Int32))) (upd o_least (x1).toNatClampNeg (vp_nar .boolean x2)) o_gateOff o_limit) := hD
      refine lv_aload_n hx hb dX4_addGate_24 rfl (lv_at hl 0 rfl) ?_
      refine va_get (D := D) (ci := 4) (v := .ref a_o_limit) (C := RX4) (T := TX4) (N := 10) hx hb hts in_X4 hown hK hP 0 rfl rfl 3 (by decide) fl_21 (fun _ h9 => h9) rfl dX4_addGate_25 ?_
      refine lv_iload_n hx hb dX4_addGate_28 rfl (lv_at hl 1 rfl) ?_
      refine lv_iload_n hx hb dX4_addGate_29 rfl (lv_at hl 3 rfl) ?_
      refine va_iast hx hb hK hP hD hS 4 1 rfl rfl i3 dX4_addGate_30 (fun H locs hP hD hS => ?_)
      have hP : va_P D vwCl (w_X4_addGate cy a_o a_o_isTold a_o_least a_o_gateOff a_o_limit a_o_value a_o_kind a_o_most a_o_wishOff a_o_use o_wishes (upd o_isTold (x1).toNatClampNeg (vp_nar .boolean (1 : Int32))) (upd o_least (x1).toNatClampNeg (vp_nar .boolean x2)) o_gateOff (upd o_limit (x1).toNatClampNeg x3)) H := hP
      have hD : va_D A (w_X4_addGate cy a_o a_o_isTold a_o_least a_o_gateOff a_o_limit a_o_value a_o_kind a_o_most a_o_wishOff a_o_use o_wishes (upd o_isTold (x1).toNatClampNeg (vp_nar .boolean (1 : Int32))) (upd o_least (x1).toNatClampNeg (vp_nar .boolean x2)) o_gateOff (upd o_limit (x1).toNatClampNeg x3)) := hD
      refine lv_aload_n hx hb dX4_addGate_31 rfl (lv_at hl 0 rfl) ?_
      refine va_get (D := D) (ci := 4) (v := .ref a_o_gateOff) (C := RX4) (T := TX4) (N := 10) hx hb hts in_X4 hown hK hP 0 rfl rfl 2 (by decide) fl_18 (fun _ h9 => h9) rfl dX4_addGate_32 ?_
      refine lv_iload_n hx hb dX4_addGate_35 rfl (lv_at hl 1 rfl) ?_
      refine lv_iconst (v := 0) hx hb dX4_addGate_36 (by decide) ?_
      refine va_zast hx hb hK hP hD hS 3 3 rfl rfl i3 dX4_addGate_37 (fun H locs hP hD hS => ?_)
      have hP : va_P D vwCl (w_X4_addGate cy a_o a_o_isTold a_o_least a_o_gateOff a_o_limit a_o_value a_o_kind a_o_most a_o_wishOff a_o_use o_wishes (upd o_isTold (x1).toNatClampNeg (vp_nar .boolean (1 : Int32))) (upd o_least (x1).toNatClampNeg (vp_nar .boolean x2)) (upd o_gateOff (x1).toNatClampNeg (vp_nar .boolean (0 : Int32))) (upd o_limit (x1).toNatClampNeg x3)) H := hP
      have hD : va_D A (w_X4_addGate cy a_o a_o_isTold a_o_least a_o_gateOff a_o_limit a_o_value a_o_kind a_o_most a_o_wishOff a_o_use o_wishes (upd o_isTold (x1).toNatClampNeg (vp_nar .boolean (1 : Int32))) (upd o_least (x1).toNatClampNeg (vp_nar .boolean x2)) (upd o_gateOff (x1).toNatClampNeg (vp_nar .boolean (0 : Int32))) (upd o_limit (x1).toNatClampNeg x3)) := hD
      exact hret ((upd o_isTold (x1).toNatClampNeg (vp_nar .boolean (1 : Int32))), (upd o_least (x1).toNatClampNeg (vp_nar .boolean x2)), (upd o_gateOff (x1).toNatClampNeg (vp_nar .boolean (0 : Int32))), (upd o_limit (x1).toNatClampNeg x3)) _ _ _ _ h hP hD hS dX4_addGate_38
    · have h := h.2 c2
      exact hret (o_isTold, o_least, o_gateOff, o_limit) _ _ _ _ h hP hD hS dX4_addGate_9
