abbrev w_X0_forget (cy : Nat → ClassId) (a_o a_o_up a_o_low : Nat) (o_low : Nat → Int64) : va_W := [(a_o, .inr (0, [.ref a_o_up, .ref a_o_low])), (a_o_low, .inl (cy 2, 100, .inr (.inl o_low)))]
set_option maxRecDepth 20000 in
theorem ggX0_forget_J7_fill_d0a16 : GoodIn wsX0_forget wsJ7_fill_d0a16 := goodIn_r _ [5] (by decide +kernel) (by decide +kernel)
set_option maxRecDepth 20000 in
theorem gX0_forget_J7_fill_d0a16 : GoodIn wsX0_forget (va_wsS RX0 18 yJ7_fill_d0a16 wsJ7_fill_d0a16) := goodIn_app (goodIn_of _ (by decide +kernel)) ggX0_forget_J7_fill_d0a16
set_option maxHeartbeats 4000000 in
set_option maxRecDepth 100000 in
theorem c_X0_forget (l : Launch) (D : va_G) (cy : Nat → ClassId) (a_o a_o_up a_o_low : Nat) (sz : Nat)  {o_low : Nat → Int64}  {post : (Nat → Int64) → Prop} (h : wp_X0_forget o_low post) : Met l yX0_forget wsX0_forget ({ frames := 1, cells := 0, slots := 0, locals := 24 }) (va_Pc [.ref a_o] (wI D cy sz (w_X0_forget cy a_o a_o_up a_o_low o_low))) (va_Qv (fun (u : (Nat → Int64)) => post u) (fun (u : (Nat → Int64)) t => wO D cy (va_A (w_X0_forget cy a_o a_o_up a_o_low o_low) sz) (w_X0_forget cy a_o a_o_up a_o_low u) t) (va_A (w_X0_forget cy a_o a_o_up a_o_low o_low) sz)) 0 0 (va_A (w_X0_forget cy a_o a_o_up a_o_low o_low) sz) := by
  refine contrV (S := (Nat → Int64)) (post := fun (u : (Nat → Int64)) => post u) (wOut := fun (u : (Nat → Int64)) => (w_X0_forget cy a_o a_o_up a_o_low u)) (cc := cX0_forget) (maxL := 1) (own := RX0) (by decide +kernel) rfl rfl ?_
  intro p e s m args below meth c A Q hx hb hml hown hts hK hN hP hD hS hA hret
  have in_X0 : ∀ w ∈ u_ws RX0 TX0 2, w ∈ wsX0_forget := by decide +kernel
  have fl_15 := hts (.fieldLink RX0 15 "DawnTable$Bids" "low" "[J") (by decide +kernel)
  refine ent [.ref a_o] (Nat.le_of_ble_eq_true rfl) (fun ls hl => ?_)
  have hl : lv_has ls 1 [(0, .ref a_o)] := hl
  unfold wp_X0_forget at h
  refine lv_aload_n hx hb dX0_forget_0 rfl (lv_at hl 0 rfl) ?_
  refine va_get (D := D) (ci := 0) (v := .ref a_o_low) (C := RX0) (T := TX0) (N := 2) hx hb hts in_X0 hown hK hP 0 rfl rfl 1 (by decide) fl_15 (fun _ h9 => h9) rfl dX0_forget_1 ?_
  refine lv_lconst (v := 0) hx hb dX0_forget_4 (by decide) ?_
  have hC : ([1] : List Nat).map (fun i => ((w_X0_forget cy a_o a_o_up a_o_low o_low) : va_W)[i]?) = ((w_J7_fill_d0a16 cy a_o_low 100 o_low) : va_W).map some := rfl
  obtain ⟨hPc, hDc⟩ := cutC hP hD [1] (by decide) hC
  have hFc := va_free hD hS hA [1] hC
  refine va_callv (va_runS (As := [.ref a_o_low, .long (0 : Int64)]) (rest := []) ⟨hx, hb, hml, hown, hts⟩ (c_J7_fill_d0a16 l D cy a_o_low 100 _ h) (va_cwS 2 hts gX0_forget_J7_fill_d0a16 rfl rfl rfl (by decide +kernel) ⟨Nat.le_of_ble_eq_true rfl, Nat.le_of_ble_eq_true rfl⟩) (preS hPc hDc hK hN) rfl rfl hl.1 rfl (lv_room (Nat.le_of_ble_eq_true rfl)) dX0_forget_5 ⟨Nat.zero_le _, Nat.zero_le _⟩) hS (fun q _ h => hFc q h) hFc (fun u1 t H1 locs ht hvm h hB hz1 hk1 hS => ?_)
  try dsimp only at h hB
  obtain ⟨hP, hD⟩ := joinU (wd := (w_X0_forget cy a_o a_o_up a_o_low u1)) (wr := [(a_o, .inr (0, [.ref a_o_up, .ref a_o_low]))]) hP hD [1] [0] [a_o_low] hC hk1 ht hB rfl rfl rfl (N := 2) rfl (by decide) rfl rfl
  generalize H1 = H at hP hS ⊢
  exact hret (u1) _ _ _ _ h hP hD hS dX0_forget_8
abbrev w_X0_keep (cy : Nat → ClassId) (a_o a_o_up a_o_low : Nat) (o_up : Nat → Int64) (o_low : Nat → Int64) : va_W := [(a_o, .inr (0, [.ref a_o_up, .ref a_o_low])), (a_o_up, .inl (cy 2, 100, .inr (.inl o_up))), (a_o_low, .inl (cy 2, 100, .inr (.inl o_low)))]
set_option maxHeartbeats 4000000 in
set_option maxRecDepth 100000 in
theorem c_X0_keep (l : Launch) (D : va_G) (cy : Nat → ClassId) (a_o a_o_up a_o_low : Nat) (sz : Nat)  {o_up : Nat → Int64} {o_low : Nat → Int64} {x1 : Int32} {x2 : Int64} {x4 : Int64} {post : (Nat → Int64) → (Nat → Int64) → Prop} (h : wp_X0_keep o_up o_low x1 x2 x4 post) : Met l yX0_keep wsX0_keep ({ frames := 0, cells := 0, slots := 0, locals := 0 }) (va_Pc [.ref a_o, .int x1, .long x2, .long x4] (wI D cy sz (w_X0_keep cy a_o a_o_up a_o_low o_up o_low))) (va_Qv (fun (u : (Nat → Int64) × (Nat → Int64)) => post u.1 u.2) (fun (u : (Nat → Int64) × (Nat → Int64)) t => wO D cy (va_A (w_X0_keep cy a_o a_o_up a_o_low o_up o_low) sz) (w_X0_keep cy a_o a_o_up a_o_low u.1 u.2) t) (va_A (w_X0_keep cy a_o a_o_up a_o_low o_up o_low) sz)) 0 0 (va_A (w_X0_keep cy a_o a_o_up a_o_low o_up o_low) sz) := by
  refine contrV (S := (Nat → Int64) × (Nat → Int64)) (post := fun (u : (Nat → Int64) × (Nat → Int64)) => post u.1 u.2) (wOut := fun (u : (Nat → Int64) × (Nat → Int64)) => (w_X0_keep cy a_o a_o_up a_o_low u.1 u.2)) (cc := cX0_keep) (maxL := 6) (own := RX0) (by decide +kernel) rfl rfl ?_
  intro p e s m args below meth c A Q hx hb hml hown hts hK hN hP hD hS hA hret
  have in_X0 : ∀ w ∈ u_ws RX0 TX0 2, w ∈ wsX0_keep := by decide +kernel
  have fl_9 := hts (.fieldLink RX0 9 "DawnTable$Bids" "up" "[J") (by decide +kernel)
  have fl_15 := hts (.fieldLink RX0 15 "DawnTable$Bids" "low" "[J") (by decide +kernel)
  refine ent [.ref a_o, .int x1, .long x2, .long x4] (Nat.le_of_ble_eq_true rfl) (fun ls hl => ?_)
  have hl : lv_has ls 6 [(0, .ref a_o), (1, .int x1), (2, .long x2), (4, .long x4)] := hl
  unfold wp_X0_keep at h
  refine lv_iload_n hx hb dX0_keep_0 rfl (lv_at hl 1 rfl) ?_
  refine lv_if_lt (tgt := 10) hx hb dX0_keep_1 (by decide) (fun c1 => ?_) (fun c1 => ?_)
  · have h := h.1 c1
    exact hret (o_up, o_low) _ _ _ _ h hP hD hS dX0_keep_10
  · have h := h.2 c1
    refine lv_iload_n hx hb dX0_keep_4 rfl (lv_at hl 1 rfl) ?_
    refine lv_bipush (v := 99) hx hb dX0_keep_5 (by decide) ?_
    refine lv_icmp_le (tgt := 11) hx hb dX0_keep_7 (by decide) (fun c2 => ?_) (fun c2 => ?_)
    · have h := h.1 c2
      refine lv_aload_n hx hb dX0_keep_11 rfl (lv_at hl 0 rfl) ?_
      refine va_get (D := D) (ci := 0) (v := .ref a_o_up) (C := RX0) (T := TX0) (N := 2) hx hb hts in_X0 hown hK hP 0 rfl rfl 0 (by decide) fl_9 (fun _ h9 => h9) rfl dX0_keep_12 ?_
      refine lv_iload_n hx hb dX0_keep_15 rfl (lv_at hl 1 rfl) ?_
      refine lv_lload_n hx hb dX0_keep_16 rfl (lv_at hl 2 rfl) ?_
      obtain ⟨i3, h⟩ := h
      refine va_last hx hb hK hP hD hS 1 2 rfl rfl i3 dX0_keep_17 (fun H locs hP hD hS => ?_)
      have hP : va_P D vwCl (w_X0_keep cy a_o a_o_up a_o_low (vp_updL o_up (x1).toNatClampNeg x2) o_low) H := hP
      have hD : va_D A (w_X0_keep cy a_o a_o_up a_o_low (vp_updL o_up (x1).toNatClampNeg x2) o_low) := hD
      refine lv_aload_n hx hb dX0_keep_18 rfl (lv_at hl 0 rfl) ?_
      refine va_get (D := D) (ci := 0) (v := .ref a_o_low) (C := RX0) (T := TX0) (N := 2) hx hb hts in_X0 hown hK hP 0 rfl rfl 1 (by decide) fl_15 (fun _ h9 => h9) rfl dX0_keep_19 ?_
      refine lv_iload_n hx hb dX0_keep_22 rfl (lv_at hl 1 rfl) ?_
      refine lv_lload hx hb dX0_keep_23 (lv_at hl 3 rfl) ?_
      refine va_last hx hb hK hP hD hS 2 2 rfl rfl i3 dX0_keep_25 (fun H locs hP hD hS => ?_)
      have hP : va_P D vwCl (w_X0_keep cy a_o a_o_up a_o_low (vp_updL o_up (x1).toNatClampNeg x2) (vp_updL o_low (x1).toNatClampNeg x4)) H := hP
      have hD : va_D A (w_X0_keep cy a_o a_o_up a_o_low (vp_updL o_up (x1).toNatClampNeg x2) (vp_updL o_low (x1).toNatClampNeg x4)) := hD
      exact hret ((vp_updL o_up (x1).toNatClampNeg x2), (vp_updL o_low (x1).toNatClampNeg x4)) _ _ _ _ h hP hD hS dX0_keep_26
    · have h := h.2 c2
      exact hret (o_up, o_low) _ _ _ _ h hP hD hS dX0_keep_10
abbrev w_X0_nextToAsk (cy : Nat → ClassId) (a_o a_o_up a_o_low : Nat) (o_up : Nat → Int64) (o_low : Nat → Int64) : va_W := [(a_o, .inr (0, [.ref a_o_up, .ref a_o_low])), (a_o_up, .inl (cy 2, 100, .inr (.inl o_up))), (a_o_low, .inl (cy 2, 100, .inr (.inl o_low)))]
set_option maxHeartbeats 4000000 in
set_option maxRecDepth 100000 in
theorem c_X0_nextToAsk (l : Launch) (D : va_G) (cy : Nat → ClassId) (a_o a_o_up a_o_low : Nat) (sz : Nat)  {o_up : Nat → Int64} {o_low : Nat → Int64} {x1 : Int32} {post : Int32 → Prop} (h : wp_X0_nextToAsk o_up o_low x1 post) : Met l yX0_nextToAsk wsX0_nextToAsk ({ frames := 0, cells := 0, slots := 0, locals := 0 }) (va_Pc [.ref a_o, .int x1] (wI D cy sz (w_X0_nextToAsk cy a_o a_o_up a_o_low o_up o_low))) (va_Qi (fun (r : Int32) (u : Unit) => post r ) (fun (u : Unit) t => wO D cy (va_A (w_X0_nextToAsk cy a_o a_o_up a_o_low o_up o_low) sz) (w_X0_nextToAsk cy a_o a_o_up a_o_low o_up o_low) t) (va_A (w_X0_nextToAsk cy a_o a_o_up a_o_low o_up o_low) sz)) 0 0 (va_A (w_X0_nextToAsk cy a_o a_o_up a_o_low o_up o_low) sz) := by
  refine contrI (S := Unit) (post := fun (r : Int32) (u : Unit) => post r ) (wOut := fun (u : Unit) => (w_X0_nextToAsk cy a_o a_o_up a_o_low o_up o_low)) (cc := cX0_nextToAsk) (maxL := 5) (own := RX0) (by decide +kernel) rfl rfl ?_
  intro p e s m args below meth c A Q hx hb hml hown hts hK hN hP hD hS hA hret
  have in_X0 : ∀ w ∈ u_ws RX0 TX0 2, w ∈ wsX0_nextToAsk := by decide +kernel
  have fl_15 := hts (.fieldLink RX0 15 "DawnTable$Bids" "low" "[J") (by decide +kernel)
  have fl_9 := hts (.fieldLink RX0 9 "DawnTable$Bids" "up" "[J") (by decide +kernel)
  have j_96_0 : ∀ (x1 : Int32) (x2 : Int32) (x3 : Int32) (s0 : Int32), ∀ (kb : Int32 → Int32 → Prop), (∀ (x2 : Int32) (x3 : Int32), kb x2 x3 → ∀ (H : Heap) (locs : List Loc), va_P D vwCl (w_X0_nextToAsk cy a_o a_o_up a_o_low o_up o_low) H → va_D A (w_X0_nextToAsk cy a_o a_o_up a_o_low o_up o_low) → va_S A s.heap H locs → ∀ (ls : Array Slot), lv_has ls 5 [(0, .ref a_o), (1, .int x1), (2, .int x2), (3, .int x3)] → W p l e ({ frames := 0, cells := 0, slots := 0, locals := 0 }) s m args below meth c H locs 0 0 Q (F0 m 42 ls [])) → ∀ (kx0 : Prop), (kx0  → ∀ (H : Heap) (locs : List Loc), va_P D vwCl (w_X0_nextToAsk cy a_o a_o_up a_o_low o_up o_low) H → va_D A (w_X0_nextToAsk cy a_o a_o_up a_o_low o_up o_low) → va_S A s.heap H locs → ∀ (ls : Array Slot), lv_has ls 5 [] → W p l e ({ frames := 0, cells := 0, slots := 0, locals := 0 }) s m args below meth c H locs 0 0 Q (F0 m 124 ls [])) → ∀ (kx1 : Int32 → Int32 → Prop), (∀ (x2 : Int32) (x3 : Int32), kx1 x2 x3 → ∀ (H : Heap) (locs : List Loc), va_P D vwCl (w_X0_nextToAsk cy a_o a_o_up a_o_low o_up o_low) H → va_D A (w_X0_nextToAsk cy a_o a_o_up a_o_low o_up o_low) → va_S A s.heap H locs → ∀ (ls : Array Slot), lv_has ls 5 [(2, .int x2), (3, .int x3)] → W p l e ({ frames := 0, cells := 0, slots := 0, locals := 0 }) s m args below meth c H locs 0 0 Q (F0 m 110 ls [])) → wj_X0_nextToAsk_96  x1 x2 x3 s0 o_up o_low kb kx0 kx1 post → ∀ (H : Heap) (locs : List Loc), va_P D vwCl (w_X0_nextToAsk cy a_o a_o_up a_o_low o_up o_low) H → va_D A (w_X0_nextToAsk cy a_o a_o_up a_o_low o_up o_low) → va_S A s.heap H locs → ∀ (ls : Array Slot), lv_has ls 5 [(0, .ref a_o), (1, .int x1), (2, .int x2), (3, .int x3)] → W p l e ({ frames := 0, cells := 0, slots := 0, locals := 0 }) s m args below meth c H locs 0 0 Q (F0 m 96 ls [.int s0]) := by
    intro x1 x2 x3 s0 kb hkb kx0 hkx0 kx1 hkx1  h H locs hP hD hS ls hl
    unfold wj_X0_nextToAsk_96 at h
    refine lv_istore (lv' := [(4, .int s0), (0, .ref a_o), (1, .int x1), (2, .int x2), (3, .int x3)]) hx hb dX0_nextToAsk_96 hl (by decide) rfl (fun ls hl => ?_)
    refine lv_iload_n hx hb dX0_nextToAsk_98 rfl (lv_at hl 4 rfl) ?_
    refine lv_iload_n hx hb dX0_nextToAsk_99 rfl (lv_at hl 3 rfl) ?_
    refine lv_isub hx hb dX0_nextToAsk_100 ?_
    refine lv_iconst (v := 1) hx hb dX0_nextToAsk_101 (by decide) ?_
    refine lv_icmp_le (tgt := 116) hx hb dX0_nextToAsk_102 (by decide) (fun c11 => ?_) (fun c11 => ?_)
    · have h := h.1 c11
      refine lv_iload_n hx hb dX0_nextToAsk_116 rfl (lv_at hl 4 rfl) ?_
      refine lv_istore_n (lv' := [(2, .int x3), (4, .int s0), (0, .ref a_o), (1, .int x1), (3, .int x3)]) hx hb dX0_nextToAsk_117 rfl hl (by decide) rfl (fun ls hl => ?_)
      refine lv_iinc (v := (x3 + (1 : Int32))) (lv' := [(3, .int (x3 + (1 : Int32))), (2, .int x3), (4, .int s0), (0, .ref a_o), (1, .int x1)]) hx hb dX0_nextToAsk_118 hl (k := 4) rfl (congrArg (fun z => x3 + z) (by decide : Int32.ofInt (1) = (1 : Int32))) (by decide) rfl (fun ls hl => ?_)
      refine lv_goto (tgt := 42) hx hb dX0_nextToAsk_121 (by decide) ?_
      exact hkb x3 (x3 + (1 : Int32)) h _ _ hP hD hS _ (lv_sub hl [3, 4, 1, 0] rfl)
    · have h := h.2 c11
      refine lv_iload hx hb dX0_nextToAsk_105 (lv_at hl 0 rfl) ?_
      refine lv_if_ne (tgt := 116) hx hb dX0_nextToAsk_107 (by decide) (fun c12 => ?_) (fun c12 => ?_)
      · have h := h.2 c12
        refine lv_iload_n hx hb dX0_nextToAsk_116 rfl (lv_at hl 4 rfl) ?_
        refine lv_istore_n (lv' := [(2, .int x3), (4, .int s0), (0, .ref a_o), (1, .int x1), (3, .int x3)]) hx hb dX0_nextToAsk_117 rfl hl (by decide) rfl (fun ls hl => ?_)
        refine lv_iinc (v := (x3 + (1 : Int32))) (lv' := [(3, .int (x3 + (1 : Int32))), (2, .int x3), (4, .int s0), (0, .ref a_o), (1, .int x1)]) hx hb dX0_nextToAsk_118 hl (k := 4) rfl (congrArg (fun z => x3 + z) (by decide : Int32.ofInt (1) = (1 : Int32))) (by decide) rfl (fun ls hl => ?_)
        refine lv_goto (tgt := 42) hx hb dX0_nextToAsk_121 (by decide) ?_
        exact hkb x3 (x3 + (1 : Int32)) h _ _ hP hD hS _ (lv_sub hl [3, 4, 1, 0] rfl)
      · have h := h.1 c12
        exact hkx1 x2 x3 h _ _ hP hD hS _ (lv_sub hl [3, 4] rfl)
  have l_42 : ∀ (x1 : Int32), ∀ (kx0 : Prop), (kx0  → ∀ (H : Heap) (locs : List Loc), va_P D vwCl (w_X0_nextToAsk cy a_o a_o_up a_o_low o_up o_low) H → va_D A (w_X0_nextToAsk cy a_o a_o_up a_o_low o_up o_low) → va_S A s.heap H locs → ∀ (ls : Array Slot), lv_has ls 5 [] → W p l e ({ frames := 0, cells := 0, slots := 0, locals := 0 }) s m args below meth c H locs 0 0 Q (F0 m 124 ls [])) → ∀ (kx1 : Int32 → Int32 → Prop), (∀ (x2 : Int32) (x3 : Int32), kx1 x2 x3 → ∀ (H : Heap) (locs : List Loc), va_P D vwCl (w_X0_nextToAsk cy a_o a_o_up a_o_low o_up o_low) H → va_D A (w_X0_nextToAsk cy a_o a_o_up a_o_low o_up o_low) → va_S A s.heap H locs → ∀ (ls : Array Slot), lv_has ls 5 [(2, .int x2), (3, .int x3)] → W p l e ({ frames := 0, cells := 0, slots := 0, locals := 0 }) s m args below meth c H locs 0 0 Q (F0 m 110 ls [])) → ∀ (n : Nat) (x2 : Int32) (x3 : Int32), wl_X0_nextToAsk_42 x1 o_up o_low kx0 kx1 post n x2 x3 → ∀ (H : Heap) (locs : List Loc), va_P D vwCl (w_X0_nextToAsk cy a_o a_o_up a_o_low o_up o_low) H → va_D A (w_X0_nextToAsk cy a_o a_o_up a_o_low o_up o_low) → va_S A s.heap H locs → ∀ (ls : Array Slot), lv_has ls 5 [(0, .ref a_o), (1, .int x1), (2, .int x2), (3, .int x3)] → W p l e ({ frames := 0, cells := 0, slots := 0, locals := 0 }) s m args below meth c H locs 0 0 Q (F0 m 42 ls []) := by
    intro x1 kx0 hkx0 kx1 hkx1  n
    induction n with
    | zero => intro x2 x3 h; exact h.elim
    | succ n hkb =>
      intro x2 x3 h H locs hP hD hS ls hl
      replace h : ws_X0_nextToAsk_42 x1 o_up o_low (wl_X0_nextToAsk_42 x1 o_up o_low kx0 kx1 post n) kx0 kx1 post x2 x3 := h
      generalize wl_X0_nextToAsk_42 x1 o_up o_low kx0 kx1 post n = kb at h hkb
      unfold ws_X0_nextToAsk_42 at h
      refine lv_iload_n hx hb dX0_nextToAsk_42 rfl (lv_at hl 3 rfl) ?_
      refine lv_iload_n hx hb dX0_nextToAsk_43 rfl (lv_at hl 1 rfl) ?_
      refine lv_icmp_gt (tgt := 124) hx hb dX0_nextToAsk_44 (by decide) (fun c6 => ?_) (fun c6 => ?_)
      · have h := h.1 c6
        exact hkx0 h _ _ hP hD hS _ (lv_sub hl [] rfl)
      · have h := h.2 c6
        refine lv_aload_n hx hb dX0_nextToAsk_47 rfl (lv_at hl 0 rfl) ?_
        refine va_get (D := D) (ci := 0) (v := .ref a_o_low) (C := RX0) (T := TX0) (N := 2) hx hb hts in_X0 hown hK hP 0 rfl rfl 1 (by decide) fl_15 (fun _ h9 => h9) rfl dX0_nextToAsk_48 ?_
        refine lv_iload_n hx hb dX0_nextToAsk_51 rfl (lv_at hl 3 rfl) ?_
        obtain ⟨i7, h⟩ := h
        refine va_lald hx hb hK hP 2 2 rfl rfl i7 dX0_nextToAsk_52 ?_
        refine lv_lconst (v := 0) hx hb dX0_nextToAsk_53 (by decide) ?_
        refine W.lcmp hx hb dX0_nextToAsk_54 ?_
        refine lv_if_ne (tgt := 61) hx hb dX0_nextToAsk_55 (by decide) (fun c8 => ?_) (fun c8 => ?_)
        · have h := h.2 (fun z => c8 (lc_eq.mpr z))
          refine lv_aload_n hx hb dX0_nextToAsk_61 rfl (lv_at hl 0 rfl) ?_
          refine va_get (D := D) (ci := 0) (v := .ref a_o_up) (C := RX0) (T := TX0) (N := 2) hx hb hts in_X0 hown hK hP 0 rfl rfl 0 (by decide) fl_9 (fun _ h9 => h9) rfl dX0_nextToAsk_62 ?_
          refine lv_iload_n hx hb dX0_nextToAsk_65 rfl (lv_at hl 2 rfl) ?_
          obtain ⟨i9, h⟩ := h
          refine va_lald hx hb hK hP 1 2 rfl rfl i9 dX0_nextToAsk_66 ?_
          refine lv_aload_n hx hb dX0_nextToAsk_67 rfl (lv_at hl 0 rfl) ?_
          refine va_get (D := D) (ci := 0) (v := .ref a_o_low) (C := RX0) (T := TX0) (N := 2) hx hb hts in_X0 hown hK hP 0 rfl rfl 1 (by decide) fl_15 (fun _ h9 => h9) rfl dX0_nextToAsk_68 ?_
          refine lv_iload_n hx hb dX0_nextToAsk_71 rfl (lv_at hl 3 rfl) ?_
          refine va_lald hx hb hK hP 2 2 rfl rfl i7 dX0_nextToAsk_72 ?_
          refine lv_lmul hx hb dX0_nextToAsk_73 ?_
          refine lv_aload_n hx hb dX0_nextToAsk_74 rfl (lv_at hl 0 rfl) ?_
          refine va_get (D := D) (ci := 0) (v := .ref a_o_up) (C := RX0) (T := TX0) (N := 2) hx hb hts in_X0 hown hK hP 0 rfl rfl 0 (by decide) fl_9 (fun _ h9 => h9) rfl dX0_nextToAsk_75 ?_
          refine lv_iload_n hx hb dX0_nextToAsk_78 rfl (lv_at hl 3 rfl) ?_
          refine va_lald hx hb hK hP 1 2 rfl rfl i7 dX0_nextToAsk_79 ?_
          refine lv_aload_n hx hb dX0_nextToAsk_80 rfl (lv_at hl 0 rfl) ?_
          refine va_get (D := D) (ci := 0) (v := .ref a_o_low) (C := RX0) (T := TX0) (N := 2) hx hb hts in_X0 hown hK hP 0 rfl rfl 1 (by decide) fl_15 (fun _ h9 => h9) rfl dX0_nextToAsk_81 ?_
          refine lv_iload_n hx hb dX0_nextToAsk_84 rfl (lv_at hl 2 rfl) ?_
          refine va_lald hx hb hK hP 2 2 rfl rfl i9 dX0_nextToAsk_85 ?_
          refine lv_lmul hx hb dX0_nextToAsk_86 ?_
          refine W.lcmp hx hb dX0_nextToAsk_87 ?_
          refine lv_if_ne (tgt := 95) hx hb dX0_nextToAsk_88 (by decide) (fun c10 => ?_) (fun c10 => ?_)
          · have h := h.2 (fun z => c10 (lc_eq.mpr z))
            refine lv_iconst (v := 0) hx hb dX0_nextToAsk_95 (by decide) ?_
            exact j_96_0 x1 x2 x3 (0 : Int32) kb hkb kx0 hkx0 kx1 hkx1 h _ _ hP hD hS _ (lv_sub hl [0, 1, 2, 3] rfl)
          · have h := h.1 (lc_eq.mp c10)
            refine lv_iconst (v := 1) hx hb dX0_nextToAsk_91 (by decide) ?_
            refine lv_goto (tgt := 96) hx hb dX0_nextToAsk_92 (by decide) ?_
            exact j_96_0 x1 x2 x3 (1 : Int32) kb hkb kx0 hkx0 kx1 hkx1 h _ _ hP hD hS _ (lv_sub hl [0, 1, 2, 3] rfl)
        · have h := h.1 (lc_eq.mp c8)
          refine lv_goto (tgt := 118) hx hb dX0_nextToAsk_58 (by decide) ?_
          refine lv_iinc (v := (x3 + (1 : Int32))) (lv' := [(3, .int (x3 + (1 : Int32))), (0, .ref a_o), (1, .int x1), (2, .int x2)]) hx hb dX0_nextToAsk_118 hl (k := 3) rfl (congrArg (fun z => x3 + z) (by decide : Int32.ofInt (1) = (1 : Int32))) (by decide) rfl (fun ls hl => ?_)
          refine lv_goto (tgt := 42) hx hb dX0_nextToAsk_121 (by decide) ?_
          exact hkb x2 (x3 + (1 : Int32)) h _ _ hP hD hS _ (lv_sub hl [1, 2, 3, 0] rfl)
  refine ent [.ref a_o, .int x1] (Nat.le_of_ble_eq_true rfl) (fun ls hl => ?_)
  have hl : lv_has ls 5 [(0, .ref a_o), (1, .int x1)] := hl
  unfold wp_X0_nextToAsk at h
  refine lv_iload_n hx hb dX0_nextToAsk_0 rfl (lv_at hl 1 rfl) ?_
  refine lv_if_lt (tgt := 10) hx hb dX0_nextToAsk_1 (by decide) (fun c1 => ?_) (fun c1 => ?_)
  · have h := h.1 c1
    refine lv_iconst (v := -1) hx hb dX0_nextToAsk_10 (by decide) ?_
    exact hret (-1 : Int32) () _ _ _ _ h hP hD hS dX0_nextToAsk_11
  · have h := h.2 c1
    refine lv_iload_n hx hb dX0_nextToAsk_4 rfl (lv_at hl 1 rfl) ?_
    refine lv_bipush (v := 99) hx hb dX0_nextToAsk_5 (by decide) ?_
    refine lv_icmp_le (tgt := 12) hx hb dX0_nextToAsk_7 (by decide) (fun c2 => ?_) (fun c2 => ?_)
    · have h := h.1 c2
      refine lv_aload_n hx hb dX0_nextToAsk_12 rfl (lv_at hl 0 rfl) ?_
      refine va_get (D := D) (ci := 0) (v := .ref a_o_low) (C := RX0) (T := TX0) (N := 2) hx hb hts in_X0 hown hK hP 0 rfl rfl 1 (by decide) fl_15 (fun _ h9 => h9) rfl dX0_nextToAsk_13 ?_
      refine lv_iconst (v := 0) hx hb dX0_nextToAsk_16 (by decide) ?_
      refine va_lald hx hb hK hP 2 2 rfl rfl (by unfold vp_in; decide) dX0_nextToAsk_17 ?_
      refine lv_lconst (v := 0) hx hb dX0_nextToAsk_18 (by decide) ?_
      refine W.lcmp hx hb dX0_nextToAsk_19 ?_
      refine lv_if_ne (tgt := 25) hx hb dX0_nextToAsk_20 (by decide) (fun c3 => ?_) (fun c3 => ?_)
      · have h := h.2 (fun z => c3 (lc_eq.mpr z))
        refine lv_aload_n hx hb dX0_nextToAsk_25 rfl (lv_at hl 0 rfl) ?_
        refine va_get (D := D) (ci := 0) (v := .ref a_o_low) (C := RX0) (T := TX0) (N := 2) hx hb hts in_X0 hown hK hP 0 rfl rfl 1 (by decide) fl_15 (fun _ h9 => h9) rfl dX0_nextToAsk_26 ?_
        refine lv_iload_n hx hb dX0_nextToAsk_29 rfl (lv_at hl 1 rfl) ?_
        obtain ⟨i4, h⟩ := h
        refine va_lald hx hb hK hP 2 2 rfl rfl i4 dX0_nextToAsk_30 ?_
        refine lv_lconst (v := 0) hx hb dX0_nextToAsk_31 (by decide) ?_
        refine W.lcmp hx hb dX0_nextToAsk_32 ?_
        refine lv_if_ne (tgt := 38) hx hb dX0_nextToAsk_33 (by decide) (fun c5 => ?_) (fun c5 => ?_)
        · have h := h.2 (fun z => c5 (lc_eq.mpr z))
          refine lv_iconst (v := 0) hx hb dX0_nextToAsk_38 (by decide) ?_
          refine lv_istore_n (lv' := [(2, .int (0 : Int32)), (0, .ref a_o), (1, .int x1)]) hx hb dX0_nextToAsk_39 rfl hl (by decide) rfl (fun ls hl => ?_)
          refine lv_iconst (v := 1) hx hb dX0_nextToAsk_40 (by decide) ?_
          refine lv_istore_n (lv' := [(3, .int (1 : Int32)), (2, .int (0 : Int32)), (0, .ref a_o), (1, .int x1)]) hx hb dX0_nextToAsk_41 rfl hl (by decide) rfl (fun ls hl => ?_)
          obtain ⟨n15, h⟩ := h
          refine l_42 x1 _ ?_ _ ?_ n15 (0 : Int32) (1 : Int32) h _ _ hP hD hS _ (lv_sub hl [2, 3, 1, 0] rfl)
          · intro  h H locs hP hD hS ls hl
            refine lv_iconst (v := -1) hx hb dX0_nextToAsk_124 (by decide) ?_
            exact hret (-1 : Int32) () _ _ _ _ h hP hD hS dX0_nextToAsk_125
          · intro x2_13 x3_14 h H locs hP hD hS ls hl
            refine lv_iload_n hx hb dX0_nextToAsk_110 rfl (lv_at hl 0 rfl) ?_
            refine lv_iload_n hx hb dX0_nextToAsk_111 rfl (lv_at hl 1 rfl) ?_
            refine lv_iadd hx hb dX0_nextToAsk_112 ?_
            refine lv_iconst (v := 2) hx hb dX0_nextToAsk_113 (by decide) ?_
            refine lv_idiv hx hb dX0_nextToAsk_114 (by decide) ?_
            exact hret ((x2_13 + x3_14) / (2 : Int32)) () _ _ _ _ h hP hD hS dX0_nextToAsk_115
        · have h := h.1 (lc_eq.mp c5)
          refine lv_iload_n hx hb dX0_nextToAsk_36 rfl (lv_at hl 1 rfl) ?_
          exact hret x1 () _ _ _ _ h hP hD hS dX0_nextToAsk_37
      · have h := h.1 (lc_eq.mp c3)
        refine lv_iconst (v := 0) hx hb dX0_nextToAsk_23 (by decide) ?_
        exact hret (0 : Int32) () _ _ _ _ h hP hD hS dX0_nextToAsk_24
    · have h := h.2 c2
      refine lv_iconst (v := -1) hx hb dX0_nextToAsk_10 (by decide) ?_
      exact hret (-1 : Int32) () _ _ _ _ h hP hD hS dX0_nextToAsk_11
abbrev w_X0_greatest (cy : Nat → ClassId) (a_o a_o_up a_o_low : Nat) (o_up : Nat → Int64) (o_low : Nat → Int64) : va_W := [(a_o, .inr (0, [.ref a_o_up, .ref a_o_low])), (a_o_up, .inl (cy 2, 100, .inr (.inl o_up))), (a_o_low, .inl (cy 2, 100, .inr (.inl o_low)))]
set_option maxHeartbeats 4000000 in
set_option maxRecDepth 100000 in
theorem c_X0_greatest (l : Launch) (D : va_G) (cy : Nat → ClassId) (a_o a_o_up a_o_low : Nat) (sz : Nat)  {o_up : Nat → Int64} {o_low : Nat → Int64} {x1 : Int32} {post : Int32 → Prop} (h : wp_X0_greatest o_up o_low x1 post) : Met l yX0_greatest wsX0_greatest ({ frames := 0, cells := 0, slots := 0, locals := 0 }) (va_Pc [.ref a_o, .int x1] (wI D cy sz (w_X0_greatest cy a_o a_o_up a_o_low o_up o_low))) (va_Qi (fun (r : Int32) (u : Unit) => post r ) (fun (u : Unit) t => wO D cy (va_A (w_X0_greatest cy a_o a_o_up a_o_low o_up o_low) sz) (w_X0_greatest cy a_o a_o_up a_o_low o_up o_low) t) (va_A (w_X0_greatest cy a_o a_o_up a_o_low o_up o_low) sz)) 0 0 (va_A (w_X0_greatest cy a_o a_o_up a_o_low o_up o_low) sz) := by
  refine contrI (S := Unit) (post := fun (r : Int32) (u : Unit) => post r ) (wOut := fun (u : Unit) => (w_X0_greatest cy a_o a_o_up a_o_low o_up o_low)) (cc := cX0_greatest) (maxL := 6) (own := RX0) (by decide +kernel) rfl rfl ?_
  intro p e s m args below meth c A Q hx hb hml hown hts hK hN hP hD hS hA hret
  have in_X0 : ∀ w ∈ u_ws RX0 TX0 2, w ∈ wsX0_greatest := by decide +kernel
  have fl_15 := hts (.fieldLink RX0 15 "DawnTable$Bids" "low" "[J") (by decide +kernel)
  have fl_9 := hts (.fieldLink RX0 9 "DawnTable$Bids" "up" "[J") (by decide +kernel)
  have l_4 : ∀ (x1 : Int32), ∀ (kx0 : Int32 → Prop), (∀ (x2 : Int32), kx0 x2 → ∀ (H : Heap) (locs : List Loc), va_P D vwCl (w_X0_greatest cy a_o a_o_up a_o_low o_up o_low) H → va_D A (w_X0_greatest cy a_o a_o_up a_o_low o_up o_low) → va_S A s.heap H locs → ∀ (ls : Array Slot), lv_has ls 6 [(2, .int x2)] → W p l e ({ frames := 0, cells := 0, slots := 0, locals := 0 }) s m args below meth c H locs 0 0 Q (F0 m 81 ls [])) → ∀ (n : Nat) (x2 : Int32) (x3 : Int32), wl_X0_greatest_4 x1 o_up o_low kx0 post n x2 x3 → ∀ (H : Heap) (locs : List Loc), va_P D vwCl (w_X0_greatest cy a_o a_o_up a_o_low o_up o_low) H → va_D A (w_X0_greatest cy a_o a_o_up a_o_low o_up o_low) → va_S A s.heap H locs → ∀ (ls : Array Slot), lv_has ls 6 [(0, .ref a_o), (1, .int x1), (2, .int x2), (3, .int x3)] → W p l e ({ frames := 0, cells := 0, slots := 0, locals := 0 }) s m args below meth c H locs 0 0 Q (F0 m 4 ls []) := by
    intro x1 kx0 hkx0  n
    induction n with
    | zero => intro x2 x3 h; exact h.elim
    | succ n hkb =>
      intro x2 x3 h H locs hP hD hS ls hl
      replace h : ws_X0_greatest_4 x1 o_up o_low (wl_X0_greatest_4 x1 o_up o_low kx0 post n) kx0 post x2 x3 := h
      generalize wl_X0_greatest_4 x1 o_up o_low kx0 post n = kb at h hkb
      unfold ws_X0_greatest_4 at h
      refine lv_iload_n hx hb dX0_greatest_4 rfl (lv_at hl 3 rfl) ?_
      refine lv_iload_n hx hb dX0_greatest_5 rfl (lv_at hl 1 rfl) ?_
      refine lv_icmp_ge (tgt := 81) hx hb dX0_greatest_6 (by decide) (fun c1 => ?_) (fun c1 => ?_)
      · have h := h.1 c1
        exact hkx0 x2 h _ _ hP hD hS _ (lv_sub hl [2] rfl)
      · have h := h.2 c1
        refine lv_iload_n hx hb dX0_greatest_9 rfl (lv_at hl 3 rfl) ?_
        refine lv_bipush (v := 99) hx hb dX0_greatest_10 (by decide) ?_
        refine lv_icmp_gt (tgt := 81) hx hb dX0_greatest_12 (by decide) (fun c2 => ?_) (fun c2 => ?_)
        · have h := h.1 c2
          exact hkx0 x2 h _ _ hP hD hS _ (lv_sub hl [2] rfl)
        · have h := h.2 c2
          refine lv_aload_n hx hb dX0_greatest_15 rfl (lv_at hl 0 rfl) ?_
          refine va_get (D := D) (ci := 0) (v := .ref a_o_low) (C := RX0) (T := TX0) (N := 2) hx hb hts in_X0 hown hK hP 0 rfl rfl 1 (by decide) fl_15 (fun _ h9 => h9) rfl dX0_greatest_16 ?_
          refine lv_iload_n hx hb dX0_greatest_19 rfl (lv_at hl 3 rfl) ?_
          obtain ⟨i3, h⟩ := h
          refine va_lald hx hb hK hP 2 2 rfl rfl i3 dX0_greatest_20 ?_
          refine lv_lconst (v := 0) hx hb dX0_greatest_21 (by decide) ?_
          refine W.lcmp hx hb dX0_greatest_22 ?_
          refine lv_if_ne (tgt := 29) hx hb dX0_greatest_23 (by decide) (fun c4 => ?_) (fun c4 => ?_)
          · have h := h.2 (fun z => c4 (lc_eq.mpr z))
            refine lv_iload_n hx hb dX0_greatest_29 rfl (lv_at hl 1 rfl) ?_
            refine lv_iload_n hx hb dX0_greatest_30 rfl (lv_at hl 3 rfl) ?_
            refine lv_isub hx hb dX0_greatest_31 ?_
            refine lv_i2l hx hb dX0_greatest_32 rfl ?_
            refine lv_aload_n hx hb dX0_greatest_33 rfl (lv_at hl 0 rfl) ?_
            refine va_get (D := D) (ci := 0) (v := .ref a_o_up) (C := RX0) (T := TX0) (N := 2) hx hb hts in_X0 hown hK hP 0 rfl rfl 0 (by decide) fl_9 (fun _ h9 => h9) rfl dX0_greatest_34 ?_
            refine lv_iload_n hx hb dX0_greatest_37 rfl (lv_at hl 3 rfl) ?_
            refine va_lald hx hb hK hP 1 2 rfl rfl i3 dX0_greatest_38 ?_
            refine lv_lmul hx hb dX0_greatest_39 ?_
            refine lv_aload_n hx hb dX0_greatest_40 rfl (lv_at hl 0 rfl) ?_
            refine va_get (D := D) (ci := 0) (v := .ref a_o_low) (C := RX0) (T := TX0) (N := 2) hx hb hts in_X0 hown hK hP 0 rfl rfl 1 (by decide) fl_15 (fun _ h9 => h9) rfl dX0_greatest_41 ?_
            refine lv_iload_n hx hb dX0_greatest_44 rfl (lv_at hl 2 rfl) ?_
            obtain ⟨i5, h⟩ := h
            refine va_lald hx hb hK hP 2 2 rfl rfl i5 dX0_greatest_45 ?_
            refine lv_lmul hx hb dX0_greatest_46 ?_
            refine lv_topl (fun v6 ev6 => ?_)
            have h := h v6 ev6
            refine lv_lstore (lv' := [(4, .long v6), (0, .ref a_o), (1, .int x1), (2, .int x2), (3, .int x3)]) hx hb dX0_greatest_47 hl (by decide) rfl (fun ls hl => ?_)
            refine lv_lload hx hb dX0_greatest_49 (lv_at hl 0 rfl) ?_
            refine lv_iload_n hx hb dX0_greatest_51 rfl (lv_at hl 2 rfl) ?_
            refine lv_iload_n hx hb dX0_greatest_52 rfl (lv_at hl 3 rfl) ?_
            refine lv_isub hx hb dX0_greatest_53 ?_
            refine lv_i2l hx hb dX0_greatest_54 rfl ?_
            refine lv_aload_n hx hb dX0_greatest_55 rfl (lv_at hl 1 rfl) ?_
            refine va_get (D := D) (ci := 0) (v := .ref a_o_up) (C := RX0) (T := TX0) (N := 2) hx hb hts in_X0 hown hK hP 0 rfl rfl 0 (by decide) fl_9 (fun _ h9 => h9) rfl dX0_greatest_56 ?_
            refine lv_iload_n hx hb dX0_greatest_59 rfl (lv_at hl 3 rfl) ?_
            refine va_lald hx hb hK hP 1 2 rfl rfl i5 dX0_greatest_60 ?_
            refine lv_lmul hx hb dX0_greatest_61 ?_
            refine lv_aload_n hx hb dX0_greatest_62 rfl (lv_at hl 1 rfl) ?_
            refine va_get (D := D) (ci := 0) (v := .ref a_o_low) (C := RX0) (T := TX0) (N := 2) hx hb hts in_X0 hown hK hP 0 rfl rfl 1 (by decide) fl_15 (fun _ h9 => h9) rfl dX0_greatest_63 ?_
            refine lv_iload_n hx hb dX0_greatest_66 rfl (lv_at hl 4 rfl) ?_
            refine va_lald hx hb hK hP 2 2 rfl rfl i3 dX0_greatest_67 ?_
            refine lv_lmul hx hb dX0_greatest_68 ?_
            refine W.lcmp hx hb dX0_greatest_69 ?_
            refine lv_if_le (tgt := 75) hx hb dX0_greatest_70 (by decide) (fun c7 => ?_) (fun c7 => ?_)
            · have h := h.1 (lc_le.mp c7)
              refine lv_iinc (v := (x3 + (1 : Int32))) (lv' := [(3, .int (x3 + (1 : Int32))), (4, .long v6), (0, .ref a_o), (1, .int x1), (2, .int x2)]) hx hb dX0_greatest_75 hl (k := 4) rfl (congrArg (fun z => x3 + z) (by decide : Int32.ofInt (1) = (1 : Int32))) (by decide) rfl (fun ls hl => ?_)
              refine lv_goto (tgt := 4) hx hb dX0_greatest_78 (by decide) ?_
              exact hkb x2 (x3 + (1 : Int32)) h _ _ hP hD hS _ (lv_sub hl [2, 3, 4, 0] rfl)
            · have h := h.2 (fun z => c7 (lc_le.mpr z))
              refine lv_iload_n hx hb dX0_greatest_73 rfl (lv_at hl 4 rfl) ?_
              refine lv_istore_n (lv' := [(2, .int x3), (4, .long v6), (0, .ref a_o), (1, .int x1), (3, .int x3)]) hx hb dX0_greatest_74 rfl hl (by decide) rfl (fun ls hl => ?_)
              refine lv_iinc (v := (x3 + (1 : Int32))) (lv' := [(3, .int (x3 + (1 : Int32))), (2, .int x3), (4, .long v6), (0, .ref a_o), (1, .int x1)]) hx hb dX0_greatest_75 hl (k := 4) rfl (congrArg (fun z => x3 + z) (by decide : Int32.ofInt (1) = (1 : Int32))) (by decide) rfl (fun ls hl => ?_)
              refine lv_goto (tgt := 4) hx hb dX0_greatest_78 (by decide) ?_
              exact hkb x3 (x3 + (1 : Int32)) h _ _ hP hD hS _ (lv_sub hl [3, 4, 1, 0] rfl)
          · have h := h.1 (lc_eq.mp c4)
            refine lv_goto (tgt := 75) hx hb dX0_greatest_26 (by decide) ?_
            refine lv_iinc (v := (x3 + (1 : Int32))) (lv' := [(3, .int (x3 + (1 : Int32))), (0, .ref a_o), (1, .int x1), (2, .int x2)]) hx hb dX0_greatest_75 hl (k := 3) rfl (congrArg (fun z => x3 + z) (by decide : Int32.ofInt (1) = (1 : Int32))) (by decide) rfl (fun ls hl => ?_)
            refine lv_goto (tgt := 4) hx hb dX0_greatest_78 (by decide) ?_
            exact hkb x2 (x3 + (1 : Int32)) h _ _ hP hD hS _ (lv_sub hl [1, 2, 3, 0] rfl)
  refine ent [.ref a_o, .int x1] (Nat.le_of_ble_eq_true rfl) (fun ls hl => ?_)
  have hl : lv_has ls 6 [(0, .ref a_o), (1, .int x1)] := hl
  unfold wp_X0_greatest at h
  refine lv_iconst (v := 0) hx hb dX0_greatest_0 (by decide) ?_
  refine lv_istore_n (lv' := [(2, .int (0 : Int32)), (0, .ref a_o), (1, .int x1)]) hx hb dX0_greatest_1 rfl hl (by decide) rfl (fun ls hl => ?_)
  refine lv_iconst (v := 1) hx hb dX0_greatest_2 (by decide) ?_
  refine lv_istore_n (lv' := [(3, .int (1 : Int32)), (2, .int (0 : Int32)), (0, .ref a_o), (1, .int x1)]) hx hb dX0_greatest_3 rfl hl (by decide) rfl (fun ls hl => ?_)
  obtain ⟨n9, h⟩ := h
  refine l_4 x1 _ ?_ n9 (0 : Int32) (1 : Int32) h _ _ hP hD hS _ (lv_sub hl [2, 3, 1, 0] rfl)
  · intro x2_8 h H locs hP hD hS ls hl
    refine lv_iload_n hx hb dX0_greatest_81 rfl (lv_at hl 0 rfl) ?_
    exact hret x2_8 () _ _ _ _ h hP hD hS dX0_greatest_82
abbrev w_X2_copyOf (cy : Nat → ClassId) (a_o a_o_x a_p1 a_p1_x : Nat) (o_holds : Int32) (o_value : Int64) (o_low : Int64) (o_x : Nat → Int64) (p1_holds : Int32) (p1_value : Int64) (p1_low : Int64) (p1_x : Nat → Int64) : va_W := [(a_o, .inr (2, [.ref a_o_x, .int o_holds, .long o_value, .long o_low])), (a_o_x, .inl (cy 2, 4, .inr (.inl o_x))), (a_p1, .inr (2, [.ref a_p1_x, .int p1_holds, .long p1_value, .long p1_low])), (a_p1_x, .inl (cy 2, 4, .inr (.inl p1_x)))]
set_option maxHeartbeats 4000000 in
set_option maxRecDepth 100000 in
theorem c_X2_copyOf (l : Launch) (D : va_G) (cy : Nat → ClassId) (a_o a_o_x a_p1 a_p1_x : Nat) (sz : Nat)  {o_holds : Int32} {o_value : Int64} {o_low : Int64} {o_x : Nat → Int64} {p1_holds : Int32} {p1_value : Int64} {p1_low : Int64} {p1_x : Nat → Int64}  {post : Int32 → Int64 → Int64 → (Nat → Int64) → Prop} (h : wp_X2_copyOf o_holds o_value o_low o_x p1_holds p1_value p1_low p1_x post) : Met l yX2_copyOf wsX2_copyOf ({ frames := 1, cells := 0, slots := 0, locals := 40 }) (va_Pc [.ref a_o, .ref a_p1] (wI D cy sz (w_X2_copyOf cy a_o a_o_x a_p1 a_p1_x o_holds o_value o_low o_x p1_holds p1_value p1_low p1_x))) (va_Qv (fun (u : Int32 × Int64 × Int64 × (Nat → Int64)) => post u.1 u.2.1 u.2.2.1 u.2.2.2) (fun (u : Int32 × Int64 × Int64 × (Nat → Int64)) t => wO D cy (va_A (w_X2_copyOf cy a_o a_o_x a_p1 a_p1_x o_holds o_value o_low o_x p1_holds p1_value p1_low p1_x) sz) (w_X2_copyOf cy a_o a_o_x a_p1 a_p1_x u.1 u.2.1 u.2.2.1 u.2.2.2 p1_holds p1_value p1_low p1_x) t) (va_A (w_X2_copyOf cy a_o a_o_x a_p1 a_p1_x o_holds o_value o_low o_x p1_holds p1_value p1_low p1_x) sz)) 0 0 (va_A (w_X2_copyOf cy a_o a_o_x a_p1 a_p1_x o_holds o_value o_low o_x p1_holds p1_value p1_low p1_x) sz) := by
  refine contrV (S := Int32 × Int64 × Int64 × (Nat → Int64)) (post := fun (u : Int32 × Int64 × Int64 × (Nat → Int64)) => post u.1 u.2.1 u.2.2.1 u.2.2.2) (wOut := fun (u : Int32 × Int64 × Int64 × (Nat → Int64)) => (w_X2_copyOf cy a_o a_o_x a_p1 a_p1_x u.1 u.2.1 u.2.2.1 u.2.2.2 p1_holds p1_value p1_low p1_x)) (cc := cX2_copyOf) (maxL := 2) (own := RX2) (by decide +kernel) rfl rfl ?_
  intro p e s m args below meth c A Q hx hb hml hown hts hK hN hP hD hS hA hret
  have in_X2 : ∀ w ∈ u_ws RX2 TX2 4, w ∈ wsX2_copyOf := by decide +kernel
  have fl_9 := hts (.fieldLink RX2 9 "DawnTable$Clearing" "x" "[J") (by decide +kernel)
  have fl_15 := hts (.fieldLink RX2 15 "DawnTable$Clearing" "holds" "Z") (by decide +kernel)
  have fl_19 := hts (.fieldLink RX2 19 "DawnTable$Clearing" "value" "J") (by decide +kernel)
  have fl_23 := hts (.fieldLink RX2 23 "DawnTable$Clearing" "low" "J") (by decide +kernel)
  refine ent [.ref a_o, .ref a_p1] (Nat.le_of_ble_eq_true rfl) (fun ls hl => ?_)
  have hl : lv_has ls 2 [(0, .ref a_o), (1, .ref a_p1)] := hl
  unfold wp_X2_copyOf at h
  refine lv_aload_n hx hb dX2_copyOf_0 rfl (lv_at hl 1 rfl) ?_
  refine va_get (D := D) (ci := 2) (v := .ref a_p1_x) (C := RX2) (T := TX2) (N := 4) hx hb hts in_X2 hown hK hP 2 rfl rfl 0 (by decide) fl_9 (fun _ h9 => h9) rfl dX2_copyOf_1 ?_
  refine lv_iconst (v := 0) hx hb dX2_copyOf_4 (by decide) ?_
  refine lv_aload_n hx hb dX2_copyOf_5 rfl (lv_at hl 0 rfl) ?_
  refine va_get (D := D) (ci := 2) (v := .ref a_o_x) (C := RX2) (T := TX2) (N := 4) hx hb hts in_X2 hown hK hP 0 rfl rfl 0 (by decide) fl_9 (fun _ h9 => h9) rfl dX2_copyOf_6 ?_
  refine lv_iconst (v := 0) hx hb dX2_copyOf_9 (by decide) ?_
  refine lv_iconst (v := 4) hx hb dX2_copyOf_10 (by decide) ?_
  refine va_copyl (ty := .long) hx hb (hml.trans hl.1.symm) hown (hts (.methodLink RX2 26 arraycopyName) (by decide +kernel)) (hts (.native arraycopyName) (by decide +kernel)) (hts (.static arraycopyName) (by decide +kernel)) (hts (.initialized "java/lang/System") (by decide +kernel)) hK hP hD hS 3 1 2 2 rfl rfl rfl rfl rfl (by decide) (by decide) (by decide) (by decide) (by decide) (fun _ _ => rfl) (Nat.le_of_ble_eq_true rfl) (Nat.le_of_ble_eq_true rfl) dX2_copyOf_11 (fun H locs hP hD hS => ?_)
  have hP : va_P D vwCl (w_X2_copyOf cy a_o a_o_x a_p1 a_p1_x o_holds o_value o_low (va_cpy p1_x o_x ((0 : Int32)).toNatClampNeg ((0 : Int32)).toNatClampNeg ((4 : Int32)).toNatClampNeg) p1_holds p1_value p1_low p1_x) H := hP
  have hD : va_D A (w_X2_copyOf cy a_o a_o_x a_p1 a_p1_x o_holds o_value o_low (va_cpy p1_x o_x ((0 : Int32)).toNatClampNeg ((0 : Int32)).toNatClampNeg ((4 : Int32)).toNatClampNeg) p1_holds p1_value p1_low p1_x) := hD
  refine lv_aload_n hx hb dX2_copyOf_14 rfl (lv_at hl 0 rfl) ?_
  refine lv_aload_n hx hb dX2_copyOf_15 rfl (lv_at hl 1 rfl) ?_
  refine va_get (D := D) (ci := 2) (v := .int p1_holds) (C := RX2) (T := TX2) (N := 4) hx hb hts in_X2 hown hK hP 2 rfl rfl 1 (by decide) fl_15 (fun _ h9 => h9) rfl dX2_copyOf_16 ?_
  obtain ⟨b1, h⟩ := h
  refine va_put (D := D) (ci := 2) (v := .int p1_holds) (ty := .boolean) (C := RX2) (T := TX2) (N := 4) hx hb hts in_X2 tyX2 tyX2_ok nmX2 hown hK hP hD hS 0 rfl rfl 1 (by decide) fl_15 (fun _ h9 => h9) rfl (by decide +kernel) b1 (fit_of b1) (Nat.le_of_ble_eq_true rfl) dX2_copyOf_19 (fun H locs hP hD hS => ?_)
  have hP : va_P D vwCl (w_X2_copyOf cy a_o a_o_x a_p1 a_p1_x p1_holds o_value o_low (va_cpy p1_x o_x ((0 : Int32)).toNatClampNeg ((0 : Int32)).toNatClampNeg ((4 : Int32)).toNatClampNeg) p1_holds p1_value p1_low p1_x) H := hP
  have hD : va_D A (w_X2_copyOf cy a_o a_o_x a_p1 a_p1_x p1_holds o_value o_low (va_cpy p1_x o_x ((0 : Int32)).toNatClampNeg ((0 : Int32)).toNatClampNeg ((4 : Int32)).toNatClampNeg) p1_holds p1_value p1_low p1_x) := hD
  refine lv_aload_n hx hb dX2_copyOf_22 rfl (lv_at hl 0 rfl) ?_
  refine lv_aload_n hx hb dX2_copyOf_23 rfl (lv_at hl 1 rfl) ?_
  refine va_get (D := D) (ci := 2) (v := .long p1_value) (C := RX2) (T := TX2) (N := 4) hx hb hts in_X2 hown hK hP 2 rfl rfl 2 (by decide) fl_19 (fun _ h9 => h9) rfl dX2_copyOf_24 ?_
  refine va_put (D := D) (ci := 2) (v := .long p1_value) (ty := .long) (C := RX2) (T := TX2) (N := 4) hx hb hts in_X2 tyX2 tyX2_ok nmX2 hown hK hP hD hS 0 rfl rfl 2 (by decide) fl_19 (fun _ h9 => h9) rfl (by decide +kernel) rfl rfl (Nat.le_of_ble_eq_true rfl) dX2_copyOf_27 (fun H locs hP hD hS => ?_)
  have hP : va_P D vwCl (w_X2_copyOf cy a_o a_o_x a_p1 a_p1_x p1_holds p1_value o_low (va_cpy p1_x o_x ((0 : Int32)).toNatClampNeg ((0 : Int32)).toNatClampNeg ((4 : Int32)).toNatClampNeg) p1_holds p1_value p1_low p1_x) H := hP
  have hD : va_D A (w_X2_copyOf cy a_o a_o_x a_p1 a_p1_x p1_holds p1_value o_low (va_cpy p1_x o_x ((0 : Int32)).toNatClampNeg ((0 : Int32)).toNatClampNeg ((4 : Int32)).toNatClampNeg) p1_holds p1_value p1_low p1_x) := hD
  refine lv_aload_n hx hb dX2_copyOf_30 rfl (lv_at hl 0 rfl) ?_
  refine lv_aload_n hx hb dX2_copyOf_31 rfl (lv_at hl 1 rfl) ?_
  refine va_get (D := D) (ci := 2) (v := .long p1_low) (C := RX2) (T := TX2) (N := 4) hx hb hts in_X2 hown hK hP 2 rfl rfl 3 (by decide) fl_23 (fun _ h9 => h9) rfl dX2_copyOf_32 ?_
  refine va_put (D := D) (ci := 2) (v := .long p1_low) (ty := .long) (C := RX2) (T := TX2) (N := 4) hx hb hts in_X2 tyX2 tyX2_ok nmX2 hown hK hP hD hS 0 rfl rfl 3 (by decide) fl_23 (fun _ h9 => h9) rfl (by decide +kernel) rfl rfl (Nat.le_of_ble_eq_true rfl) dX2_copyOf_35 (fun H locs hP hD hS => ?_)
  have hP : va_P D vwCl (w_X2_copyOf cy a_o a_o_x a_p1 a_p1_x p1_holds p1_value p1_low (va_cpy p1_x o_x ((0 : Int32)).toNatClampNeg ((0 : Int32)).toNatClampNeg ((4 : Int32)).toNatClampNeg) p1_holds p1_value p1_low p1_x) H := hP
  have hD : va_D A (w_X2_copyOf cy a_o a_o_x a_p1 a_p1_x p1_holds p1_value p1_low (va_cpy p1_x o_x ((0 : Int32)).toNatClampNeg ((0 : Int32)).toNatClampNeg ((4 : Int32)).toNatClampNeg) p1_holds p1_value p1_low p1_x) := hD
  exact hret (p1_holds, p1_value, p1_low, (va_cpy p1_x o_x ((0 : Int32)).toNatClampNeg ((0 : Int32)).toNatClampNeg ((4 : Int32)).toNatClampNeg)) _ _ _ _ h hP hD hS dX2_copyOf_38
abbrev w_X2_beats (cy : Nat → ClassId) (a_o a_o_x a_p1 a_p1_x : Nat) (o_holds : Int32) (o_value : Int64) (o_low : Int64) (o_x : Nat → Int64) (p1_holds : Int32) (p1_value : Int64) (p1_low : Int64) (p1_x : Nat → Int64) : va_W := [(a_o, .inr (2, [.ref a_o_x, .int o_holds, .long o_value, .long o_low])), (a_o_x, .inl (cy 2, 4, .inr (.inl o_x))), (a_p1, .inr (2, [.ref a_p1_x, .int p1_holds, .long p1_value, .long p1_low])), (a_p1_x, .inl (cy 2, 4, .inr (.inl p1_x)))]
set_option maxRecDepth 20000 in
theorem ggX2_beats_J13_compare_74951 : GoodIn wsX2_beats wsJ13_compare_74951 := goodIn_r _ [8] (by decide +kernel) (by decide +kernel)
set_option maxRecDepth 20000 in
theorem gX2_beats_J13_compare_74951 : GoodIn wsX2_beats (va_wsS RX2 32 yJ13_compare_74951 wsJ13_compare_74951) := goodIn_app (goodIn_of _ (by decide +kernel)) ggX2_beats_J13_compare_74951
set_option maxHeartbeats 4000000 in
set_option maxRecDepth 100000 in
theorem c_X2_beats (l : Launch) (D : va_G) (cy : Nat → ClassId) (a_o a_o_x a_p1 a_p1_x : Nat) (sz : Nat)  {o_holds : Int32} {o_value : Int64} {o_low : Int64} {o_x : Nat → Int64} {p1_holds : Int32} {p1_value : Int64} {p1_low : Int64} {p1_x : Nat → Int64}  {post : Int32 → Prop} (h : wp_X2_beats o_holds o_value o_low o_x p1_holds p1_value p1_low p1_x post) : Met l yX2_beats wsX2_beats ({ frames := 1, cells := 0, slots := 0, locals := 23 }) (va_Pc [.ref a_o, .ref a_p1] (wI D cy sz (w_X2_beats cy a_o a_o_x a_p1 a_p1_x o_holds o_value o_low o_x p1_holds p1_value p1_low p1_x))) (va_Qi (fun (r : Int32) (u : Unit) => post r ) (fun (u : Unit) t => wO D cy (va_A (w_X2_beats cy a_o a_o_x a_p1 a_p1_x o_holds o_value o_low o_x p1_holds p1_value p1_low p1_x) sz) (w_X2_beats cy a_o a_o_x a_p1 a_p1_x o_holds o_value o_low o_x p1_holds p1_value p1_low p1_x) t) (va_A (w_X2_beats cy a_o a_o_x a_p1 a_p1_x o_holds o_value o_low o_x p1_holds p1_value p1_low p1_x) sz)) 0 0 (va_A (w_X2_beats cy a_o a_o_x a_p1 a_p1_x o_holds o_value o_low o_x p1_holds p1_value p1_low p1_x) sz) := by
  refine contrZ (S := Unit) (post := fun (r : Int32) (u : Unit) => post r ) (wOut := fun (u : Unit) => (w_X2_beats cy a_o a_o_x a_p1 a_p1_x o_holds o_value o_low o_x p1_holds p1_value p1_low p1_x)) (cc := cX2_beats) (maxL := 4) (own := RX2) (by decide +kernel) rfl rfl ?_
  intro p e s m args below meth c A Q hx hb hml hown hts hK hN hP hD hS hA hret
  have in_X2 : ∀ w ∈ u_ws RX2 TX2 4, w ∈ wsX2_beats := by decide +kernel
  have fl_15 := hts (.fieldLink RX2 15 "DawnTable$Clearing" "holds" "Z") (by decide +kernel)
  have fl_19 := hts (.fieldLink RX2 19 "DawnTable$Clearing" "value" "J") (by decide +kernel)
  have fl_23 := hts (.fieldLink RX2 23 "DawnTable$Clearing" "low" "J") (by decide +kernel)
  have fl_9 := hts (.fieldLink RX2 9 "DawnTable$Clearing" "x" "[J") (by decide +kernel)
  have l_36 : ∀ (kx0 : Int32 → Prop), (∀ (x2 : Int32), kx0 x2 → ∀ (H : Heap) (locs : List Loc), va_P D vwCl (w_X2_beats cy a_o a_o_x a_p1 a_p1_x o_holds o_value o_low o_x p1_holds p1_value p1_low p1_x) H → va_D A (w_X2_beats cy a_o a_o_x a_p1 a_p1_x o_holds o_value o_low o_x p1_holds p1_value p1_low p1_x) → va_S A s.heap H locs → ∀ (ls : Array Slot), lv_has ls 4 [(0, .ref a_o), (2, .int x2)] → W p l e ({ frames := 1, cells := 0, slots := 0, locals := 23 }) s m args below meth c H locs 0 0 Q (F0 m 77 ls [])) → ∀ (n : Nat) (x2 : Int32) (x3 : Int32), wl_X2_beats_36 o_holds o_value o_low o_x p1_holds p1_value p1_low p1_x kx0 post n x2 x3 → ∀ (H : Heap) (locs : List Loc), va_P D vwCl (w_X2_beats cy a_o a_o_x a_p1 a_p1_x o_holds o_value o_low o_x p1_holds p1_value p1_low p1_x) H → va_D A (w_X2_beats cy a_o a_o_x a_p1 a_p1_x o_holds o_value o_low o_x p1_holds p1_value p1_low p1_x) → va_S A s.heap H locs → ∀ (ls : Array Slot), lv_has ls 4 [(0, .ref a_o), (1, .ref a_p1), (2, .int x2), (3, .int x3)] → W p l e ({ frames := 1, cells := 0, slots := 0, locals := 23 }) s m args below meth c H locs 0 0 Q (F0 m 36 ls []) := by
    intro  kx0 hkx0  n
    induction n with
    | zero => intro x2 x3 h; exact h.elim
    | succ n hkb =>
      intro x2 x3 h H locs hP hD hS ls hl
      replace h : ws_X2_beats_36 o_holds o_value o_low o_x p1_holds p1_value p1_low p1_x (wl_X2_beats_36 o_holds o_value o_low o_x p1_holds p1_value p1_low p1_x kx0 post n) kx0 post x2 x3 := h
      generalize wl_X2_beats_36 o_holds o_value o_low o_x p1_holds p1_value p1_low p1_x kx0 post n = kb at h hkb
      unfold ws_X2_beats_36 at h
      refine lv_iload_n hx hb dX2_beats_36 rfl (lv_at hl 3 rfl) ?_
      refine lv_iconst (v := 4) hx hb dX2_beats_37 (by decide) ?_
      refine lv_icmp_ge (tgt := 77) hx hb dX2_beats_38 (by decide) (fun c3 => ?_) (fun c3 => ?_)
      · have h := h.1 c3
        exact hkx0 x2 h _ _ hP hD hS _ (lv_sub hl [0, 2] rfl)
      · have h := h.2 c3
        refine lv_iload_n hx hb dX2_beats_41 rfl (lv_at hl 2 rfl) ?_
        refine lv_if_ne (tgt := 77) hx hb dX2_beats_42 (by decide) (fun c4 => ?_) (fun c4 => ?_)
        · have h := h.2 c4
          exact hkx0 x2 h _ _ hP hD hS _ (lv_sub hl [0, 2] rfl)
        · have h := h.1 c4
          refine lv_aload_n hx hb dX2_beats_45 rfl (lv_at hl 1 rfl) ?_
          refine va_get (D := D) (ci := 2) (v := .ref a_p1_x) (C := RX2) (T := TX2) (N := 4) hx hb hts in_X2 hown hK hP 2 rfl rfl 0 (by decide) fl_9 (fun _ h9 => h9) rfl dX2_beats_46 ?_
          refine lv_iload_n hx hb dX2_beats_49 rfl (lv_at hl 3 rfl) ?_
          obtain ⟨i5, h⟩ := h
          refine va_lald hx hb hK hP 3 2 rfl rfl i5 dX2_beats_50 ?_
          refine lv_aload_n hx hb dX2_beats_51 rfl (lv_at hl 0 rfl) ?_
          refine va_get (D := D) (ci := 2) (v := .long o_low) (C := RX2) (T := TX2) (N := 4) hx hb hts in_X2 hown hK hP 0 rfl rfl 3 (by decide) fl_23 (fun _ h9 => h9) rfl dX2_beats_52 ?_
          refine lv_lmul hx hb dX2_beats_55 ?_
          refine lv_aload_n hx hb dX2_beats_56 rfl (lv_at hl 0 rfl) ?_
          refine va_get (D := D) (ci := 2) (v := .ref a_o_x) (C := RX2) (T := TX2) (N := 4) hx hb hts in_X2 hown hK hP 0 rfl rfl 0 (by decide) fl_9 (fun _ h9 => h9) rfl dX2_beats_57 ?_
          refine lv_iload_n hx hb dX2_beats_60 rfl (lv_at hl 3 rfl) ?_
          refine va_lald hx hb hK hP 1 2 rfl rfl i5 dX2_beats_61 ?_
          refine lv_aload_n hx hb dX2_beats_62 rfl (lv_at hl 1 rfl) ?_
          refine va_get (D := D) (ci := 2) (v := .long p1_low) (C := RX2) (T := TX2) (N := 4) hx hb hts in_X2 hown hK hP 2 rfl rfl 3 (by decide) fl_23 (fun _ h9 => h9) rfl dX2_beats_63 ?_
          refine lv_lmul hx hb dX2_beats_66 ?_
          have hC : ([] : List Nat).map (fun i => ((w_X2_beats cy a_o a_o_x a_p1 a_p1_x o_holds o_value o_low o_x p1_holds p1_value p1_low p1_x) : va_W)[i]?) = ((w_J13_compare_74951 cy ) : va_W).map some := rfl
          obtain ⟨hPc, hDc⟩ := cutC hP hD [] (by decide) hC
          have hFc := va_free hD hS hA [] hC
          refine va_calli (va_runS (As := [.long ((p1_x (x3).toNatClampNeg) * o_low), .long ((o_x (x3).toNatClampNeg) * p1_low)]) (rest := []) ⟨hx, hb, hml, hown, hts⟩ (c_J13_compare_74951 l D cy _ h) (va_cwS 2 hts gX2_beats_J13_compare_74951 rfl rfl rfl (by decide +kernel) ⟨Nat.le_of_ble_eq_true rfl, Nat.le_of_ble_eq_true rfl⟩) (preS hPc hDc hK hN) rfl rfl hl.1 rfl (lv_room (Nat.le_of_ble_eq_true rfl)) dX2_beats_67 ⟨Nat.zero_le _, Nat.zero_le _⟩) hS (fun q _ h => hFc q h) hFc (fun r6 u t H1 locs ht hvm h hB hz1 hk1 hS => ?_)
          try dsimp only at h hB
          obtain ⟨hP, hD⟩ := joinU (wd := (w_X2_beats cy a_o a_o_x a_p1 a_p1_x o_holds o_value o_low o_x p1_holds p1_value p1_low p1_x)) (wr := [(a_o, .inr (2, [.ref a_o_x, .int o_holds, .long o_value, .long o_low])), (a_o_x, .inl (cy 2, 4, .inr (.inl o_x))), (a_p1, .inr (2, [.ref a_p1_x, .int p1_holds, .long p1_value, .long p1_low])), (a_p1_x, .inl (cy 2, 4, .inr (.inl p1_x)))]) hP hD [] [0, 1, 2, 3] [] hC hk1 ht hB rfl rfl rfl (N := 4) rfl (by decide) rfl rfl
          generalize H1 = H at hP hS ⊢
          refine lv_istore_n (lv' := [(2, .int r6), (0, .ref a_o), (1, .ref a_p1), (3, .int x3)]) hx hb dX2_beats_70 rfl hl (by decide) rfl (fun ls hl => ?_)
          refine lv_iinc (v := (x3 + (1 : Int32))) (lv' := [(3, .int (x3 + (1 : Int32))), (2, .int r6), (0, .ref a_o), (1, .ref a_p1)]) hx hb dX2_beats_71 hl (k := 3) rfl (congrArg (fun z => x3 + z) (by decide : Int32.ofInt (1) = (1 : Int32))) (by decide) rfl (fun ls hl => ?_)
          refine lv_goto (tgt := 36) hx hb dX2_beats_74 (by decide) ?_
          exact hkb r6 (x3 + (1 : Int32)) h _ _ hP hD hS _ (lv_sub hl [2, 3, 1, 0] rfl)
  have j_77_0 : ∀ (x2 : Int32), wj_X2_beats_77  x2 o_holds o_value o_low o_x p1_holds p1_value p1_low p1_x  post → ∀ (H : Heap) (locs : List Loc), va_P D vwCl (w_X2_beats cy a_o a_o_x a_p1 a_p1_x o_holds o_value o_low o_x p1_holds p1_value p1_low p1_x) H → va_D A (w_X2_beats cy a_o a_o_x a_p1 a_p1_x o_holds o_value o_low o_x p1_holds p1_value p1_low p1_x) → va_S A s.heap H locs → ∀ (ls : Array Slot), lv_has ls 4 [(0, .ref a_o), (2, .int x2)] → W p l e ({ frames := 1, cells := 0, slots := 0, locals := 23 }) s m args below meth c H locs 0 0 Q (F0 m 77 ls []) := by
    intro x2  h H locs hP hD hS ls hl
    unfold wj_X2_beats_77 at h
    refine lv_aload_n hx hb dX2_beats_77 rfl (lv_at hl 0 rfl) ?_
    refine va_get (D := D) (ci := 2) (v := .int o_holds) (C := RX2) (T := TX2) (N := 4) hx hb hts in_X2 hown hK hP 0 rfl rfl 1 (by decide) fl_15 (fun _ h9 => h9) rfl dX2_beats_78 ?_
    refine lv_if_eq (tgt := 92) hx hb dX2_beats_81 (by decide) (fun c8 => ?_) (fun c8 => ?_)
    · have h := h.1 c8
      refine lv_iconst (v := 0) hx hb dX2_beats_92 (by decide) ?_
      exact hret (0 : Int32) () _ _ _ _ rfl h hP hD hS dX2_beats_93
    · have h := h.2 c8
      refine lv_iload_n hx hb dX2_beats_84 rfl (lv_at hl 1 rfl) ?_
      refine lv_if_le (tgt := 92) hx hb dX2_beats_85 (by decide) (fun c9 => ?_) (fun c9 => ?_)
      · have h := h.1 c9
        refine lv_iconst (v := 0) hx hb dX2_beats_92 (by decide) ?_
        exact hret (0 : Int32) () _ _ _ _ rfl h hP hD hS dX2_beats_93
      · have h := h.2 c9
        refine lv_iconst (v := 1) hx hb dX2_beats_88 (by decide) ?_
        refine lv_goto (tgt := 93) hx hb dX2_beats_89 (by decide) ?_
        exact hret (1 : Int32) () _ _ _ _ rfl h hP hD hS dX2_beats_93
  refine ent [.ref a_o, .ref a_p1] (Nat.le_of_ble_eq_true rfl) (fun ls hl => ?_)
  have hl : lv_has ls 4 [(0, .ref a_o), (1, .ref a_p1)] := hl
  unfold wp_X2_beats at h
  refine lv_aload_n hx hb dX2_beats_0 rfl (lv_at hl 1 rfl) ?_
  refine va_get (D := D) (ci := 2) (v := .int p1_holds) (C := RX2) (T := TX2) (N := 4) hx hb hts in_X2 hown hK hP 2 rfl rfl 1 (by decide) fl_15 (fun _ h9 => h9) rfl dX2_beats_1 ?_
  refine lv_if_ne (tgt := 12) hx hb dX2_beats_4 (by decide) (fun c1 => ?_) (fun c1 => ?_)
  · have h := h.2 c1
    refine lv_aload_n hx hb dX2_beats_12 rfl (lv_at hl 0 rfl) ?_
    refine va_get (D := D) (ci := 2) (v := .long o_value) (C := RX2) (T := TX2) (N := 4) hx hb hts in_X2 hown hK hP 0 rfl rfl 2 (by decide) fl_19 (fun _ h9 => h9) rfl dX2_beats_13 ?_
    refine lv_aload_n hx hb dX2_beats_16 rfl (lv_at hl 1 rfl) ?_
    refine va_get (D := D) (ci := 2) (v := .long p1_low) (C := RX2) (T := TX2) (N := 4) hx hb hts in_X2 hown hK hP 2 rfl rfl 3 (by decide) fl_23 (fun _ h9 => h9) rfl dX2_beats_17 ?_
    refine lv_lmul hx hb dX2_beats_20 ?_
    refine lv_aload_n hx hb dX2_beats_21 rfl (lv_at hl 1 rfl) ?_
    refine va_get (D := D) (ci := 2) (v := .long p1_value) (C := RX2) (T := TX2) (N := 4) hx hb hts in_X2 hown hK hP 2 rfl rfl 2 (by decide) fl_19 (fun _ h9 => h9) rfl dX2_beats_22 ?_
    refine lv_aload_n hx hb dX2_beats_25 rfl (lv_at hl 0 rfl) ?_
    refine va_get (D := D) (ci := 2) (v := .long o_low) (C := RX2) (T := TX2) (N := 4) hx hb hts in_X2 hown hK hP 0 rfl rfl 3 (by decide) fl_23 (fun _ h9 => h9) rfl dX2_beats_26 ?_
    refine lv_lmul hx hb dX2_beats_29 ?_
    have hC : ([] : List Nat).map (fun i => ((w_X2_beats cy a_o a_o_x a_p1 a_p1_x o_holds o_value o_low o_x p1_holds p1_value p1_low p1_x) : va_W)[i]?) = ((w_J13_compare_74951 cy ) : va_W).map some := rfl
    obtain ⟨hPc, hDc⟩ := cutC hP hD [] (by decide) hC
    have hFc := va_free hD hS hA [] hC
    refine va_calli (va_runS (As := [.long (o_value * p1_low), .long (p1_value * o_low)]) (rest := []) ⟨hx, hb, hml, hown, hts⟩ (c_J13_compare_74951 l D cy _ h) (va_cwS 2 hts gX2_beats_J13_compare_74951 rfl rfl rfl (by decide +kernel) ⟨Nat.le_of_ble_eq_true rfl, Nat.le_of_ble_eq_true rfl⟩) (preS hPc hDc hK hN) rfl rfl hl.1 rfl (lv_room (Nat.le_of_ble_eq_true rfl)) dX2_beats_30 ⟨Nat.zero_le _, Nat.zero_le _⟩) hS (fun q _ h => hFc q h) hFc (fun r2 u t H1 locs ht hvm h hB hz1 hk1 hS => ?_)
    try dsimp only at h hB
    obtain ⟨hP, hD⟩ := joinU (wd := (w_X2_beats cy a_o a_o_x a_p1 a_p1_x o_holds o_value o_low o_x p1_holds p1_value p1_low p1_x)) (wr := [(a_o, .inr (2, [.ref a_o_x, .int o_holds, .long o_value, .long o_low])), (a_o_x, .inl (cy 2, 4, .inr (.inl o_x))), (a_p1, .inr (2, [.ref a_p1_x, .int p1_holds, .long p1_value, .long p1_low])), (a_p1_x, .inl (cy 2, 4, .inr (.inl p1_x)))]) hP hD [] [0, 1, 2, 3] [] hC hk1 ht hB rfl rfl rfl (N := 4) rfl (by decide) rfl rfl
    generalize H1 = H at hP hS ⊢
    refine lv_istore_n (lv' := [(2, .int r2), (0, .ref a_o), (1, .ref a_p1)]) hx hb dX2_beats_33 rfl hl (by decide) rfl (fun ls hl => ?_)
    refine lv_iconst (v := 0) hx hb dX2_beats_34 (by decide) ?_
    refine lv_istore_n (lv' := [(3, .int (0 : Int32)), (2, .int r2), (0, .ref a_o), (1, .ref a_p1)]) hx hb dX2_beats_35 rfl hl (by decide) rfl (fun ls hl => ?_)
    obtain ⟨n10, h⟩ := h
    refine l_36  _ ?_ n10 r2 (0 : Int32) h _ _ hP hD hS _ (lv_sub hl [2, 3, 1, 0] rfl)
    · intro x2_7 h H locs hP hD hS ls hl
      exact j_77_0 x2_7 h _ _ hP hD hS _ (lv_sub hl [0, 1] rfl)
  · have h := h.1 c1
    refine lv_aload_n hx hb dX2_beats_7 rfl (lv_at hl 0 rfl) ?_
    refine va_get (D := D) (ci := 2) (v := .int o_holds) (C := RX2) (T := TX2) (N := 4) hx hb hts in_X2 hown hK hP 0 rfl rfl 1 (by decide) fl_15 (fun _ h9 => h9) rfl dX2_beats_8 ?_
    obtain ⟨b11, h⟩ := h
    exact hret o_holds () _ _ _ _ b11 h hP hD hS dX2_beats_11
