def wp_X7_in   (x0 : Int64) (x2 : Int64) (x4 : Int64) (post : Int32 → Prop) : Prop :=
  ((x0 < x2 → post (0 : Int32)) ∧
   (¬ x0 < x2 → ((x4 < x0 → post (0 : Int32)) ∧
   (¬ x4 < x0 → post (1 : Int32)))))
abbrev w_X7_in (cy : Nat → ClassId)  : va_W := []
set_option maxHeartbeats 4000000 in
set_option maxRecDepth 100000 in
theorem c_X7_in (l : Launch) (D : va_G) (cy : Nat → ClassId) (sz : Nat)   {x0 : Int64} {x2 : Int64} {x4 : Int64} {post : Int32 → Prop} (h : wp_X7_in x0 x2 x4 post) : Met l yX7_in wsX7_in ({ frames := 0, cells := 0, slots := 0, locals := 0 }) (va_Pc [.long x0, .long x2, .long x4] (wI D cy sz (w_X7_in cy ))) (va_Qi (fun (r : Int32) (u : Unit) => post r ) (fun (u : Unit) t => wO D cy (va_A (w_X7_in cy ) sz) (w_X7_in cy ) t) (va_A (w_X7_in cy ) sz)) 0 0 (va_A (w_X7_in cy ) sz) := by
  refine contrZ (S := Unit) (post := fun (r : Int32) (u : Unit) => post r ) (wOut := fun (u : Unit) => (w_X7_in cy )) (cc := cX7_in) (maxL := 6) (own := RX7) (by decide +kernel) rfl rfl ?_
  intro p e s m args below meth c A Q hx hb hml hown hts hK hN hP hD hS hA hret
  refine ent [.long x0, .long x2, .long x4] (Nat.le_of_ble_eq_true rfl) (fun ls hl => ?_)
  have hl : lv_has ls 6 [(0, .long x0), (2, .long x2), (4, .long x4)] := hl
  unfold wp_X7_in at h
  refine lv_lload_n hx hb dX7_in_0 rfl (lv_at hl 0 rfl) ?_
  refine lv_lload_n hx hb dX7_in_1 rfl (lv_at hl 1 rfl) ?_
  refine W.lcmp hx hb dX7_in_2 ?_
  refine lv_if_lt (tgt := 17) hx hb dX7_in_3 (by decide) (fun c1 => ?_) (fun c1 => ?_)
  · have h := h.1 (lc_lt.mp c1)
    refine lv_iconst (v := 0) hx hb dX7_in_17 (by decide) ?_
    exact hret (0 : Int32) () _ _ _ _ rfl h hP hD hS dX7_in_18
  · have h := h.2 (fun z => c1 (lc_lt.mpr z))
    refine lv_lload_n hx hb dX7_in_6 rfl (lv_at hl 0 rfl) ?_
    refine lv_lload hx hb dX7_in_7 (lv_at hl 2 rfl) ?_
    refine W.lcmp hx hb dX7_in_9 ?_
    refine lv_if_gt (tgt := 17) hx hb dX7_in_10 (by decide) (fun c2 => ?_) (fun c2 => ?_)
    · have h := h.1 (lc_gt.mp c2)
      refine lv_iconst (v := 0) hx hb dX7_in_17 (by decide) ?_
      exact hret (0 : Int32) () _ _ _ _ rfl h hP hD hS dX7_in_18
    · have h := h.2 (fun z => c2 (lc_gt.mpr z))
      refine lv_iconst (v := 1) hx hb dX7_in_13 (by decide) ?_
      refine lv_goto (tgt := 18) hx hb dX7_in_14 (by decide) ?_
      exact hret (1 : Int32) () _ _ _ _ rfl h hP hD hS dX7_in_18

def ws_X7_forget_2 (o_wishOff : Nat → Int32) (o_toldUp : Nat → Int32) (o_toldDown : Nat → Int32) (kb : Int32 → (Nat → Int32) → (Nat → Int32) → (Nat → Int32) → Prop) (kx0 : (Nat → Int32) → (Nat → Int32) → (Nat → Int32) → Prop) (post : (Nat → Int32) → (Nat → Int32) → (Nat → Int32) → (Nat → Int32) → (Nat → Int32) → (Nat → Int32) → Prop) (x1 : Int32) (o_gateOff : Nat → Int32) (o_priceUp : Nat → Int32) (o_priceDown : Nat → Int32) : Prop :=
  (((5 : Int32) ≤ x1 → kx0 o_gateOff o_priceUp o_priceDown) ∧
   (¬ (5 : Int32) ≤ x1 → (vp_in x1 5 ∧ kb (x1 + (1 : Int32)) (upd o_gateOff (x1).toNatClampNeg (vp_nar .boolean (0 : Int32))) (upd o_priceUp (x1).toNatClampNeg (0 : Int32)) (upd o_priceDown (x1).toNatClampNeg (1 : Int32)))))
def wl_X7_forget_2 (o_wishOff : Nat → Int32) (o_toldUp : Nat → Int32) (o_toldDown : Nat → Int32) (kx0 : (Nat → Int32) → (Nat → Int32) → (Nat → Int32) → Prop) (post : (Nat → Int32) → (Nat → Int32) → (Nat → Int32) → (Nat → Int32) → (Nat → Int32) → (Nat → Int32) → Prop) : Nat → Int32 → (Nat → Int32) → (Nat → Int32) → (Nat → Int32) → Prop
  | 0, _, _, _, _ => False
  | n + 1, x1, o_gateOff, o_priceUp, o_priceDown => ws_X7_forget_2 o_wishOff o_toldUp o_toldDown (wl_X7_forget_2 o_wishOff o_toldUp o_toldDown kx0 post n) kx0 post x1 o_gateOff o_priceUp o_priceDown
def ws_X7_forget_36 (o_gateOff : Nat → Int32) (o_priceUp : Nat → Int32) (o_priceDown : Nat → Int32) (kb : Int32 → (Nat → Int32) → (Nat → Int32) → (Nat → Int32) → Prop) (kx0 : (Nat → Int32) → (Nat → Int32) → (Nat → Int32) → Prop) (post : (Nat → Int32) → (Nat → Int32) → (Nat → Int32) → (Nat → Int32) → (Nat → Int32) → (Nat → Int32) → Prop) (x1 : Int32) (o_wishOff : Nat → Int32) (o_toldUp : Nat → Int32) (o_toldDown : Nat → Int32) : Prop :=
  (((4 : Int32) ≤ x1 → kx0 o_wishOff o_toldUp o_toldDown) ∧
   (¬ (4 : Int32) ≤ x1 → (vp_in x1 4 ∧ kb (x1 + (1 : Int32)) (upd o_wishOff (x1).toNatClampNeg (vp_nar .boolean (0 : Int32))) (upd o_toldUp (x1).toNatClampNeg (0 : Int32)) (upd o_toldDown (x1).toNatClampNeg (1 : Int32)))))
def wl_X7_forget_36 (o_gateOff : Nat → Int32) (o_priceUp : Nat → Int32) (o_priceDown : Nat → Int32) (kx0 : (Nat → Int32) → (Nat → Int32) → (Nat → Int32) → Prop) (post : (Nat → Int32) → (Nat → Int32) → (Nat → Int32) → (Nat → Int32) → (Nat → Int32) → (Nat → Int32) → Prop) : Nat → Int32 → (Nat → Int32) → (Nat → Int32) → (Nat → Int32) → Prop
  | 0, _, _, _, _ => False
  | n + 1, x1, o_wishOff, o_toldUp, o_toldDown => ws_X7_forget_36 o_gateOff o_priceUp o_priceDown (wl_X7_forget_36 o_gateOff o_priceUp o_priceDown kx0 post n) kx0 post x1 o_wishOff o_toldUp o_toldDown
def wp_X7_forget  (o_gateOff : Nat → Int32) (o_wishOff : Nat → Int32) (o_toldUp : Nat → Int32) (o_toldDown : Nat → Int32) (o_priceUp : Nat → Int32) (o_priceDown : Nat → Int32)  (post : (Nat → Int32) → (Nat → Int32) → (Nat → Int32) → (Nat → Int32) → (Nat → Int32) → (Nat → Int32) → Prop) : Prop :=
  ∃ n12, wl_X7_forget_2 o_wishOff o_toldUp o_toldDown (fun (o_gateOff_3 : Nat → Int32) (o_priceUp_4 : Nat → Int32) (o_priceDown_5 : Nat → Int32) => ∃ n11, wl_X7_forget_36 o_gateOff_3 o_priceUp_4 o_priceDown_5 (fun (o_wishOff_8 : Nat → Int32) (o_toldUp_9 : Nat → Int32) (o_toldDown_10 : Nat → Int32) => post o_gateOff_3 o_wishOff_8 o_toldUp_9 o_toldDown_10 o_priceUp_4 o_priceDown_5) post n11 (0 : Int32) o_wishOff o_toldUp o_toldDown) post n12 (0 : Int32) o_gateOff o_priceUp o_priceDown
abbrev w_X7_forget (cy : Nat → ClassId) (a_o a_o_text a_o_letter a_o_least a_o_carries a_o_gateOff a_o_worth a_o_kind a_o_most a_o_wishOff a_o_use a_o_toldUp a_o_toldDown a_o_priceUp a_o_priceDown a_o_draftGate a_o_draftCarries a_o_draftWorth a_o_draftKind a_o_draftMost a_o_draftUse a_o_x a_o_bestX a_o_part a_o_row a_o_right a_o_m a_o_given a_o_wasOff : Nat) (o_trace : Int64) (o_typed : Int32) (o_gates : Int32) (o_wishes : Int32) (o_at : Int32) (o_start : Int32) (o_sort : Int32) (o_value : Int32) (o_fault : Int32) (o_drafted : Int32) (o_by : Int64) (o_bestBy : Int64) (o_bestWorth : Int64) (o_isBest : Int32) (o_parts : Int32) (o_gateOff : Nat → Int32) (o_wishOff : Nat → Int32) (o_toldUp : Nat → Int32) (o_toldDown : Nat → Int32) (o_priceUp : Nat → Int32) (o_priceDown : Nat → Int32) : va_W := [(a_o, .inr (7, [.long o_trace, .ref a_o_text, .int o_typed, .int o_gates, .int o_wishes, .ref a_o_letter, .ref a_o_least, .ref a_o_carries, .ref a_o_gateOff, .ref a_o_worth, .ref a_o_kind, .ref a_o_most, .ref a_o_wishOff, .ref a_o_use, .ref a_o_toldUp, .ref a_o_toldDown, .ref a_o_priceUp, .ref a_o_priceDown, .int o_at, .int o_start, .int o_sort, .int o_value, .int o_fault, .ref a_o_draftGate, .ref a_o_draftCarries, .ref a_o_draftWorth, .ref a_o_draftKind, .ref a_o_draftMost, .ref a_o_draftUse, .int o_drafted, .ref a_o_x, .long o_by, .ref a_o_bestX, .long o_bestBy, .long o_bestWorth, .int o_isBest, .ref a_o_part, .int o_parts, .ref a_o_row, .ref a_o_right, .ref a_o_m, .ref a_o_given, .ref a_o_wasOff])), (a_o_gateOff, .inl (cy 3, 5, .inl o_gateOff)), (a_o_wishOff, .inl (cy 3, 4, .inl o_wishOff)), (a_o_toldUp, .inl (cy 1, 4, .inl o_toldUp)), (a_o_toldDown, .inl (cy 1, 4, .inl o_toldDown)), (a_o_priceUp, .inl (cy 1, 5, .inl o_priceUp)), (a_o_priceDown, .inl (cy 1, 5, .inl o_priceDown))]
set_option maxHeartbeats 4000000 in
set_option maxRecDepth 100000 in
theorem c_X7_forget (l : Launch) (D : va_G) (cy : Nat → ClassId) (a_o a_o_text a_o_letter a_o_least a_o_carries a_o_gateOff a_o_worth a_o_kind a_o_most a_o_wishOff a_o_use a_o_toldUp a_o_toldDown a_o_priceUp a_o_priceDown a_o_draftGate a_o_draftCarries a_o_draftWorth a_o_draftKind a_o_draftMost a_o_draftUse a_o_x a_o_bestX a_o_part a_o_row a_o_right a_o_m a_o_given a_o_wasOff : Nat) (sz : Nat)  {o_trace : Int64} {o_typed : Int32} {o_gates : Int32} {o_wishes : Int32} {o_at : Int32} {o_start : Int32} {o_sort : Int32} {o_value : Int32} {o_fault : Int32} {o_drafted : Int32} {o_by : Int64} {o_bestBy : Int64} {o_bestWorth : Int64} {o_isBest : Int32} {o_parts : Int32} {o_gateOff : Nat → Int32} {o_wishOff : Nat → Int32} {o_toldUp : Nat → Int32} {o_toldDown : Nat → Int32} {o_priceUp : Nat → Int32} {o_priceDown : Nat → Int32}  {post : (Nat → Int32) → (Nat → Int32) → (Nat → Int32) → (Nat → Int32) → (Nat → Int32) → (Nat → Int32) → Prop} (h : wp_X7_forget o_gateOff o_wishOff o_toldUp o_toldDown o_priceUp o_priceDown post) : Met l yX7_forget wsX7_forget ({ frames := 0, cells := 0, slots := 0, locals := 0 }) (va_Pc [.ref a_o] (wI D cy sz (w_X7_forget cy a_o a_o_text a_o_letter a_o_least a_o_carries a_o_gateOff a_o_worth a_o_kind a_o_most a_o_wishOff a_o_use a_o_toldUp a_o_toldDown a_o_priceUp a_o_priceDown a_o_draftGate a_o_draftCarries a_o_draftWorth a_o_draftKind a_o_draftMost a_o_draftUse a_o_x a_o_bestX a_o_part a_o_row a_o_right a_o_m a_o_given a_o_wasOff o_trace o_typed o_gates o_wishes o_at o_start o_sort o_value o_fault o_drafted o_by o_bestBy o_bestWorth o_isBest o_parts o_gateOff o_wishOff o_toldUp o_toldDown o_priceUp o_priceDown))) (va_Qv (fun (u : (Nat → Int32) × (Nat → Int32) × (Nat → Int32) × (Nat → Int32) × (Nat → Int32) × (Nat → Int32)) => post u.1 u.2.1 u.2.2.1 u.2.2.2.1 u.2.2.2.2.1 u.2.2.2.2.2) (fun (u : (Nat → Int32) × (Nat → Int32) × (Nat → Int32) × (Nat → Int32) × (Nat → Int32) × (Nat → Int32)) t => wO D cy (va_A (w_X7_forget cy a_o a_o_text a_o_letter a_o_least a_o_carries a_o_gateOff a_o_worth a_o_kind a_o_most a_o_wishOff a_o_use a_o_toldUp a_o_toldDown a_o_priceUp a_o_priceDown a_o_draftGate a_o_draftCarries a_o_draftWorth a_o_draftKind a_o_draftMost a_o_draftUse a_o_x a_o_bestX a_o_part a_o_row a_o_right a_o_m a_o_given a_o_wasOff o_trace o_typed o_gates o_wishes o_at o_start o_sort o_value o_fault o_drafted o_by o_bestBy o_bestWorth o_isBest o_parts o_gateOff o_wishOff o_toldUp o_toldDown o_priceUp o_priceDown) sz) (w_X7_forget cy a_o a_o_text a_o_letter a_o_least a_o_carries a_o_gateOff a_o_worth a_o_kind a_o_most a_o_wishOff a_o_use a_o_toldUp a_o_toldDown a_o_priceUp a_o_priceDown a_o_draftGate a_o_draftCarries a_o_draftWorth a_o_draftKind a_o_draftMost a_o_draftUse a_o_x a_o_bestX a_o_part a_o_row a_o_right a_o_m a_o_given a_o_wasOff o_trace o_typed o_gates o_wishes o_at o_start o_sort o_value o_fault o_drafted o_by o_bestBy o_bestWorth o_isBest o_parts u.1 u.2.1 u.2.2.1 u.2.2.2.1 u.2.2.2.2.1 u.2.2.2.2.2) t) (va_A (w_X7_forget cy a_o a_o_text a_o_letter a_o_least a_o_carries a_o_gateOff a_o_worth a_o_kind a_o_most a_o_wishOff a_o_use a_o_toldUp a_o_toldDown a_o_priceUp a_o_priceDown a_o_draftGate a_o_draftCarries a_o_draftWorth a_o_draftKind a_o_draftMost a_o_draftUse a_o_x a_o_bestX a_o_part a_o_row a_o_right a_o_m a_o_given a_o_wasOff o_trace o_typed o_gates o_wishes o_at o_start o_sort o_value o_fault o_drafted o_by o_bestBy o_bestWorth o_isBest o_parts o_gateOff o_wishOff o_toldUp o_toldDown o_priceUp o_priceDown) sz)) 0 0 (va_A (w_X7_forget cy a_o a_o_text a_o_letter a_o_least a_o_carries a_o_gateOff a_o_worth a_o_kind a_o_most a_o_wishOff a_o_use a_o_toldUp a_o_toldDown a_o_priceUp a_o_priceDown a_o_draftGate a_o_draftCarries a_o_draftWorth a_o_draftKind a_o_draftMost a_o_draftUse a_o_x a_o_bestX a_o_part a_o_row a_o_right a_o_m a_o_given a_o_wasOff o_trace o_typed o_gates o_wishes o_at o_start o_sort o_value o_fault o_drafted o_by o_bestBy o_bestWorth o_isBest o_parts o_gateOff o_wishOff o_toldUp o_toldDown o_priceUp o_priceDown) sz) := by
  refine contrV (S := (Nat → Int32) × (Nat → Int32) × (Nat → Int32) × (Nat → Int32) × (Nat → Int32) × (Nat → Int32)) (post := fun (u : (Nat → Int32) × (Nat → Int32) × (Nat → Int32) × (Nat → Int32) × (Nat → Int32) × (Nat → Int32)) => post u.1 u.2.1 u.2.2.1 u.2.2.2.1 u.2.2.2.2.1 u.2.2.2.2.2) (wOut := fun (u : (Nat → Int32) × (Nat → Int32) × (Nat → Int32) × (Nat → Int32) × (Nat → Int32) × (Nat → Int32)) => (w_X7_forget cy a_o a_o_text a_o_letter a_o_least a_o_carries a_o_gateOff a_o_worth a_o_kind a_o_most a_o_wishOff a_o_use a_o_toldUp a_o_toldDown a_o_priceUp a_o_priceDown a_o_draftGate a_o_draftCarries a_o_draftWorth a_o_draftKind a_o_draftMost a_o_draftUse a_o_x a_o_bestX a_o_part a_o_row a_o_right a_o_m a_o_given a_o_wasOff o_trace o_typed o_gates o_wishes o_at o_start o_sort o_value o_fault o_drafted o_by o_bestBy o_bestWorth o_isBest o_parts u.1 u.2.1 u.2.2.1 u.2.2.2.1 u.2.2.2.2.1 u.2.2.2.2.2)) (cc := cX7_forget) (maxL := 2) (own := RX7) (by decide +kernel) rfl rfl ?_
  intro p e s m args below meth c A Q hx hb hml hown hts hK hN hP hD hS hA hret
  have in_X7 : ∀ w ∈ u_ws RX7 TX7 43, w ∈ wsX7_forget := by decide +kernel
  have fl_48 := hts (.fieldLink RX7 48 "DawnTableModel" "priceUp" "[I") (by decide +kernel)
  have fl_51 := hts (.fieldLink RX7 51 "DawnTableModel" "priceDown" "[I") (by decide +kernel)
  have fl_23 := hts (.fieldLink RX7 23 "DawnTableModel" "gateOff" "[Z") (by decide +kernel)
  have fl_42 := hts (.fieldLink RX7 42 "DawnTableModel" "toldUp" "[I") (by decide +kernel)
  have fl_45 := hts (.fieldLink RX7 45 "DawnTableModel" "toldDown" "[I") (by decide +kernel)
  have fl_36 := hts (.fieldLink RX7 36 "DawnTableModel" "wishOff" "[Z") (by decide +kernel)
  have l_2 : ∀ (o_wishOff : Nat → Int32) (o_toldUp : Nat → Int32) (o_toldDown : Nat → Int32), ∀ (kx0 : (Nat → Int32) → (Nat → Int32) → (Nat → Int32) → Prop), (∀ (o_gateOff : Nat → Int32) (o_priceUp : Nat → Int32) (o_priceDown : Nat → Int32), kx0 o_gateOff o_priceUp o_priceDown → ∀ (H : Heap) (locs : List Loc), va_P D vwCl (w_X7_forget cy a_o a_o_text a_o_letter a_o_least a_o_carries a_o_gateOff a_o_worth a_o_kind a_o_most a_o_wishOff a_o_use a_o_toldUp a_o_toldDown a_o_priceUp a_o_priceDown a_o_draftGate a_o_draftCarries a_o_draftWorth a_o_draftKind a_o_draftMost a_o_draftUse a_o_x a_o_bestX a_o_part a_o_row a_o_right a_o_m a_o_given a_o_wasOff o_trace o_typed o_gates o_wishes o_at o_start o_sort o_value o_fault o_drafted o_by o_bestBy o_bestWorth o_isBest o_parts o_gateOff o_wishOff o_toldUp o_toldDown o_priceUp o_priceDown) H → va_D A (w_X7_forget cy a_o a_o_text a_o_letter a_o_least a_o_carries a_o_gateOff a_o_worth a_o_kind a_o_most a_o_wishOff a_o_use a_o_toldUp a_o_toldDown a_o_priceUp a_o_priceDown a_o_draftGate a_o_draftCarries a_o_draftWorth a_o_draftKind a_o_draftMost a_o_draftUse a_o_x a_o_bestX a_o_part a_o_row a_o_right a_o_m a_o_given a_o_wasOff o_trace o_typed o_gates o_wishes o_at o_start o_sort o_value o_fault o_drafted o_by o_bestBy o_bestWorth o_isBest o_parts o_gateOff o_wishOff o_toldUp o_toldDown o_priceUp o_priceDown) → va_S A s.heap H locs → ∀ (ls : Array Slot), lv_has ls 2 [(0, .ref a_o)] → W p l e ({ frames := 0, cells := 0, slots := 0, locals := 0 }) s m args below meth c H locs 0 0 Q (F0 m 34 ls [])) → ∀ (n : Nat) (x1 : Int32) (o_gateOff : Nat → Int32) (o_priceUp : Nat → Int32) (o_priceDown : Nat → Int32), wl_X7_forget_2 o_wishOff o_toldUp o_toldDown kx0 post n x1 o_gateOff o_priceUp o_priceDown → ∀ (H : Heap) (locs : List Loc), va_P D vwCl (w_X7_forget cy a_o a_o_text a_o_letter a_o_least a_o_carries a_o_gateOff a_o_worth a_o_kind a_o_most a_o_wishOff a_o_use a_o_toldUp a_o_toldDown a_o_priceUp a_o_priceDown a_o_draftGate a_o_draftCarries a_o_draftWorth a_o_draftKind a_o_draftMost a_o_draftUse a_o_x a_o_bestX a_o_part a_o_row a_o_right a_o_m a_o_given a_o_wasOff o_trace o_typed o_gates o_wishes o_at o_start o_sort o_value o_fault o_drafted o_by o_bestBy o_bestWorth o_isBest o_parts o_gateOff o_wishOff o_toldUp o_toldDown o_priceUp o_priceDown) H → va_D A (w_X7_forget cy a_o a_o_text a_o_letter a_o_least a_o_carries a_o_gateOff a_o_worth a_o_kind a_o_most a_o_wishOff a_o_use a_o_toldUp a_o_toldDown a_o_priceUp a_o_priceDown a_o_draftGate a_o_draftCarries a_o_draftWorth a_o_draftKind a_o_draftMost a_o_draftUse a_o_x a_o_bestX a_o_part a_o_row a_o_right a_o_m a_o_given a_o_wasOff o_trace o_typed o_gates o_wishes o_at o_start o_sort o_value o_fault o_drafted o_by o_bestBy o_bestWorth o_isBest o_parts o_gateOff o_wishOff o_toldUp o_toldDown o_priceUp o_priceDown) → va_S A s.heap H locs → ∀ (ls : Array Slot), lv_has ls 2 [(0, .ref a_o), (1, .int x1)] → W p l e ({ frames := 0, cells := 0, slots := 0, locals := 0 }) s m args below meth c H locs 0 0 Q (F0 m 2 ls []) := by
    intro o_wishOff o_toldUp o_toldDown kx0 hkx0  n
    induction n with
    | zero => intro x1 o_gateOff o_priceUp o_priceDown h; exact h.elim
    | succ n hkb =>
      intro x1 o_gateOff o_priceUp o_priceDown h H locs hP hD hS ls hl
      replace h : ws_X7_forget_2 o_wishOff o_toldUp o_toldDown (wl_X7_forget_2 o_wishOff o_toldUp o_toldDown kx0 post n) kx0 post x1 o_gateOff o_priceUp o_priceDown := h
      generalize wl_X7_forget_2 o_wishOff o_toldUp o_toldDown kx0 post n = kb at h hkb
      unfold ws_X7_forget_2 at h
      refine lv_iload_n hx hb dX7_forget_2 rfl (lv_at hl 1 rfl) ?_
      refine lv_iconst (v := 5) hx hb dX7_forget_3 (by decide) ?_
      refine lv_icmp_ge (tgt := 34) hx hb dX7_forget_4 (by decide) (fun c1 => ?_) (fun c1 => ?_)
      · have h := h.1 c1
        exact hkx0 o_gateOff o_priceUp o_priceDown h _ _ hP hD hS _ (lv_sub hl [0] rfl)
      · have h := h.2 c1
        refine lv_aload_n hx hb dX7_forget_7 rfl (lv_at hl 0 rfl) ?_
        refine va_get (D := D) (ci := 7) (v := .ref a_o_priceUp) (C := RX7) (T := TX7) (N := 43) hx hb hts in_X7 hown hK hP 0 rfl rfl 16 (by decide) fl_48 (fun _ h9 => h9) rfl dX7_forget_8 ?_
        refine lv_iload_n hx hb dX7_forget_11 rfl (lv_at hl 1 rfl) ?_
        refine lv_iconst (v := 0) hx hb dX7_forget_12 (by decide) ?_
        obtain ⟨i2, h⟩ := h
        refine va_iast hx hb hK hP hD hS 5 1 rfl rfl i2 dX7_forget_13 (fun H locs hP hD hS => ?_)
        have hP : va_P D vwCl (w_X7_forget cy a_o a_o_text a_o_letter a_o_least a_o_carries a_o_gateOff a_o_worth a_o_kind a_o_most a_o_wishOff a_o_use a_o_toldUp a_o_toldDown a_o_priceUp a_o_priceDown a_o_draftGate a_o_draftCarries a_o_draftWorth a_o_draftKind a_o_draftMost a_o_draftUse a_o_x a_o_bestX a_o_part a_o_row a_o_right a_o_m a_o_given a_o_wasOff o_trace o_typed o_gates o_wishes o_at o_start o_sort o_value o_fault o_drafted o_by o_bestBy o_bestWorth o_isBest o_parts o_gateOff o_wishOff o_toldUp o_toldDown (upd o_priceUp (x1).toNatClampNeg (0 : Int32)) o_priceDown) H := hP
        have hD : va_D A (w_X7_forget cy a_o a_o_text a_o_letter a_o_least a_o_carries a_o_gateOff a_o_worth a_o_kind a_o_most a_o_wishOff a_o_use a_o_toldUp a_o_toldDown a_o_priceUp a_o_priceDown a_o_draftGate a_o_draftCarries a_o_draftWorth a_o_draftKind a_o_draftMost a_o_draftUse a_o_x a_o_bestX a_o_part a_o_row a_o_right a_o_m a_o_given a_o_wasOff o_trace o_typed o_gates o_wishes o_at o_start o_sort o_value o_fault o_drafted o_by o_bestBy o_bestWorth o_isBest o_parts o_gateOff o_wishOff o_toldUp o_toldDown (upd o_priceUp (x1).toNatClampNeg (0 : Int32)) o_priceDown) := hD
        refine lv_aload_n hx hb dX7_forget_14 rfl (lv_at hl 0 rfl) ?_
        refine va_get (D := D) (ci := 7) (v := .ref a_o_priceDown) (C := RX7) (T := TX7) (N := 43) hx hb hts in_X7 hown hK hP 0 rfl rfl 17 (by decide) fl_51 (fun _ h9 => h9) rfl dX7_forget_15 ?_
        refine lv_iload_n hx hb dX7_forget_18 rfl (lv_at hl 1 rfl) ?_
        refine lv_iconst (v := 1) hx hb dX7_forget_19 (by decide) ?_
        refine va_iast hx hb hK hP hD hS 6 1 rfl rfl i2 dX7_forget_20 (fun H locs hP hD hS => ?_)
        have hP : va_P D vwCl (w_X7_forget cy a_o a_o_text a_o_letter a_o_least a_o_carries a_o_gateOff a_o_worth a_o_kind a_o_most a_o_wishOff a_o_use a_o_toldUp a_o_toldDown a_o_priceUp a_o_priceDown a_o_draftGate a_o_draftCarries a_o_draftWorth a_o_draftKind a_o_draftMost a_o_draftUse a_o_x a_o_bestX a_o_part a_o_row a_o_right a_o_m a_o_given a_o_wasOff o_trace o_typed o_gates o_wishes o_at o_start o_sort o_value o_fault o_drafted o_by o_bestBy o_bestWorth o_isBest o_parts o_gateOff o_wishOff o_toldUp o_toldDown (upd o_priceUp (x1).toNatClampNeg (0 : Int32)) (upd o_priceDown (x1).toNatClampNeg (1 : Int32))) H := hP
        have hD : va_D A (w_X7_forget cy a_o a_o_text a_o_letter a_o_least a_o_carries a_o_gateOff a_o_worth a_o_kind a_o_most a_o_wishOff a_o_use a_o_toldUp a_o_toldDown a_o_priceUp a_o_priceDown a_o_draftGate a_o_draftCarries a_o_draftWorth a_o_draftKind a_o_draftMost a_o_draftUse a_o_x a_o_bestX a_o_part a_o_row a_o_right a_o_m a_o_given a_o_wasOff o_trace o_typed o_gates o_wishes o_at o_start o_sort o_value o_fault o_drafted o_by o_bestBy o_bestWorth o_isBest o_parts o_gateOff o_wishOff o_toldUp o_toldDown (upd o_priceUp (x1).toNatClampNeg (0 : Int32)) (upd o_priceDown (x1).toNatClampNeg (1 : Int32))) := hD
        refine lv_aload_n hx hb dX7_forget_21 rfl (lv_at hl 0 rfl) ?_
        refine va_get (D := D) (ci := 7) (v := .ref a_o_gateOff) (C := RX7) (T := TX7) (N := 43) hx hb hts in_X7 hown hK hP 0 rfl rfl 8 (by decide) fl_23 (fun _ h9 => h9) rfl dX7_forget_22 ?_
        refine lv_iload_n hx hb dX7_forget_25 rfl (lv_at hl 1 rfl) ?_
        refine lv_iconst (v := 0) hx hb dX7_forget_26 (by decide) ?_
        refine va_zast hx hb hK hP hD hS 1 3 rfl rfl i2 dX7_forget_27 (fun H locs hP hD hS => ?_)
        have hP : va_P D vwCl (w_X7_forget cy a_o a_o_text a_o_letter a_o_least a_o_carries a_o_gateOff a_o_worth a_o_kind a_o_most a_o_wishOff a_o_use a_o_toldUp a_o_toldDown a_o_priceUp a_o_priceDown a_o_draftGate a_o_draftCarries a_o_draftWorth a_o_draftKind a_o_draftMost a_o_draftUse a_o_x a_o_bestX a_o_part a_o_row a_o_right a_o_m a_o_given a_o_wasOff o_trace o_typed o_gates o_wishes o_at o_start o_sort o_value o_fault o_drafted o_by o_bestBy o_bestWorth o_isBest o_parts (upd o_gateOff (x1).toNatClampNeg (vp_nar .boolean (0 : Int32))) o_wishOff o_toldUp o_toldDown (upd o_priceUp (x1).toNatClampNeg (0 : Int32)) (upd o_priceDown (x1).toNatClampNeg (1 : Int32))) H := hP
        have hD : va_D A (w_X7_forget cy a_o a_o_text a_o_letter a_o_least a_o_carries a_o_gateOff a_o_worth a_o_kind a_o_most a_o_wishOff a_o_use a_o_toldUp a_o_toldDown a_o_priceUp a_o_priceDown a_o_draftGate a_o_draftCarries a_o_draftWorth a_o_draftKind a_o_draftMost a_o_draftUse a_o_x a_o_bestX a_o_part a_o_row a_o_right a_o_m a_o_given a_o_wasOff o_trace o_typed o_gates o_wishes o_at o_start o_sort o_value o_fault o_drafted o_by o_bestBy o_bestWorth o_isBest o_parts (upd o_gateOff (x1).toNatClampNeg (vp_nar .boolean (0 : Int32))) o_wishOff o_toldUp o_toldDown (upd o_priceUp (x1).toNatClampNeg (0 : Int32)) (upd o_priceDown (x1).toNatClampNeg (1 : Int32))) := hD
        refine lv_iinc (v := (x1 + (1 : Int32))) (lv' := [(1, .int (x1 + (1 : Int32))), (0, .ref a_o)]) hx hb dX7_forget_28 hl (k := 1) rfl (congrArg (fun z => x1 + z) (by decide : Int32.ofInt (1) = (1 : Int32))) (by decide) rfl (fun ls hl => ?_)
        refine lv_goto (tgt := 2) hx hb dX7_forget_31 (by decide) ?_
        exact hkb (x1 + (1 : Int32)) (upd o_gateOff (x1).toNatClampNeg (vp_nar .boolean (0 : Int32))) (upd o_priceUp (x1).toNatClampNeg (0 : Int32)) (upd o_priceDown (x1).toNatClampNeg (1 : Int32)) h _ _ hP hD hS _ (lv_sub hl [1, 0] rfl)
  have l_36 : ∀ (o_gateOff : Nat → Int32) (o_priceUp : Nat → Int32) (o_priceDown : Nat → Int32), ∀ (kx0 : (Nat → Int32) → (Nat → Int32) → (Nat → Int32) → Prop), (∀ (o_wishOff : Nat → Int32) (o_toldUp : Nat → Int32) (o_toldDown : Nat → Int32), kx0 o_wishOff o_toldUp o_toldDown → ∀ (H : Heap) (locs : List Loc), va_P D vwCl (w_X7_forget cy a_o a_o_text a_o_letter a_o_least a_o_carries a_o_gateOff a_o_worth a_o_kind a_o_most a_o_wishOff a_o_use a_o_toldUp a_o_toldDown a_o_priceUp a_o_priceDown a_o_draftGate a_o_draftCarries a_o_draftWorth a_o_draftKind a_o_draftMost a_o_draftUse a_o_x a_o_bestX a_o_part a_o_row a_o_right a_o_m a_o_given a_o_wasOff o_trace o_typed o_gates o_wishes o_at o_start o_sort o_value o_fault o_drafted o_by o_bestBy o_bestWorth o_isBest o_parts o_gateOff o_wishOff o_toldUp o_toldDown o_priceUp o_priceDown) H → va_D A (w_X7_forget cy a_o a_o_text a_o_letter a_o_least a_o_carries a_o_gateOff a_o_worth a_o_kind a_o_most a_o_wishOff a_o_use a_o_toldUp a_o_toldDown a_o_priceUp a_o_priceDown a_o_draftGate a_o_draftCarries a_o_draftWorth a_o_draftKind a_o_draftMost a_o_draftUse a_o_x a_o_bestX a_o_part a_o_row a_o_right a_o_m a_o_given a_o_wasOff o_trace o_typed o_gates o_wishes o_at o_start o_sort o_value o_fault o_drafted o_by o_bestBy o_bestWorth o_isBest o_parts o_gateOff o_wishOff o_toldUp o_toldDown o_priceUp o_priceDown) → va_S A s.heap H locs → ∀ (ls : Array Slot), lv_has ls 2 [] → W p l e ({ frames := 0, cells := 0, slots := 0, locals := 0 }) s m args below meth c H locs 0 0 Q (F0 m 68 ls [])) → ∀ (n : Nat) (x1 : Int32) (o_wishOff : Nat → Int32) (o_toldUp : Nat → Int32) (o_toldDown : Nat → Int32), wl_X7_forget_36 o_gateOff o_priceUp o_priceDown kx0 post n x1 o_wishOff o_toldUp o_toldDown → ∀ (H : Heap) (locs : List Loc), va_P D vwCl (w_X7_forget cy a_o a_o_text a_o_letter a_o_least a_o_carries a_o_gateOff a_o_worth a_o_kind a_o_most a_o_wishOff a_o_use a_o_toldUp a_o_toldDown a_o_priceUp a_o_priceDown a_o_draftGate a_o_draftCarries a_o_draftWorth a_o_draftKind a_o_draftMost a_o_draftUse a_o_x a_o_bestX a_o_part a_o_row a_o_right a_o_m a_o_given a_o_wasOff o_trace o_typed o_gates o_wishes o_at o_start o_sort o_value o_fault o_drafted o_by o_bestBy o_bestWorth o_isBest o_parts o_gateOff o_wishOff o_toldUp o_toldDown o_priceUp o_priceDown) H → va_D A (w_X7_forget cy a_o a_o_text a_o_letter a_o_least a_o_carries a_o_gateOff a_o_worth a_o_kind a_o_most a_o_wishOff a_o_use a_o_toldUp a_o_toldDown a_o_priceUp a_o_priceDown a_o_draftGate a_o_draftCarries a_o_draftWorth a_o_draftKind a_o_draftMost a_o_draftUse a_o_x a_o_bestX a_o_part a_o_row a_o_right a_o_m a_o_given a_o_wasOff o_trace o_typed o_gates o_wishes o_at o_start o_sort o_value o_fault o_drafted o_by o_bestBy o_bestWorth o_isBest o_parts o_gateOff o_wishOff o_toldUp o_toldDown o_priceUp o_priceDown) → va_S A s.heap H locs → ∀ (ls : Array Slot), lv_has ls 2 [(0, .ref a_o), (1, .int x1)] → W p l e ({ frames := 0, cells := 0, slots := 0, locals := 0 }) s m args below meth c H locs 0 0 Q (F0 m 36 ls []) := by
    intro o_gateOff o_priceUp o_priceDown kx0 hkx0  n
    induction n with
    | zero => intro x1 o_wishOff o_toldUp o_toldDown h; exact h.elim
    | succ n hkb =>
      intro x1 o_wishOff o_toldUp o_toldDown h H locs hP hD hS ls hl
      replace h : ws_X7_forget_36 o_gateOff o_priceUp o_priceDown (wl_X7_forget_36 o_gateOff o_priceUp o_priceDown kx0 post n) kx0 post x1 o_wishOff o_toldUp o_toldDown := h
      generalize wl_X7_forget_36 o_gateOff o_priceUp o_priceDown kx0 post n = kb at h hkb
      unfold ws_X7_forget_36 at h
      refine lv_iload_n hx hb dX7_forget_36 rfl (lv_at hl 1 rfl) ?_
      refine lv_iconst (v := 4) hx hb dX7_forget_37 (by decide) ?_
      refine lv_icmp_ge (tgt := 68) hx hb dX7_forget_38 (by decide) (fun c6 => ?_) (fun c6 => ?_)
      · have h := h.1 c6
        exact hkx0 o_wishOff o_toldUp o_toldDown h _ _ hP hD hS _ (lv_sub hl [] rfl)
      · have h := h.2 c6
        refine lv_aload_n hx hb dX7_forget_41 rfl (lv_at hl 0 rfl) ?_
        refine va_get (D := D) (ci := 7) (v := .ref a_o_toldUp) (C := RX7) (T := TX7) (N := 43) hx hb hts in_X7 hown hK hP 0 rfl rfl 14 (by decide) fl_42 (fun _ h9 => h9) rfl dX7_forget_42 ?_
        refine lv_iload_n hx hb dX7_forget_45 rfl (lv_at hl 1 rfl) ?_
        refine lv_iconst (v := 0) hx hb dX7_forget_46 (by decide) ?_
        obtain ⟨i7, h⟩ := h
        refine va_iast hx hb hK hP hD hS 3 1 rfl rfl i7 dX7_forget_47 (fun H locs hP hD hS => ?_)
        have hP : va_P D vwCl (w_X7_forget cy a_o a_o_text a_o_letter a_o_least a_o_carries a_o_gateOff a_o_worth a_o_kind a_o_most a_o_wishOff a_o_use a_o_toldUp a_o_toldDown a_o_priceUp a_o_priceDown a_o_draftGate a_o_draftCarries a_o_draftWorth a_o_draftKind a_o_draftMost a_o_draftUse a_o_x a_o_bestX a_o_part a_o_row a_o_right a_o_m a_o_given a_o_wasOff o_trace o_typed o_gates o_wishes o_at o_start o_sort o_value o_fault o_drafted o_by o_bestBy o_bestWorth o_isBest o_parts o_gateOff o_wishOff (upd o_toldUp (x1).toNatClampNeg (0 : Int32)) o_toldDown o_priceUp o_priceDown) H := hP
        have hD : va_D A (w_X7_forget cy a_o a_o_text a_o_letter a_o_least a_o_carries a_o_gateOff a_o_worth a_o_kind a_o_most a_o_wishOff a_o_use a_o_toldUp a_o_toldDown a_o_priceUp a_o_priceDown a_o_draftGate a_o_draftCarries a_o_draftWorth a_o_draftKind a_o_draftMost a_o_draftUse a_o_x a_o_bestX a_o_part a_o_row a_o_right a_o_m a_o_given a_o_wasOff o_trace o_typed o_gates o_wishes o_at o_start o_sort o_value o_fault o_drafted o_by o_bestBy o_bestWorth o_isBest o_parts o_gateOff o_wishOff (upd o_toldUp (x1).toNatClampNeg (0 : Int32)) o_toldDown o_priceUp o_priceDown) := hD
        refine lv_aload_n hx hb dX7_forget_48 rfl (lv_at hl 0 rfl) ?_
        refine va_get (D := D) (ci := 7) (v := .ref a_o_toldDown) (C := RX7) (T := TX7) (N := 43) hx hb hts in_X7 hown hK hP 0 rfl rfl 15 (by decide) fl_45 (fun _ h9 => h9) rfl dX7_forget_49 ?_
        refine lv_iload_n hx hb dX7_forget_52 rfl (lv_at hl 1 rfl) ?_
        refine lv_iconst (v := 1) hx hb dX7_forget_53 (by decide) ?_
        refine va_iast hx hb hK hP hD hS 4 1 rfl rfl i7 dX7_forget_54 (fun H locs hP hD hS => ?_)
        have hP : va_P D vwCl (w_X7_forget cy a_o a_o_text a_o_letter a_o_least a_o_carries a_o_gateOff a_o_worth a_o_kind a_o_most a_o_wishOff a_o_use a_o_toldUp a_o_toldDown a_o_priceUp a_o_priceDown a_o_draftGate a_o_draftCarries a_o_draftWorth a_o_draftKind a_o_draftMost a_o_draftUse a_o_x a_o_bestX a_o_part a_o_row a_o_right a_o_m a_o_given a_o_wasOff o_trace o_typed o_gates o_wishes o_at o_start o_sort o_value o_fault o_drafted o_by o_bestBy o_bestWorth o_isBest o_parts o_gateOff o_wishOff (upd o_toldUp (x1).toNatClampNeg (0 : Int32)) (upd o_toldDown (x1).toNatClampNeg (1 : Int32)) o_priceUp o_priceDown) H := hP
        have hD : va_D A (w_X7_forget cy a_o a_o_text a_o_letter a_o_least a_o_carries a_o_gateOff a_o_worth a_o_kind a_o_most a_o_wishOff a_o_use a_o_toldUp a_o_toldDown a_o_priceUp a_o_priceDown a_o_draftGate a_o_draftCarries a_o_draftWorth a_o_draftKind a_o_draftMost a_o_draftUse a_o_x a_o_bestX a_o_part a_o_row a_o_right a_o_m a_o_given a_o_wasOff o_trace o_typed o_gates o_wishes o_at o_start o_sort o_value o_fault o_drafted o_by o_bestBy o_bestWorth o_isBest o_parts o_gateOff o_wishOff (upd o_toldUp (x1).toNatClampNeg (0 : Int32)) (upd o_toldDown (x1).toNatClampNeg (1 : Int32)) o_priceUp o_priceDown) := hD
        refine lv_aload_n hx hb dX7_forget_55 rfl (lv_at hl 0 rfl) ?_
        refine va_get (D := D) (ci := 7) (v := .ref a_o_wishOff) (C := RX7) (T := TX7) (N := 43) hx hb hts in_X7 hown hK hP 0 rfl rfl 12 (by decide) fl_36 (fun _ h9 => h9) rfl dX7_forget_56 ?_
        refine lv_iload_n hx hb dX7_forget_59 rfl (lv_at hl 1 rfl) ?_
        refine lv_iconst (v := 0) hx hb dX7_forget_60 (by decide) ?_
        refine va_zast hx hb hK hP hD hS 2 3 rfl rfl i7 dX7_forget_61 (fun H locs hP hD hS => ?_)
        have hP : va_P D vwCl (w_X7_forget cy a_o a_o_text a_o_letter a_o_least a_o_carries a_o_gateOff a_o_worth a_o_kind a_o_most a_o_wishOff a_o_use a_o_toldUp a_o_toldDown a_o_priceUp a_o_priceDown a_o_draftGate a_o_draftCarries a_o_draftWorth a_o_draftKind a_o_draftMost a_o_draftUse a_o_x a_o_bestX a_o_part a_o_row a_o_right a_o_m a_o_given a_o_wasOff o_trace o_typed o_gates o_wishes o_at o_start o_sort o_value o_fault o_drafted o_by o_bestBy o_bestWorth o_isBest o_parts o_gateOff (upd o_wishOff (x1).toNatClampNeg (vp_nar .boolean (0 : Int32))) (upd o_toldUp (x1).toNatClampNeg (0 : Int32)) (upd o_toldDown (x1).toNatClampNeg (1 : Int32)) o_priceUp o_priceDown) H := hP
        have hD : va_D A (w_X7_forget cy a_o a_o_text a_o_letter a_o_least a_o_carries a_o_gateOff a_o_worth a_o_kind a_o_most a_o_wishOff a_o_use a_o_toldUp a_o_toldDown a_o_priceUp a_o_priceDown a_o_draftGate a_o_draftCarries a_o_draftWorth a_o_draftKind a_o_draftMost a_o_draftUse a_o_x a_o_bestX a_o_part a_o_row a_o_right a_o_m a_o_given a_o_wasOff o_trace o_typed o_gates o_wishes o_at o_start o_sort o_value o_fault o_drafted o_by o_bestBy o_bestWorth o_isBest o_parts o_gateOff (upd o_wishOff (x1).toNatClampNeg (vp_nar .boolean (0 : Int32))) (upd o_toldUp (x1).toNatClampNeg (0 : Int32)) (upd o_toldDown (x1).toNatClampNeg (1 : Int32)) o_priceUp o_priceDown) := hD
        refine lv_iinc (v := (x1 + (1 : Int32))) (lv' := [(1, .int (x1 + (1 : Int32))), (0, .ref a_o)]) hx hb dX7_forget_62 hl (k := 1) rfl (congrArg (fun z => x1 + z) (by decide : Int32.ofInt (1) = (1 : Int32))) (by decide) rfl (fun ls hl => ?_)
        refine lv_goto (tgt := 36) hx hb dX7_forget_65 (by decide) ?_
        exact hkb (x1 + (1 : Int32)) (upd o_wishOff (x1).toNatClampNeg (vp_nar .boolean (0 : Int32))) (upd o_toldUp (x1).toNatClampNeg (0 : Int32)) (upd o_toldDown (x1).toNatClampNeg (1 : Int32)) h _ _ hP hD hS _ (lv_sub hl [1, 0] rfl)
  refine ent [.ref a_o] (Nat.le_of_ble_eq_true rfl) (fun ls hl => ?_)
  have hl : lv_has ls 2 [(0, .ref a_o)] := hl
  unfold wp_X7_forget at h
  refine lv_iconst (v := 0) hx hb dX7_forget_0 (by decide) ?_
  refine lv_istore_n (lv' := [(1, .int (0 : Int32)), (0, .ref a_o)]) hx hb dX7_forget_1 rfl hl (by decide) rfl (fun ls hl => ?_)
  obtain ⟨n12, h⟩ := h
  refine l_2 o_wishOff o_toldUp o_toldDown _ ?_ n12 (0 : Int32) o_gateOff o_priceUp o_priceDown h _ _ hP hD hS _ (lv_sub hl [1, 0] rfl)
  · intro o_gateOff_3 o_priceUp_4 o_priceDown_5 h H locs hP hD hS ls hl
    refine lv_iconst (v := 0) hx hb dX7_forget_34 (by decide) ?_
    refine lv_istore_n (lv' := [(1, .int (0 : Int32)), (0, .ref a_o)]) hx hb dX7_forget_35 rfl hl (by decide) rfl (fun ls hl => ?_)
    obtain ⟨n11, h⟩ := h
    refine l_36 o_gateOff_3 o_priceUp_4 o_priceDown_5 _ ?_ n11 (0 : Int32) o_wishOff o_toldUp o_toldDown h _ _ hP hD hS _ (lv_sub hl [1, 0] rfl)
    · intro o_wishOff_8 o_toldUp_9 o_toldDown_10 h H locs hP hD hS ls hl
      exact hret (o_gateOff_3, o_wishOff_8, o_toldUp_9, o_toldDown_10, o_priceUp_4, o_priceDown_5) _ _ _ _ h hP hD hS dX7_forget_68

def ws_X7_type_34 (x1 : Int64) (kb : Int32 → Int32 → (Nat → Int32) → Prop) (kx0 : Int32 → (Nat → Int32) → Prop) (post : Int32 → Int32 → (Nat → Int32) → Prop) (x4 : Int32) (o_typed : Int32) (o_text : Nat → Int32) : Prop :=
  ((x4 < 0 → kx0 o_typed o_text) ∧
   (¬ x4 < 0 → (∀ v5 : Int32, v5 = ((((x1 >>> ((((8 : Int32) * x4)).toInt64 &&& 63)) &&& (255 : Int64))).toInt32).toInt8.toInt32 → (vp_in o_typed 300 ∧ kb (x4 + (-1 : Int32)) (o_typed + (1 : Int32)) (upd o_text (o_typed).toNatClampNeg (vp_nar .byte v5))))))
def wl_X7_type_34 (x1 : Int64) (kx0 : Int32 → (Nat → Int32) → Prop) (post : Int32 → Int32 → (Nat → Int32) → Prop) : Nat → Int32 → Int32 → (Nat → Int32) → Prop
  | 0, _, _, _ => False
  | n + 1, x4, o_typed, o_text => ws_X7_type_34 x1 (wl_X7_type_34 x1 kx0 post n) kx0 post x4 o_typed o_text
def wp_X7_type  (o_typed : Int32) (o_text : Nat → Int32) (x1 : Int64) (x3 : Int32) (post : Int32 → Int32 → (Nat → Int32) → Prop) : Prop :=
  (wp_X7_in ((x3).toInt64) (1 : Int64) (8 : Int64) (fun (r1 : Int32) => ((r1 = 0 → post (-1 : Int32) o_typed o_text) ∧
   (¬ r1 = 0 → (((o_typed + x3) ≤ (300 : Int32) → ∃ n9, wl_X7_type_34 x1 (fun (o_typed_7 : Int32) (o_text_8 : Nat → Int32) => post o_typed_7 o_typed_7 o_text_8) post n9 (x3 - (1 : Int32)) o_typed o_text) ∧
   (¬ (o_typed + x3) ≤ (300 : Int32) → post (-3 : Int32) o_typed o_text))))))
abbrev w_X7_type (cy : Nat → ClassId) (a_o a_o_text a_o_letter a_o_least a_o_carries a_o_gateOff a_o_worth a_o_kind a_o_most a_o_wishOff a_o_use a_o_toldUp a_o_toldDown a_o_priceUp a_o_priceDown a_o_draftGate a_o_draftCarries a_o_draftWorth a_o_draftKind a_o_draftMost a_o_draftUse a_o_x a_o_bestX a_o_part a_o_row a_o_right a_o_m a_o_given a_o_wasOff : Nat) (o_trace : Int64) (o_typed : Int32) (o_gates : Int32) (o_wishes : Int32) (o_at : Int32) (o_start : Int32) (o_sort : Int32) (o_value : Int32) (o_fault : Int32) (o_drafted : Int32) (o_by : Int64) (o_bestBy : Int64) (o_bestWorth : Int64) (o_isBest : Int32) (o_parts : Int32) (o_text : Nat → Int32) : va_W := [(a_o, .inr (7, [.long o_trace, .ref a_o_text, .int o_typed, .int o_gates, .int o_wishes, .ref a_o_letter, .ref a_o_least, .ref a_o_carries, .ref a_o_gateOff, .ref a_o_worth, .ref a_o_kind, .ref a_o_most, .ref a_o_wishOff, .ref a_o_use, .ref a_o_toldUp, .ref a_o_toldDown, .ref a_o_priceUp, .ref a_o_priceDown, .int o_at, .int o_start, .int o_sort, .int o_value, .int o_fault, .ref a_o_draftGate, .ref a_o_draftCarries, .ref a_o_draftWorth, .ref a_o_draftKind, .ref a_o_draftMost, .ref a_o_draftUse, .int o_drafted, .ref a_o_x, .long o_by, .ref a_o_bestX, .long o_bestBy, .long o_bestWorth, .int o_isBest, .ref a_o_part, .int o_parts, .ref a_o_row, .ref a_o_right, .ref a_o_m, .ref a_o_given, .ref a_o_wasOff])), (a_o_text, .inl (cy 0, 300, .inl o_text))]
set_option maxRecDepth 20000 in
theorem ggX7_type_X7_in : GoodIn wsX7_type wsX7_in := goodIn_r _ [8] (by decide +kernel) (by decide +kernel)
set_option maxRecDepth 20000 in
theorem gX7_type_X7_in : GoodIn wsX7_type (va_wsS RX7 102 yX7_in wsX7_in) := goodIn_app (goodIn_of _ (by decide +kernel)) ggX7_type_X7_in
set_option maxHeartbeats 4000000 in
set_option maxRecDepth 100000 in
theorem c_X7_type (l : Launch) (D : va_G) (cy : Nat → ClassId) (a_o a_o_text a_o_letter a_o_least a_o_carries a_o_gateOff a_o_worth a_o_kind a_o_most a_o_wishOff a_o_use a_o_toldUp a_o_toldDown a_o_priceUp a_o_priceDown a_o_draftGate a_o_draftCarries a_o_draftWorth a_o_draftKind a_o_draftMost a_o_draftUse a_o_x a_o_bestX a_o_part a_o_row a_o_right a_o_m a_o_given a_o_wasOff : Nat) (sz : Nat)  {o_trace : Int64} {o_typed : Int32} {o_gates : Int32} {o_wishes : Int32} {o_at : Int32} {o_start : Int32} {o_sort : Int32} {o_value : Int32} {o_fault : Int32} {o_drafted : Int32} {o_by : Int64} {o_bestBy : Int64} {o_bestWorth : Int64} {o_isBest : Int32} {o_parts : Int32} {o_text : Nat → Int32} {x1 : Int64} {x3 : Int32} {post : Int32 → Int32 → (Nat → Int32) → Prop} (h : wp_X7_type o_typed o_text x1 x3 post) : Met l yX7_type wsX7_type ({ frames := 1, cells := 0, slots := 0, locals := 25 }) (va_Pc [.ref a_o, .long x1, .int x3] (wI D cy sz (w_X7_type cy a_o a_o_text a_o_letter a_o_least a_o_carries a_o_gateOff a_o_worth a_o_kind a_o_most a_o_wishOff a_o_use a_o_toldUp a_o_toldDown a_o_priceUp a_o_priceDown a_o_draftGate a_o_draftCarries a_o_draftWorth a_o_draftKind a_o_draftMost a_o_draftUse a_o_x a_o_bestX a_o_part a_o_row a_o_right a_o_m a_o_given a_o_wasOff o_trace o_typed o_gates o_wishes o_at o_start o_sort o_value o_fault o_drafted o_by o_bestBy o_bestWorth o_isBest o_parts o_text))) (va_Qi (fun (r : Int32) (u : Int32 × (Nat → Int32)) => post r u.1 u.2) (fun (u : Int32 × (Nat → Int32)) t => wO D cy (va_A (w_X7_type cy a_o a_o_text a_o_letter a_o_least a_o_carries a_o_gateOff a_o_worth a_o_kind a_o_most a_o_wishOff a_o_use a_o_toldUp a_o_toldDown a_o_priceUp a_o_priceDown a_o_draftGate a_o_draftCarries a_o_draftWorth a_o_draftKind a_o_draftMost a_o_draftUse a_o_x a_o_bestX a_o_part a_o_row a_o_right a_o_m a_o_given a_o_wasOff o_trace o_typed o_gates o_wishes o_at o_start o_sort o_value o_fault o_drafted o_by o_bestBy o_bestWorth o_isBest o_parts o_text) sz) (w_X7_type cy a_o a_o_text a_o_letter a_o_least a_o_carries a_o_gateOff a_o_worth a_o_kind a_o_most a_o_wishOff a_o_use a_o_toldUp a_o_toldDown a_o_priceUp a_o_priceDown a_o_draftGate a_o_draftCarries a_o_draftWorth a_o_draftKind a_o_draftMost a_o_draftUse a_o_x a_o_bestX a_o_part a_o_row a_o_right a_o_m a_o_given a_o_wasOff o_trace u.1 o_gates o_wishes o_at o_start o_sort o_value o_fault o_drafted o_by o_bestBy o_bestWorth o_isBest o_parts u.2) t) (va_A (w_X7_type cy a_o a_o_text a_o_letter a_o_least a_o_carries a_o_gateOff a_o_worth a_o_kind a_o_most a_o_wishOff a_o_use a_o_toldUp a_o_toldDown a_o_priceUp a_o_priceDown a_o_draftGate a_o_draftCarries a_o_draftWorth a_o_draftKind a_o_draftMost a_o_draftUse a_o_x a_o_bestX a_o_part a_o_row a_o_right a_o_m a_o_given a_o_wasOff o_trace o_typed o_gates o_wishes o_at o_start o_sort o_value o_fault o_drafted o_by o_bestBy o_bestWorth o_isBest o_parts o_text) sz)) 0 0 (va_A (w_X7_type cy a_o a_o_text a_o_letter a_o_least a_o_carries a_o_gateOff a_o_worth a_o_kind a_o_most a_o_wishOff a_o_use a_o_toldUp a_o_toldDown a_o_priceUp a_o_priceDown a_o_draftGate a_o_draftCarries a_o_draftWorth a_o_draftKind a_o_draftMost a_o_draftUse a_o_x a_o_bestX a_o_part a_o_row a_o_right a_o_m a_o_given a_o_wasOff o_trace o_typed o_gates o_wishes o_at o_start o_sort o_value o_fault o_drafted o_by o_bestBy o_bestWorth o_isBest o_parts o_text) sz) := by
  refine contrI (S := Int32 × (Nat → Int32)) (post := fun (r : Int32) (u : Int32 × (Nat → Int32)) => post r u.1 u.2) (wOut := fun (u : Int32 × (Nat → Int32)) => (w_X7_type cy a_o a_o_text a_o_letter a_o_least a_o_carries a_o_gateOff a_o_worth a_o_kind a_o_most a_o_wishOff a_o_use a_o_toldUp a_o_toldDown a_o_priceUp a_o_priceDown a_o_draftGate a_o_draftCarries a_o_draftWorth a_o_draftKind a_o_draftMost a_o_draftUse a_o_x a_o_bestX a_o_part a_o_row a_o_right a_o_m a_o_given a_o_wasOff o_trace u.1 o_gates o_wishes o_at o_start o_sort o_value o_fault o_drafted o_by o_bestBy o_bestWorth o_isBest o_parts u.2)) (cc := cX7_type) (maxL := 5) (own := RX7) (by decide +kernel) rfl rfl ?_
  intro p e s m args below meth c A Q hx hb hml hown hts hK hN hP hD hS hA hret
  have in_X7 : ∀ w ∈ u_ws RX7 TX7 43, w ∈ wsX7_type := by decide +kernel
  have fl_106 := hts (.fieldLink RX7 106 "DawnTableModel" "typed" "I") (by decide +kernel)
  have fl_7 := hts (.fieldLink RX7 7 "DawnTableModel" "text" "[B") (by decide +kernel)
  have l_34 : ∀ (x1 : Int64), ∀ (kx0 : Int32 → (Nat → Int32) → Prop), (∀ (o_typed : Int32) (o_text : Nat → Int32), kx0 o_typed o_text → ∀ (H : Heap) (locs : List Loc), va_P D vwCl (w_X7_type cy a_o a_o_text a_o_letter a_o_least a_o_carries a_o_gateOff a_o_worth a_o_kind a_o_most a_o_wishOff a_o_use a_o_toldUp a_o_toldDown a_o_priceUp a_o_priceDown a_o_draftGate a_o_draftCarries a_o_draftWorth a_o_draftKind a_o_draftMost a_o_draftUse a_o_x a_o_bestX a_o_part a_o_row a_o_right a_o_m a_o_given a_o_wasOff o_trace o_typed o_gates o_wishes o_at o_start o_sort o_value o_fault o_drafted o_by o_bestBy o_bestWorth o_isBest o_parts o_text) H → va_D A (w_X7_type cy a_o a_o_text a_o_letter a_o_least a_o_carries a_o_gateOff a_o_worth a_o_kind a_o_most a_o_wishOff a_o_use a_o_toldUp a_o_toldDown a_o_priceUp a_o_priceDown a_o_draftGate a_o_draftCarries a_o_draftWorth a_o_draftKind a_o_draftMost a_o_draftUse a_o_x a_o_bestX a_o_part a_o_row a_o_right a_o_m a_o_given a_o_wasOff o_trace o_typed o_gates o_wishes o_at o_start o_sort o_value o_fault o_drafted o_by o_bestBy o_bestWorth o_isBest o_parts o_text) → va_S A s.heap H locs → ∀ (ls : Array Slot), lv_has ls 5 [(0, .ref a_o)] → W p l e ({ frames := 1, cells := 0, slots := 0, locals := 25 }) s m args below meth c H locs 0 0 Q (F0 m 77 ls [])) → ∀ (n : Nat) (x4 : Int32) (o_typed : Int32) (o_text : Nat → Int32), wl_X7_type_34 x1 kx0 post n x4 o_typed o_text → ∀ (H : Heap) (locs : List Loc), va_P D vwCl (w_X7_type cy a_o a_o_text a_o_letter a_o_least a_o_carries a_o_gateOff a_o_worth a_o_kind a_o_most a_o_wishOff a_o_use a_o_toldUp a_o_toldDown a_o_priceUp a_o_priceDown a_o_draftGate a_o_draftCarries a_o_draftWorth a_o_draftKind a_o_draftMost a_o_draftUse a_o_x a_o_bestX a_o_part a_o_row a_o_right a_o_m a_o_given a_o_wasOff o_trace o_typed o_gates o_wishes o_at o_start o_sort o_value o_fault o_drafted o_by o_bestBy o_bestWorth o_isBest o_parts o_text) H → va_D A (w_X7_type cy a_o a_o_text a_o_letter a_o_least a_o_carries a_o_gateOff a_o_worth a_o_kind a_o_most a_o_wishOff a_o_use a_o_toldUp a_o_toldDown a_o_priceUp a_o_priceDown a_o_draftGate a_o_draftCarries a_o_draftWorth a_o_draftKind a_o_draftMost a_o_draftUse a_o_x a_o_bestX a_o_part a_o_row a_o_right a_o_m a_o_given a_o_wasOff o_trace o_typed o_gates o_wishes o_at o_start o_sort o_value o_fault o_drafted o_by o_bestBy o_bestWorth o_isBest o_parts o_text) → va_S A s.heap H locs → ∀ (ls : Array Slot), lv_has ls 5 [(0, .ref a_o), (1, .long x1), (4, .int x4)] → W p l e ({ frames := 1, cells := 0, slots := 0, locals := 25 }) s m args below meth c H locs 0 0 Q (F0 m 34 ls []) := by
    intro x1 kx0 hkx0  n
    induction n with
    | zero => intro x4 o_typed o_text h; exact h.elim
    | succ n hkb =>
      intro x4 o_typed o_text h H locs hP hD hS ls hl
      replace h : ws_X7_type_34 x1 (wl_X7_type_34 x1 kx0 post n) kx0 post x4 o_typed o_text := h
      generalize wl_X7_type_34 x1 kx0 post n = kb at h hkb
      unfold ws_X7_type_34 at h
      refine lv_iload hx hb dX7_type_34 (lv_at hl 2 rfl) ?_
      refine lv_if_lt (tgt := 77) hx hb dX7_type_36 (by decide) (fun c4 => ?_) (fun c4 => ?_)
      · have h := h.1 c4
        exact hkx0 o_typed o_text h _ _ hP hD hS _ (lv_sub hl [0] rfl)
      · have h := h.2 c4
        refine lv_aload_n hx hb dX7_type_39 rfl (lv_at hl 0 rfl) ?_
        refine va_get (D := D) (ci := 7) (v := .ref a_o_text) (C := RX7) (T := TX7) (N := 43) hx hb hts in_X7 hown hK hP 0 rfl rfl 1 (by decide) fl_7 (fun _ h9 => h9) rfl dX7_type_40 ?_
        refine lv_aload_n hx hb dX7_type_43 rfl (lv_at hl 0 rfl) ?_
        refine va_get (D := D) (ci := 7) (v := .int o_typed) (C := RX7) (T := TX7) (N := 43) hx hb hts in_X7 hown hK hP 0 rfl rfl 2 (by decide) fl_106 (fun _ h9 => h9) rfl dX7_type_44 ?_
        refine lv_lload_n hx hb dX7_type_47 rfl (lv_at hl 1 rfl) ?_
        refine lv_bipush (v := 8) hx hb dX7_type_48 (by decide) ?_
        refine lv_iload hx hb dX7_type_50 (lv_at hl 2 rfl) ?_
        refine lv_imul hx hb dX7_type_52 ?_
        refine lv_lshr hx hb dX7_type_53 rfl ?_
        refine lv_ldc2 hx hb hown (hts (.constantLong RX7 110 (255)) (by decide +kernel)) dX7_type_54 ?_
        refine lv_land hx hb dX7_type_57 ?_
        refine lv_l2i hx hb dX7_type_58 rfl ?_
        refine lv_i2b hx hb dX7_type_59 rfl ?_
        refine lv_topi (fun v5 ev5 => ?_)
        have h := h v5 ev5
        obtain ⟨i6, h⟩ := h
        refine va_bast hx hb hK hP hD hS 1 0 rfl rfl i6 dX7_type_60 (fun H locs hP hD hS => ?_)
        have hP : va_P D vwCl (w_X7_type cy a_o a_o_text a_o_letter a_o_least a_o_carries a_o_gateOff a_o_worth a_o_kind a_o_most a_o_wishOff a_o_use a_o_toldUp a_o_toldDown a_o_priceUp a_o_priceDown a_o_draftGate a_o_draftCarries a_o_draftWorth a_o_draftKind a_o_draftMost a_o_draftUse a_o_x a_o_bestX a_o_part a_o_row a_o_right a_o_m a_o_given a_o_wasOff o_trace o_typed o_gates o_wishes o_at o_start o_sort o_value o_fault o_drafted o_by o_bestBy o_bestWorth o_isBest o_parts (upd o_text (o_typed).toNatClampNeg (vp_nar .byte v5))) H := hP
        have hD : va_D A (w_X7_type cy a_o a_o_text a_o_letter a_o_least a_o_carries a_o_gateOff a_o_worth a_o_kind a_o_most a_o_wishOff a_o_use a_o_toldUp a_o_toldDown a_o_priceUp a_o_priceDown a_o_draftGate a_o_draftCarries a_o_draftWorth a_o_draftKind a_o_draftMost a_o_draftUse a_o_x a_o_bestX a_o_part a_o_row a_o_right a_o_m a_o_given a_o_wasOff o_trace o_typed o_gates o_wishes o_at o_start o_sort o_value o_fault o_drafted o_by o_bestBy o_bestWorth o_isBest o_parts (upd o_text (o_typed).toNatClampNeg (vp_nar .byte v5))) := hD
        refine lv_aload_n hx hb dX7_type_61 rfl (lv_at hl 0 rfl) ?_
        refine lv_dup hx hb dX7_type_62 rfl ?_
        refine va_get (D := D) (ci := 7) (v := .int o_typed) (C := RX7) (T := TX7) (N := 43) hx hb hts in_X7 hown hK hP 0 rfl rfl 2 (by decide) fl_106 (fun _ h9 => h9) rfl dX7_type_63 ?_
        refine lv_iconst (v := 1) hx hb dX7_type_66 (by decide) ?_
        refine lv_iadd hx hb dX7_type_67 ?_
        refine va_put (D := D) (ci := 7) (v := .int (o_typed + (1 : Int32))) (ty := .int) (C := RX7) (T := TX7) (N := 43) hx hb hts in_X7 tyX7 tyX7_ok nmX7 hown hK hP hD hS 0 rfl rfl 2 (by decide) fl_106 (fun _ h9 => h9) rfl (by decide +kernel) rfl rfl (Nat.le_of_ble_eq_true rfl) dX7_type_68 (fun H locs hP hD hS => ?_)
        have hP : va_P D vwCl (w_X7_type cy a_o a_o_text a_o_letter a_o_least a_o_carries a_o_gateOff a_o_worth a_o_kind a_o_most a_o_wishOff a_o_use a_o_toldUp a_o_toldDown a_o_priceUp a_o_priceDown a_o_draftGate a_o_draftCarries a_o_draftWorth a_o_draftKind a_o_draftMost a_o_draftUse a_o_x a_o_bestX a_o_part a_o_row a_o_right a_o_m a_o_given a_o_wasOff o_trace (o_typed + (1 : Int32)) o_gates o_wishes o_at o_start o_sort o_value o_fault o_drafted o_by o_bestBy o_bestWorth o_isBest o_parts (upd o_text (o_typed).toNatClampNeg (vp_nar .byte v5))) H := hP
        have hD : va_D A (w_X7_type cy a_o a_o_text a_o_letter a_o_least a_o_carries a_o_gateOff a_o_worth a_o_kind a_o_most a_o_wishOff a_o_use a_o_toldUp a_o_toldDown a_o_priceUp a_o_priceDown a_o_draftGate a_o_draftCarries a_o_draftWorth a_o_draftKind a_o_draftMost a_o_draftUse a_o_x a_o_bestX a_o_part a_o_row a_o_right a_o_m a_o_given a_o_wasOff o_trace (o_typed + (1 : Int32)) o_gates o_wishes o_at o_start o_sort o_value o_fault o_drafted o_by o_bestBy o_bestWorth o_isBest o_parts (upd o_text (o_typed).toNatClampNeg (vp_nar .byte v5))) := hD
        refine lv_iinc (v := (x4 + (-1 : Int32))) (lv' := [(4, .int (x4 + (-1 : Int32))), (0, .ref a_o), (1, .long x1)]) hx hb dX7_type_71 hl (k := 2) rfl (congrArg (fun z => x4 + z) (by decide : Int32.ofInt (-1) = (-1 : Int32))) (by decide) rfl (fun ls hl => ?_)
        refine lv_goto (tgt := 34) hx hb dX7_type_74 (by decide) ?_
        exact hkb (x4 + (-1 : Int32)) (o_typed + (1 : Int32)) (upd o_text (o_typed).toNatClampNeg (vp_nar .byte v5)) h _ _ hP hD hS _ (lv_sub hl [1, 2, 0] rfl)
  refine ent [.ref a_o, .long x1, .int x3] (Nat.le_of_ble_eq_true rfl) (fun ls hl => ?_)
  have hl : lv_has ls 5 [(0, .ref a_o), (1, .long x1), (3, .int x3)] := hl
  unfold wp_X7_type at h
  refine lv_iload_n hx hb dX7_type_0 rfl (lv_at hl 2 rfl) ?_
  refine lv_i2l hx hb dX7_type_1 rfl ?_
  refine lv_lconst (v := 1) hx hb dX7_type_2 (by decide) ?_
  refine lv_ldc2 hx hb hown (hts (.constantLong RX7 100 (8)) (by decide +kernel)) dX7_type_3 ?_
  have hC : ([] : List Nat).map (fun i => ((w_X7_type cy a_o a_o_text a_o_letter a_o_least a_o_carries a_o_gateOff a_o_worth a_o_kind a_o_most a_o_wishOff a_o_use a_o_toldUp a_o_toldDown a_o_priceUp a_o_priceDown a_o_draftGate a_o_draftCarries a_o_draftWorth a_o_draftKind a_o_draftMost a_o_draftUse a_o_x a_o_bestX a_o_part a_o_row a_o_right a_o_m a_o_given a_o_wasOff o_trace o_typed o_gates o_wishes o_at o_start o_sort o_value o_fault o_drafted o_by o_bestBy o_bestWorth o_isBest o_parts o_text) : va_W)[i]?) = ((w_X7_in cy ) : va_W).map some := rfl
  obtain ⟨hPc, hDc⟩ := cutC hP hD [] (by decide) hC
  have hFc := va_free hD hS hA [] hC
  refine va_calli (va_runS (As := [.long ((x3).toInt64), .long (1 : Int64), .long (8 : Int64)]) (rest := []) ⟨hx, hb, hml, hown, hts⟩ (c_X7_in l D cy _ h) (va_cwS 3 hts gX7_type_X7_in rfl rfl rfl (by decide +kernel) ⟨Nat.le_of_ble_eq_true rfl, Nat.le_of_ble_eq_true rfl⟩) (preS hPc hDc hK hN) rfl rfl hl.1 rfl (lv_room (Nat.le_of_ble_eq_true rfl)) dX7_type_6 ⟨Nat.zero_le _, Nat.zero_le _⟩) hS (fun q _ h => hFc q h) hFc (fun r1 u t H1 locs ht hvm h hB hz1 hk1 hS => ?_)
  try dsimp only at h hB
  obtain ⟨hP, hD⟩ := joinU (wd := (w_X7_type cy a_o a_o_text a_o_letter a_o_least a_o_carries a_o_gateOff a_o_worth a_o_kind a_o_most a_o_wishOff a_o_use a_o_toldUp a_o_toldDown a_o_priceUp a_o_priceDown a_o_draftGate a_o_draftCarries a_o_draftWorth a_o_draftKind a_o_draftMost a_o_draftUse a_o_x a_o_bestX a_o_part a_o_row a_o_right a_o_m a_o_given a_o_wasOff o_trace o_typed o_gates o_wishes o_at o_start o_sort o_value o_fault o_drafted o_by o_bestBy o_bestWorth o_isBest o_parts o_text)) (wr := [(a_o, .inr (7, [.long o_trace, .ref a_o_text, .int o_typed, .int o_gates, .int o_wishes, .ref a_o_letter, .ref a_o_least, .ref a_o_carries, .ref a_o_gateOff, .ref a_o_worth, .ref a_o_kind, .ref a_o_most, .ref a_o_wishOff, .ref a_o_use, .ref a_o_toldUp, .ref a_o_toldDown, .ref a_o_priceUp, .ref a_o_priceDown, .int o_at, .int o_start, .int o_sort, .int o_value, .int o_fault, .ref a_o_draftGate, .ref a_o_draftCarries, .ref a_o_draftWorth, .ref a_o_draftKind, .ref a_o_draftMost, .ref a_o_draftUse, .int o_drafted, .ref a_o_x, .long o_by, .ref a_o_bestX, .long o_bestBy, .long o_bestWorth, .int o_isBest, .ref a_o_part, .int o_parts, .ref a_o_row, .ref a_o_right, .ref a_o_m, .ref a_o_given, .ref a_o_wasOff])), (a_o_text, .inl (cy 0, 300, .inl o_text))]) hP hD [] [0, 1] [] hC hk1 ht hB rfl rfl rfl (N := 2) rfl (by decide) rfl rfl
  generalize H1 = H at hP hS ⊢
  refine lv_if_ne (tgt := 14) hx hb dX7_type_9 (by decide) (fun c2 => ?_) (fun c2 => ?_)
  · have h := h.2 c2
    refine lv_aload_n hx hb dX7_type_14 rfl (lv_at hl 0 rfl) ?_
    refine va_get (D := D) (ci := 7) (v := .int o_typed) (C := RX7) (T := TX7) (N := 43) hx hb hts in_X7 hown hK hP 0 rfl rfl 2 (by decide) fl_106 (fun _ h9 => h9) rfl dX7_type_15 ?_
    refine lv_iload_n hx hb dX7_type_18 rfl (lv_at hl 2 rfl) ?_
    refine lv_iadd hx hb dX7_type_19 ?_
    refine lv_sipush (v := 300) hx hb dX7_type_20 (by decide) ?_
    refine lv_icmp_le (tgt := 29) hx hb dX7_type_23 (by decide) (fun c3 => ?_) (fun c3 => ?_)
    · have h := h.1 c3
      refine lv_iload_n hx hb dX7_type_29 rfl (lv_at hl 2 rfl) ?_
      refine lv_iconst (v := 1) hx hb dX7_type_30 (by decide) ?_
      refine lv_isub hx hb dX7_type_31 ?_
      refine lv_istore (lv' := [(4, .int (x3 - (1 : Int32))), (0, .ref a_o), (1, .long x1), (3, .int x3)]) hx hb dX7_type_32 hl (by decide) rfl (fun ls hl => ?_)
      obtain ⟨n9, h⟩ := h
      refine l_34 x1 _ ?_ n9 (x3 - (1 : Int32)) o_typed o_text h _ _ hP hD hS _ (lv_sub hl [1, 2, 0] rfl)
      · intro o_typed_7 o_text_8 h H locs hP hD hS ls hl
        refine lv_aload_n hx hb dX7_type_77 rfl (lv_at hl 0 rfl) ?_
        refine va_get (D := D) (ci := 7) (v := .int o_typed_7) (C := RX7) (T := TX7) (N := 43) hx hb hts in_X7 hown hK hP 0 rfl rfl 2 (by decide) fl_106 (fun _ h9 => h9) rfl dX7_type_78 ?_
        exact hret o_typed_7 (o_typed_7, o_text_8) _ _ _ _ h hP hD hS dX7_type_81
    · have h := h.2 c3
      refine lv_bipush (v := -3) hx hb dX7_type_26 (by decide) ?_
      exact hret (-3 : Int32) (o_typed, o_text) _ _ _ _ h hP hD hS dX7_type_28
  · have h := h.1 c2
    refine lv_iconst (v := -1) hx hb dX7_type_12 (by decide) ?_
    exact hret (-1 : Int32) (o_typed, o_text) _ _ _ _ h hP hD hS dX7_type_13

def wp_X7_clear  (o_typed : Int32)  (post : Int32 → Int32 → Prop) : Prop :=
  post o_typed (0 : Int32)
abbrev w_X7_clear (cy : Nat → ClassId) (a_o a_o_text a_o_letter a_o_least a_o_carries a_o_gateOff a_o_worth a_o_kind a_o_most a_o_wishOff a_o_use a_o_toldUp a_o_toldDown a_o_priceUp a_o_priceDown a_o_draftGate a_o_draftCarries a_o_draftWorth a_o_draftKind a_o_draftMost a_o_draftUse a_o_x a_o_bestX a_o_part a_o_row a_o_right a_o_m a_o_given a_o_wasOff : Nat) (o_trace : Int64) (o_typed : Int32) (o_gates : Int32) (o_wishes : Int32) (o_at : Int32) (o_start : Int32) (o_sort : Int32) (o_value : Int32) (o_fault : Int32) (o_drafted : Int32) (o_by : Int64) (o_bestBy : Int64) (o_bestWorth : Int64) (o_isBest : Int32) (o_parts : Int32) : va_W := [(a_o, .inr (7, [.long o_trace, .ref a_o_text, .int o_typed, .int o_gates, .int o_wishes, .ref a_o_letter, .ref a_o_least, .ref a_o_carries, .ref a_o_gateOff, .ref a_o_worth, .ref a_o_kind, .ref a_o_most, .ref a_o_wishOff, .ref a_o_use, .ref a_o_toldUp, .ref a_o_toldDown, .ref a_o_priceUp, .ref a_o_priceDown, .int o_at, .int o_start, .int o_sort, .int o_value, .int o_fault, .ref a_o_draftGate, .ref a_o_draftCarries, .ref a_o_draftWorth, .ref a_o_draftKind, .ref a_o_draftMost, .ref a_o_draftUse, .int o_drafted, .ref a_o_x, .long o_by, .ref a_o_bestX, .long o_bestBy, .long o_bestWorth, .int o_isBest, .ref a_o_part, .int o_parts, .ref a_o_row, .ref a_o_right, .ref a_o_m, .ref a_o_given, .ref a_o_wasOff]))]
set_option maxHeartbeats 4000000 in
set_option maxRecDepth 100000 in
theorem c_X7_clear (l : Launch) (D : va_G) (cy : Nat → ClassId) (a_o a_o_text a_o_letter a_o_least a_o_carries a_o_gateOff a_o_worth a_o_kind a_o_most a_o_wishOff a_o_use a_o_toldUp a_o_toldDown a_o_priceUp a_o_priceDown a_o_draftGate a_o_draftCarries a_o_draftWorth a_o_draftKind a_o_draftMost a_o_draftUse a_o_x a_o_bestX a_o_part a_o_row a_o_right a_o_m a_o_given a_o_wasOff : Nat) (sz : Nat)  {o_trace : Int64} {o_typed : Int32} {o_gates : Int32} {o_wishes : Int32} {o_at : Int32} {o_start : Int32} {o_sort : Int32} {o_value : Int32} {o_fault : Int32} {o_drafted : Int32} {o_by : Int64} {o_bestBy : Int64} {o_bestWorth : Int64} {o_isBest : Int32} {o_parts : Int32}  {post : Int32 → Int32 → Prop} (h : wp_X7_clear o_typed post) : Met l yX7_clear wsX7_clear ({ frames := 0, cells := 0, slots := 0, locals := 0 }) (va_Pc [.ref a_o] (wI D cy sz (w_X7_clear cy a_o a_o_text a_o_letter a_o_least a_o_carries a_o_gateOff a_o_worth a_o_kind a_o_most a_o_wishOff a_o_use a_o_toldUp a_o_toldDown a_o_priceUp a_o_priceDown a_o_draftGate a_o_draftCarries a_o_draftWorth a_o_draftKind a_o_draftMost a_o_draftUse a_o_x a_o_bestX a_o_part a_o_row a_o_right a_o_m a_o_given a_o_wasOff o_trace o_typed o_gates o_wishes o_at o_start o_sort o_value o_fault o_drafted o_by o_bestBy o_bestWorth o_isBest o_parts))) (va_Qi (fun (r : Int32) (u : Int32) => post r u) (fun (u : Int32) t => wO D cy (va_A (w_X7_clear cy a_o a_o_text a_o_letter a_o_least a_o_carries a_o_gateOff a_o_worth a_o_kind a_o_most a_o_wishOff a_o_use a_o_toldUp a_o_toldDown a_o_priceUp a_o_priceDown a_o_draftGate a_o_draftCarries a_o_draftWorth a_o_draftKind a_o_draftMost a_o_draftUse a_o_x a_o_bestX a_o_part a_o_row a_o_right a_o_m a_o_given a_o_wasOff o_trace o_typed o_gates o_wishes o_at o_start o_sort o_value o_fault o_drafted o_by o_bestBy o_bestWorth o_isBest o_parts) sz) (w_X7_clear cy a_o a_o_text a_o_letter a_o_least a_o_carries a_o_gateOff a_o_worth a_o_kind a_o_most a_o_wishOff a_o_use a_o_toldUp a_o_toldDown a_o_priceUp a_o_priceDown a_o_draftGate a_o_draftCarries a_o_draftWorth a_o_draftKind a_o_draftMost a_o_draftUse a_o_x a_o_bestX a_o_part a_o_row a_o_right a_o_m a_o_given a_o_wasOff o_trace u o_gates o_wishes o_at o_start o_sort o_value o_fault o_drafted o_by o_bestBy o_bestWorth o_isBest o_parts) t) (va_A (w_X7_clear cy a_o a_o_text a_o_letter a_o_least a_o_carries a_o_gateOff a_o_worth a_o_kind a_o_most a_o_wishOff a_o_use a_o_toldUp a_o_toldDown a_o_priceUp a_o_priceDown a_o_draftGate a_o_draftCarries a_o_draftWorth a_o_draftKind a_o_draftMost a_o_draftUse a_o_x a_o_bestX a_o_part a_o_row a_o_right a_o_m a_o_given a_o_wasOff o_trace o_typed o_gates o_wishes o_at o_start o_sort o_value o_fault o_drafted o_by o_bestBy o_bestWorth o_isBest o_parts) sz)) 0 0 (va_A (w_X7_clear cy a_o a_o_text a_o_letter a_o_least a_o_carries a_o_gateOff a_o_worth a_o_kind a_o_most a_o_wishOff a_o_use a_o_toldUp a_o_toldDown a_o_priceUp a_o_priceDown a_o_draftGate a_o_draftCarries a_o_draftWorth a_o_draftKind a_o_draftMost a_o_draftUse a_o_x a_o_bestX a_o_part a_o_row a_o_right a_o_m a_o_given a_o_wasOff o_trace o_typed o_gates o_wishes o_at o_start o_sort o_value o_fault o_drafted o_by o_bestBy o_bestWorth o_isBest o_parts) sz) := by
  refine contrI (S := Int32) (post := fun (r : Int32) (u : Int32) => post r u) (wOut := fun (u : Int32) => (w_X7_clear cy a_o a_o_text a_o_letter a_o_least a_o_carries a_o_gateOff a_o_worth a_o_kind a_o_most a_o_wishOff a_o_use a_o_toldUp a_o_toldDown a_o_priceUp a_o_priceDown a_o_draftGate a_o_draftCarries a_o_draftWorth a_o_draftKind a_o_draftMost a_o_draftUse a_o_x a_o_bestX a_o_part a_o_row a_o_right a_o_m a_o_given a_o_wasOff o_trace u o_gates o_wishes o_at o_start o_sort o_value o_fault o_drafted o_by o_bestBy o_bestWorth o_isBest o_parts)) (cc := cX7_clear) (maxL := 2) (own := RX7) (by decide +kernel) rfl rfl ?_
  intro p e s m args below meth c A Q hx hb hml hown hts hK hN hP hD hS hA hret
  have in_X7 : ∀ w ∈ u_ws RX7 TX7 43, w ∈ wsX7_clear := by decide +kernel
  have fl_106 := hts (.fieldLink RX7 106 "DawnTableModel" "typed" "I") (by decide +kernel)
  refine ent [.ref a_o] (Nat.le_of_ble_eq_true rfl) (fun ls hl => ?_)
  have hl : lv_has ls 2 [(0, .ref a_o)] := hl
  unfold wp_X7_clear at h
  refine lv_aload_n hx hb dX7_clear_0 rfl (lv_at hl 0 rfl) ?_
  refine va_get (D := D) (ci := 7) (v := .int o_typed) (C := RX7) (T := TX7) (N := 43) hx hb hts in_X7 hown hK hP 0 rfl rfl 2 (by decide) fl_106 (fun _ h9 => h9) rfl dX7_clear_1 ?_
  refine lv_istore_n (lv' := [(1, .int o_typed), (0, .ref a_o)]) hx hb dX7_clear_4 rfl hl (by decide) rfl (fun ls hl => ?_)
  refine lv_aload_n hx hb dX7_clear_5 rfl (lv_at hl 1 rfl) ?_
  refine lv_iconst (v := 0) hx hb dX7_clear_6 (by decide) ?_
  refine va_put (D := D) (ci := 7) (v := .int (0 : Int32)) (ty := .int) (C := RX7) (T := TX7) (N := 43) hx hb hts in_X7 tyX7 tyX7_ok nmX7 hown hK hP hD hS 0 rfl rfl 2 (by decide) fl_106 (fun _ h9 => h9) rfl (by decide +kernel) rfl rfl (Nat.le_of_ble_eq_true rfl) dX7_clear_7 (fun H locs hP hD hS => ?_)
  have hP : va_P D vwCl (w_X7_clear cy a_o a_o_text a_o_letter a_o_least a_o_carries a_o_gateOff a_o_worth a_o_kind a_o_most a_o_wishOff a_o_use a_o_toldUp a_o_toldDown a_o_priceUp a_o_priceDown a_o_draftGate a_o_draftCarries a_o_draftWorth a_o_draftKind a_o_draftMost a_o_draftUse a_o_x a_o_bestX a_o_part a_o_row a_o_right a_o_m a_o_given a_o_wasOff o_trace (0 : Int32) o_gates o_wishes o_at o_start o_sort o_value o_fault o_drafted o_by o_bestBy o_bestWorth o_isBest o_parts) H := hP
  have hD : va_D A (w_X7_clear cy a_o a_o_text a_o_letter a_o_least a_o_carries a_o_gateOff a_o_worth a_o_kind a_o_most a_o_wishOff a_o_use a_o_toldUp a_o_toldDown a_o_priceUp a_o_priceDown a_o_draftGate a_o_draftCarries a_o_draftWorth a_o_draftKind a_o_draftMost a_o_draftUse a_o_x a_o_bestX a_o_part a_o_row a_o_right a_o_m a_o_given a_o_wasOff o_trace (0 : Int32) o_gates o_wishes o_at o_start o_sort o_value o_fault o_drafted o_by o_bestBy o_bestWorth o_isBest o_parts) := hD
  refine lv_iload_n hx hb dX7_clear_10 rfl (lv_at hl 0 rfl) ?_
  exact hret o_typed ((0 : Int32)) _ _ _ _ h hP hD hS dX7_clear_11

def wp_X7_here  (o_typed : Int32) (o_at : Int32) (o_text : Nat → Int32)  (post : Int32 → Prop) : Prop :=
  ((o_typed ≤ o_at → post (-1 : Int32)) ∧
   (¬ o_typed ≤ o_at → (vp_in o_at 300 ∧ post ((o_text (o_at).toNatClampNeg) &&& (255 : Int32)))))
abbrev w_X7_here (cy : Nat → ClassId) (a_o a_o_text a_o_letter a_o_least a_o_carries a_o_gateOff a_o_worth a_o_kind a_o_most a_o_wishOff a_o_use a_o_toldUp a_o_toldDown a_o_priceUp a_o_priceDown a_o_draftGate a_o_draftCarries a_o_draftWorth a_o_draftKind a_o_draftMost a_o_draftUse a_o_x a_o_bestX a_o_part a_o_row a_o_right a_o_m a_o_given a_o_wasOff : Nat) (o_trace : Int64) (o_typed : Int32) (o_gates : Int32) (o_wishes : Int32) (o_at : Int32) (o_start : Int32) (o_sort : Int32) (o_value : Int32) (o_fault : Int32) (o_drafted : Int32) (o_by : Int64) (o_bestBy : Int64) (o_bestWorth : Int64) (o_isBest : Int32) (o_parts : Int32) (o_text : Nat → Int32) : va_W := [(a_o, .inr (7, [.long o_trace, .ref a_o_text, .int o_typed, .int o_gates, .int o_wishes, .ref a_o_letter, .ref a_o_least, .ref a_o_carries, .ref a_o_gateOff, .ref a_o_worth, .ref a_o_kind, .ref a_o_most, .ref a_o_wishOff, .ref a_o_use, .ref a_o_toldUp, .ref a_o_toldDown, .ref a_o_priceUp, .ref a_o_priceDown, .int o_at, .int o_start, .int o_sort, .int o_value, .int o_fault, .ref a_o_draftGate, .ref a_o_draftCarries, .ref a_o_draftWorth, .ref a_o_draftKind, .ref a_o_draftMost, .ref a_o_draftUse, .int o_drafted, .ref a_o_x, .long o_by, .ref a_o_bestX, .long o_bestBy, .long o_bestWorth, .int o_isBest, .ref a_o_part, .int o_parts, .ref a_o_row, .ref a_o_right, .ref a_o_m, .ref a_o_given, .ref a_o_wasOff])), (a_o_text, .inl (cy 0, 300, .inl o_text))]
set_option maxHeartbeats 4000000 in
set_option maxRecDepth 100000 in
theorem c_X7_here (l : Launch) (D : va_G) (cy : Nat → ClassId) (a_o a_o_text a_o_letter a_o_least a_o_carries a_o_gateOff a_o_worth a_o_kind a_o_most a_o_wishOff a_o_use a_o_toldUp a_o_toldDown a_o_priceUp a_o_priceDown a_o_draftGate a_o_draftCarries a_o_draftWorth a_o_draftKind a_o_draftMost a_o_draftUse a_o_x a_o_bestX a_o_part a_o_row a_o_right a_o_m a_o_given a_o_wasOff : Nat) (sz : Nat)  {o_trace : Int64} {o_typed : Int32} {o_gates : Int32} {o_wishes : Int32} {o_at : Int32} {o_start : Int32} {o_sort : Int32} {o_value : Int32} {o_fault : Int32} {o_drafted : Int32} {o_by : Int64} {o_bestBy : Int64} {o_bestWorth : Int64} {o_isBest : Int32} {o_parts : Int32} {o_text : Nat → Int32}  {post : Int32 → Prop} (h : wp_X7_here o_typed o_at o_text post) : Met l yX7_here wsX7_here ({ frames := 0, cells := 0, slots := 0, locals := 0 }) (va_Pc [.ref a_o] (wI D cy sz (w_X7_here cy a_o a_o_text a_o_letter a_o_least a_o_carries a_o_gateOff a_o_worth a_o_kind a_o_most a_o_wishOff a_o_use a_o_toldUp a_o_toldDown a_o_priceUp a_o_priceDown a_o_draftGate a_o_draftCarries a_o_draftWorth a_o_draftKind a_o_draftMost a_o_draftUse a_o_x a_o_bestX a_o_part a_o_row a_o_right a_o_m a_o_given a_o_wasOff o_trace o_typed o_gates o_wishes o_at o_start o_sort o_value o_fault o_drafted o_by o_bestBy o_bestWorth o_isBest o_parts o_text))) (va_Qi (fun (r : Int32) (u : Unit) => post r ) (fun (u : Unit) t => wO D cy (va_A (w_X7_here cy a_o a_o_text a_o_letter a_o_least a_o_carries a_o_gateOff a_o_worth a_o_kind a_o_most a_o_wishOff a_o_use a_o_toldUp a_o_toldDown a_o_priceUp a_o_priceDown a_o_draftGate a_o_draftCarries a_o_draftWorth a_o_draftKind a_o_draftMost a_o_draftUse a_o_x a_o_bestX a_o_part a_o_row a_o_right a_o_m a_o_given a_o_wasOff o_trace o_typed o_gates o_wishes o_at o_start o_sort o_value o_fault o_drafted o_by o_bestBy o_bestWorth o_isBest o_parts o_text) sz) (w_X7_here cy a_o a_o_text a_o_letter a_o_least a_o_carries a_o_gateOff a_o_worth a_o_kind a_o_most a_o_wishOff a_o_use a_o_toldUp a_o_toldDown a_o_priceUp a_o_priceDown a_o_draftGate a_o_draftCarries a_o_draftWorth a_o_draftKind a_o_draftMost a_o_draftUse a_o_x a_o_bestX a_o_part a_o_row a_o_right a_o_m a_o_given a_o_wasOff o_trace o_typed o_gates o_wishes o_at o_start o_sort o_value o_fault o_drafted o_by o_bestBy o_bestWorth o_isBest o_parts o_text) t) (va_A (w_X7_here cy a_o a_o_text a_o_letter a_o_least a_o_carries a_o_gateOff a_o_worth a_o_kind a_o_most a_o_wishOff a_o_use a_o_toldUp a_o_toldDown a_o_priceUp a_o_priceDown a_o_draftGate a_o_draftCarries a_o_draftWorth a_o_draftKind a_o_draftMost a_o_draftUse a_o_x a_o_bestX a_o_part a_o_row a_o_right a_o_m a_o_given a_o_wasOff o_trace o_typed o_gates o_wishes o_at o_start o_sort o_value o_fault o_drafted o_by o_bestBy o_bestWorth o_isBest o_parts o_text) sz)) 0 0 (va_A (w_X7_here cy a_o a_o_text a_o_letter a_o_least a_o_carries a_o_gateOff a_o_worth a_o_kind a_o_most a_o_wishOff a_o_use a_o_toldUp a_o_toldDown a_o_priceUp a_o_priceDown a_o_draftGate a_o_draftCarries a_o_draftWorth a_o_draftKind a_o_draftMost a_o_draftUse a_o_x a_o_bestX a_o_part a_o_row a_o_right a_o_m a_o_given a_o_wasOff o_trace o_typed o_gates o_wishes o_at o_start o_sort o_value o_fault o_drafted o_by o_bestBy o_bestWorth o_isBest o_parts o_text) sz) := by
  refine contrI (S := Unit) (post := fun (r : Int32) (u : Unit) => post r ) (wOut := fun (u : Unit) => (w_X7_here cy a_o a_o_text a_o_letter a_o_least a_o_carries a_o_gateOff a_o_worth a_o_kind a_o_most a_o_wishOff a_o_use a_o_toldUp a_o_toldDown a_o_priceUp a_o_priceDown a_o_draftGate a_o_draftCarries a_o_draftWorth a_o_draftKind a_o_draftMost a_o_draftUse a_o_x a_o_bestX a_o_part a_o_row a_o_right a_o_m a_o_given a_o_wasOff o_trace o_typed o_gates o_wishes o_at o_start o_sort o_value o_fault o_drafted o_by o_bestBy o_bestWorth o_isBest o_parts o_text)) (cc := cX7_here) (maxL := 1) (own := RX7) (by decide +kernel) rfl rfl ?_
  intro p e s m args below meth c A Q hx hb hml hown hts hK hN hP hD hS hA hret
  have in_X7 : ∀ w ∈ u_ws RX7 TX7 43, w ∈ wsX7_here := by decide +kernel
  have fl_112 := hts (.fieldLink RX7 112 "DawnTableModel" "at" "I") (by decide +kernel)
  have fl_106 := hts (.fieldLink RX7 106 "DawnTableModel" "typed" "I") (by decide +kernel)
  have fl_7 := hts (.fieldLink RX7 7 "DawnTableModel" "text" "[B") (by decide +kernel)
  refine ent [.ref a_o] (Nat.le_of_ble_eq_true rfl) (fun ls hl => ?_)
  have hl : lv_has ls 1 [(0, .ref a_o)] := hl
  unfold wp_X7_here at h
  refine lv_aload_n hx hb dX7_here_0 rfl (lv_at hl 0 rfl) ?_
  refine va_get (D := D) (ci := 7) (v := .int o_at) (C := RX7) (T := TX7) (N := 43) hx hb hts in_X7 hown hK hP 0 rfl rfl 18 (by decide) fl_112 (fun _ h9 => h9) rfl dX7_here_1 ?_
  refine lv_aload_n hx hb dX7_here_4 rfl (lv_at hl 0 rfl) ?_
  refine va_get (D := D) (ci := 7) (v := .int o_typed) (C := RX7) (T := TX7) (N := 43) hx hb hts in_X7 hown hK hP 0 rfl rfl 2 (by decide) fl_106 (fun _ h9 => h9) rfl dX7_here_5 ?_
  refine lv_icmp_ge (tgt := 27) hx hb dX7_here_8 (by decide) (fun c1 => ?_) (fun c1 => ?_)
  · have h := h.1 c1
    refine lv_iconst (v := -1) hx hb dX7_here_27 (by decide) ?_
    exact hret (-1 : Int32) () _ _ _ _ h hP hD hS dX7_here_28
  · have h := h.2 c1
    refine lv_aload_n hx hb dX7_here_11 rfl (lv_at hl 0 rfl) ?_
    refine va_get (D := D) (ci := 7) (v := .ref a_o_text) (C := RX7) (T := TX7) (N := 43) hx hb hts in_X7 hown hK hP 0 rfl rfl 1 (by decide) fl_7 (fun _ h9 => h9) rfl dX7_here_12 ?_
    refine lv_aload_n hx hb dX7_here_15 rfl (lv_at hl 0 rfl) ?_
    refine va_get (D := D) (ci := 7) (v := .int o_at) (C := RX7) (T := TX7) (N := 43) hx hb hts in_X7 hown hK hP 0 rfl rfl 18 (by decide) fl_112 (fun _ h9 => h9) rfl dX7_here_16 ?_
    obtain ⟨i2, h⟩ := h
    refine va_bald hx hb hK hP 1 0 rfl rfl i2 dX7_here_19 ?_
    refine lv_sipush (v := 255) hx hb dX7_here_20 (by decide) ?_
    refine lv_iand hx hb dX7_here_23 ?_
    refine lv_goto (tgt := 28) hx hb dX7_here_24 (by decide) ?_
    exact hret ((o_text (o_at).toNatClampNeg) &&& (255 : Int32)) () _ _ _ _ h hP hD hS dX7_here_28

def wp_X7_spelled   (x0 : Int64) (x2 : Int32) (post : Int64 → Prop) : Prop :=
  ((x2 = 0 → post x0) ∧
   (¬ x2 = 0 → post ((((x0 * (27 : Int64)) + (x2).toInt64) - (97 : Int64)) + (1 : Int64))))
abbrev w_X7_spelled (cy : Nat → ClassId)  : va_W := []
set_option maxHeartbeats 4000000 in
set_option maxRecDepth 100000 in
theorem c_X7_spelled (l : Launch) (D : va_G) (cy : Nat → ClassId) (sz : Nat)   {x0 : Int64} {x2 : Int32} {post : Int64 → Prop} (h : wp_X7_spelled x0 x2 post) : Met l yX7_spelled wsX7_spelled ({ frames := 0, cells := 0, slots := 0, locals := 0 }) (va_Pc [.long x0, .int x2] (wI D cy sz (w_X7_spelled cy ))) (va_Ql (fun (r : Int64) (u : Unit) => post r ) (fun (u : Unit) t => wO D cy (va_A (w_X7_spelled cy ) sz) (w_X7_spelled cy ) t) (va_A (w_X7_spelled cy ) sz)) 0 0 (va_A (w_X7_spelled cy ) sz) := by
  refine contrL (S := Unit) (post := fun (r : Int64) (u : Unit) => post r ) (wOut := fun (u : Unit) => (w_X7_spelled cy )) (cc := cX7_spelled) (maxL := 3) (own := RX7) (by decide +kernel) rfl rfl ?_
  intro p e s m args below meth c A Q hx hb hml hown hts hK hN hP hD hS hA hret
  refine ent [.long x0, .int x2] (Nat.le_of_ble_eq_true rfl) (fun ls hl => ?_)
  have hl : lv_has ls 3 [(0, .long x0), (2, .int x2)] := hl
  unfold wp_X7_spelled at h
  refine lv_iload_n hx hb dX7_spelled_0 rfl (lv_at hl 1 rfl) ?_
  refine lv_if_ne (tgt := 8) hx hb dX7_spelled_1 (by decide) (fun c1 => ?_) (fun c1 => ?_)
  · have h := h.2 c1
    refine lv_lload_n hx hb dX7_spelled_8 rfl (lv_at hl 0 rfl) ?_
    refine lv_ldc2 hx hb hown (hts (.constantLong RX7 115 (27)) (by decide +kernel)) dX7_spelled_9 ?_
    refine lv_lmul hx hb dX7_spelled_12 ?_
    refine lv_iload_n hx hb dX7_spelled_13 rfl (lv_at hl 1 rfl) ?_
    refine lv_i2l hx hb dX7_spelled_14 rfl ?_
    refine lv_ladd hx hb dX7_spelled_15 ?_
    refine lv_ldc2 hx hb hown (hts (.constantLong RX7 117 (97)) (by decide +kernel)) dX7_spelled_16 ?_
    refine lv_lsub hx hb dX7_spelled_19 ?_
    refine lv_lconst (v := 1) hx hb dX7_spelled_20 (by decide) ?_
    refine lv_ladd hx hb dX7_spelled_21 ?_
    exact hret ((((x0 * (27 : Int64)) + (x2).toInt64) - (97 : Int64)) + (1 : Int64)) () _ _ _ _ h hP hD hS dX7_spelled_22
  · have h := h.1 c1
    refine lv_lload_n hx hb dX7_spelled_4 rfl (lv_at hl 0 rfl) ?_
    refine lv_goto (tgt := 22) hx hb dX7_spelled_5 (by decide) ?_
    exact hret x0 () _ _ _ _ h hP hD hS dX7_spelled_22

def wp_X7_code   (x0 : Int32) (x1 : Int32) (x2 : Int32) (x3 : Int32) (x4 : Int32) (post : Int64 → Prop) : Prop :=
  (wp_X7_spelled (0 : Int64) x0 (fun (r1 : Int64) => (wp_X7_spelled r1 x1 (fun (r2 : Int64) => (wp_X7_spelled r2 x2 (fun (r3 : Int64) => (wp_X7_spelled r3 x3 (fun (r4 : Int64) => (wp_X7_spelled r4 x4 (fun (r5 : Int64) => post r5))))))))))
abbrev w_X7_code (cy : Nat → ClassId)  : va_W := []
set_option maxRecDepth 20000 in
theorem ggX7_code_X7_spelled : GoodIn wsX7_code wsX7_spelled := goodIn_r _ [4, 5, 6] (by decide +kernel) (by decide +kernel)
set_option maxRecDepth 20000 in
theorem gX7_code_X7_spelled : GoodIn wsX7_code (va_wsS RX7 119 yX7_spelled wsX7_spelled) := goodIn_app (goodIn_of _ (by decide +kernel)) ggX7_code_X7_spelled
set_option maxHeartbeats 4000000 in
set_option maxRecDepth 100000 in
theorem c_X7_code (l : Launch) (D : va_G) (cy : Nat → ClassId) (sz : Nat)   {x0 : Int32} {x1 : Int32} {x2 : Int32} {x3 : Int32} {x4 : Int32} {post : Int64 → Prop} (h : wp_X7_code x0 x1 x2 x3 x4 post) : Met l yX7_code wsX7_code ({ frames := 1, cells := 0, slots := 0, locals := 22 }) (va_Pc [.int x0, .int x1, .int x2, .int x3, .int x4] (wI D cy sz (w_X7_code cy ))) (va_Ql (fun (r : Int64) (u : Unit) => post r ) (fun (u : Unit) t => wO D cy (va_A (w_X7_code cy ) sz) (w_X7_code cy ) t) (va_A (w_X7_code cy ) sz)) 0 0 (va_A (w_X7_code cy ) sz) := by
  refine contrL (S := Unit) (post := fun (r : Int64) (u : Unit) => post r ) (wOut := fun (u : Unit) => (w_X7_code cy )) (cc := cX7_code) (maxL := 5) (own := RX7) (by decide +kernel) rfl rfl ?_
  intro p e s m args below meth c A Q hx hb hml hown hts hK hN hP hD hS hA hret
  refine ent [.int x0, .int x1, .int x2, .int x3, .int x4] (Nat.le_of_ble_eq_true rfl) (fun ls hl => ?_)
  have hl : lv_has ls 5 [(0, .int x0), (1, .int x1), (2, .int x2), (3, .int x3), (4, .int x4)] := hl
  unfold wp_X7_code at h
  refine lv_lconst (v := 0) hx hb dX7_code_0 (by decide) ?_
  refine lv_iload_n hx hb dX7_code_1 rfl (lv_at hl 0 rfl) ?_
  have hC : ([] : List Nat).map (fun i => ((w_X7_code cy ) : va_W)[i]?) = ((w_X7_spelled cy ) : va_W).map some := rfl
  obtain ⟨hPc, hDc⟩ := cutC hP hD [] (by decide) hC
  have hFc := va_free hD hS hA [] hC
  refine va_calll (va_runS (As := [.long (0 : Int64), .int x0]) (rest := []) ⟨hx, hb, hml, hown, hts⟩ (c_X7_spelled l D cy _ h) (va_cwS 2 hts gX7_code_X7_spelled rfl rfl rfl (by decide +kernel) ⟨Nat.le_of_ble_eq_true rfl, Nat.le_of_ble_eq_true rfl⟩) (preS hPc hDc hK hN) rfl rfl hl.1 rfl (lv_room (Nat.le_of_ble_eq_true rfl)) dX7_code_2 ⟨Nat.zero_le _, Nat.zero_le _⟩) hS (fun q _ h => hFc q h) hFc (fun r1 u t H1 locs ht hvm h hB hz1 hk1 hS => ?_)
  try dsimp only at h hB
  obtain ⟨hP, hD⟩ := joinU (wd := (w_X7_code cy )) (wr := []) hP hD [] [] [] hC hk1 ht hB rfl rfl rfl (N := 0) rfl (by decide) rfl rfl
  generalize H1 = H at hP hS ⊢
  refine lv_iload_n hx hb dX7_code_5 rfl (lv_at hl 1 rfl) ?_
  have hC : ([] : List Nat).map (fun i => ((w_X7_code cy ) : va_W)[i]?) = ((w_X7_spelled cy ) : va_W).map some := rfl
  obtain ⟨hPc, hDc⟩ := cutC hP hD [] (by decide) hC
  have hFc := va_free hD hS hA [] hC
  refine va_calll (va_runS (As := [.long r1, .int x1]) (rest := []) ⟨hx, hb, hml, hown, hts⟩ (c_X7_spelled l D cy _ h) (va_cwS 2 hts gX7_code_X7_spelled rfl rfl rfl (by decide +kernel) ⟨Nat.le_of_ble_eq_true rfl, Nat.le_of_ble_eq_true rfl⟩) (preS hPc hDc hK hN) rfl rfl hl.1 rfl (lv_room (Nat.le_of_ble_eq_true rfl)) dX7_code_6 ⟨Nat.zero_le _, Nat.zero_le _⟩) hS (fun q _ h => hFc q h) hFc (fun r2 u t H1 locs ht hvm h hB hz1 hk1 hS => ?_)
  try dsimp only at h hB
  obtain ⟨hP, hD⟩ := joinU (wd := (w_X7_code cy )) (wr := []) hP hD [] [] [] hC hk1 ht hB rfl rfl rfl (N := 0) rfl (by decide) rfl rfl
  generalize H1 = H at hP hS ⊢
  refine lv_iload_n hx hb dX7_code_9 rfl (lv_at hl 2 rfl) ?_
  have hC : ([] : List Nat).map (fun i => ((w_X7_code cy ) : va_W)[i]?) = ((w_X7_spelled cy ) : va_W).map some := rfl
  obtain ⟨hPc, hDc⟩ := cutC hP hD [] (by decide) hC
  have hFc := va_free hD hS hA [] hC
  refine va_calll (va_runS (As := [.long r2, .int x2]) (rest := []) ⟨hx, hb, hml, hown, hts⟩ (c_X7_spelled l D cy _ h) (va_cwS 2 hts gX7_code_X7_spelled rfl rfl rfl (by decide +kernel) ⟨Nat.le_of_ble_eq_true rfl, Nat.le_of_ble_eq_true rfl⟩) (preS hPc hDc hK hN) rfl rfl hl.1 rfl (lv_room (Nat.le_of_ble_eq_true rfl)) dX7_code_10 ⟨Nat.zero_le _, Nat.zero_le _⟩) hS (fun q _ h => hFc q h) hFc (fun r3 u t H1 locs ht hvm h hB hz1 hk1 hS => ?_)
  try dsimp only at h hB
  obtain ⟨hP, hD⟩ := joinU (wd := (w_X7_code cy )) (wr := []) hP hD [] [] [] hC hk1 ht hB rfl rfl rfl (N := 0) rfl (by decide) rfl rfl
  generalize H1 = H at hP hS ⊢
  refine lv_iload_n hx hb dX7_code_13 rfl (lv_at hl 3 rfl) ?_
  have hC : ([] : List Nat).map (fun i => ((w_X7_code cy ) : va_W)[i]?) = ((w_X7_spelled cy ) : va_W).map some := rfl
  obtain ⟨hPc, hDc⟩ := cutC hP hD [] (by decide) hC
  have hFc := va_free hD hS hA [] hC
  refine va_calll (va_runS (As := [.long r3, .int x3]) (rest := []) ⟨hx, hb, hml, hown, hts⟩ (c_X7_spelled l D cy _ h) (va_cwS 2 hts gX7_code_X7_spelled rfl rfl rfl (by decide +kernel) ⟨Nat.le_of_ble_eq_true rfl, Nat.le_of_ble_eq_true rfl⟩) (preS hPc hDc hK hN) rfl rfl hl.1 rfl (lv_room (Nat.le_of_ble_eq_true rfl)) dX7_code_14 ⟨Nat.zero_le _, Nat.zero_le _⟩) hS (fun q _ h => hFc q h) hFc (fun r4 u t H1 locs ht hvm h hB hz1 hk1 hS => ?_)
  try dsimp only at h hB
  obtain ⟨hP, hD⟩ := joinU (wd := (w_X7_code cy )) (wr := []) hP hD [] [] [] hC hk1 ht hB rfl rfl rfl (N := 0) rfl (by decide) rfl rfl
  generalize H1 = H at hP hS ⊢
  refine lv_iload hx hb dX7_code_17 (lv_at hl 4 rfl) ?_
  have hC : ([] : List Nat).map (fun i => ((w_X7_code cy ) : va_W)[i]?) = ((w_X7_spelled cy ) : va_W).map some := rfl
  obtain ⟨hPc, hDc⟩ := cutC hP hD [] (by decide) hC
  have hFc := va_free hD hS hA [] hC
  refine va_calll (va_runS (As := [.long r4, .int x4]) (rest := []) ⟨hx, hb, hml, hown, hts⟩ (c_X7_spelled l D cy _ h) (va_cwS 2 hts gX7_code_X7_spelled rfl rfl rfl (by decide +kernel) ⟨Nat.le_of_ble_eq_true rfl, Nat.le_of_ble_eq_true rfl⟩) (preS hPc hDc hK hN) rfl rfl hl.1 rfl (lv_room (Nat.le_of_ble_eq_true rfl)) dX7_code_19 ⟨Nat.zero_le _, Nat.zero_le _⟩) hS (fun q _ h => hFc q h) hFc (fun r5 u t H1 locs ht hvm h hB hz1 hk1 hS => ?_)
  try dsimp only at h hB
  obtain ⟨hP, hD⟩ := joinU (wd := (w_X7_code cy )) (wr := []) hP hD [] [] [] hC hk1 ht hB rfl rfl rfl (N := 0) rfl (by decide) rfl rfl
  generalize H1 = H at hP hS ⊢
  exact hret r5 () _ _ _ _ h hP hD hS dX7_code_22

def wp_X7_isGate  (o_gates : Int32) (x1 : Int32) (post : Int32 → Prop) : Prop :=
  (wp_X7_in ((x1).toInt64) (0 : Int64) (((o_gates - (1 : Int32))).toInt64) (fun (r1 : Int32) => (narrow .boolean (.int r1) = .int r1 ∧ post r1)))
abbrev w_X7_isGate (cy : Nat → ClassId) (a_o a_o_text a_o_letter a_o_least a_o_carries a_o_gateOff a_o_worth a_o_kind a_o_most a_o_wishOff a_o_use a_o_toldUp a_o_toldDown a_o_priceUp a_o_priceDown a_o_draftGate a_o_draftCarries a_o_draftWorth a_o_draftKind a_o_draftMost a_o_draftUse a_o_x a_o_bestX a_o_part a_o_row a_o_right a_o_m a_o_given a_o_wasOff : Nat) (o_trace : Int64) (o_typed : Int32) (o_gates : Int32) (o_wishes : Int32) (o_at : Int32) (o_start : Int32) (o_sort : Int32) (o_value : Int32) (o_fault : Int32) (o_drafted : Int32) (o_by : Int64) (o_bestBy : Int64) (o_bestWorth : Int64) (o_isBest : Int32) (o_parts : Int32) : va_W := [(a_o, .inr (7, [.long o_trace, .ref a_o_text, .int o_typed, .int o_gates, .int o_wishes, .ref a_o_letter, .ref a_o_least, .ref a_o_carries, .ref a_o_gateOff, .ref a_o_worth, .ref a_o_kind, .ref a_o_most, .ref a_o_wishOff, .ref a_o_use, .ref a_o_toldUp, .ref a_o_toldDown, .ref a_o_priceUp, .ref a_o_priceDown, .int o_at, .int o_start, .int o_sort, .int o_value, .int o_fault, .ref a_o_draftGate, .ref a_o_draftCarries, .ref a_o_draftWorth, .ref a_o_draftKind, .ref a_o_draftMost, .ref a_o_draftUse, .int o_drafted, .ref a_o_x, .long o_by, .ref a_o_bestX, .long o_bestBy, .long o_bestWorth, .int o_isBest, .ref a_o_part, .int o_parts, .ref a_o_row, .ref a_o_right, .ref a_o_m, .ref a_o_given, .ref a_o_wasOff]))]
set_option maxRecDepth 20000 in
theorem ggX7_isGate_X7_in : GoodIn wsX7_isGate wsX7_in := goodIn_r _ [5] (by decide +kernel) (by decide +kernel)
set_option maxRecDepth 20000 in
theorem gX7_isGate_X7_in : GoodIn wsX7_isGate (va_wsS RX7 102 yX7_in wsX7_in) := goodIn_app (goodIn_of _ (by decide +kernel)) ggX7_isGate_X7_in
set_option maxHeartbeats 4000000 in
set_option maxRecDepth 100000 in
theorem c_X7_isGate (l : Launch) (D : va_G) (cy : Nat → ClassId) (a_o a_o_text a_o_letter a_o_least a_o_carries a_o_gateOff a_o_worth a_o_kind a_o_most a_o_wishOff a_o_use a_o_toldUp a_o_toldDown a_o_priceUp a_o_priceDown a_o_draftGate a_o_draftCarries a_o_draftWorth a_o_draftKind a_o_draftMost a_o_draftUse a_o_x a_o_bestX a_o_part a_o_row a_o_right a_o_m a_o_given a_o_wasOff : Nat) (sz : Nat)  {o_trace : Int64} {o_typed : Int32} {o_gates : Int32} {o_wishes : Int32} {o_at : Int32} {o_start : Int32} {o_sort : Int32} {o_value : Int32} {o_fault : Int32} {o_drafted : Int32} {o_by : Int64} {o_bestBy : Int64} {o_bestWorth : Int64} {o_isBest : Int32} {o_parts : Int32} {x1 : Int32} {post : Int32 → Prop} (h : wp_X7_isGate o_gates x1 post) : Met l yX7_isGate wsX7_isGate ({ frames := 1, cells := 0, slots := 0, locals := 25 }) (va_Pc [.ref a_o, .int x1] (wI D cy sz (w_X7_isGate cy a_o a_o_text a_o_letter a_o_least a_o_carries a_o_gateOff a_o_worth a_o_kind a_o_most a_o_wishOff a_o_use a_o_toldUp a_o_toldDown a_o_priceUp a_o_priceDown a_o_draftGate a_o_draftCarries a_o_draftWorth a_o_draftKind a_o_draftMost a_o_draftUse a_o_x a_o_bestX a_o_part a_o_row a_o_right a_o_m a_o_given a_o_wasOff o_trace o_typed o_gates o_wishes o_at o_start o_sort o_value o_fault o_drafted o_by o_bestBy o_bestWorth o_isBest o_parts))) (va_Qi (fun (r : Int32) (u : Unit) => post r ) (fun (u : Unit) t => wO D cy (va_A (w_X7_isGate cy a_o a_o_text a_o_letter a_o_least a_o_carries a_o_gateOff a_o_worth a_o_kind a_o_most a_o_wishOff a_o_use a_o_toldUp a_o_toldDown a_o_priceUp a_o_priceDown a_o_draftGate a_o_draftCarries a_o_draftWorth a_o_draftKind a_o_draftMost a_o_draftUse a_o_x a_o_bestX a_o_part a_o_row a_o_right a_o_m a_o_given a_o_wasOff o_trace o_typed o_gates o_wishes o_at o_start o_sort o_value o_fault o_drafted o_by o_bestBy o_bestWorth o_isBest o_parts) sz) (w_X7_isGate cy a_o a_o_text a_o_letter a_o_least a_o_carries a_o_gateOff a_o_worth a_o_kind a_o_most a_o_wishOff a_o_use a_o_toldUp a_o_toldDown a_o_priceUp a_o_priceDown a_o_draftGate a_o_draftCarries a_o_draftWorth a_o_draftKind a_o_draftMost a_o_draftUse a_o_x a_o_bestX a_o_part a_o_row a_o_right a_o_m a_o_given a_o_wasOff o_trace o_typed o_gates o_wishes o_at o_start o_sort o_value o_fault o_drafted o_by o_bestBy o_bestWorth o_isBest o_parts) t) (va_A (w_X7_isGate cy a_o a_o_text a_o_letter a_o_least a_o_carries a_o_gateOff a_o_worth a_o_kind a_o_most a_o_wishOff a_o_use a_o_toldUp a_o_toldDown a_o_priceUp a_o_priceDown a_o_draftGate a_o_draftCarries a_o_draftWorth a_o_draftKind a_o_draftMost a_o_draftUse a_o_x a_o_bestX a_o_part a_o_row a_o_right a_o_m a_o_given a_o_wasOff o_trace o_typed o_gates o_wishes o_at o_start o_sort o_value o_fault o_drafted o_by o_bestBy o_bestWorth o_isBest o_parts) sz)) 0 0 (va_A (w_X7_isGate cy a_o a_o_text a_o_letter a_o_least a_o_carries a_o_gateOff a_o_worth a_o_kind a_o_most a_o_wishOff a_o_use a_o_toldUp a_o_toldDown a_o_priceUp a_o_priceDown a_o_draftGate a_o_draftCarries a_o_draftWorth a_o_draftKind a_o_draftMost a_o_draftUse a_o_x a_o_bestX a_o_part a_o_row a_o_right a_o_m a_o_given a_o_wasOff o_trace o_typed o_gates o_wishes o_at o_start o_sort o_value o_fault o_drafted o_by o_bestBy o_bestWorth o_isBest o_parts) sz) := by
  refine contrZ (S := Unit) (post := fun (r : Int32) (u : Unit) => post r ) (wOut := fun (u : Unit) => (w_X7_isGate cy a_o a_o_text a_o_letter a_o_least a_o_carries a_o_gateOff a_o_worth a_o_kind a_o_most a_o_wishOff a_o_use a_o_toldUp a_o_toldDown a_o_priceUp a_o_priceDown a_o_draftGate a_o_draftCarries a_o_draftWorth a_o_draftKind a_o_draftMost a_o_draftUse a_o_x a_o_bestX a_o_part a_o_row a_o_right a_o_m a_o_given a_o_wasOff o_trace o_typed o_gates o_wishes o_at o_start o_sort o_value o_fault o_drafted o_by o_bestBy o_bestWorth o_isBest o_parts)) (cc := cX7_isGate) (maxL := 2) (own := RX7) (by decide +kernel) rfl rfl ?_
  intro p e s m args below meth c A Q hx hb hml hown hts hK hN hP hD hS hA hret
  have in_X7 : ∀ w ∈ u_ws RX7 TX7 43, w ∈ wsX7_isGate := by decide +kernel
  have fl_182 := hts (.fieldLink RX7 182 "DawnTableModel" "gates" "I") (by decide +kernel)
  refine ent [.ref a_o, .int x1] (Nat.le_of_ble_eq_true rfl) (fun ls hl => ?_)
  have hl : lv_has ls 2 [(0, .ref a_o), (1, .int x1)] := hl
  unfold wp_X7_isGate at h
  refine lv_iload_n hx hb dX7_isGate_0 rfl (lv_at hl 1 rfl) ?_
  refine lv_i2l hx hb dX7_isGate_1 rfl ?_
  refine lv_lconst (v := 0) hx hb dX7_isGate_2 (by decide) ?_
  refine lv_aload_n hx hb dX7_isGate_3 rfl (lv_at hl 0 rfl) ?_
  refine va_get (D := D) (ci := 7) (v := .int o_gates) (C := RX7) (T := TX7) (N := 43) hx hb hts in_X7 hown hK hP 0 rfl rfl 3 (by decide) fl_182 (fun _ h9 => h9) rfl dX7_isGate_4 ?_
  refine lv_iconst (v := 1) hx hb dX7_isGate_7 (by decide) ?_
  refine lv_isub hx hb dX7_isGate_8 ?_
  refine lv_i2l hx hb dX7_isGate_9 rfl ?_
  have hC : ([] : List Nat).map (fun i => ((w_X7_isGate cy a_o a_o_text a_o_letter a_o_least a_o_carries a_o_gateOff a_o_worth a_o_kind a_o_most a_o_wishOff a_o_use a_o_toldUp a_o_toldDown a_o_priceUp a_o_priceDown a_o_draftGate a_o_draftCarries a_o_draftWorth a_o_draftKind a_o_draftMost a_o_draftUse a_o_x a_o_bestX a_o_part a_o_row a_o_right a_o_m a_o_given a_o_wasOff o_trace o_typed o_gates o_wishes o_at o_start o_sort o_value o_fault o_drafted o_by o_bestBy o_bestWorth o_isBest o_parts) : va_W)[i]?) = ((w_X7_in cy ) : va_W).map some := rfl
  obtain ⟨hPc, hDc⟩ := cutC hP hD [] (by decide) hC
  have hFc := va_free hD hS hA [] hC
  refine va_calli (va_runS (As := [.long ((x1).toInt64), .long (0 : Int64), .long (((o_gates - (1 : Int32))).toInt64)]) (rest := []) ⟨hx, hb, hml, hown, hts⟩ (c_X7_in l D cy _ h) (va_cwS 3 hts gX7_isGate_X7_in rfl rfl rfl (by decide +kernel) ⟨Nat.le_of_ble_eq_true rfl, Nat.le_of_ble_eq_true rfl⟩) (preS hPc hDc hK hN) rfl rfl hl.1 rfl (lv_room (Nat.le_of_ble_eq_true rfl)) dX7_isGate_10 ⟨Nat.zero_le _, Nat.zero_le _⟩) hS (fun q _ h => hFc q h) hFc (fun r1 u t H1 locs ht hvm h hB hz1 hk1 hS => ?_)
  try dsimp only at h hB
  obtain ⟨hP, hD⟩ := joinU (wd := (w_X7_isGate cy a_o a_o_text a_o_letter a_o_least a_o_carries a_o_gateOff a_o_worth a_o_kind a_o_most a_o_wishOff a_o_use a_o_toldUp a_o_toldDown a_o_priceUp a_o_priceDown a_o_draftGate a_o_draftCarries a_o_draftWorth a_o_draftKind a_o_draftMost a_o_draftUse a_o_x a_o_bestX a_o_part a_o_row a_o_right a_o_m a_o_given a_o_wasOff o_trace o_typed o_gates o_wishes o_at o_start o_sort o_value o_fault o_drafted o_by o_bestBy o_bestWorth o_isBest o_parts)) (wr := [(a_o, .inr (7, [.long o_trace, .ref a_o_text, .int o_typed, .int o_gates, .int o_wishes, .ref a_o_letter, .ref a_o_least, .ref a_o_carries, .ref a_o_gateOff, .ref a_o_worth, .ref a_o_kind, .ref a_o_most, .ref a_o_wishOff, .ref a_o_use, .ref a_o_toldUp, .ref a_o_toldDown, .ref a_o_priceUp, .ref a_o_priceDown, .int o_at, .int o_start, .int o_sort, .int o_value, .int o_fault, .ref a_o_draftGate, .ref a_o_draftCarries, .ref a_o_draftWorth, .ref a_o_draftKind, .ref a_o_draftMost, .ref a_o_draftUse, .int o_drafted, .ref a_o_x, .long o_by, .ref a_o_bestX, .long o_bestBy, .long o_bestWorth, .int o_isBest, .ref a_o_part, .int o_parts, .ref a_o_row, .ref a_o_right, .ref a_o_m, .ref a_o_given, .ref a_o_wasOff]))]) hP hD [] [0] [] hC hk1 ht hB rfl rfl rfl (N := 1) rfl (by decide) rfl rfl
  generalize H1 = H at hP hS ⊢
  obtain ⟨b2, h⟩ := h
  exact hret r1 () _ _ _ _ b2 h hP hD hS dX7_isGate_13

def wp_X7_isWish  (o_wishes : Int32) (x1 : Int32) (post : Int32 → Prop) : Prop :=
  (wp_X7_in ((x1).toInt64) (0 : Int64) (((o_wishes - (1 : Int32))).toInt64) (fun (r1 : Int32) => (narrow .boolean (.int r1) = .int r1 ∧ post r1)))
abbrev w_X7_isWish (cy : Nat → ClassId) (a_o a_o_text a_o_letter a_o_least a_o_carries a_o_gateOff a_o_worth a_o_kind a_o_most a_o_wishOff a_o_use a_o_toldUp a_o_toldDown a_o_priceUp a_o_priceDown a_o_draftGate a_o_draftCarries a_o_draftWorth a_o_draftKind a_o_draftMost a_o_draftUse a_o_x a_o_bestX a_o_part a_o_row a_o_right a_o_m a_o_given a_o_wasOff : Nat) (o_trace : Int64) (o_typed : Int32) (o_gates : Int32) (o_wishes : Int32) (o_at : Int32) (o_start : Int32) (o_sort : Int32) (o_value : Int32) (o_fault : Int32) (o_drafted : Int32) (o_by : Int64) (o_bestBy : Int64) (o_bestWorth : Int64) (o_isBest : Int32) (o_parts : Int32) : va_W := [(a_o, .inr (7, [.long o_trace, .ref a_o_text, .int o_typed, .int o_gates, .int o_wishes, .ref a_o_letter, .ref a_o_least, .ref a_o_carries, .ref a_o_gateOff, .ref a_o_worth, .ref a_o_kind, .ref a_o_most, .ref a_o_wishOff, .ref a_o_use, .ref a_o_toldUp, .ref a_o_toldDown, .ref a_o_priceUp, .ref a_o_priceDown, .int o_at, .int o_start, .int o_sort, .int o_value, .int o_fault, .ref a_o_draftGate, .ref a_o_draftCarries, .ref a_o_draftWorth, .ref a_o_draftKind, .ref a_o_draftMost, .ref a_o_draftUse, .int o_drafted, .ref a_o_x, .long o_by, .ref a_o_bestX, .long o_bestBy, .long o_bestWorth, .int o_isBest, .ref a_o_part, .int o_parts, .ref a_o_row, .ref a_o_right, .ref a_o_m, .ref a_o_given, .ref a_o_wasOff]))]
set_option maxRecDepth 20000 in
theorem ggX7_isWish_X7_in : GoodIn wsX7_isWish wsX7_in := goodIn_r _ [5] (by decide +kernel) (by decide +kernel)
set_option maxRecDepth 20000 in
theorem gX7_isWish_X7_in : GoodIn wsX7_isWish (va_wsS RX7 102 yX7_in wsX7_in) := goodIn_app (goodIn_of _ (by decide +kernel)) ggX7_isWish_X7_in
set_option maxHeartbeats 4000000 in
set_option maxRecDepth 100000 in
theorem c_X7_isWish (l : Launch) (D : va_G) (cy : Nat → ClassId) (a_o a_o_text a_o_letter a_o_least a_o_carries a_o_gateOff a_o_worth a_o_kind a_o_most a_o_wishOff a_o_use a_o_toldUp a_o_toldDown a_o_priceUp a_o_priceDown a_o_draftGate a_o_draftCarries a_o_draftWorth a_o_draftKind a_o_draftMost a_o_draftUse a_o_x a_o_bestX a_o_part a_o_row a_o_right a_o_m a_o_given a_o_wasOff : Nat) (sz : Nat)  {o_trace : Int64} {o_typed : Int32} {o_gates : Int32} {o_wishes : Int32} {o_at : Int32} {o_start : Int32} {o_sort : Int32} {o_value : Int32} {o_fault : Int32} {o_drafted : Int32} {o_by : Int64} {o_bestBy : Int64} {o_bestWorth : Int64} {o_isBest : Int32} {o_parts : Int32} {x1 : Int32} {post : Int32 → Prop} (h : wp_X7_isWish o_wishes x1 post) : Met l yX7_isWish wsX7_isWish ({ frames := 1, cells := 0, slots := 0, locals := 25 }) (va_Pc [.ref a_o, .int x1] (wI D cy sz (w_X7_isWish cy a_o a_o_text a_o_letter a_o_least a_o_carries a_o_gateOff a_o_worth a_o_kind a_o_most a_o_wishOff a_o_use a_o_toldUp a_o_toldDown a_o_priceUp a_o_priceDown a_o_draftGate a_o_draftCarries a_o_draftWorth a_o_draftKind a_o_draftMost a_o_draftUse a_o_x a_o_bestX a_o_part a_o_row a_o_right a_o_m a_o_given a_o_wasOff o_trace o_typed o_gates o_wishes o_at o_start o_sort o_value o_fault o_drafted o_by o_bestBy o_bestWorth o_isBest o_parts))) (va_Qi (fun (r : Int32) (u : Unit) => post r ) (fun (u : Unit) t => wO D cy (va_A (w_X7_isWish cy a_o a_o_text a_o_letter a_o_least a_o_carries a_o_gateOff a_o_worth a_o_kind a_o_most a_o_wishOff a_o_use a_o_toldUp a_o_toldDown a_o_priceUp a_o_priceDown a_o_draftGate a_o_draftCarries a_o_draftWorth a_o_draftKind a_o_draftMost a_o_draftUse a_o_x a_o_bestX a_o_part a_o_row a_o_right a_o_m a_o_given a_o_wasOff o_trace o_typed o_gates o_wishes o_at o_start o_sort o_value o_fault o_drafted o_by o_bestBy o_bestWorth o_isBest o_parts) sz) (w_X7_isWish cy a_o a_o_text a_o_letter a_o_least a_o_carries a_o_gateOff a_o_worth a_o_kind a_o_most a_o_wishOff a_o_use a_o_toldUp a_o_toldDown a_o_priceUp a_o_priceDown a_o_draftGate a_o_draftCarries a_o_draftWorth a_o_draftKind a_o_draftMost a_o_draftUse a_o_x a_o_bestX a_o_part a_o_row a_o_right a_o_m a_o_given a_o_wasOff o_trace o_typed o_gates o_wishes o_at o_start o_sort o_value o_fault o_drafted o_by o_bestBy o_bestWorth o_isBest o_parts) t) (va_A (w_X7_isWish cy a_o a_o_text a_o_letter a_o_least a_o_carries a_o_gateOff a_o_worth a_o_kind a_o_most a_o_wishOff a_o_use a_o_toldUp a_o_toldDown a_o_priceUp a_o_priceDown a_o_draftGate a_o_draftCarries a_o_draftWorth a_o_draftKind a_o_draftMost a_o_draftUse a_o_x a_o_bestX a_o_part a_o_row a_o_right a_o_m a_o_given a_o_wasOff o_trace o_typed o_gates o_wishes o_at o_start o_sort o_value o_fault o_drafted o_by o_bestBy o_bestWorth o_isBest o_parts) sz)) 0 0 (va_A (w_X7_isWish cy a_o a_o_text a_o_letter a_o_least a_o_carries a_o_gateOff a_o_worth a_o_kind a_o_most a_o_wishOff a_o_use a_o_toldUp a_o_toldDown a_o_priceUp a_o_priceDown a_o_draftGate a_o_draftCarries a_o_draftWorth a_o_draftKind a_o_draftMost a_o_draftUse a_o_x a_o_bestX a_o_part a_o_row a_o_right a_o_m a_o_given a_o_wasOff o_trace o_typed o_gates o_wishes o_at o_start o_sort o_value o_fault o_drafted o_by o_bestBy o_bestWorth o_isBest o_parts) sz) := by
  refine contrZ (S := Unit) (post := fun (r : Int32) (u : Unit) => post r ) (wOut := fun (u : Unit) => (w_X7_isWish cy a_o a_o_text a_o_letter a_o_least a_o_carries a_o_gateOff a_o_worth a_o_kind a_o_most a_o_wishOff a_o_use a_o_toldUp a_o_toldDown a_o_priceUp a_o_priceDown a_o_draftGate a_o_draftCarries a_o_draftWorth a_o_draftKind a_o_draftMost a_o_draftUse a_o_x a_o_bestX a_o_part a_o_row a_o_right a_o_m a_o_given a_o_wasOff o_trace o_typed o_gates o_wishes o_at o_start o_sort o_value o_fault o_drafted o_by o_bestBy o_bestWorth o_isBest o_parts)) (cc := cX7_isWish) (maxL := 2) (own := RX7) (by decide +kernel) rfl rfl ?_
  intro p e s m args below meth c A Q hx hb hml hown hts hK hN hP hD hS hA hret
  have in_X7 : ∀ w ∈ u_ws RX7 TX7 43, w ∈ wsX7_isWish := by decide +kernel
  have fl_185 := hts (.fieldLink RX7 185 "DawnTableModel" "wishes" "I") (by decide +kernel)
  refine ent [.ref a_o, .int x1] (Nat.le_of_ble_eq_true rfl) (fun ls hl => ?_)
  have hl : lv_has ls 2 [(0, .ref a_o), (1, .int x1)] := hl
  unfold wp_X7_isWish at h
  refine lv_iload_n hx hb dX7_isWish_0 rfl (lv_at hl 1 rfl) ?_
  refine lv_i2l hx hb dX7_isWish_1 rfl ?_
  refine lv_lconst (v := 0) hx hb dX7_isWish_2 (by decide) ?_
  refine lv_aload_n hx hb dX7_isWish_3 rfl (lv_at hl 0 rfl) ?_
  refine va_get (D := D) (ci := 7) (v := .int o_wishes) (C := RX7) (T := TX7) (N := 43) hx hb hts in_X7 hown hK hP 0 rfl rfl 4 (by decide) fl_185 (fun _ h9 => h9) rfl dX7_isWish_4 ?_
  refine lv_iconst (v := 1) hx hb dX7_isWish_7 (by decide) ?_
  refine lv_isub hx hb dX7_isWish_8 ?_
  refine lv_i2l hx hb dX7_isWish_9 rfl ?_
  have hC : ([] : List Nat).map (fun i => ((w_X7_isWish cy a_o a_o_text a_o_letter a_o_least a_o_carries a_o_gateOff a_o_worth a_o_kind a_o_most a_o_wishOff a_o_use a_o_toldUp a_o_toldDown a_o_priceUp a_o_priceDown a_o_draftGate a_o_draftCarries a_o_draftWorth a_o_draftKind a_o_draftMost a_o_draftUse a_o_x a_o_bestX a_o_part a_o_row a_o_right a_o_m a_o_given a_o_wasOff o_trace o_typed o_gates o_wishes o_at o_start o_sort o_value o_fault o_drafted o_by o_bestBy o_bestWorth o_isBest o_parts) : va_W)[i]?) = ((w_X7_in cy ) : va_W).map some := rfl
  obtain ⟨hPc, hDc⟩ := cutC hP hD [] (by decide) hC
  have hFc := va_free hD hS hA [] hC
  refine va_calli (va_runS (As := [.long ((x1).toInt64), .long (0 : Int64), .long (((o_wishes - (1 : Int32))).toInt64)]) (rest := []) ⟨hx, hb, hml, hown, hts⟩ (c_X7_in l D cy _ h) (va_cwS 3 hts gX7_isWish_X7_in rfl rfl rfl (by decide +kernel) ⟨Nat.le_of_ble_eq_true rfl, Nat.le_of_ble_eq_true rfl⟩) (preS hPc hDc hK hN) rfl rfl hl.1 rfl (lv_room (Nat.le_of_ble_eq_true rfl)) dX7_isWish_10 ⟨Nat.zero_le _, Nat.zero_le _⟩) hS (fun q _ h => hFc q h) hFc (fun r1 u t H1 locs ht hvm h hB hz1 hk1 hS => ?_)
  try dsimp only at h hB
  obtain ⟨hP, hD⟩ := joinU (wd := (w_X7_isWish cy a_o a_o_text a_o_letter a_o_least a_o_carries a_o_gateOff a_o_worth a_o_kind a_o_most a_o_wishOff a_o_use a_o_toldUp a_o_toldDown a_o_priceUp a_o_priceDown a_o_draftGate a_o_draftCarries a_o_draftWorth a_o_draftKind a_o_draftMost a_o_draftUse a_o_x a_o_bestX a_o_part a_o_row a_o_right a_o_m a_o_given a_o_wasOff o_trace o_typed o_gates o_wishes o_at o_start o_sort o_value o_fault o_drafted o_by o_bestBy o_bestWorth o_isBest o_parts)) (wr := [(a_o, .inr (7, [.long o_trace, .ref a_o_text, .int o_typed, .int o_gates, .int o_wishes, .ref a_o_letter, .ref a_o_least, .ref a_o_carries, .ref a_o_gateOff, .ref a_o_worth, .ref a_o_kind, .ref a_o_most, .ref a_o_wishOff, .ref a_o_use, .ref a_o_toldUp, .ref a_o_toldDown, .ref a_o_priceUp, .ref a_o_priceDown, .int o_at, .int o_start, .int o_sort, .int o_value, .int o_fault, .ref a_o_draftGate, .ref a_o_draftCarries, .ref a_o_draftWorth, .ref a_o_draftKind, .ref a_o_draftMost, .ref a_o_draftUse, .int o_drafted, .ref a_o_x, .long o_by, .ref a_o_bestX, .long o_bestBy, .long o_bestWorth, .int o_isBest, .ref a_o_part, .int o_parts, .ref a_o_row, .ref a_o_right, .ref a_o_m, .ref a_o_given, .ref a_o_wasOff]))]) hP hD [] [0] [] hC hk1 ht hB rfl rfl rfl (N := 1) rfl (by decide) rfl rfl
  generalize H1 = H at hP hS ⊢
  obtain ⟨b2, h⟩ := h
  exact hret r1 () _ _ _ _ b2 h hP hD hS dX7_isWish_13

def wp_X7_gate  (o_gates : Int32) (o_letter : Nat → Int32) (o_least : Nat → Int32) (o_carries : Nat → Int32) (o_gateOff : Nat → Int32) (x1 : Int32) (x2 : Int32) (post : Int32 → Prop) : Prop :=
  (wp_X7_isGate o_gates x1 (fun (r1 : Int32) => ((r1 = 0 → post (-1 : Int32)) ∧
   (¬ r1 = 0 → (wp_X7_in ((x2).toInt64) (0 : Int64) (3 : Int64) (fun (r3 : Int32) => ((r3 = 0 → post (-1 : Int32)) ∧
   (¬ r3 = 0 → ((x2 = 0 → (vp_in x1 5 ∧ post (o_letter (x1).toNatClampNeg))) ∧
   (¬ x2 = 0 → ((x2 = (1 : Int32) → (vp_in x1 5 ∧ post (o_least (x1).toNatClampNeg))) ∧
   (¬ x2 = (1 : Int32) → ((x2 = (2 : Int32) → (vp_in x1 5 ∧ post (o_carries (x1).toNatClampNeg))) ∧
   (¬ x2 = (2 : Int32) → (vp_in x1 5 ∧ (((o_gateOff (x1).toNatClampNeg) = 0 → post (0 : Int32)) ∧
   (¬ (o_gateOff (x1).toNatClampNeg) = 0 → post (1 : Int32))))))))))))))))))
abbrev w_X7_gate (cy : Nat → ClassId) (a_o a_o_text a_o_letter a_o_least a_o_carries a_o_gateOff a_o_worth a_o_kind a_o_most a_o_wishOff a_o_use a_o_toldUp a_o_toldDown a_o_priceUp a_o_priceDown a_o_draftGate a_o_draftCarries a_o_draftWorth a_o_draftKind a_o_draftMost a_o_draftUse a_o_x a_o_bestX a_o_part a_o_row a_o_right a_o_m a_o_given a_o_wasOff : Nat) (o_trace : Int64) (o_typed : Int32) (o_gates : Int32) (o_wishes : Int32) (o_at : Int32) (o_start : Int32) (o_sort : Int32) (o_value : Int32) (o_fault : Int32) (o_drafted : Int32) (o_by : Int64) (o_bestBy : Int64) (o_bestWorth : Int64) (o_isBest : Int32) (o_parts : Int32) (o_letter : Nat → Int32) (o_least : Nat → Int32) (o_carries : Nat → Int32) (o_gateOff : Nat → Int32) : va_W := [(a_o, .inr (7, [.long o_trace, .ref a_o_text, .int o_typed, .int o_gates, .int o_wishes, .ref a_o_letter, .ref a_o_least, .ref a_o_carries, .ref a_o_gateOff, .ref a_o_worth, .ref a_o_kind, .ref a_o_most, .ref a_o_wishOff, .ref a_o_use, .ref a_o_toldUp, .ref a_o_toldDown, .ref a_o_priceUp, .ref a_o_priceDown, .int o_at, .int o_start, .int o_sort, .int o_value, .int o_fault, .ref a_o_draftGate, .ref a_o_draftCarries, .ref a_o_draftWorth, .ref a_o_draftKind, .ref a_o_draftMost, .ref a_o_draftUse, .int o_drafted, .ref a_o_x, .long o_by, .ref a_o_bestX, .long o_bestBy, .long o_bestWorth, .int o_isBest, .ref a_o_part, .int o_parts, .ref a_o_row, .ref a_o_right, .ref a_o_m, .ref a_o_given, .ref a_o_wasOff])), (a_o_letter, .inl (cy 1, 5, .inl o_letter)), (a_o_least, .inl (cy 1, 5, .inl o_least)), (a_o_carries, .inl (cy 1, 5, .inl o_carries)), (a_o_gateOff, .inl (cy 3, 5, .inl o_gateOff))]
set_option maxRecDepth 20000 in
theorem ggX7_gate_X7_in : GoodIn wsX7_gate wsX7_in := goodIn_r _ [14] (by decide +kernel) (by decide +kernel)
set_option maxRecDepth 20000 in
theorem ggX7_gate_X7_isGate : GoodIn wsX7_gate wsX7_isGate := goodIn_r _ [10, 11, 12, 13, 9, 14, 15, 16, 17, 18, 19, 20, 21, 22, 23, 24, 25, 26, 27, 28, 29, 30, 31, 32, 33, 34, 35, 36, 37, 38, 39, 40, 41, 42, 43, 44, 45, 46, 47, 48, 49, 50, 51, 52, 53, 54, 55, 56, 57] (by decide +kernel) (by decide +kernel)
set_option maxRecDepth 20000 in
theorem gX7_gate_X7_in : GoodIn wsX7_gate (va_wsS RX7 102 yX7_in wsX7_in) := goodIn_app (goodIn_of _ (by decide +kernel)) ggX7_gate_X7_in
set_option maxRecDepth 20000 in
theorem gX7_gate_X7_isGate : GoodIn wsX7_gate (wsV RX7 188 RX7 yX7_isGate wsX7_isGate) := goodIn_app (goodIn_of _ (by decide +kernel)) ggX7_gate_X7_isGate
set_option maxHeartbeats 4000000 in
set_option maxRecDepth 100000 in
theorem c_X7_gate (l : Launch) (D : va_G) (cy : Nat → ClassId) (a_o a_o_text a_o_letter a_o_least a_o_carries a_o_gateOff a_o_worth a_o_kind a_o_most a_o_wishOff a_o_use a_o_toldUp a_o_toldDown a_o_priceUp a_o_priceDown a_o_draftGate a_o_draftCarries a_o_draftWorth a_o_draftKind a_o_draftMost a_o_draftUse a_o_x a_o_bestX a_o_part a_o_row a_o_right a_o_m a_o_given a_o_wasOff : Nat) (sz : Nat)  {o_trace : Int64} {o_typed : Int32} {o_gates : Int32} {o_wishes : Int32} {o_at : Int32} {o_start : Int32} {o_sort : Int32} {o_value : Int32} {o_fault : Int32} {o_drafted : Int32} {o_by : Int64} {o_bestBy : Int64} {o_bestWorth : Int64} {o_isBest : Int32} {o_parts : Int32} {o_letter : Nat → Int32} {o_least : Nat → Int32} {o_carries : Nat → Int32} {o_gateOff : Nat → Int32} {x1 : Int32} {x2 : Int32} {post : Int32 → Prop} (h : wp_X7_gate o_gates o_letter o_least o_carries o_gateOff x1 x2 post) : Met l yX7_gate wsX7_gate ({ frames := 2, cells := 0, slots := 0, locals := 46 }) (va_Pc [.ref a_o, .int x1, .int x2] (wI D cy sz (w_X7_gate cy a_o a_o_text a_o_letter a_o_least a_o_carries a_o_gateOff a_o_worth a_o_kind a_o_most a_o_wishOff a_o_use a_o_toldUp a_o_toldDown a_o_priceUp a_o_priceDown a_o_draftGate a_o_draftCarries a_o_draftWorth a_o_draftKind a_o_draftMost a_o_draftUse a_o_x a_o_bestX a_o_part a_o_row a_o_right a_o_m a_o_given a_o_wasOff o_trace o_typed o_gates o_wishes o_at o_start o_sort o_value o_fault o_drafted o_by o_bestBy o_bestWorth o_isBest o_parts o_letter o_least o_carries o_gateOff))) (va_Qi (fun (r : Int32) (u : Unit) => post r ) (fun (u : Unit) t => wO D cy (va_A (w_X7_gate cy a_o a_o_text a_o_letter a_o_least a_o_carries a_o_gateOff a_o_worth a_o_kind a_o_most a_o_wishOff a_o_use a_o_toldUp a_o_toldDown a_o_priceUp a_o_priceDown a_o_draftGate a_o_draftCarries a_o_draftWorth a_o_draftKind a_o_draftMost a_o_draftUse a_o_x a_o_bestX a_o_part a_o_row a_o_right a_o_m a_o_given a_o_wasOff o_trace o_typed o_gates o_wishes o_at o_start o_sort o_value o_fault o_drafted o_by o_bestBy o_bestWorth o_isBest o_parts o_letter o_least o_carries o_gateOff) sz) (w_X7_gate cy a_o a_o_text a_o_letter a_o_least a_o_carries a_o_gateOff a_o_worth a_o_kind a_o_most a_o_wishOff a_o_use a_o_toldUp a_o_toldDown a_o_priceUp a_o_priceDown a_o_draftGate a_o_draftCarries a_o_draftWorth a_o_draftKind a_o_draftMost a_o_draftUse a_o_x a_o_bestX a_o_part a_o_row a_o_right a_o_m a_o_given a_o_wasOff o_trace o_typed o_gates o_wishes o_at o_start o_sort o_value o_fault o_drafted o_by o_bestBy o_bestWorth o_isBest o_parts o_letter o_least o_carries o_gateOff) t) (va_A (w_X7_gate cy a_o a_o_text a_o_letter a_o_least a_o_carries a_o_gateOff a_o_worth a_o_kind a_o_most a_o_wishOff a_o_use a_o_toldUp a_o_toldDown a_o_priceUp a_o_priceDown a_o_draftGate a_o_draftCarries a_o_draftWorth a_o_draftKind a_o_draftMost a_o_draftUse a_o_x a_o_bestX a_o_part a_o_row a_o_right a_o_m a_o_given a_o_wasOff o_trace o_typed o_gates o_wishes o_at o_start o_sort o_value o_fault o_drafted o_by o_bestBy o_bestWorth o_isBest o_parts o_letter o_least o_carries o_gateOff) sz)) 0 0 (va_A (w_X7_gate cy a_o a_o_text a_o_letter a_o_least a_o_carries a_o_gateOff a_o_worth a_o_kind a_o_most a_o_wishOff a_o_use a_o_toldUp a_o_toldDown a_o_priceUp a_o_priceDown a_o_draftGate a_o_draftCarries a_o_draftWorth a_o_draftKind a_o_draftMost a_o_draftUse a_o_x a_o_bestX a_o_part a_o_row a_o_right a_o_m a_o_given a_o_wasOff o_trace o_typed o_gates o_wishes o_at o_start o_sort o_value o_fault o_drafted o_by o_bestBy o_bestWorth o_isBest o_parts o_letter o_least o_carries o_gateOff) sz) := by
  refine contrI (S := Unit) (post := fun (r : Int32) (u : Unit) => post r ) (wOut := fun (u : Unit) => (w_X7_gate cy a_o a_o_text a_o_letter a_o_least a_o_carries a_o_gateOff a_o_worth a_o_kind a_o_most a_o_wishOff a_o_use a_o_toldUp a_o_toldDown a_o_priceUp a_o_priceDown a_o_draftGate a_o_draftCarries a_o_draftWorth a_o_draftKind a_o_draftMost a_o_draftUse a_o_x a_o_bestX a_o_part a_o_row a_o_right a_o_m a_o_given a_o_wasOff o_trace o_typed o_gates o_wishes o_at o_start o_sort o_value o_fault o_drafted o_by o_bestBy o_bestWorth o_isBest o_parts o_letter o_least o_carries o_gateOff)) (cc := cX7_gate) (maxL := 3) (own := RX7) (by decide +kernel) rfl rfl ?_
  intro p e s m args below meth c A Q hx hb hml hown hts hK hN hP hD hS hA hret
  have in_X7 : ∀ w ∈ u_ws RX7 TX7 43, w ∈ wsX7_gate := by decide +kernel
  have fl_23 := hts (.fieldLink RX7 23 "DawnTableModel" "gateOff" "[Z") (by decide +kernel)
  have fl_20 := hts (.fieldLink RX7 20 "DawnTableModel" "carries" "[I") (by decide +kernel)
  have fl_17 := hts (.fieldLink RX7 17 "DawnTableModel" "least" "[I") (by decide +kernel)
  have fl_13 := hts (.fieldLink RX7 13 "DawnTableModel" "letter" "[I") (by decide +kernel)
  refine ent [.ref a_o, .int x1, .int x2] (Nat.le_of_ble_eq_true rfl) (fun ls hl => ?_)
  have hl : lv_has ls 3 [(0, .ref a_o), (1, .int x1), (2, .int x2)] := hl
  unfold wp_X7_gate at h
  refine lv_aload_n hx hb dX7_gate_0 rfl (lv_at hl 0 rfl) ?_
  refine lv_iload_n hx hb dX7_gate_1 rfl (lv_at hl 1 rfl) ?_
  have hC : ([0] : List Nat).map (fun i => ((w_X7_gate cy a_o a_o_text a_o_letter a_o_least a_o_carries a_o_gateOff a_o_worth a_o_kind a_o_most a_o_wishOff a_o_use a_o_toldUp a_o_toldDown a_o_priceUp a_o_priceDown a_o_draftGate a_o_draftCarries a_o_draftWorth a_o_draftKind a_o_draftMost a_o_draftUse a_o_x a_o_bestX a_o_part a_o_row a_o_right a_o_m a_o_given a_o_wasOff o_trace o_typed o_gates o_wishes o_at o_start o_sort o_value o_fault o_drafted o_by o_bestBy o_bestWorth o_isBest o_parts o_letter o_least o_carries o_gateOff) : va_W)[i]?) = ((w_X7_isGate cy a_o a_o_text a_o_letter a_o_least a_o_carries a_o_gateOff a_o_worth a_o_kind a_o_most a_o_wishOff a_o_use a_o_toldUp a_o_toldDown a_o_priceUp a_o_priceDown a_o_draftGate a_o_draftCarries a_o_draftWorth a_o_draftKind a_o_draftMost a_o_draftUse a_o_x a_o_bestX a_o_part a_o_row a_o_right a_o_m a_o_given a_o_wasOff o_trace o_typed o_gates o_wishes o_at o_start o_sort o_value o_fault o_drafted o_by o_bestBy o_bestWorth o_isBest o_parts) : va_W).map some := rfl
  obtain ⟨hPc, hDc⟩ := cutC hP hD [0] (by decide) hC
  have hFc := va_free hD hS hA [0] hC
  refine va_calli (va_runV (As := [.int x1]) (rest := []) ⟨hx, hb, hml, hown, hts⟩ (c_X7_isGate l D cy a_o a_o_text a_o_letter a_o_least a_o_carries a_o_gateOff a_o_worth a_o_kind a_o_most a_o_wishOff a_o_use a_o_toldUp a_o_toldDown a_o_priceUp a_o_priceDown a_o_draftGate a_o_draftCarries a_o_draftWorth a_o_draftKind a_o_draftMost a_o_draftUse a_o_x a_o_bestX a_o_part a_o_row a_o_right a_o_m a_o_given a_o_wasOff _ h) (cwV 1 hts gX7_gate_X7_isGate rfl rfl rfl (by decide +kernel) ⟨Nat.le_of_ble_eq_true rfl, Nat.le_of_ble_eq_true rfl⟩) (preV hPc hDc hK hN (ci := 7) (q0 := 0) rfl rfl) rfl rfl hl.1 rfl (lv_room (Nat.le_of_ble_eq_true rfl)) dX7_gate_2 ⟨Nat.zero_le _, Nat.zero_le _⟩) hS (fun q _ h => hFc q h) hFc (fun r1 u t H1 locs ht hvm h hB hz1 hk1 hS => ?_)
  try dsimp only at h hB
  obtain ⟨hP, hD⟩ := joinU (wd := (w_X7_gate cy a_o a_o_text a_o_letter a_o_least a_o_carries a_o_gateOff a_o_worth a_o_kind a_o_most a_o_wishOff a_o_use a_o_toldUp a_o_toldDown a_o_priceUp a_o_priceDown a_o_draftGate a_o_draftCarries a_o_draftWorth a_o_draftKind a_o_draftMost a_o_draftUse a_o_x a_o_bestX a_o_part a_o_row a_o_right a_o_m a_o_given a_o_wasOff o_trace o_typed o_gates o_wishes o_at o_start o_sort o_value o_fault o_drafted o_by o_bestBy o_bestWorth o_isBest o_parts o_letter o_least o_carries o_gateOff)) (wr := [(a_o_letter, .inl (cy 1, 5, .inl o_letter)), (a_o_least, .inl (cy 1, 5, .inl o_least)), (a_o_carries, .inl (cy 1, 5, .inl o_carries)), (a_o_gateOff, .inl (cy 3, 5, .inl o_gateOff))]) hP hD [0] [1, 2, 3, 4] [a_o] hC hk1 ht hB rfl rfl rfl (N := 5) rfl (by decide) rfl rfl
  generalize H1 = H at hP hS ⊢
  refine lv_if_eq (tgt := 20) hx hb dX7_gate_5 (by decide) (fun c2 => ?_) (fun c2 => ?_)
  · have h := h.1 c2
    refine lv_iconst (v := -1) hx hb dX7_gate_20 (by decide) ?_
    exact hret (-1 : Int32) () _ _ _ _ h hP hD hS dX7_gate_21
  · have h := h.2 c2
    refine lv_iload_n hx hb dX7_gate_8 rfl (lv_at hl 2 rfl) ?_
    refine lv_i2l hx hb dX7_gate_9 rfl ?_
    refine lv_lconst (v := 0) hx hb dX7_gate_10 (by decide) ?_
    refine lv_ldc2 hx hb hown (hts (.constantLong RX7 192 (3)) (by decide +kernel)) dX7_gate_11 ?_
    have hC : ([] : List Nat).map (fun i => ((w_X7_gate cy a_o a_o_text a_o_letter a_o_least a_o_carries a_o_gateOff a_o_worth a_o_kind a_o_most a_o_wishOff a_o_use a_o_toldUp a_o_toldDown a_o_priceUp a_o_priceDown a_o_draftGate a_o_draftCarries a_o_draftWorth a_o_draftKind a_o_draftMost a_o_draftUse a_o_x a_o_bestX a_o_part a_o_row a_o_right a_o_m a_o_given a_o_wasOff o_trace o_typed o_gates o_wishes o_at o_start o_sort o_value o_fault o_drafted o_by o_bestBy o_bestWorth o_isBest o_parts o_letter o_least o_carries o_gateOff) : va_W)[i]?) = ((w_X7_in cy ) : va_W).map some := rfl
    obtain ⟨hPc, hDc⟩ := cutC hP hD [] (by decide) hC
    have hFc := va_free hD hS hA [] hC
    refine va_calli (va_runS (As := [.long ((x2).toInt64), .long (0 : Int64), .long (3 : Int64)]) (rest := []) ⟨hx, hb, hml, hown, hts⟩ (c_X7_in l D cy _ h) (va_cwS 3 hts gX7_gate_X7_in rfl rfl rfl (by decide +kernel) ⟨Nat.le_of_ble_eq_true rfl, Nat.le_of_ble_eq_true rfl⟩) (preS hPc hDc hK hN) rfl rfl hl.1 rfl (lv_room (Nat.le_of_ble_eq_true rfl)) dX7_gate_14 ⟨Nat.zero_le _, Nat.zero_le _⟩) hS (fun q _ h => hFc q h) hFc (fun r3 u t H1 locs ht hvm h hB hz1 hk1 hS => ?_)
    try dsimp only at h hB
    obtain ⟨hP, hD⟩ := joinU (wd := (w_X7_gate cy a_o a_o_text a_o_letter a_o_least a_o_carries a_o_gateOff a_o_worth a_o_kind a_o_most a_o_wishOff a_o_use a_o_toldUp a_o_toldDown a_o_priceUp a_o_priceDown a_o_draftGate a_o_draftCarries a_o_draftWorth a_o_draftKind a_o_draftMost a_o_draftUse a_o_x a_o_bestX a_o_part a_o_row a_o_right a_o_m a_o_given a_o_wasOff o_trace o_typed o_gates o_wishes o_at o_start o_sort o_value o_fault o_drafted o_by o_bestBy o_bestWorth o_isBest o_parts o_letter o_least o_carries o_gateOff)) (wr := [(a_o, .inr (7, [.long o_trace, .ref a_o_text, .int o_typed, .int o_gates, .int o_wishes, .ref a_o_letter, .ref a_o_least, .ref a_o_carries, .ref a_o_gateOff, .ref a_o_worth, .ref a_o_kind, .ref a_o_most, .ref a_o_wishOff, .ref a_o_use, .ref a_o_toldUp, .ref a_o_toldDown, .ref a_o_priceUp, .ref a_o_priceDown, .int o_at, .int o_start, .int o_sort, .int o_value, .int o_fault, .ref a_o_draftGate, .ref a_o_draftCarries, .ref a_o_draftWorth, .ref a_o_draftKind, .ref a_o_draftMost, .ref a_o_draftUse, .int o_drafted, .ref a_o_x, .long o_by, .ref a_o_bestX, .long o_bestBy, .long o_bestWorth, .int o_isBest, .ref a_o_part, .int o_parts, .ref a_o_row, .ref a_o_right, .ref a_o_m, .ref a_o_given, .ref a_o_wasOff])), (a_o_letter, .inl (cy 1, 5, .inl o_letter)), (a_o_least, .inl (cy 1, 5, .inl o_least)), (a_o_carries, .inl (cy 1, 5, .inl o_carries)), (a_o_gateOff, .inl (cy 3, 5, .inl o_gateOff))]) hP hD [] [0, 1, 2, 3, 4] [] hC hk1 ht hB rfl rfl rfl (N := 5) rfl (by decide) rfl rfl
    generalize H1 = H at hP hS ⊢
    refine lv_if_ne (tgt := 22) hx hb dX7_gate_17 (by decide) (fun c4 => ?_) (fun c4 => ?_)
    · have h := h.2 c4
      refine lv_iload_n hx hb dX7_gate_22 rfl (lv_at hl 2 rfl) ?_
      refine lv_if_ne (tgt := 35) hx hb dX7_gate_23 (by decide) (fun c5 => ?_) (fun c5 => ?_)
      · have h := h.2 c5
        refine lv_iload_n hx hb dX7_gate_35 rfl (lv_at hl 2 rfl) ?_
        refine lv_iconst (v := 1) hx hb dX7_gate_36 (by decide) ?_
        refine lv_icmp_ne (tgt := 49) hx hb dX7_gate_37 (by decide) (fun c6 => ?_) (fun c6 => ?_)
        · have h := h.2 c6
          refine lv_iload_n hx hb dX7_gate_49 rfl (lv_at hl 2 rfl) ?_
          refine lv_iconst (v := 2) hx hb dX7_gate_50 (by decide) ?_
          refine lv_icmp_ne (tgt := 63) hx hb dX7_gate_51 (by decide) (fun c7 => ?_) (fun c7 => ?_)
          · have h := h.2 c7
            refine lv_aload_n hx hb dX7_gate_63 rfl (lv_at hl 0 rfl) ?_
            refine va_get (D := D) (ci := 7) (v := .ref a_o_gateOff) (C := RX7) (T := TX7) (N := 43) hx hb hts in_X7 hown hK hP 0 rfl rfl 8 (by decide) fl_23 (fun _ h9 => h9) rfl dX7_gate_64 ?_
            refine lv_iload_n hx hb dX7_gate_67 rfl (lv_at hl 1 rfl) ?_
            obtain ⟨i8, h⟩ := h
            refine va_zald hx hb hK hP 4 3 rfl rfl i8 dX7_gate_68 ?_
            refine lv_if_eq (tgt := 76) hx hb dX7_gate_69 (by decide) (fun c9 => ?_) (fun c9 => ?_)
            · have h := h.1 c9
              refine lv_iconst (v := 0) hx hb dX7_gate_76 (by decide) ?_
              exact hret (0 : Int32) () _ _ _ _ h hP hD hS dX7_gate_77
            · have h := h.2 c9
              refine lv_iconst (v := 1) hx hb dX7_gate_72 (by decide) ?_
              refine lv_goto (tgt := 77) hx hb dX7_gate_73 (by decide) ?_
              exact hret (1 : Int32) () _ _ _ _ h hP hD hS dX7_gate_77
          · have h := h.1 c7
            refine lv_aload_n hx hb dX7_gate_54 rfl (lv_at hl 0 rfl) ?_
            refine va_get (D := D) (ci := 7) (v := .ref a_o_carries) (C := RX7) (T := TX7) (N := 43) hx hb hts in_X7 hown hK hP 0 rfl rfl 7 (by decide) fl_20 (fun _ h9 => h9) rfl dX7_gate_55 ?_
            refine lv_iload_n hx hb dX7_gate_58 rfl (lv_at hl 1 rfl) ?_
            obtain ⟨i10, h⟩ := h
            refine va_iald hx hb hK hP 3 1 rfl rfl i10 dX7_gate_59 ?_
            refine lv_goto (tgt := 77) hx hb dX7_gate_60 (by decide) ?_
            exact hret (o_carries (x1).toNatClampNeg) () _ _ _ _ h hP hD hS dX7_gate_77
        · have h := h.1 c6
          refine lv_aload_n hx hb dX7_gate_40 rfl (lv_at hl 0 rfl) ?_
          refine va_get (D := D) (ci := 7) (v := .ref a_o_least) (C := RX7) (T := TX7) (N := 43) hx hb hts in_X7 hown hK hP 0 rfl rfl 6 (by decide) fl_17 (fun _ h9 => h9) rfl dX7_gate_41 ?_
          refine lv_iload_n hx hb dX7_gate_44 rfl (lv_at hl 1 rfl) ?_
          obtain ⟨i11, h⟩ := h
          refine va_iald hx hb hK hP 2 1 rfl rfl i11 dX7_gate_45 ?_
          refine lv_goto (tgt := 77) hx hb dX7_gate_46 (by decide) ?_
          exact hret (o_least (x1).toNatClampNeg) () _ _ _ _ h hP hD hS dX7_gate_77
      · have h := h.1 c5
        refine lv_aload_n hx hb dX7_gate_26 rfl (lv_at hl 0 rfl) ?_
        refine va_get (D := D) (ci := 7) (v := .ref a_o_letter) (C := RX7) (T := TX7) (N := 43) hx hb hts in_X7 hown hK hP 0 rfl rfl 5 (by decide) fl_13 (fun _ h9 => h9) rfl dX7_gate_27 ?_
        refine lv_iload_n hx hb dX7_gate_30 rfl (lv_at hl 1 rfl) ?_
        obtain ⟨i12, h⟩ := h
        refine va_iald hx hb hK hP 1 1 rfl rfl i12 dX7_gate_31 ?_
        refine lv_goto (tgt := 77) hx hb dX7_gate_32 (by decide) ?_
        exact hret (o_letter (x1).toNatClampNeg) () _ _ _ _ h hP hD hS dX7_gate_77
    · have h := h.1 c4
      refine lv_iconst (v := -1) hx hb dX7_gate_20 (by decide) ?_
      exact hret (-1 : Int32) () _ _ _ _ h hP hD hS dX7_gate_21

def wp_X7_wish  (o_wishes : Int32) (o_worth : Nat → Int32) (o_kind : Nat → Int32) (o_most : Nat → Int32) (o_wishOff : Nat → Int32) (x1 : Int32) (x2 : Int32) (post : Int32 → Prop) : Prop :=
  (wp_X7_isWish o_wishes x1 (fun (r1 : Int32) => ((r1 = 0 → post (-1 : Int32)) ∧
   (¬ r1 = 0 → (wp_X7_in ((x2).toInt64) (0 : Int64) (3 : Int64) (fun (r3 : Int32) => ((r3 = 0 → post (-1 : Int32)) ∧
   (¬ r3 = 0 → ((x2 = 0 → (vp_in x1 4 ∧ post (o_worth (x1).toNatClampNeg))) ∧
   (¬ x2 = 0 → ((x2 = (1 : Int32) → (vp_in x1 4 ∧ post (o_kind (x1).toNatClampNeg))) ∧
   (¬ x2 = (1 : Int32) → ((x2 = (2 : Int32) → (vp_in x1 4 ∧ post (o_most (x1).toNatClampNeg))) ∧
   (¬ x2 = (2 : Int32) → (vp_in x1 4 ∧ (((o_wishOff (x1).toNatClampNeg) = 0 → post (0 : Int32)) ∧
   (¬ (o_wishOff (x1).toNatClampNeg) = 0 → post (1 : Int32))))))))))))))))))
abbrev w_X7_wish (cy : Nat → ClassId) (a_o a_o_text a_o_letter a_o_least a_o_carries a_o_gateOff a_o_worth a_o_kind a_o_most a_o_wishOff a_o_use a_o_toldUp a_o_toldDown a_o_priceUp a_o_priceDown a_o_draftGate a_o_draftCarries a_o_draftWorth a_o_draftKind a_o_draftMost a_o_draftUse a_o_x a_o_bestX a_o_part a_o_row a_o_right a_o_m a_o_given a_o_wasOff : Nat) (o_trace : Int64) (o_typed : Int32) (o_gates : Int32) (o_wishes : Int32) (o_at : Int32) (o_start : Int32) (o_sort : Int32) (o_value : Int32) (o_fault : Int32) (o_drafted : Int32) (o_by : Int64) (o_bestBy : Int64) (o_bestWorth : Int64) (o_isBest : Int32) (o_parts : Int32) (o_worth : Nat → Int32) (o_kind : Nat → Int32) (o_most : Nat → Int32) (o_wishOff : Nat → Int32) : va_W := [(a_o, .inr (7, [.long o_trace, .ref a_o_text, .int o_typed, .int o_gates, .int o_wishes, .ref a_o_letter, .ref a_o_least, .ref a_o_carries, .ref a_o_gateOff, .ref a_o_worth, .ref a_o_kind, .ref a_o_most, .ref a_o_wishOff, .ref a_o_use, .ref a_o_toldUp, .ref a_o_toldDown, .ref a_o_priceUp, .ref a_o_priceDown, .int o_at, .int o_start, .int o_sort, .int o_value, .int o_fault, .ref a_o_draftGate, .ref a_o_draftCarries, .ref a_o_draftWorth, .ref a_o_draftKind, .ref a_o_draftMost, .ref a_o_draftUse, .int o_drafted, .ref a_o_x, .long o_by, .ref a_o_bestX, .long o_bestBy, .long o_bestWorth, .int o_isBest, .ref a_o_part, .int o_parts, .ref a_o_row, .ref a_o_right, .ref a_o_m, .ref a_o_given, .ref a_o_wasOff])), (a_o_worth, .inl (cy 1, 4, .inl o_worth)), (a_o_kind, .inl (cy 1, 4, .inl o_kind)), (a_o_most, .inl (cy 1, 4, .inl o_most)), (a_o_wishOff, .inl (cy 3, 4, .inl o_wishOff))]
set_option maxRecDepth 20000 in
theorem ggX7_wish_X7_in : GoodIn wsX7_wish wsX7_in := goodIn_r _ [14] (by decide +kernel) (by decide +kernel)
set_option maxRecDepth 20000 in
theorem ggX7_wish_X7_isWish : GoodIn wsX7_wish wsX7_isWish := goodIn_r _ [10, 11, 12, 13, 9, 14, 15, 16, 17, 18, 19, 20, 21, 22, 23, 24, 25, 26, 27, 28, 29, 30, 31, 32, 33, 34, 35, 36, 37, 38, 39, 40, 41, 42, 43, 44, 45, 46, 47, 48, 49, 50, 51, 52, 53, 54, 55, 56, 57] (by decide +kernel) (by decide +kernel)
set_option maxRecDepth 20000 in
theorem gX7_wish_X7_in : GoodIn wsX7_wish (va_wsS RX7 102 yX7_in wsX7_in) := goodIn_app (goodIn_of _ (by decide +kernel)) ggX7_wish_X7_in
set_option maxRecDepth 20000 in
theorem gX7_wish_X7_isWish : GoodIn wsX7_wish (wsV RX7 194 RX7 yX7_isWish wsX7_isWish) := goodIn_app (goodIn_of _ (by decide +kernel)) ggX7_wish_X7_isWish
set_option maxHeartbeats 4000000 in
set_option maxRecDepth 100000 in
theorem c_X7_wish (l : Launch) (D : va_G) (cy : Nat → ClassId) (a_o a_o_text a_o_letter a_o_least a_o_carries a_o_gateOff a_o_worth a_o_kind a_o_most a_o_wishOff a_o_use a_o_toldUp a_o_toldDown a_o_priceUp a_o_priceDown a_o_draftGate a_o_draftCarries a_o_draftWorth a_o_draftKind a_o_draftMost a_o_draftUse a_o_x a_o_bestX a_o_part a_o_row a_o_right a_o_m a_o_given a_o_wasOff : Nat) (sz : Nat)  {o_trace : Int64} {o_typed : Int32} {o_gates : Int32} {o_wishes : Int32} {o_at : Int32} {o_start : Int32} {o_sort : Int32} {o_value : Int32} {o_fault : Int32} {o_drafted : Int32} {o_by : Int64} {o_bestBy : Int64} {o_bestWorth : Int64} {o_isBest : Int32} {o_parts : Int32} {o_worth : Nat → Int32} {o_kind : Nat → Int32} {o_most : Nat → Int32} {o_wishOff : Nat → Int32} {x1 : Int32} {x2 : Int32} {post : Int32 → Prop} (h : wp_X7_wish o_wishes o_worth o_kind o_most o_wishOff x1 x2 post) : Met l yX7_wish wsX7_wish ({ frames := 2, cells := 0, slots := 0, locals := 46 }) (va_Pc [.ref a_o, .int x1, .int x2] (wI D cy sz (w_X7_wish cy a_o a_o_text a_o_letter a_o_least a_o_carries a_o_gateOff a_o_worth a_o_kind a_o_most a_o_wishOff a_o_use a_o_toldUp a_o_toldDown a_o_priceUp a_o_priceDown a_o_draftGate a_o_draftCarries a_o_draftWorth a_o_draftKind a_o_draftMost a_o_draftUse a_o_x a_o_bestX a_o_part a_o_row a_o_right a_o_m a_o_given a_o_wasOff o_trace o_typed o_gates o_wishes o_at o_start o_sort o_value o_fault o_drafted o_by o_bestBy o_bestWorth o_isBest o_parts o_worth o_kind o_most o_wishOff))) (va_Qi (fun (r : Int32) (u : Unit) => post r ) (fun (u : Unit) t => wO D cy (va_A (w_X7_wish cy a_o a_o_text a_o_letter a_o_least a_o_carries a_o_gateOff a_o_worth a_o_kind a_o_most a_o_wishOff a_o_use a_o_toldUp a_o_toldDown a_o_priceUp a_o_priceDown a_o_draftGate a_o_draftCarries a_o_draftWorth a_o_draftKind a_o_draftMost a_o_draftUse a_o_x a_o_bestX a_o_part a_o_row a_o_right a_o_m a_o_given a_o_wasOff o_trace o_typed o_gates o_wishes o_at o_start o_sort o_value o_fault o_drafted o_by o_bestBy o_bestWorth o_isBest o_parts o_worth o_kind o_most o_wishOff) sz) (w_X7_wish cy a_o a_o_text a_o_letter a_o_least a_o_carries a_o_gateOff a_o_worth a_o_kind a_o_most a_o_wishOff a_o_use a_o_toldUp a_o_toldDown a_o_priceUp a_o_priceDown a_o_draftGate a_o_draftCarries a_o_draftWorth a_o_draftKind a_o_draftMost a_o_draftUse a_o_x a_o_bestX a_o_part a_o_row a_o_right a_o_m a_o_given a_o_wasOff o_trace o_typed o_gates o_wishes o_at o_start o_sort o_value o_fault o_drafted o_by o_bestBy o_bestWorth o_isBest o_parts o_worth o_kind o_most o_wishOff) t) (va_A (w_X7_wish cy a_o a_o_text a_o_letter a_o_least a_o_carries a_o_gateOff a_o_worth a_o_kind a_o_most a_o_wishOff a_o_use a_o_toldUp a_o_toldDown a_o_priceUp a_o_priceDown a_o_draftGate a_o_draftCarries a_o_draftWorth a_o_draftKind a_o_draftMost a_o_draftUse a_o_x a_o_bestX a_o_part a_o_row a_o_right a_o_m a_o_given a_o_wasOff o_trace o_typed o_gates o_wishes o_at o_start o_sort o_value o_fault o_drafted o_by o_bestBy o_bestWorth o_isBest o_parts o_worth o_kind o_most o_wishOff) sz)) 0 0 (va_A (w_X7_wish cy a_o a_o_text a_o_letter a_o_least a_o_carries a_o_gateOff a_o_worth a_o_kind a_o_most a_o_wishOff a_o_use a_o_toldUp a_o_toldDown a_o_priceUp a_o_priceDown a_o_draftGate a_o_draftCarries a_o_draftWorth a_o_draftKind a_o_draftMost a_o_draftUse a_o_x a_o_bestX a_o_part a_o_row a_o_right a_o_m a_o_given a_o_wasOff o_trace o_typed o_gates o_wishes o_at o_start o_sort o_value o_fault o_drafted o_by o_bestBy o_bestWorth o_isBest o_parts o_worth o_kind o_most o_wishOff) sz) := by
  refine contrI (S := Unit) (post := fun (r : Int32) (u : Unit) => post r ) (wOut := fun (u : Unit) => (w_X7_wish cy a_o a_o_text a_o_letter a_o_least a_o_carries a_o_gateOff a_o_worth a_o_kind a_o_most a_o_wishOff a_o_use a_o_toldUp a_o_toldDown a_o_priceUp a_o_priceDown a_o_draftGate a_o_draftCarries a_o_draftWorth a_o_draftKind a_o_draftMost a_o_draftUse a_o_x a_o_bestX a_o_part a_o_row a_o_right a_o_m a_o_given a_o_wasOff o_trace o_typed o_gates o_wishes o_at o_start o_sort o_value o_fault o_drafted o_by o_bestBy o_bestWorth o_isBest o_parts o_worth o_kind o_most o_wishOff)) (cc := cX7_wish) (maxL := 3) (own := RX7) (by decide +kernel) rfl rfl ?_
  intro p e s m args below meth c A Q hx hb hml hown hts hK hN hP hD hS hA hret
  have in_X7 : ∀ w ∈ u_ws RX7 TX7 43, w ∈ wsX7_wish := by decide +kernel
  have fl_36 := hts (.fieldLink RX7 36 "DawnTableModel" "wishOff" "[Z") (by decide +kernel)
  have fl_33 := hts (.fieldLink RX7 33 "DawnTableModel" "most" "[I") (by decide +kernel)
  have fl_30 := hts (.fieldLink RX7 30 "DawnTableModel" "kind" "[I") (by decide +kernel)
  have fl_27 := hts (.fieldLink RX7 27 "DawnTableModel" "worth" "[I") (by decide +kernel)
  refine ent [.ref a_o, .int x1, .int x2] (Nat.le_of_ble_eq_true rfl) (fun ls hl => ?_)
  have hl : lv_has ls 3 [(0, .ref a_o), (1, .int x1), (2, .int x2)] := hl
  unfold wp_X7_wish at h
  refine lv_aload_n hx hb dX7_wish_0 rfl (lv_at hl 0 rfl) ?_
  refine lv_iload_n hx hb dX7_wish_1 rfl (lv_at hl 1 rfl) ?_
  have hC : ([0] : List Nat).map (fun i => ((w_X7_wish cy a_o a_o_text a_o_letter a_o_least a_o_carries a_o_gateOff a_o_worth a_o_kind a_o_most a_o_wishOff a_o_use a_o_toldUp a_o_toldDown a_o_priceUp a_o_priceDown a_o_draftGate a_o_draftCarries a_o_draftWorth a_o_draftKind a_o_draftMost a_o_draftUse a_o_x a_o_bestX a_o_part a_o_row a_o_right a_o_m a_o_given a_o_wasOff o_trace o_typed o_gates o_wishes o_at o_start o_sort o_value o_fault o_drafted o_by o_bestBy o_bestWorth o_isBest o_parts o_worth o_kind o_most o_wishOff) : va_W)[i]?) = ((w_X7_isWish cy a_o a_o_text a_o_letter a_o_least a_o_carries a_o_gateOff a_o_worth a_o_kind a_o_most a_o_wishOff a_o_use a_o_toldUp a_o_toldDown a_o_priceUp a_o_priceDown a_o_draftGate a_o_draftCarries a_o_draftWorth a_o_draftKind a_o_draftMost a_o_draftUse a_o_x a_o_bestX a_o_part a_o_row a_o_right a_o_m a_o_given a_o_wasOff o_trace o_typed o_gates o_wishes o_at o_start o_sort o_value o_fault o_drafted o_by o_bestBy o_bestWorth o_isBest o_parts) : va_W).map some := rfl
  obtain ⟨hPc, hDc⟩ := cutC hP hD [0] (by decide) hC
  have hFc := va_free hD hS hA [0] hC
  refine va_calli (va_runV (As := [.int x1]) (rest := []) ⟨hx, hb, hml, hown, hts⟩ (c_X7_isWish l D cy a_o a_o_text a_o_letter a_o_least a_o_carries a_o_gateOff a_o_worth a_o_kind a_o_most a_o_wishOff a_o_use a_o_toldUp a_o_toldDown a_o_priceUp a_o_priceDown a_o_draftGate a_o_draftCarries a_o_draftWorth a_o_draftKind a_o_draftMost a_o_draftUse a_o_x a_o_bestX a_o_part a_o_row a_o_right a_o_m a_o_given a_o_wasOff _ h) (cwV 1 hts gX7_wish_X7_isWish rfl rfl rfl (by decide +kernel) ⟨Nat.le_of_ble_eq_true rfl, Nat.le_of_ble_eq_true rfl⟩) (preV hPc hDc hK hN (ci := 7) (q0 := 0) rfl rfl) rfl rfl hl.1 rfl (lv_room (Nat.le_of_ble_eq_true rfl)) dX7_wish_2 ⟨Nat.zero_le _, Nat.zero_le _⟩) hS (fun q _ h => hFc q h) hFc (fun r1 u t H1 locs ht hvm h hB hz1 hk1 hS => ?_)
  try dsimp only at h hB
  obtain ⟨hP, hD⟩ := joinU (wd := (w_X7_wish cy a_o a_o_text a_o_letter a_o_least a_o_carries a_o_gateOff a_o_worth a_o_kind a_o_most a_o_wishOff a_o_use a_o_toldUp a_o_toldDown a_o_priceUp a_o_priceDown a_o_draftGate a_o_draftCarries a_o_draftWorth a_o_draftKind a_o_draftMost a_o_draftUse a_o_x a_o_bestX a_o_part a_o_row a_o_right a_o_m a_o_given a_o_wasOff o_trace o_typed o_gates o_wishes o_at o_start o_sort o_value o_fault o_drafted o_by o_bestBy o_bestWorth o_isBest o_parts o_worth o_kind o_most o_wishOff)) (wr := [(a_o_worth, .inl (cy 1, 4, .inl o_worth)), (a_o_kind, .inl (cy 1, 4, .inl o_kind)), (a_o_most, .inl (cy 1, 4, .inl o_most)), (a_o_wishOff, .inl (cy 3, 4, .inl o_wishOff))]) hP hD [0] [1, 2, 3, 4] [a_o] hC hk1 ht hB rfl rfl rfl (N := 5) rfl (by decide) rfl rfl
  generalize H1 = H at hP hS ⊢
  refine lv_if_eq (tgt := 20) hx hb dX7_wish_5 (by decide) (fun c2 => ?_) (fun c2 => ?_)
  · have h := h.1 c2
    refine lv_iconst (v := -1) hx hb dX7_wish_20 (by decide) ?_
    exact hret (-1 : Int32) () _ _ _ _ h hP hD hS dX7_wish_21
  · have h := h.2 c2
    refine lv_iload_n hx hb dX7_wish_8 rfl (lv_at hl 2 rfl) ?_
    refine lv_i2l hx hb dX7_wish_9 rfl ?_
    refine lv_lconst (v := 0) hx hb dX7_wish_10 (by decide) ?_
    refine lv_ldc2 hx hb hown (hts (.constantLong RX7 192 (3)) (by decide +kernel)) dX7_wish_11 ?_
    have hC : ([] : List Nat).map (fun i => ((w_X7_wish cy a_o a_o_text a_o_letter a_o_least a_o_carries a_o_gateOff a_o_worth a_o_kind a_o_most a_o_wishOff a_o_use a_o_toldUp a_o_toldDown a_o_priceUp a_o_priceDown a_o_draftGate a_o_draftCarries a_o_draftWorth a_o_draftKind a_o_draftMost a_o_draftUse a_o_x a_o_bestX a_o_part a_o_row a_o_right a_o_m a_o_given a_o_wasOff o_trace o_typed o_gates o_wishes o_at o_start o_sort o_value o_fault o_drafted o_by o_bestBy o_bestWorth o_isBest o_parts o_worth o_kind o_most o_wishOff) : va_W)[i]?) = ((w_X7_in cy ) : va_W).map some := rfl
    obtain ⟨hPc, hDc⟩ := cutC hP hD [] (by decide) hC
    have hFc := va_free hD hS hA [] hC
    refine va_calli (va_runS (As := [.long ((x2).toInt64), .long (0 : Int64), .long (3 : Int64)]) (rest := []) ⟨hx, hb, hml, hown, hts⟩ (c_X7_in l D cy _ h) (va_cwS 3 hts gX7_wish_X7_in rfl rfl rfl (by decide +kernel) ⟨Nat.le_of_ble_eq_true rfl, Nat.le_of_ble_eq_true rfl⟩) (preS hPc hDc hK hN) rfl rfl hl.1 rfl (lv_room (Nat.le_of_ble_eq_true rfl)) dX7_wish_14 ⟨Nat.zero_le _, Nat.zero_le _⟩) hS (fun q _ h => hFc q h) hFc (fun r3 u t H1 locs ht hvm h hB hz1 hk1 hS => ?_)
    try dsimp only at h hB
    obtain ⟨hP, hD⟩ := joinU (wd := (w_X7_wish cy a_o a_o_text a_o_letter a_o_least a_o_carries a_o_gateOff a_o_worth a_o_kind a_o_most a_o_wishOff a_o_use a_o_toldUp a_o_toldDown a_o_priceUp a_o_priceDown a_o_draftGate a_o_draftCarries a_o_draftWorth a_o_draftKind a_o_draftMost a_o_draftUse a_o_x a_o_bestX a_o_part a_o_row a_o_right a_o_m a_o_given a_o_wasOff o_trace o_typed o_gates o_wishes o_at o_start o_sort o_value o_fault o_drafted o_by o_bestBy o_bestWorth o_isBest o_parts o_worth o_kind o_most o_wishOff)) (wr := [(a_o, .inr (7, [.long o_trace, .ref a_o_text, .int o_typed, .int o_gates, .int o_wishes, .ref a_o_letter, .ref a_o_least, .ref a_o_carries, .ref a_o_gateOff, .ref a_o_worth, .ref a_o_kind, .ref a_o_most, .ref a_o_wishOff, .ref a_o_use, .ref a_o_toldUp, .ref a_o_toldDown, .ref a_o_priceUp, .ref a_o_priceDown, .int o_at, .int o_start, .int o_sort, .int o_value, .int o_fault, .ref a_o_draftGate, .ref a_o_draftCarries, .ref a_o_draftWorth, .ref a_o_draftKind, .ref a_o_draftMost, .ref a_o_draftUse, .int o_drafted, .ref a_o_x, .long o_by, .ref a_o_bestX, .long o_bestBy, .long o_bestWorth, .int o_isBest, .ref a_o_part, .int o_parts, .ref a_o_row, .ref a_o_right, .ref a_o_m, .ref a_o_given, .ref a_o_wasOff])), (a_o_worth, .inl (cy 1, 4, .inl o_worth)), (a_o_kind, .inl (cy 1, 4, .inl o_kind)), (a_o_most, .inl (cy 1, 4, .inl o_most)), (a_o_wishOff, .inl (cy 3, 4, .inl o_wishOff))]) hP hD [] [0, 1, 2, 3, 4] [] hC hk1 ht hB rfl rfl rfl (N := 5) rfl (by decide) rfl rfl
    generalize H1 = H at hP hS ⊢
    refine lv_if_ne (tgt := 22) hx hb dX7_wish_17 (by decide) (fun c4 => ?_) (fun c4 => ?_)
    · have h := h.2 c4
      refine lv_iload_n hx hb dX7_wish_22 rfl (lv_at hl 2 rfl) ?_
      refine lv_if_ne (tgt := 35) hx hb dX7_wish_23 (by decide) (fun c5 => ?_) (fun c5 => ?_)
      · have h := h.2 c5
        refine lv_iload_n hx hb dX7_wish_35 rfl (lv_at hl 2 rfl) ?_
        refine lv_iconst (v := 1) hx hb dX7_wish_36 (by decide) ?_
        refine lv_icmp_ne (tgt := 49) hx hb dX7_wish_37 (by decide) (fun c6 => ?_) (fun c6 => ?_)
        · have h := h.2 c6
          refine lv_iload_n hx hb dX7_wish_49 rfl (lv_at hl 2 rfl) ?_
          refine lv_iconst (v := 2) hx hb dX7_wish_50 (by decide) ?_
          refine lv_icmp_ne (tgt := 63) hx hb dX7_wish_51 (by decide) (fun c7 => ?_) (fun c7 => ?_)
          · have h := h.2 c7
            refine lv_aload_n hx hb dX7_wish_63 rfl (lv_at hl 0 rfl) ?_
            refine va_get (D := D) (ci := 7) (v := .ref a_o_wishOff) (C := RX7) (T := TX7) (N := 43) hx hb hts in_X7 hown hK hP 0 rfl rfl 12 (by decide) fl_36 (fun _ h9 => h9) rfl dX7_wish_64 ?_
            refine lv_iload_n hx hb dX7_wish_67 rfl (lv_at hl 1 rfl) ?_
            obtain ⟨i8, h⟩ := h
            refine va_zald hx hb hK hP 4 3 rfl rfl i8 dX7_wish_68 ?_
            refine lv_if_eq (tgt := 76) hx hb dX7_wish_69 (by decide) (fun c9 => ?_) (fun c9 => ?_)
            · have h := h.1 c9
              refine lv_iconst (v := 0) hx hb dX7_wish_76 (by decide) ?_
              exact hret (0 : Int32) () _ _ _ _ h hP hD hS dX7_wish_77
            · have h := h.2 c9
              refine lv_iconst (v := 1) hx hb dX7_wish_72 (by decide) ?_
              refine lv_goto (tgt := 77) hx hb dX7_wish_73 (by decide) ?_
              exact hret (1 : Int32) () _ _ _ _ h hP hD hS dX7_wish_77
          · have h := h.1 c7
            refine lv_aload_n hx hb dX7_wish_54 rfl (lv_at hl 0 rfl) ?_
            refine va_get (D := D) (ci := 7) (v := .ref a_o_most) (C := RX7) (T := TX7) (N := 43) hx hb hts in_X7 hown hK hP 0 rfl rfl 11 (by decide) fl_33 (fun _ h9 => h9) rfl dX7_wish_55 ?_
            refine lv_iload_n hx hb dX7_wish_58 rfl (lv_at hl 1 rfl) ?_
            obtain ⟨i10, h⟩ := h
            refine va_iald hx hb hK hP 3 1 rfl rfl i10 dX7_wish_59 ?_
            refine lv_goto (tgt := 77) hx hb dX7_wish_60 (by decide) ?_
            exact hret (o_most (x1).toNatClampNeg) () _ _ _ _ h hP hD hS dX7_wish_77
        · have h := h.1 c6
          refine lv_aload_n hx hb dX7_wish_40 rfl (lv_at hl 0 rfl) ?_
          refine va_get (D := D) (ci := 7) (v := .ref a_o_kind) (C := RX7) (T := TX7) (N := 43) hx hb hts in_X7 hown hK hP 0 rfl rfl 10 (by decide) fl_30 (fun _ h9 => h9) rfl dX7_wish_41 ?_
          refine lv_iload_n hx hb dX7_wish_44 rfl (lv_at hl 1 rfl) ?_
          obtain ⟨i11, h⟩ := h
          refine va_iald hx hb hK hP 2 1 rfl rfl i11 dX7_wish_45 ?_
          refine lv_goto (tgt := 77) hx hb dX7_wish_46 (by decide) ?_
          exact hret (o_kind (x1).toNatClampNeg) () _ _ _ _ h hP hD hS dX7_wish_77
      · have h := h.1 c5
        refine lv_aload_n hx hb dX7_wish_26 rfl (lv_at hl 0 rfl) ?_
        refine va_get (D := D) (ci := 7) (v := .ref a_o_worth) (C := RX7) (T := TX7) (N := 43) hx hb hts in_X7 hown hK hP 0 rfl rfl 9 (by decide) fl_27 (fun _ h9 => h9) rfl dX7_wish_27 ?_
        refine lv_iload_n hx hb dX7_wish_30 rfl (lv_at hl 1 rfl) ?_
        obtain ⟨i12, h⟩ := h
        refine va_iald hx hb hK hP 1 1 rfl rfl i12 dX7_wish_31 ?_
        refine lv_goto (tgt := 77) hx hb dX7_wish_32 (by decide) ?_
        exact hret (o_worth (x1).toNatClampNeg) () _ _ _ _ h hP hD hS dX7_wish_77
    · have h := h.1 c4
      refine lv_iconst (v := -1) hx hb dX7_wish_20 (by decide) ?_
      exact hret (-1 : Int32) () _ _ _ _ h hP hD hS dX7_wish_21

def wp_X7_uses  (o_gates : Int32) (o_wishes : Int32) (o_use : Nat → Int32) (x1 : Int32) (x2 : Int32) (post : Int32 → Prop) : Prop :=
  (wp_X7_isWish o_wishes x1 (fun (r1 : Int32) => ((r1 = 0 → post (-1 : Int32)) ∧
   (¬ r1 = 0 → (wp_X7_isGate o_gates x2 (fun (r3 : Int32) => ((r3 = 0 → post (-1 : Int32)) ∧
   (¬ r3 = 0 → (vp_in (((5 : Int32) * x1) + x2) 20 ∧ post (o_use ((((5 : Int32) * x1) + x2)).toNatClampNeg))))))))))
abbrev w_X7_uses (cy : Nat → ClassId) (a_o a_o_text a_o_letter a_o_least a_o_carries a_o_gateOff a_o_worth a_o_kind a_o_most a_o_wishOff a_o_use a_o_toldUp a_o_toldDown a_o_priceUp a_o_priceDown a_o_draftGate a_o_draftCarries a_o_draftWorth a_o_draftKind a_o_draftMost a_o_draftUse a_o_x a_o_bestX a_o_part a_o_row a_o_right a_o_m a_o_given a_o_wasOff : Nat) (o_trace : Int64) (o_typed : Int32) (o_gates : Int32) (o_wishes : Int32) (o_at : Int32) (o_start : Int32) (o_sort : Int32) (o_value : Int32) (o_fault : Int32) (o_drafted : Int32) (o_by : Int64) (o_bestBy : Int64) (o_bestWorth : Int64) (o_isBest : Int32) (o_parts : Int32) (o_use : Nat → Int32) : va_W := [(a_o, .inr (7, [.long o_trace, .ref a_o_text, .int o_typed, .int o_gates, .int o_wishes, .ref a_o_letter, .ref a_o_least, .ref a_o_carries, .ref a_o_gateOff, .ref a_o_worth, .ref a_o_kind, .ref a_o_most, .ref a_o_wishOff, .ref a_o_use, .ref a_o_toldUp, .ref a_o_toldDown, .ref a_o_priceUp, .ref a_o_priceDown, .int o_at, .int o_start, .int o_sort, .int o_value, .int o_fault, .ref a_o_draftGate, .ref a_o_draftCarries, .ref a_o_draftWorth, .ref a_o_draftKind, .ref a_o_draftMost, .ref a_o_draftUse, .int o_drafted, .ref a_o_x, .long o_by, .ref a_o_bestX, .long o_bestBy, .long o_bestWorth, .int o_isBest, .ref a_o_part, .int o_parts, .ref a_o_row, .ref a_o_right, .ref a_o_m, .ref a_o_given, .ref a_o_wasOff])), (a_o_use, .inl (cy 1, 20, .inl o_use))]
set_option maxRecDepth 20000 in
theorem ggX7_uses_X7_isGate : GoodIn wsX7_uses wsX7_isGate := goodIn_r _ [14, 15, 8, 9, 5, 10, 16, 17, 18, 19, 20, 21, 22, 23, 24, 25, 26, 27, 28, 29, 30, 31, 32, 33, 34, 35, 36, 37, 38, 39, 40, 41, 42, 43, 44, 45, 46, 47, 48, 49, 50, 51, 52, 53, 54, 55, 56, 57, 58] (by decide +kernel) (by decide +kernel)
set_option maxRecDepth 20000 in
theorem ggX7_uses_X7_isWish : GoodIn wsX7_uses wsX7_isWish := goodIn_r _ [6, 7, 8, 9, 5, 10, 16, 17, 18, 19, 20, 21, 22, 23, 24, 25, 26, 27, 28, 29, 30, 31, 32, 33, 34, 35, 36, 37, 38, 39, 40, 41, 42, 43, 44, 45, 46, 47, 48, 49, 50, 51, 52, 53, 54, 55, 56, 57, 58] (by decide +kernel) (by decide +kernel)
set_option maxRecDepth 20000 in
theorem gX7_uses_X7_isGate : GoodIn wsX7_uses (wsV RX7 188 RX7 yX7_isGate wsX7_isGate) := goodIn_app (goodIn_of _ (by decide +kernel)) ggX7_uses_X7_isGate
set_option maxRecDepth 20000 in
theorem gX7_uses_X7_isWish : GoodIn wsX7_uses (wsV RX7 194 RX7 yX7_isWish wsX7_isWish) := goodIn_app (goodIn_of _ (by decide +kernel)) ggX7_uses_X7_isWish
set_option maxHeartbeats 4000000 in
set_option maxRecDepth 100000 in
theorem c_X7_uses (l : Launch) (D : va_G) (cy : Nat → ClassId) (a_o a_o_text a_o_letter a_o_least a_o_carries a_o_gateOff a_o_worth a_o_kind a_o_most a_o_wishOff a_o_use a_o_toldUp a_o_toldDown a_o_priceUp a_o_priceDown a_o_draftGate a_o_draftCarries a_o_draftWorth a_o_draftKind a_o_draftMost a_o_draftUse a_o_x a_o_bestX a_o_part a_o_row a_o_right a_o_m a_o_given a_o_wasOff : Nat) (sz : Nat)  {o_trace : Int64} {o_typed : Int32} {o_gates : Int32} {o_wishes : Int32} {o_at : Int32} {o_start : Int32} {o_sort : Int32} {o_value : Int32} {o_fault : Int32} {o_drafted : Int32} {o_by : Int64} {o_bestBy : Int64} {o_bestWorth : Int64} {o_isBest : Int32} {o_parts : Int32} {o_use : Nat → Int32} {x1 : Int32} {x2 : Int32} {post : Int32 → Prop} (h : wp_X7_uses o_gates o_wishes o_use x1 x2 post) : Met l yX7_uses wsX7_uses ({ frames := 2, cells := 0, slots := 0, locals := 46 }) (va_Pc [.ref a_o, .int x1, .int x2] (wI D cy sz (w_X7_uses cy a_o a_o_text a_o_letter a_o_least a_o_carries a_o_gateOff a_o_worth a_o_kind a_o_most a_o_wishOff a_o_use a_o_toldUp a_o_toldDown a_o_priceUp a_o_priceDown a_o_draftGate a_o_draftCarries a_o_draftWorth a_o_draftKind a_o_draftMost a_o_draftUse a_o_x a_o_bestX a_o_part a_o_row a_o_right a_o_m a_o_given a_o_wasOff o_trace o_typed o_gates o_wishes o_at o_start o_sort o_value o_fault o_drafted o_by o_bestBy o_bestWorth o_isBest o_parts o_use))) (va_Qi (fun (r : Int32) (u : Unit) => post r ) (fun (u : Unit) t => wO D cy (va_A (w_X7_uses cy a_o a_o_text a_o_letter a_o_least a_o_carries a_o_gateOff a_o_worth a_o_kind a_o_most a_o_wishOff a_o_use a_o_toldUp a_o_toldDown a_o_priceUp a_o_priceDown a_o_draftGate a_o_draftCarries a_o_draftWorth a_o_draftKind a_o_draftMost a_o_draftUse a_o_x a_o_bestX a_o_part a_o_row a_o_right a_o_m a_o_given a_o_wasOff o_trace o_typed o_gates o_wishes o_at o_start o_sort o_value o_fault o_drafted o_by o_bestBy o_bestWorth o_isBest o_parts o_use) sz) (w_X7_uses cy a_o a_o_text a_o_letter a_o_least a_o_carries a_o_gateOff a_o_worth a_o_kind a_o_most a_o_wishOff a_o_use a_o_toldUp a_o_toldDown a_o_priceUp a_o_priceDown a_o_draftGate a_o_draftCarries a_o_draftWorth a_o_draftKind a_o_draftMost a_o_draftUse a_o_x a_o_bestX a_o_part a_o_row a_o_right a_o_m a_o_given a_o_wasOff o_trace o_typed o_gates o_wishes o_at o_start o_sort o_value o_fault o_drafted o_by o_bestBy o_bestWorth o_isBest o_parts o_use) t) (va_A (w_X7_uses cy a_o a_o_text a_o_letter a_o_least a_o_carries a_o_gateOff a_o_worth a_o_kind a_o_most a_o_wishOff a_o_use a_o_toldUp a_o_toldDown a_o_priceUp a_o_priceDown a_o_draftGate a_o_draftCarries a_o_draftWorth a_o_draftKind a_o_draftMost a_o_draftUse a_o_x a_o_bestX a_o_part a_o_row a_o_right a_o_m a_o_given a_o_wasOff o_trace o_typed o_gates o_wishes o_at o_start o_sort o_value o_fault o_drafted o_by o_bestBy o_bestWorth o_isBest o_parts o_use) sz)) 0 0 (va_A (w_X7_uses cy a_o a_o_text a_o_letter a_o_least a_o_carries a_o_gateOff a_o_worth a_o_kind a_o_most a_o_wishOff a_o_use a_o_toldUp a_o_toldDown a_o_priceUp a_o_priceDown a_o_draftGate a_o_draftCarries a_o_draftWorth a_o_draftKind a_o_draftMost a_o_draftUse a_o_x a_o_bestX a_o_part a_o_row a_o_right a_o_m a_o_given a_o_wasOff o_trace o_typed o_gates o_wishes o_at o_start o_sort o_value o_fault o_drafted o_by o_bestBy o_bestWorth o_isBest o_parts o_use) sz) := by
  refine contrI (S := Unit) (post := fun (r : Int32) (u : Unit) => post r ) (wOut := fun (u : Unit) => (w_X7_uses cy a_o a_o_text a_o_letter a_o_least a_o_carries a_o_gateOff a_o_worth a_o_kind a_o_most a_o_wishOff a_o_use a_o_toldUp a_o_toldDown a_o_priceUp a_o_priceDown a_o_draftGate a_o_draftCarries a_o_draftWorth a_o_draftKind a_o_draftMost a_o_draftUse a_o_x a_o_bestX a_o_part a_o_row a_o_right a_o_m a_o_given a_o_wasOff o_trace o_typed o_gates o_wishes o_at o_start o_sort o_value o_fault o_drafted o_by o_bestBy o_bestWorth o_isBest o_parts o_use)) (cc := cX7_uses) (maxL := 3) (own := RX7) (by decide +kernel) rfl rfl ?_
  intro p e s m args below meth c A Q hx hb hml hown hts hK hN hP hD hS hA hret
  have in_X7 : ∀ w ∈ u_ws RX7 TX7 43, w ∈ wsX7_uses := by decide +kernel
  have fl_39 := hts (.fieldLink RX7 39 "DawnTableModel" "use" "[I") (by decide +kernel)
  refine ent [.ref a_o, .int x1, .int x2] (Nat.le_of_ble_eq_true rfl) (fun ls hl => ?_)
  have hl : lv_has ls 3 [(0, .ref a_o), (1, .int x1), (2, .int x2)] := hl
  unfold wp_X7_uses at h
  refine lv_aload_n hx hb dX7_uses_0 rfl (lv_at hl 0 rfl) ?_
  refine lv_iload_n hx hb dX7_uses_1 rfl (lv_at hl 1 rfl) ?_
  have hC : ([0] : List Nat).map (fun i => ((w_X7_uses cy a_o a_o_text a_o_letter a_o_least a_o_carries a_o_gateOff a_o_worth a_o_kind a_o_most a_o_wishOff a_o_use a_o_toldUp a_o_toldDown a_o_priceUp a_o_priceDown a_o_draftGate a_o_draftCarries a_o_draftWorth a_o_draftKind a_o_draftMost a_o_draftUse a_o_x a_o_bestX a_o_part a_o_row a_o_right a_o_m a_o_given a_o_wasOff o_trace o_typed o_gates o_wishes o_at o_start o_sort o_value o_fault o_drafted o_by o_bestBy o_bestWorth o_isBest o_parts o_use) : va_W)[i]?) = ((w_X7_isWish cy a_o a_o_text a_o_letter a_o_least a_o_carries a_o_gateOff a_o_worth a_o_kind a_o_most a_o_wishOff a_o_use a_o_toldUp a_o_toldDown a_o_priceUp a_o_priceDown a_o_draftGate a_o_draftCarries a_o_draftWorth a_o_draftKind a_o_draftMost a_o_draftUse a_o_x a_o_bestX a_o_part a_o_row a_o_right a_o_m a_o_given a_o_wasOff o_trace o_typed o_gates o_wishes o_at o_start o_sort o_value o_fault o_drafted o_by o_bestBy o_bestWorth o_isBest o_parts) : va_W).map some := rfl
  obtain ⟨hPc, hDc⟩ := cutC hP hD [0] (by decide) hC
  have hFc := va_free hD hS hA [0] hC
  refine va_calli (va_runV (As := [.int x1]) (rest := []) ⟨hx, hb, hml, hown, hts⟩ (c_X7_isWish l D cy a_o a_o_text a_o_letter a_o_least a_o_carries a_o_gateOff a_o_worth a_o_kind a_o_most a_o_wishOff a_o_use a_o_toldUp a_o_toldDown a_o_priceUp a_o_priceDown a_o_draftGate a_o_draftCarries a_o_draftWorth a_o_draftKind a_o_draftMost a_o_draftUse a_o_x a_o_bestX a_o_part a_o_row a_o_right a_o_m a_o_given a_o_wasOff _ h) (cwV 1 hts gX7_uses_X7_isWish rfl rfl rfl (by decide +kernel) ⟨Nat.le_of_ble_eq_true rfl, Nat.le_of_ble_eq_true rfl⟩) (preV hPc hDc hK hN (ci := 7) (q0 := 0) rfl rfl) rfl rfl hl.1 rfl (lv_room (Nat.le_of_ble_eq_true rfl)) dX7_uses_2 ⟨Nat.zero_le _, Nat.zero_le _⟩) hS (fun q _ h => hFc q h) hFc (fun r1 u t H1 locs ht hvm h hB hz1 hk1 hS => ?_)
  try dsimp only at h hB
  obtain ⟨hP, hD⟩ := joinU (wd := (w_X7_uses cy a_o a_o_text a_o_letter a_o_least a_o_carries a_o_gateOff a_o_worth a_o_kind a_o_most a_o_wishOff a_o_use a_o_toldUp a_o_toldDown a_o_priceUp a_o_priceDown a_o_draftGate a_o_draftCarries a_o_draftWorth a_o_draftKind a_o_draftMost a_o_draftUse a_o_x a_o_bestX a_o_part a_o_row a_o_right a_o_m a_o_given a_o_wasOff o_trace o_typed o_gates o_wishes o_at o_start o_sort o_value o_fault o_drafted o_by o_bestBy o_bestWorth o_isBest o_parts o_use)) (wr := [(a_o_use, .inl (cy 1, 20, .inl o_use))]) hP hD [0] [1] [a_o] hC hk1 ht hB rfl rfl rfl (N := 2) rfl (by decide) rfl rfl
  generalize H1 = H at hP hS ⊢
  refine lv_if_eq (tgt := 29) hx hb dX7_uses_5 (by decide) (fun c2 => ?_) (fun c2 => ?_)
  · have h := h.1 c2
    refine lv_iconst (v := -1) hx hb dX7_uses_29 (by decide) ?_
    exact hret (-1 : Int32) () _ _ _ _ h hP hD hS dX7_uses_30
  · have h := h.2 c2
    refine lv_aload_n hx hb dX7_uses_8 rfl (lv_at hl 0 rfl) ?_
    refine lv_iload_n hx hb dX7_uses_9 rfl (lv_at hl 2 rfl) ?_
    have hC : ([0] : List Nat).map (fun i => ((w_X7_uses cy a_o a_o_text a_o_letter a_o_least a_o_carries a_o_gateOff a_o_worth a_o_kind a_o_most a_o_wishOff a_o_use a_o_toldUp a_o_toldDown a_o_priceUp a_o_priceDown a_o_draftGate a_o_draftCarries a_o_draftWorth a_o_draftKind a_o_draftMost a_o_draftUse a_o_x a_o_bestX a_o_part a_o_row a_o_right a_o_m a_o_given a_o_wasOff o_trace o_typed o_gates o_wishes o_at o_start o_sort o_value o_fault o_drafted o_by o_bestBy o_bestWorth o_isBest o_parts o_use) : va_W)[i]?) = ((w_X7_isGate cy a_o a_o_text a_o_letter a_o_least a_o_carries a_o_gateOff a_o_worth a_o_kind a_o_most a_o_wishOff a_o_use a_o_toldUp a_o_toldDown a_o_priceUp a_o_priceDown a_o_draftGate a_o_draftCarries a_o_draftWorth a_o_draftKind a_o_draftMost a_o_draftUse a_o_x a_o_bestX a_o_part a_o_row a_o_right a_o_m a_o_given a_o_wasOff o_trace o_typed o_gates o_wishes o_at o_start o_sort o_value o_fault o_drafted o_by o_bestBy o_bestWorth o_isBest o_parts) : va_W).map some := rfl
    obtain ⟨hPc, hDc⟩ := cutC hP hD [0] (by decide) hC
    have hFc := va_free hD hS hA [0] hC
    refine va_calli (va_runV (As := [.int x2]) (rest := []) ⟨hx, hb, hml, hown, hts⟩ (c_X7_isGate l D cy a_o a_o_text a_o_letter a_o_least a_o_carries a_o_gateOff a_o_worth a_o_kind a_o_most a_o_wishOff a_o_use a_o_toldUp a_o_toldDown a_o_priceUp a_o_priceDown a_o_draftGate a_o_draftCarries a_o_draftWorth a_o_draftKind a_o_draftMost a_o_draftUse a_o_x a_o_bestX a_o_part a_o_row a_o_right a_o_m a_o_given a_o_wasOff _ h) (cwV 1 hts gX7_uses_X7_isGate rfl rfl rfl (by decide +kernel) ⟨Nat.le_of_ble_eq_true rfl, Nat.le_of_ble_eq_true rfl⟩) (preV hPc hDc hK hN (ci := 7) (q0 := 0) rfl rfl) rfl rfl hl.1 rfl (lv_room (Nat.le_of_ble_eq_true rfl)) dX7_uses_10 ⟨Nat.zero_le _, Nat.zero_le _⟩) hS (fun q _ h => hFc q h) hFc (fun r3 u t H1 locs ht hvm h hB hz1 hk1 hS => ?_)
    try dsimp only at h hB
    obtain ⟨hP, hD⟩ := joinU (wd := (w_X7_uses cy a_o a_o_text a_o_letter a_o_least a_o_carries a_o_gateOff a_o_worth a_o_kind a_o_most a_o_wishOff a_o_use a_o_toldUp a_o_toldDown a_o_priceUp a_o_priceDown a_o_draftGate a_o_draftCarries a_o_draftWorth a_o_draftKind a_o_draftMost a_o_draftUse a_o_x a_o_bestX a_o_part a_o_row a_o_right a_o_m a_o_given a_o_wasOff o_trace o_typed o_gates o_wishes o_at o_start o_sort o_value o_fault o_drafted o_by o_bestBy o_bestWorth o_isBest o_parts o_use)) (wr := [(a_o_use, .inl (cy 1, 20, .inl o_use))]) hP hD [0] [1] [a_o] hC hk1 ht hB rfl rfl rfl (N := 2) rfl (by decide) rfl rfl
    generalize H1 = H at hP hS ⊢
    refine lv_if_eq (tgt := 29) hx hb dX7_uses_13 (by decide) (fun c4 => ?_) (fun c4 => ?_)
    · have h := h.1 c4
      refine lv_iconst (v := -1) hx hb dX7_uses_29 (by decide) ?_
      exact hret (-1 : Int32) () _ _ _ _ h hP hD hS dX7_uses_30
    · have h := h.2 c4
      refine lv_aload_n hx hb dX7_uses_16 rfl (lv_at hl 0 rfl) ?_
      refine va_get (D := D) (ci := 7) (v := .ref a_o_use) (C := RX7) (T := TX7) (N := 43) hx hb hts in_X7 hown hK hP 0 rfl rfl 13 (by decide) fl_39 (fun _ h9 => h9) rfl dX7_uses_17 ?_
      refine lv_iconst (v := 5) hx hb dX7_uses_20 (by decide) ?_
      refine lv_iload_n hx hb dX7_uses_21 rfl (lv_at hl 1 rfl) ?_
      refine lv_imul hx hb dX7_uses_22 ?_
      refine lv_iload_n hx hb dX7_uses_23 rfl (lv_at hl 2 rfl) ?_
      refine lv_iadd hx hb dX7_uses_24 ?_
      obtain ⟨i5, h⟩ := h
      refine va_iald hx hb hK hP 1 1 rfl rfl i5 dX7_uses_25 ?_
      refine lv_goto (tgt := 30) hx hb dX7_uses_26 (by decide) ?_
      exact hret (o_use ((((5 : Int32) * x1) + x2)).toNatClampNeg) () _ _ _ _ h hP hD hS dX7_uses_30

def wp_X7_jam  (o_gates : Int32) (o_carries : Nat → Int32) (x1 : Int32) (x2 : Int32) (post : Int32 → (Nat → Int32) → Prop) : Prop :=
  (wp_X7_isGate o_gates x1 (fun (r1 : Int32) => ((r1 = 0 → post (-1 : Int32) o_carries) ∧
   (¬ r1 = 0 → (wp_X7_in ((x2).toInt64) (0 : Int64) (99 : Int64) (fun (r3 : Int32) => ((r3 = 0 → post (-1 : Int32) o_carries) ∧
   (¬ r3 = 0 → (vp_in x1 5 ∧ post (o_carries (x1).toNatClampNeg) (upd o_carries (x1).toNatClampNeg x2))))))))))
abbrev w_X7_jam (cy : Nat → ClassId) (a_o a_o_text a_o_letter a_o_least a_o_carries a_o_gateOff a_o_worth a_o_kind a_o_most a_o_wishOff a_o_use a_o_toldUp a_o_toldDown a_o_priceUp a_o_priceDown a_o_draftGate a_o_draftCarries a_o_draftWorth a_o_draftKind a_o_draftMost a_o_draftUse a_o_x a_o_bestX a_o_part a_o_row a_o_right a_o_m a_o_given a_o_wasOff : Nat) (o_trace : Int64) (o_typed : Int32) (o_gates : Int32) (o_wishes : Int32) (o_at : Int32) (o_start : Int32) (o_sort : Int32) (o_value : Int32) (o_fault : Int32) (o_drafted : Int32) (o_by : Int64) (o_bestBy : Int64) (o_bestWorth : Int64) (o_isBest : Int32) (o_parts : Int32) (o_carries : Nat → Int32) : va_W := [(a_o, .inr (7, [.long o_trace, .ref a_o_text, .int o_typed, .int o_gates, .int o_wishes, .ref a_o_letter, .ref a_o_least, .ref a_o_carries, .ref a_o_gateOff, .ref a_o_worth, .ref a_o_kind, .ref a_o_most, .ref a_o_wishOff, .ref a_o_use, .ref a_o_toldUp, .ref a_o_toldDown, .ref a_o_priceUp, .ref a_o_priceDown, .int o_at, .int o_start, .int o_sort, .int o_value, .int o_fault, .ref a_o_draftGate, .ref a_o_draftCarries, .ref a_o_draftWorth, .ref a_o_draftKind, .ref a_o_draftMost, .ref a_o_draftUse, .int o_drafted, .ref a_o_x, .long o_by, .ref a_o_bestX, .long o_bestBy, .long o_bestWorth, .int o_isBest, .ref a_o_part, .int o_parts, .ref a_o_row, .ref a_o_right, .ref a_o_m, .ref a_o_given, .ref a_o_wasOff])), (a_o_carries, .inl (cy 1, 5, .inl o_carries))]
set_option maxRecDepth 20000 in
theorem ggX7_jam_X7_in : GoodIn wsX7_jam wsX7_in := goodIn_r _ [11] (by decide +kernel) (by decide +kernel)
set_option maxRecDepth 20000 in
theorem ggX7_jam_X7_isGate : GoodIn wsX7_jam wsX7_isGate := goodIn_r _ [7, 8, 9, 10, 6, 11, 12, 13, 14, 15, 16, 17, 18, 19, 20, 21, 22, 23, 24, 25, 26, 27, 28, 29, 30, 31, 32, 33, 34, 35, 36, 37, 38, 39, 40, 41, 42, 43, 44, 45, 46, 47, 48, 49, 50, 51, 52, 53, 54] (by decide +kernel) (by decide +kernel)
set_option maxRecDepth 20000 in
theorem gX7_jam_X7_in : GoodIn wsX7_jam (va_wsS RX7 102 yX7_in wsX7_in) := goodIn_app (goodIn_of _ (by decide +kernel)) ggX7_jam_X7_in
set_option maxRecDepth 20000 in
theorem gX7_jam_X7_isGate : GoodIn wsX7_jam (wsV RX7 188 RX7 yX7_isGate wsX7_isGate) := goodIn_app (goodIn_of _ (by decide +kernel)) ggX7_jam_X7_isGate
set_option maxHeartbeats 4000000 in
set_option maxRecDepth 100000 in
theorem c_X7_jam (l : Launch) (D : va_G) (cy : Nat → ClassId) (a_o a_o_text a_o_letter a_o_least a_o_carries a_o_gateOff a_o_worth a_o_kind a_o_most a_o_wishOff a_o_use a_o_toldUp a_o_toldDown a_o_priceUp a_o_priceDown a_o_draftGate a_o_draftCarries a_o_draftWorth a_o_draftKind a_o_draftMost a_o_draftUse a_o_x a_o_bestX a_o_part a_o_row a_o_right a_o_m a_o_given a_o_wasOff : Nat) (sz : Nat)  {o_trace : Int64} {o_typed : Int32} {o_gates : Int32} {o_wishes : Int32} {o_at : Int32} {o_start : Int32} {o_sort : Int32} {o_value : Int32} {o_fault : Int32} {o_drafted : Int32} {o_by : Int64} {o_bestBy : Int64} {o_bestWorth : Int64} {o_isBest : Int32} {o_parts : Int32} {o_carries : Nat → Int32} {x1 : Int32} {x2 : Int32} {post : Int32 → (Nat → Int32) → Prop} (h : wp_X7_jam o_gates o_carries x1 x2 post) : Met l yX7_jam wsX7_jam ({ frames := 2, cells := 0, slots := 0, locals := 46 }) (va_Pc [.ref a_o, .int x1, .int x2] (wI D cy sz (w_X7_jam cy a_o a_o_text a_o_letter a_o_least a_o_carries a_o_gateOff a_o_worth a_o_kind a_o_most a_o_wishOff a_o_use a_o_toldUp a_o_toldDown a_o_priceUp a_o_priceDown a_o_draftGate a_o_draftCarries a_o_draftWorth a_o_draftKind a_o_draftMost a_o_draftUse a_o_x a_o_bestX a_o_part a_o_row a_o_right a_o_m a_o_given a_o_wasOff o_trace o_typed o_gates o_wishes o_at o_start o_sort o_value o_fault o_drafted o_by o_bestBy o_bestWorth o_isBest o_parts o_carries))) (va_Qi (fun (r : Int32) (u : (Nat → Int32)) => post r u) (fun (u : (Nat → Int32)) t => wO D cy (va_A (w_X7_jam cy a_o a_o_text a_o_letter a_o_least a_o_carries a_o_gateOff a_o_worth a_o_kind a_o_most a_o_wishOff a_o_use a_o_toldUp a_o_toldDown a_o_priceUp a_o_priceDown a_o_draftGate a_o_draftCarries a_o_draftWorth a_o_draftKind a_o_draftMost a_o_draftUse a_o_x a_o_bestX a_o_part a_o_row a_o_right a_o_m a_o_given a_o_wasOff o_trace o_typed o_gates o_wishes o_at o_start o_sort o_value o_fault o_drafted o_by o_bestBy o_bestWorth o_isBest o_parts o_carries) sz) (w_X7_jam cy a_o a_o_text a_o_letter a_o_least a_o_carries a_o_gateOff a_o_worth a_o_kind a_o_most a_o_wishOff a_o_use a_o_toldUp a_o_toldDown a_o_priceUp a_o_priceDown a_o_draftGate a_o_draftCarries a_o_draftWorth a_o_draftKind a_o_draftMost a_o_draftUse a_o_x a_o_bestX a_o_part a_o_row a_o_right a_o_m a_o_given a_o_wasOff o_trace o_typed o_gates o_wishes o_at o_start o_sort o_value o_fault o_drafted o_by o_bestBy o_bestWorth o_isBest o_parts u) t) (va_A (w_X7_jam cy a_o a_o_text a_o_letter a_o_least a_o_carries a_o_gateOff a_o_worth a_o_kind a_o_most a_o_wishOff a_o_use a_o_toldUp a_o_toldDown a_o_priceUp a_o_priceDown a_o_draftGate a_o_draftCarries a_o_draftWorth a_o_draftKind a_o_draftMost a_o_draftUse a_o_x a_o_bestX a_o_part a_o_row a_o_right a_o_m a_o_given a_o_wasOff o_trace o_typed o_gates o_wishes o_at o_start o_sort o_value o_fault o_drafted o_by o_bestBy o_bestWorth o_isBest o_parts o_carries) sz)) 0 0 (va_A (w_X7_jam cy a_o a_o_text a_o_letter a_o_least a_o_carries a_o_gateOff a_o_worth a_o_kind a_o_most a_o_wishOff a_o_use a_o_toldUp a_o_toldDown a_o_priceUp a_o_priceDown a_o_draftGate a_o_draftCarries a_o_draftWorth a_o_draftKind a_o_draftMost a_o_draftUse a_o_x a_o_bestX a_o_part a_o_row a_o_right a_o_m a_o_given a_o_wasOff o_trace o_typed o_gates o_wishes o_at o_start o_sort o_value o_fault o_drafted o_by o_bestBy o_bestWorth o_isBest o_parts o_carries) sz) := by
  refine contrI (S := (Nat → Int32)) (post := fun (r : Int32) (u : (Nat → Int32)) => post r u) (wOut := fun (u : (Nat → Int32)) => (w_X7_jam cy a_o a_o_text a_o_letter a_o_least a_o_carries a_o_gateOff a_o_worth a_o_kind a_o_most a_o_wishOff a_o_use a_o_toldUp a_o_toldDown a_o_priceUp a_o_priceDown a_o_draftGate a_o_draftCarries a_o_draftWorth a_o_draftKind a_o_draftMost a_o_draftUse a_o_x a_o_bestX a_o_part a_o_row a_o_right a_o_m a_o_given a_o_wasOff o_trace o_typed o_gates o_wishes o_at o_start o_sort o_value o_fault o_drafted o_by o_bestBy o_bestWorth o_isBest o_parts u)) (cc := cX7_jam) (maxL := 4) (own := RX7) (by decide +kernel) rfl rfl ?_
  intro p e s m args below meth c A Q hx hb hml hown hts hK hN hP hD hS hA hret
  have in_X7 : ∀ w ∈ u_ws RX7 TX7 43, w ∈ wsX7_jam := by decide +kernel
  have fl_20 := hts (.fieldLink RX7 20 "DawnTableModel" "carries" "[I") (by decide +kernel)
  refine ent [.ref a_o, .int x1, .int x2] (Nat.le_of_ble_eq_true rfl) (fun ls hl => ?_)
  have hl : lv_has ls 4 [(0, .ref a_o), (1, .int x1), (2, .int x2)] := hl
  unfold wp_X7_jam at h
  refine lv_aload_n hx hb dX7_jam_0 rfl (lv_at hl 0 rfl) ?_
  refine lv_iload_n hx hb dX7_jam_1 rfl (lv_at hl 1 rfl) ?_
  have hC : ([0] : List Nat).map (fun i => ((w_X7_jam cy a_o a_o_text a_o_letter a_o_least a_o_carries a_o_gateOff a_o_worth a_o_kind a_o_most a_o_wishOff a_o_use a_o_toldUp a_o_toldDown a_o_priceUp a_o_priceDown a_o_draftGate a_o_draftCarries a_o_draftWorth a_o_draftKind a_o_draftMost a_o_draftUse a_o_x a_o_bestX a_o_part a_o_row a_o_right a_o_m a_o_given a_o_wasOff o_trace o_typed o_gates o_wishes o_at o_start o_sort o_value o_fault o_drafted o_by o_bestBy o_bestWorth o_isBest o_parts o_carries) : va_W)[i]?) = ((w_X7_isGate cy a_o a_o_text a_o_letter a_o_least a_o_carries a_o_gateOff a_o_worth a_o_kind a_o_most a_o_wishOff a_o_use a_o_toldUp a_o_toldDown a_o_priceUp a_o_priceDown a_o_draftGate a_o_draftCarries a_o_draftWorth a_o_draftKind a_o_draftMost a_o_draftUse a_o_x a_o_bestX a_o_part a_o_row a_o_right a_o_m a_o_given a_o_wasOff o_trace o_typed o_gates o_wishes o_at o_start o_sort o_value o_fault o_drafted o_by o_bestBy o_bestWorth o_isBest o_parts) : va_W).map some := rfl
  obtain ⟨hPc, hDc⟩ := cutC hP hD [0] (by decide) hC
  have hFc := va_free hD hS hA [0] hC
  refine va_calli (va_runV (As := [.int x1]) (rest := []) ⟨hx, hb, hml, hown, hts⟩ (c_X7_isGate l D cy a_o a_o_text a_o_letter a_o_least a_o_carries a_o_gateOff a_o_worth a_o_kind a_o_most a_o_wishOff a_o_use a_o_toldUp a_o_toldDown a_o_priceUp a_o_priceDown a_o_draftGate a_o_draftCarries a_o_draftWorth a_o_draftKind a_o_draftMost a_o_draftUse a_o_x a_o_bestX a_o_part a_o_row a_o_right a_o_m a_o_given a_o_wasOff _ h) (cwV 1 hts gX7_jam_X7_isGate rfl rfl rfl (by decide +kernel) ⟨Nat.le_of_ble_eq_true rfl, Nat.le_of_ble_eq_true rfl⟩) (preV hPc hDc hK hN (ci := 7) (q0 := 0) rfl rfl) rfl rfl hl.1 rfl (lv_room (Nat.le_of_ble_eq_true rfl)) dX7_jam_2 ⟨Nat.zero_le _, Nat.zero_le _⟩) hS (fun q _ h => hFc q h) hFc (fun r1 u t H1 locs ht hvm h hB hz1 hk1 hS => ?_)
  try dsimp only at h hB
  obtain ⟨hP, hD⟩ := joinU (wd := (w_X7_jam cy a_o a_o_text a_o_letter a_o_least a_o_carries a_o_gateOff a_o_worth a_o_kind a_o_most a_o_wishOff a_o_use a_o_toldUp a_o_toldDown a_o_priceUp a_o_priceDown a_o_draftGate a_o_draftCarries a_o_draftWorth a_o_draftKind a_o_draftMost a_o_draftUse a_o_x a_o_bestX a_o_part a_o_row a_o_right a_o_m a_o_given a_o_wasOff o_trace o_typed o_gates o_wishes o_at o_start o_sort o_value o_fault o_drafted o_by o_bestBy o_bestWorth o_isBest o_parts o_carries)) (wr := [(a_o_carries, .inl (cy 1, 5, .inl o_carries))]) hP hD [0] [1] [a_o] hC hk1 ht hB rfl rfl rfl (N := 2) rfl (by decide) rfl rfl
  generalize H1 = H at hP hS ⊢
  refine lv_if_eq (tgt := 20) hx hb dX7_jam_5 (by decide) (fun c2 => ?_) (fun c2 => ?_)
  · have h := h.1 c2
    refine lv_iconst (v := -1) hx hb dX7_jam_20 (by decide) ?_
    exact hret (-1 : Int32) (o_carries) _ _ _ _ h hP hD hS dX7_jam_21
  · have h := h.2 c2
    refine lv_iload_n hx hb dX7_jam_8 rfl (lv_at hl 2 rfl) ?_
    refine lv_i2l hx hb dX7_jam_9 rfl ?_
    refine lv_lconst (v := 0) hx hb dX7_jam_10 (by decide) ?_
    refine lv_ldc2 hx hb hown (hts (.constantLong RX7 197 (99)) (by decide +kernel)) dX7_jam_11 ?_
    have hC : ([] : List Nat).map (fun i => ((w_X7_jam cy a_o a_o_text a_o_letter a_o_least a_o_carries a_o_gateOff a_o_worth a_o_kind a_o_most a_o_wishOff a_o_use a_o_toldUp a_o_toldDown a_o_priceUp a_o_priceDown a_o_draftGate a_o_draftCarries a_o_draftWorth a_o_draftKind a_o_draftMost a_o_draftUse a_o_x a_o_bestX a_o_part a_o_row a_o_right a_o_m a_o_given a_o_wasOff o_trace o_typed o_gates o_wishes o_at o_start o_sort o_value o_fault o_drafted o_by o_bestBy o_bestWorth o_isBest o_parts o_carries) : va_W)[i]?) = ((w_X7_in cy ) : va_W).map some := rfl
    obtain ⟨hPc, hDc⟩ := cutC hP hD [] (by decide) hC
    have hFc := va_free hD hS hA [] hC
    refine va_calli (va_runS (As := [.long ((x2).toInt64), .long (0 : Int64), .long (99 : Int64)]) (rest := []) ⟨hx, hb, hml, hown, hts⟩ (c_X7_in l D cy _ h) (va_cwS 3 hts gX7_jam_X7_in rfl rfl rfl (by decide +kernel) ⟨Nat.le_of_ble_eq_true rfl, Nat.le_of_ble_eq_true rfl⟩) (preS hPc hDc hK hN) rfl rfl hl.1 rfl (lv_room (Nat.le_of_ble_eq_true rfl)) dX7_jam_14 ⟨Nat.zero_le _, Nat.zero_le _⟩) hS (fun q _ h => hFc q h) hFc (fun r3 u t H1 locs ht hvm h hB hz1 hk1 hS => ?_)
    try dsimp only at h hB
    obtain ⟨hP, hD⟩ := joinU (wd := (w_X7_jam cy a_o a_o_text a_o_letter a_o_least a_o_carries a_o_gateOff a_o_worth a_o_kind a_o_most a_o_wishOff a_o_use a_o_toldUp a_o_toldDown a_o_priceUp a_o_priceDown a_o_draftGate a_o_draftCarries a_o_draftWorth a_o_draftKind a_o_draftMost a_o_draftUse a_o_x a_o_bestX a_o_part a_o_row a_o_right a_o_m a_o_given a_o_wasOff o_trace o_typed o_gates o_wishes o_at o_start o_sort o_value o_fault o_drafted o_by o_bestBy o_bestWorth o_isBest o_parts o_carries)) (wr := [(a_o, .inr (7, [.long o_trace, .ref a_o_text, .int o_typed, .int o_gates, .int o_wishes, .ref a_o_letter, .ref a_o_least, .ref a_o_carries, .ref a_o_gateOff, .ref a_o_worth, .ref a_o_kind, .ref a_o_most, .ref a_o_wishOff, .ref a_o_use, .ref a_o_toldUp, .ref a_o_toldDown, .ref a_o_priceUp, .ref a_o_priceDown, .int o_at, .int o_start, .int o_sort, .int o_value, .int o_fault, .ref a_o_draftGate, .ref a_o_draftCarries, .ref a_o_draftWorth, .ref a_o_draftKind, .ref a_o_draftMost, .ref a_o_draftUse, .int o_drafted, .ref a_o_x, .long o_by, .ref a_o_bestX, .long o_bestBy, .long o_bestWorth, .int o_isBest, .ref a_o_part, .int o_parts, .ref a_o_row, .ref a_o_right, .ref a_o_m, .ref a_o_given, .ref a_o_wasOff])), (a_o_carries, .inl (cy 1, 5, .inl o_carries))]) hP hD [] [0, 1] [] hC hk1 ht hB rfl rfl rfl (N := 2) rfl (by decide) rfl rfl
    generalize H1 = H at hP hS ⊢
    refine lv_if_ne (tgt := 22) hx hb dX7_jam_17 (by decide) (fun c4 => ?_) (fun c4 => ?_)
    · have h := h.2 c4
      refine lv_aload_n hx hb dX7_jam_22 rfl (lv_at hl 0 rfl) ?_
      refine va_get (D := D) (ci := 7) (v := .ref a_o_carries) (C := RX7) (T := TX7) (N := 43) hx hb hts in_X7 hown hK hP 0 rfl rfl 7 (by decide) fl_20 (fun _ h9 => h9) rfl dX7_jam_23 ?_
      refine lv_iload_n hx hb dX7_jam_26 rfl (lv_at hl 1 rfl) ?_
      obtain ⟨i5, h⟩ := h
      refine va_iald hx hb hK hP 1 1 rfl rfl i5 dX7_jam_27 ?_
      refine lv_istore_n (lv' := [(3, .int (o_carries (x1).toNatClampNeg)), (0, .ref a_o), (1, .int x1), (2, .int x2)]) hx hb dX7_jam_28 rfl hl (by decide) rfl (fun ls hl => ?_)
      refine lv_aload_n hx hb dX7_jam_29 rfl (lv_at hl 1 rfl) ?_
      refine va_get (D := D) (ci := 7) (v := .ref a_o_carries) (C := RX7) (T := TX7) (N := 43) hx hb hts in_X7 hown hK hP 0 rfl rfl 7 (by decide) fl_20 (fun _ h9 => h9) rfl dX7_jam_30 ?_
      refine lv_iload_n hx hb dX7_jam_33 rfl (lv_at hl 2 rfl) ?_
      refine lv_iload_n hx hb dX7_jam_34 rfl (lv_at hl 3 rfl) ?_
      refine va_iast hx hb hK hP hD hS 1 1 rfl rfl i5 dX7_jam_35 (fun H locs hP hD hS => ?_)
      have hP : va_P D vwCl (w_X7_jam cy a_o a_o_text a_o_letter a_o_least a_o_carries a_o_gateOff a_o_worth a_o_kind a_o_most a_o_wishOff a_o_use a_o_toldUp a_o_toldDown a_o_priceUp a_o_priceDown a_o_draftGate a_o_draftCarries a_o_draftWorth a_o_draftKind a_o_draftMost a_o_draftUse a_o_x a_o_bestX a_o_part a_o_row a_o_right a_o_m a_o_given a_o_wasOff o_trace o_typed o_gates o_wishes o_at o_start o_sort o_value o_fault o_drafted o_by o_bestBy o_bestWorth o_isBest o_parts (upd o_carries (x1).toNatClampNeg x2)) H := hP
      have hD : va_D A (w_X7_jam cy a_o a_o_text a_o_letter a_o_least a_o_carries a_o_gateOff a_o_worth a_o_kind a_o_most a_o_wishOff a_o_use a_o_toldUp a_o_toldDown a_o_priceUp a_o_priceDown a_o_draftGate a_o_draftCarries a_o_draftWorth a_o_draftKind a_o_draftMost a_o_draftUse a_o_x a_o_bestX a_o_part a_o_row a_o_right a_o_m a_o_given a_o_wasOff o_trace o_typed o_gates o_wishes o_at o_start o_sort o_value o_fault o_drafted o_by o_bestBy o_bestWorth o_isBest o_parts (upd o_carries (x1).toNatClampNeg x2)) := hD
      refine lv_iload_n hx hb dX7_jam_36 rfl (lv_at hl 0 rfl) ?_
      exact hret (o_carries (x1).toNatClampNeg) ((upd o_carries (x1).toNatClampNeg x2)) _ _ _ _ h hP hD hS dX7_jam_37
    · have h := h.1 c4
      refine lv_iconst (v := -1) hx hb dX7_jam_20 (by decide) ?_
      exact hret (-1 : Int32) (o_carries) _ _ _ _ h hP hD hS dX7_jam_21

def wj_X7_off_105  (x4 : Int32) (o_gates : Int32) (o_wishes : Int32) (o_gateOff : Nat → Int32) (o_wishOff : Nat → Int32) (post : Int32 → (Nat → Int32) → (Nat → Int32) → Prop) : Prop :=
  ((x4 = 0 → post (0 : Int32) o_gateOff o_wishOff) ∧
   (¬ x4 = 0 → post (1 : Int32) o_gateOff o_wishOff))
def wj_X7_off_104  (x4 : Int32) (s1 : Int32) (s2 : Int32) (o_gates : Int32) (o_wishes : Int32) (o_gateOff : Nat → Int32) (o_wishOff : Nat → Int32) (post : Int32 → (Nat → Int32) → (Nat → Int32) → Prop) : Prop :=
  (vp_in s1 4 ∧ wj_X7_off_105 x4 o_gates o_wishes o_gateOff (upd o_wishOff (s1).toNatClampNeg (vp_nar .boolean s2)) post)
def wj_X7_off_85  (x4 : Int32) (s1 : Int32) (s2 : Int32) (o_gates : Int32) (o_wishes : Int32) (o_gateOff : Nat → Int32) (o_wishOff : Nat → Int32) (post : Int32 → (Nat → Int32) → (Nat → Int32) → Prop) : Prop :=
  (vp_in s1 5 ∧ wj_X7_off_105 x4 o_gates o_wishes (upd o_gateOff (s1).toNatClampNeg (vp_nar .boolean s2)) o_wishOff post)
def wj_X7_off_64  (x1 : Int32) (x2 : Int32) (x3 : Int32) (s0 : Int32) (o_gates : Int32) (o_wishes : Int32) (o_gateOff : Nat → Int32) (o_wishOff : Nat → Int32) (post : Int32 → (Nat → Int32) → (Nat → Int32) → Prop) : Prop :=
  ((x1 = 0 → ((x3 = (1 : Int32) → wj_X7_off_85 s0 x2 (1 : Int32) o_gates o_wishes o_gateOff o_wishOff post) ∧
   (¬ x3 = (1 : Int32) → wj_X7_off_85 s0 x2 (0 : Int32) o_gates o_wishes o_gateOff o_wishOff post))) ∧
   (¬ x1 = 0 → ((x3 = (1 : Int32) → wj_X7_off_104 s0 x2 (1 : Int32) o_gates o_wishes o_gateOff o_wishOff post) ∧
   (¬ x3 = (1 : Int32) → wj_X7_off_104 s0 x2 (0 : Int32) o_gates o_wishes o_gateOff o_wishOff post))))
def wj_X7_off_33  (x1 : Int32) (x2 : Int32) (x3 : Int32) (o_gates : Int32) (o_wishes : Int32) (o_gateOff : Nat → Int32) (o_wishOff : Nat → Int32) (post : Int32 → (Nat → Int32) → (Nat → Int32) → Prop) : Prop :=
  (wp_X7_in ((x3).toInt64) (0 : Int64) (1 : Int64) (fun (r6 : Int32) => ((r6 = 0 → post (-1 : Int32) o_gateOff o_wishOff) ∧
   (¬ r6 = 0 → ((x1 = 0 → (vp_in x2 5 ∧ wj_X7_off_64 x1 x2 x3 (o_gateOff (x2).toNatClampNeg) o_gates o_wishes o_gateOff o_wishOff post)) ∧
   (¬ x1 = 0 → (vp_in x2 4 ∧ wj_X7_off_64 x1 x2 x3 (o_wishOff (x2).toNatClampNeg) o_gates o_wishes o_gateOff o_wishOff post)))))))
def wp_X7_off  (o_gates : Int32) (o_wishes : Int32) (o_gateOff : Nat → Int32) (o_wishOff : Nat → Int32) (x1 : Int32) (x2 : Int32) (x3 : Int32) (post : Int32 → (Nat → Int32) → (Nat → Int32) → Prop) : Prop :=
  (wp_X7_in ((x1).toInt64) (0 : Int64) (1 : Int64) (fun (r1 : Int32) => ((r1 = 0 → post (-1 : Int32) o_gateOff o_wishOff) ∧
   (¬ r1 = 0 → ((x1 = 0 → (wp_X7_isGate o_gates x2 (fun (r17 : Int32) => ((r17 = 0 → post (-1 : Int32) o_gateOff o_wishOff) ∧
   (¬ r17 = 0 → wj_X7_off_33 x1 x2 x3 o_gates o_wishes o_gateOff o_wishOff post))))) ∧
   (¬ x1 = 0 → (wp_X7_isWish o_wishes x2 (fun (r4 : Int32) => ((r4 = 0 → post (-1 : Int32) o_gateOff o_wishOff) ∧
   (¬ r4 = 0 → wj_X7_off_33 x1 x2 x3 o_gates o_wishes o_gateOff o_wishOff post))))))))))
abbrev w_X7_off (cy : Nat → ClassId) (a_o a_o_text a_o_letter a_o_least a_o_carries a_o_gateOff a_o_worth a_o_kind a_o_most a_o_wishOff a_o_use a_o_toldUp a_o_toldDown a_o_priceUp a_o_priceDown a_o_draftGate a_o_draftCarries a_o_draftWorth a_o_draftKind a_o_draftMost a_o_draftUse a_o_x a_o_bestX a_o_part a_o_row a_o_right a_o_m a_o_given a_o_wasOff : Nat) (o_trace : Int64) (o_typed : Int32) (o_gates : Int32) (o_wishes : Int32) (o_at : Int32) (o_start : Int32) (o_sort : Int32) (o_value : Int32) (o_fault : Int32) (o_drafted : Int32) (o_by : Int64) (o_bestBy : Int64) (o_bestWorth : Int64) (o_isBest : Int32) (o_parts : Int32) (o_gateOff : Nat → Int32) (o_wishOff : Nat → Int32) : va_W := [(a_o, .inr (7, [.long o_trace, .ref a_o_text, .int o_typed, .int o_gates, .int o_wishes, .ref a_o_letter, .ref a_o_least, .ref a_o_carries, .ref a_o_gateOff, .ref a_o_worth, .ref a_o_kind, .ref a_o_most, .ref a_o_wishOff, .ref a_o_use, .ref a_o_toldUp, .ref a_o_toldDown, .ref a_o_priceUp, .ref a_o_priceDown, .int o_at, .int o_start, .int o_sort, .int o_value, .int o_fault, .ref a_o_draftGate, .ref a_o_draftCarries, .ref a_o_draftWorth, .ref a_o_draftKind, .ref a_o_draftMost, .ref a_o_draftUse, .int o_drafted, .ref a_o_x, .long o_by, .ref a_o_bestX, .long o_bestBy, .long o_bestWorth, .int o_isBest, .ref a_o_part, .int o_parts, .ref a_o_row, .ref a_o_right, .ref a_o_m, .ref a_o_given, .ref a_o_wasOff])), (a_o_gateOff, .inl (cy 3, 5, .inl o_gateOff)), (a_o_wishOff, .inl (cy 3, 4, .inl o_wishOff))]
set_option maxRecDepth 20000 in
theorem ggX7_off_X7_in : GoodIn wsX7_off wsX7_in := goodIn_r _ [6] (by decide +kernel) (by decide +kernel)
set_option maxRecDepth 20000 in
theorem ggX7_off_X7_isGate : GoodIn wsX7_off wsX7_isGate := goodIn_r _ [10, 11, 3, 4, 5, 6, 17, 18, 19, 20, 21, 22, 23, 24, 25, 26, 27, 28, 29, 30, 31, 32, 33, 34, 35, 36, 37, 38, 39, 40, 41, 42, 43, 44, 45, 46, 47, 48, 49, 50, 51, 52, 53, 54, 55, 56, 57, 58, 59] (by decide +kernel) (by decide +kernel)
set_option maxRecDepth 20000 in
theorem ggX7_off_X7_isWish : GoodIn wsX7_off wsX7_isWish := goodIn_r _ [15, 16, 3, 4, 5, 6, 17, 18, 19, 20, 21, 22, 23, 24, 25, 26, 27, 28, 29, 30, 31, 32, 33, 34, 35, 36, 37, 38, 39, 40, 41, 42, 43, 44, 45, 46, 47, 48, 49, 50, 51, 52, 53, 54, 55, 56, 57, 58, 59] (by decide +kernel) (by decide +kernel)
set_option maxRecDepth 20000 in
theorem gX7_off_X7_in : GoodIn wsX7_off (va_wsS RX7 102 yX7_in wsX7_in) := goodIn_app (goodIn_of _ (by decide +kernel)) ggX7_off_X7_in
set_option maxRecDepth 20000 in
theorem gX7_off_X7_isGate : GoodIn wsX7_off (wsV RX7 188 RX7 yX7_isGate wsX7_isGate) := goodIn_app (goodIn_of _ (by decide +kernel)) ggX7_off_X7_isGate
set_option maxRecDepth 20000 in
theorem gX7_off_X7_isWish : GoodIn wsX7_off (wsV RX7 194 RX7 yX7_isWish wsX7_isWish) := goodIn_app (goodIn_of _ (by decide +kernel)) ggX7_off_X7_isWish
set_option maxHeartbeats 4000000 in
set_option maxRecDepth 100000 in
theorem c_X7_off (l : Launch) (D : va_G) (cy : Nat → ClassId) (a_o a_o_text a_o_letter a_o_least a_o_carries a_o_gateOff a_o_worth a_o_kind a_o_most a_o_wishOff a_o_use a_o_toldUp a_o_toldDown a_o_priceUp a_o_priceDown a_o_draftGate a_o_draftCarries a_o_draftWorth a_o_draftKind a_o_draftMost a_o_draftUse a_o_x a_o_bestX a_o_part a_o_row a_o_right a_o_m a_o_given a_o_wasOff : Nat) (sz : Nat)  {o_trace : Int64} {o_typed : Int32} {o_gates : Int32} {o_wishes : Int32} {o_at : Int32} {o_start : Int32} {o_sort : Int32} {o_value : Int32} {o_fault : Int32} {o_drafted : Int32} {o_by : Int64} {o_bestBy : Int64} {o_bestWorth : Int64} {o_isBest : Int32} {o_parts : Int32} {o_gateOff : Nat → Int32} {o_wishOff : Nat → Int32} {x1 : Int32} {x2 : Int32} {x3 : Int32} {post : Int32 → (Nat → Int32) → (Nat → Int32) → Prop} (h : wp_X7_off o_gates o_wishes o_gateOff o_wishOff x1 x2 x3 post) : Met l yX7_off wsX7_off ({ frames := 2, cells := 0, slots := 0, locals := 46 }) (va_Pc [.ref a_o, .int x1, .int x2, .int x3] (wI D cy sz (w_X7_off cy a_o a_o_text a_o_letter a_o_least a_o_carries a_o_gateOff a_o_worth a_o_kind a_o_most a_o_wishOff a_o_use a_o_toldUp a_o_toldDown a_o_priceUp a_o_priceDown a_o_draftGate a_o_draftCarries a_o_draftWorth a_o_draftKind a_o_draftMost a_o_draftUse a_o_x a_o_bestX a_o_part a_o_row a_o_right a_o_m a_o_given a_o_wasOff o_trace o_typed o_gates o_wishes o_at o_start o_sort o_value o_fault o_drafted o_by o_bestBy o_bestWorth o_isBest o_parts o_gateOff o_wishOff))) (va_Qi (fun (r : Int32) (u : (Nat → Int32) × (Nat → Int32)) => post r u.1 u.2) (fun (u : (Nat → Int32) × (Nat → Int32)) t => wO D cy (va_A (w_X7_off cy a_o a_o_text a_o_letter a_o_least a_o_carries a_o_gateOff a_o_worth a_o_kind a_o_most a_o_wishOff a_o_use a_o_toldUp a_o_toldDown a_o_priceUp a_o_priceDown a_o_draftGate a_o_draftCarries a_o_draftWorth a_o_draftKind a_o_draftMost a_o_draftUse a_o_x a_o_bestX a_o_part a_o_row a_o_right a_o_m a_o_given a_o_wasOff o_trace o_typed o_gates o_wishes o_at o_start o_sort o_value o_fault o_drafted o_by o_bestBy o_bestWorth o_isBest o_parts o_gateOff o_wishOff) sz) (w_X7_off cy a_o a_o_text a_o_letter a_o_least a_o_carries a_o_gateOff a_o_worth a_o_kind a_o_most a_o_wishOff a_o_use a_o_toldUp a_o_toldDown a_o_priceUp a_o_priceDown a_o_draftGate a_o_draftCarries a_o_draftWorth a_o_draftKind a_o_draftMost a_o_draftUse a_o_x a_o_bestX a_o_part a_o_row a_o_right a_o_m a_o_given a_o_wasOff o_trace o_typed o_gates o_wishes o_at o_start o_sort o_value o_fault o_drafted o_by o_bestBy o_bestWorth o_isBest o_parts u.1 u.2) t) (va_A (w_X7_off cy a_o a_o_text a_o_letter a_o_least a_o_carries a_o_gateOff a_o_worth a_o_kind a_o_most a_o_wishOff a_o_use a_o_toldUp a_o_toldDown a_o_priceUp a_o_priceDown a_o_draftGate a_o_draftCarries a_o_draftWorth a_o_draftKind a_o_draftMost a_o_draftUse a_o_x a_o_bestX a_o_part a_o_row a_o_right a_o_m a_o_given a_o_wasOff o_trace o_typed o_gates o_wishes o_at o_start o_sort o_value o_fault o_drafted o_by o_bestBy o_bestWorth o_isBest o_parts o_gateOff o_wishOff) sz)) 0 0 (va_A (w_X7_off cy a_o a_o_text a_o_letter a_o_least a_o_carries a_o_gateOff a_o_worth a_o_kind a_o_most a_o_wishOff a_o_use a_o_toldUp a_o_toldDown a_o_priceUp a_o_priceDown a_o_draftGate a_o_draftCarries a_o_draftWorth a_o_draftKind a_o_draftMost a_o_draftUse a_o_x a_o_bestX a_o_part a_o_row a_o_right a_o_m a_o_given a_o_wasOff o_trace o_typed o_gates o_wishes o_at o_start o_sort o_value o_fault o_drafted o_by o_bestBy o_bestWorth o_isBest o_parts o_gateOff o_wishOff) sz) := by
  refine contrI (S := (Nat → Int32) × (Nat → Int32)) (post := fun (r : Int32) (u : (Nat → Int32) × (Nat → Int32)) => post r u.1 u.2) (wOut := fun (u : (Nat → Int32) × (Nat → Int32)) => (w_X7_off cy a_o a_o_text a_o_letter a_o_least a_o_carries a_o_gateOff a_o_worth a_o_kind a_o_most a_o_wishOff a_o_use a_o_toldUp a_o_toldDown a_o_priceUp a_o_priceDown a_o_draftGate a_o_draftCarries a_o_draftWorth a_o_draftKind a_o_draftMost a_o_draftUse a_o_x a_o_bestX a_o_part a_o_row a_o_right a_o_m a_o_given a_o_wasOff o_trace o_typed o_gates o_wishes o_at o_start o_sort o_value o_fault o_drafted o_by o_bestBy o_bestWorth o_isBest o_parts u.1 u.2)) (cc := cX7_off) (maxL := 5) (own := RX7) (by decide +kernel) rfl rfl ?_
  intro p e s m args below meth c A Q hx hb hml hown hts hK hN hP hD hS hA hret
  have in_X7 : ∀ w ∈ u_ws RX7 TX7 43, w ∈ wsX7_off := by decide +kernel
  have fl_36 := hts (.fieldLink RX7 36 "DawnTableModel" "wishOff" "[Z") (by decide +kernel)
  have fl_23 := hts (.fieldLink RX7 23 "DawnTableModel" "gateOff" "[Z") (by decide +kernel)
  have j_105_3 : ∀ (x4 : Int32) (o_gateOff : Nat → Int32) (o_wishOff : Nat → Int32), wj_X7_off_105  x4 o_gates o_wishes o_gateOff o_wishOff  post → ∀ (H : Heap) (locs : List Loc), va_P D vwCl (w_X7_off cy a_o a_o_text a_o_letter a_o_least a_o_carries a_o_gateOff a_o_worth a_o_kind a_o_most a_o_wishOff a_o_use a_o_toldUp a_o_toldDown a_o_priceUp a_o_priceDown a_o_draftGate a_o_draftCarries a_o_draftWorth a_o_draftKind a_o_draftMost a_o_draftUse a_o_x a_o_bestX a_o_part a_o_row a_o_right a_o_m a_o_given a_o_wasOff o_trace o_typed o_gates o_wishes o_at o_start o_sort o_value o_fault o_drafted o_by o_bestBy o_bestWorth o_isBest o_parts o_gateOff o_wishOff) H → va_D A (w_X7_off cy a_o a_o_text a_o_letter a_o_least a_o_carries a_o_gateOff a_o_worth a_o_kind a_o_most a_o_wishOff a_o_use a_o_toldUp a_o_toldDown a_o_priceUp a_o_priceDown a_o_draftGate a_o_draftCarries a_o_draftWorth a_o_draftKind a_o_draftMost a_o_draftUse a_o_x a_o_bestX a_o_part a_o_row a_o_right a_o_m a_o_given a_o_wasOff o_trace o_typed o_gates o_wishes o_at o_start o_sort o_value o_fault o_drafted o_by o_bestBy o_bestWorth o_isBest o_parts o_gateOff o_wishOff) → va_S A s.heap H locs → ∀ (ls : Array Slot), lv_has ls 5 [(4, .int x4)] → W p l e ({ frames := 2, cells := 0, slots := 0, locals := 46 }) s m args below meth c H locs 0 0 Q (F0 m 105 ls []) := by
    intro x4 o_gateOff o_wishOff  h H locs hP hD hS ls hl
    unfold wj_X7_off_105 at h
    refine lv_iload hx hb dX7_off_105 (lv_at hl 0 rfl) ?_
    refine lv_if_eq (tgt := 114) hx hb dX7_off_107 (by decide) (fun c13 => ?_) (fun c13 => ?_)
    · have h := h.1 c13
      refine lv_iconst (v := 0) hx hb dX7_off_114 (by decide) ?_
      exact hret (0 : Int32) (o_gateOff, o_wishOff) _ _ _ _ h hP hD hS dX7_off_115
    · have h := h.2 c13
      refine lv_iconst (v := 1) hx hb dX7_off_110 (by decide) ?_
      refine lv_goto (tgt := 115) hx hb dX7_off_111 (by decide) ?_
      exact hret (1 : Int32) (o_gateOff, o_wishOff) _ _ _ _ h hP hD hS dX7_off_115
  have j_104_2 : ∀ (x4 : Int32) (s1 : Int32) (s2 : Int32) (o_gateOff : Nat → Int32) (o_wishOff : Nat → Int32), wj_X7_off_104  x4 s1 s2 o_gates o_wishes o_gateOff o_wishOff  post → ∀ (H : Heap) (locs : List Loc), va_P D vwCl (w_X7_off cy a_o a_o_text a_o_letter a_o_least a_o_carries a_o_gateOff a_o_worth a_o_kind a_o_most a_o_wishOff a_o_use a_o_toldUp a_o_toldDown a_o_priceUp a_o_priceDown a_o_draftGate a_o_draftCarries a_o_draftWorth a_o_draftKind a_o_draftMost a_o_draftUse a_o_x a_o_bestX a_o_part a_o_row a_o_right a_o_m a_o_given a_o_wasOff o_trace o_typed o_gates o_wishes o_at o_start o_sort o_value o_fault o_drafted o_by o_bestBy o_bestWorth o_isBest o_parts o_gateOff o_wishOff) H → va_D A (w_X7_off cy a_o a_o_text a_o_letter a_o_least a_o_carries a_o_gateOff a_o_worth a_o_kind a_o_most a_o_wishOff a_o_use a_o_toldUp a_o_toldDown a_o_priceUp a_o_priceDown a_o_draftGate a_o_draftCarries a_o_draftWorth a_o_draftKind a_o_draftMost a_o_draftUse a_o_x a_o_bestX a_o_part a_o_row a_o_right a_o_m a_o_given a_o_wasOff o_trace o_typed o_gates o_wishes o_at o_start o_sort o_value o_fault o_drafted o_by o_bestBy o_bestWorth o_isBest o_parts o_gateOff o_wishOff) → va_S A s.heap H locs → ∀ (ls : Array Slot), lv_has ls 5 [(4, .int x4)] → W p l e ({ frames := 2, cells := 0, slots := 0, locals := 46 }) s m args below meth c H locs 0 0 Q (F0 m 104 ls [.int s2, .int s1, .ref a_o_wishOff]) := by
    intro x4 s1 s2 o_gateOff o_wishOff  h H locs hP hD hS ls hl
    unfold wj_X7_off_104 at h
    obtain ⟨i12, h⟩ := h
    refine va_zast hx hb hK hP hD hS 2 3 rfl rfl i12 dX7_off_104 (fun H locs hP hD hS => ?_)
    have hP : va_P D vwCl (w_X7_off cy a_o a_o_text a_o_letter a_o_least a_o_carries a_o_gateOff a_o_worth a_o_kind a_o_most a_o_wishOff a_o_use a_o_toldUp a_o_toldDown a_o_priceUp a_o_priceDown a_o_draftGate a_o_draftCarries a_o_draftWorth a_o_draftKind a_o_draftMost a_o_draftUse a_o_x a_o_bestX a_o_part a_o_row a_o_right a_o_m a_o_given a_o_wasOff o_trace o_typed o_gates o_wishes o_at o_start o_sort o_value o_fault o_drafted o_by o_bestBy o_bestWorth o_isBest o_parts o_gateOff (upd o_wishOff (s1).toNatClampNeg (vp_nar .boolean s2))) H := hP
    have hD : va_D A (w_X7_off cy a_o a_o_text a_o_letter a_o_least a_o_carries a_o_gateOff a_o_worth a_o_kind a_o_most a_o_wishOff a_o_use a_o_toldUp a_o_toldDown a_o_priceUp a_o_priceDown a_o_draftGate a_o_draftCarries a_o_draftWorth a_o_draftKind a_o_draftMost a_o_draftUse a_o_x a_o_bestX a_o_part a_o_row a_o_right a_o_m a_o_given a_o_wasOff o_trace o_typed o_gates o_wishes o_at o_start o_sort o_value o_fault o_drafted o_by o_bestBy o_bestWorth o_isBest o_parts o_gateOff (upd o_wishOff (s1).toNatClampNeg (vp_nar .boolean s2))) := hD
    exact j_105_3 x4 o_gateOff (upd o_wishOff (s1).toNatClampNeg (vp_nar .boolean s2)) h _ _ hP hD hS _ (lv_sub hl [0] rfl)
  have j_85_4 : ∀ (x4 : Int32) (s1 : Int32) (s2 : Int32) (o_gateOff : Nat → Int32) (o_wishOff : Nat → Int32), wj_X7_off_85  x4 s1 s2 o_gates o_wishes o_gateOff o_wishOff  post → ∀ (H : Heap) (locs : List Loc), va_P D vwCl (w_X7_off cy a_o a_o_text a_o_letter a_o_least a_o_carries a_o_gateOff a_o_worth a_o_kind a_o_most a_o_wishOff a_o_use a_o_toldUp a_o_toldDown a_o_priceUp a_o_priceDown a_o_draftGate a_o_draftCarries a_o_draftWorth a_o_draftKind a_o_draftMost a_o_draftUse a_o_x a_o_bestX a_o_part a_o_row a_o_right a_o_m a_o_given a_o_wasOff o_trace o_typed o_gates o_wishes o_at o_start o_sort o_value o_fault o_drafted o_by o_bestBy o_bestWorth o_isBest o_parts o_gateOff o_wishOff) H → va_D A (w_X7_off cy a_o a_o_text a_o_letter a_o_least a_o_carries a_o_gateOff a_o_worth a_o_kind a_o_most a_o_wishOff a_o_use a_o_toldUp a_o_toldDown a_o_priceUp a_o_priceDown a_o_draftGate a_o_draftCarries a_o_draftWorth a_o_draftKind a_o_draftMost a_o_draftUse a_o_x a_o_bestX a_o_part a_o_row a_o_right a_o_m a_o_given a_o_wasOff o_trace o_typed o_gates o_wishes o_at o_start o_sort o_value o_fault o_drafted o_by o_bestBy o_bestWorth o_isBest o_parts o_gateOff o_wishOff) → va_S A s.heap H locs → ∀ (ls : Array Slot), lv_has ls 5 [(4, .int x4)] → W p l e ({ frames := 2, cells := 0, slots := 0, locals := 46 }) s m args below meth c H locs 0 0 Q (F0 m 85 ls [.int s2, .int s1, .ref a_o_gateOff]) := by
    intro x4 s1 s2 o_gateOff o_wishOff  h H locs hP hD hS ls hl
    unfold wj_X7_off_85 at h
    obtain ⟨i15, h⟩ := h
    refine va_zast hx hb hK hP hD hS 1 3 rfl rfl i15 dX7_off_85 (fun H locs hP hD hS => ?_)
    have hP : va_P D vwCl (w_X7_off cy a_o a_o_text a_o_letter a_o_least a_o_carries a_o_gateOff a_o_worth a_o_kind a_o_most a_o_wishOff a_o_use a_o_toldUp a_o_toldDown a_o_priceUp a_o_priceDown a_o_draftGate a_o_draftCarries a_o_draftWorth a_o_draftKind a_o_draftMost a_o_draftUse a_o_x a_o_bestX a_o_part a_o_row a_o_right a_o_m a_o_given a_o_wasOff o_trace o_typed o_gates o_wishes o_at o_start o_sort o_value o_fault o_drafted o_by o_bestBy o_bestWorth o_isBest o_parts (upd o_gateOff (s1).toNatClampNeg (vp_nar .boolean s2)) o_wishOff) H := hP
    have hD : va_D A (w_X7_off cy a_o a_o_text a_o_letter a_o_least a_o_carries a_o_gateOff a_o_worth a_o_kind a_o_most a_o_wishOff a_o_use a_o_toldUp a_o_toldDown a_o_priceUp a_o_priceDown a_o_draftGate a_o_draftCarries a_o_draftWorth a_o_draftKind a_o_draftMost a_o_draftUse a_o_x a_o_bestX a_o_part a_o_row a_o_right a_o_m a_o_given a_o_wasOff o_trace o_typed o_gates o_wishes o_at o_start o_sort o_value o_fault o_drafted o_by o_bestBy o_bestWorth o_isBest o_parts (upd o_gateOff (s1).toNatClampNeg (vp_nar .boolean s2)) o_wishOff) := hD
    refine lv_goto (tgt := 105) hx hb dX7_off_86 (by decide) ?_
    exact j_105_3 x4 (upd o_gateOff (s1).toNatClampNeg (vp_nar .boolean s2)) o_wishOff h _ _ hP hD hS _ (lv_sub hl [0] rfl)
  have j_64_1 : ∀ (x1 : Int32) (x2 : Int32) (x3 : Int32) (s0 : Int32) (o_gateOff : Nat → Int32) (o_wishOff : Nat → Int32), wj_X7_off_64  x1 x2 x3 s0 o_gates o_wishes o_gateOff o_wishOff  post → ∀ (H : Heap) (locs : List Loc), va_P D vwCl (w_X7_off cy a_o a_o_text a_o_letter a_o_least a_o_carries a_o_gateOff a_o_worth a_o_kind a_o_most a_o_wishOff a_o_use a_o_toldUp a_o_toldDown a_o_priceUp a_o_priceDown a_o_draftGate a_o_draftCarries a_o_draftWorth a_o_draftKind a_o_draftMost a_o_draftUse a_o_x a_o_bestX a_o_part a_o_row a_o_right a_o_m a_o_given a_o_wasOff o_trace o_typed o_gates o_wishes o_at o_start o_sort o_value o_fault o_drafted o_by o_bestBy o_bestWorth o_isBest o_parts o_gateOff o_wishOff) H → va_D A (w_X7_off cy a_o a_o_text a_o_letter a_o_least a_o_carries a_o_gateOff a_o_worth a_o_kind a_o_most a_o_wishOff a_o_use a_o_toldUp a_o_toldDown a_o_priceUp a_o_priceDown a_o_draftGate a_o_draftCarries a_o_draftWorth a_o_draftKind a_o_draftMost a_o_draftUse a_o_x a_o_bestX a_o_part a_o_row a_o_right a_o_m a_o_given a_o_wasOff o_trace o_typed o_gates o_wishes o_at o_start o_sort o_value o_fault o_drafted o_by o_bestBy o_bestWorth o_isBest o_parts o_gateOff o_wishOff) → va_S A s.heap H locs → ∀ (ls : Array Slot), lv_has ls 5 [(0, .ref a_o), (1, .int x1), (2, .int x2), (3, .int x3)] → W p l e ({ frames := 2, cells := 0, slots := 0, locals := 46 }) s m args below meth c H locs 0 0 Q (F0 m 64 ls [.int s0]) := by
    intro x1 x2 x3 s0 o_gateOff o_wishOff  h H locs hP hD hS ls hl
    unfold wj_X7_off_64 at h
    refine lv_istore (lv' := [(4, .int s0), (0, .ref a_o), (1, .int x1), (2, .int x2), (3, .int x3)]) hx hb dX7_off_64 hl (by decide) rfl (fun ls hl => ?_)
    refine lv_iload_n hx hb dX7_off_66 rfl (lv_at hl 2 rfl) ?_
    refine lv_if_ne (tgt := 89) hx hb dX7_off_67 (by decide) (fun c10 => ?_) (fun c10 => ?_)
    · have h := h.2 c10
      refine lv_aload_n hx hb dX7_off_89 rfl (lv_at hl 1 rfl) ?_
      refine va_get (D := D) (ci := 7) (v := .ref a_o_wishOff) (C := RX7) (T := TX7) (N := 43) hx hb hts in_X7 hown hK hP 0 rfl rfl 12 (by decide) fl_36 (fun _ h9 => h9) rfl dX7_off_90 ?_
      refine lv_iload_n hx hb dX7_off_93 rfl (lv_at hl 3 rfl) ?_
      refine lv_iload_n hx hb dX7_off_94 rfl (lv_at hl 4 rfl) ?_
      refine lv_iconst (v := 1) hx hb dX7_off_95 (by decide) ?_
      refine lv_icmp_ne (tgt := 103) hx hb dX7_off_96 (by decide) (fun c11 => ?_) (fun c11 => ?_)
      · have h := h.2 c11
        refine lv_iconst (v := 0) hx hb dX7_off_103 (by decide) ?_
        exact j_104_2 s0 x2 (0 : Int32) o_gateOff o_wishOff h _ _ hP hD hS _ (lv_sub hl [0] rfl)
      · have h := h.1 c11
        refine lv_iconst (v := 1) hx hb dX7_off_99 (by decide) ?_
        refine lv_goto (tgt := 104) hx hb dX7_off_100 (by decide) ?_
        exact j_104_2 s0 x2 (1 : Int32) o_gateOff o_wishOff h _ _ hP hD hS _ (lv_sub hl [0] rfl)
    · have h := h.1 c10
      refine lv_aload_n hx hb dX7_off_70 rfl (lv_at hl 1 rfl) ?_
      refine va_get (D := D) (ci := 7) (v := .ref a_o_gateOff) (C := RX7) (T := TX7) (N := 43) hx hb hts in_X7 hown hK hP 0 rfl rfl 8 (by decide) fl_23 (fun _ h9 => h9) rfl dX7_off_71 ?_
      refine lv_iload_n hx hb dX7_off_74 rfl (lv_at hl 3 rfl) ?_
      refine lv_iload_n hx hb dX7_off_75 rfl (lv_at hl 4 rfl) ?_
      refine lv_iconst (v := 1) hx hb dX7_off_76 (by decide) ?_
      refine lv_icmp_ne (tgt := 84) hx hb dX7_off_77 (by decide) (fun c14 => ?_) (fun c14 => ?_)
      · have h := h.2 c14
        refine lv_iconst (v := 0) hx hb dX7_off_84 (by decide) ?_
        exact j_85_4 s0 x2 (0 : Int32) o_gateOff o_wishOff h _ _ hP hD hS _ (lv_sub hl [0] rfl)
      · have h := h.1 c14
        refine lv_iconst (v := 1) hx hb dX7_off_80 (by decide) ?_
        refine lv_goto (tgt := 85) hx hb dX7_off_81 (by decide) ?_
        exact j_85_4 s0 x2 (1 : Int32) o_gateOff o_wishOff h _ _ hP hD hS _ (lv_sub hl [0] rfl)
  have j_33_0 : ∀ (x1 : Int32) (x2 : Int32) (x3 : Int32) (o_gateOff : Nat → Int32) (o_wishOff : Nat → Int32), wj_X7_off_33  x1 x2 x3 o_gates o_wishes o_gateOff o_wishOff  post → ∀ (H : Heap) (locs : List Loc), va_P D vwCl (w_X7_off cy a_o a_o_text a_o_letter a_o_least a_o_carries a_o_gateOff a_o_worth a_o_kind a_o_most a_o_wishOff a_o_use a_o_toldUp a_o_toldDown a_o_priceUp a_o_priceDown a_o_draftGate a_o_draftCarries a_o_draftWorth a_o_draftKind a_o_draftMost a_o_draftUse a_o_x a_o_bestX a_o_part a_o_row a_o_right a_o_m a_o_given a_o_wasOff o_trace o_typed o_gates o_wishes o_at o_start o_sort o_value o_fault o_drafted o_by o_bestBy o_bestWorth o_isBest o_parts o_gateOff o_wishOff) H → va_D A (w_X7_off cy a_o a_o_text a_o_letter a_o_least a_o_carries a_o_gateOff a_o_worth a_o_kind a_o_most a_o_wishOff a_o_use a_o_toldUp a_o_toldDown a_o_priceUp a_o_priceDown a_o_draftGate a_o_draftCarries a_o_draftWorth a_o_draftKind a_o_draftMost a_o_draftUse a_o_x a_o_bestX a_o_part a_o_row a_o_right a_o_m a_o_given a_o_wasOff o_trace o_typed o_gates o_wishes o_at o_start o_sort o_value o_fault o_drafted o_by o_bestBy o_bestWorth o_isBest o_parts o_gateOff o_wishOff) → va_S A s.heap H locs → ∀ (ls : Array Slot), lv_has ls 5 [(0, .ref a_o), (1, .int x1), (2, .int x2), (3, .int x3)] → W p l e ({ frames := 2, cells := 0, slots := 0, locals := 46 }) s m args below meth c H locs 0 0 Q (F0 m 33 ls []) := by
    intro x1 x2 x3 o_gateOff o_wishOff  h H locs hP hD hS ls hl
    unfold wj_X7_off_33 at h
    refine lv_iload_n hx hb dX7_off_33 rfl (lv_at hl 3 rfl) ?_
    refine lv_i2l hx hb dX7_off_34 rfl ?_
    refine lv_lconst (v := 0) hx hb dX7_off_35 (by decide) ?_
    refine lv_lconst (v := 1) hx hb dX7_off_36 (by decide) ?_
    have hC : ([] : List Nat).map (fun i => ((w_X7_off cy a_o a_o_text a_o_letter a_o_least a_o_carries a_o_gateOff a_o_worth a_o_kind a_o_most a_o_wishOff a_o_use a_o_toldUp a_o_toldDown a_o_priceUp a_o_priceDown a_o_draftGate a_o_draftCarries a_o_draftWorth a_o_draftKind a_o_draftMost a_o_draftUse a_o_x a_o_bestX a_o_part a_o_row a_o_right a_o_m a_o_given a_o_wasOff o_trace o_typed o_gates o_wishes o_at o_start o_sort o_value o_fault o_drafted o_by o_bestBy o_bestWorth o_isBest o_parts o_gateOff o_wishOff) : va_W)[i]?) = ((w_X7_in cy ) : va_W).map some := rfl
    obtain ⟨hPc, hDc⟩ := cutC hP hD [] (by decide) hC
    have hFc := va_free hD hS hA [] hC
    refine va_calli (va_runS (As := [.long ((x3).toInt64), .long (0 : Int64), .long (1 : Int64)]) (rest := []) ⟨hx, hb, hml, hown, hts⟩ (c_X7_in l D cy _ h) (va_cwS 3 hts gX7_off_X7_in rfl rfl rfl (by decide +kernel) ⟨Nat.le_of_ble_eq_true rfl, Nat.le_of_ble_eq_true rfl⟩) (preS hPc hDc hK hN) rfl rfl hl.1 rfl (lv_room (Nat.le_of_ble_eq_true rfl)) dX7_off_37 ⟨Nat.zero_le _, Nat.zero_le _⟩) hS (fun q _ h => hFc q h) hFc (fun r6 u t H1 locs ht hvm h hB hz1 hk1 hS => ?_)
    try dsimp only at h hB
    obtain ⟨hP, hD⟩ := joinU (wd := (w_X7_off cy a_o a_o_text a_o_letter a_o_least a_o_carries a_o_gateOff a_o_worth a_o_kind a_o_most a_o_wishOff a_o_use a_o_toldUp a_o_toldDown a_o_priceUp a_o_priceDown a_o_draftGate a_o_draftCarries a_o_draftWorth a_o_draftKind a_o_draftMost a_o_draftUse a_o_x a_o_bestX a_o_part a_o_row a_o_right a_o_m a_o_given a_o_wasOff o_trace o_typed o_gates o_wishes o_at o_start o_sort o_value o_fault o_drafted o_by o_bestBy o_bestWorth o_isBest o_parts o_gateOff o_wishOff)) (wr := [(a_o, .inr (7, [.long o_trace, .ref a_o_text, .int o_typed, .int o_gates, .int o_wishes, .ref a_o_letter, .ref a_o_least, .ref a_o_carries, .ref a_o_gateOff, .ref a_o_worth, .ref a_o_kind, .ref a_o_most, .ref a_o_wishOff, .ref a_o_use, .ref a_o_toldUp, .ref a_o_toldDown, .ref a_o_priceUp, .ref a_o_priceDown, .int o_at, .int o_start, .int o_sort, .int o_value, .int o_fault, .ref a_o_draftGate, .ref a_o_draftCarries, .ref a_o_draftWorth, .ref a_o_draftKind, .ref a_o_draftMost, .ref a_o_draftUse, .int o_drafted, .ref a_o_x, .long o_by, .ref a_o_bestX, .long o_bestBy, .long o_bestWorth, .int o_isBest, .ref a_o_part, .int o_parts, .ref a_o_row, .ref a_o_right, .ref a_o_m, .ref a_o_given, .ref a_o_wasOff])), (a_o_gateOff, .inl (cy 3, 5, .inl o_gateOff)), (a_o_wishOff, .inl (cy 3, 4, .inl o_wishOff))]) hP hD [] [0, 1, 2] [] hC hk1 ht hB rfl rfl rfl (N := 3) rfl (by decide) rfl rfl
    generalize H1 = H at hP hS ⊢
    refine lv_if_ne (tgt := 45) hx hb dX7_off_40 (by decide) (fun c7 => ?_) (fun c7 => ?_)
    · have h := h.2 c7
      refine lv_iload_n hx hb dX7_off_45 rfl (lv_at hl 1 rfl) ?_
      refine lv_if_ne (tgt := 58) hx hb dX7_off_46 (by decide) (fun c8 => ?_) (fun c8 => ?_)
      · have h := h.2 c8
        refine lv_aload_n hx hb dX7_off_58 rfl (lv_at hl 0 rfl) ?_
        refine va_get (D := D) (ci := 7) (v := .ref a_o_wishOff) (C := RX7) (T := TX7) (N := 43) hx hb hts in_X7 hown hK hP 0 rfl rfl 12 (by decide) fl_36 (fun _ h9 => h9) rfl dX7_off_59 ?_
        refine lv_iload_n hx hb dX7_off_62 rfl (lv_at hl 2 rfl) ?_
        obtain ⟨i9, h⟩ := h
        refine va_zald hx hb hK hP 2 3 rfl rfl i9 dX7_off_63 ?_
        exact j_64_1 x1 x2 x3 (o_wishOff (x2).toNatClampNeg) o_gateOff o_wishOff h _ _ hP hD hS _ (lv_sub hl [0, 1, 2, 3] rfl)
      · have h := h.1 c8
        refine lv_aload_n hx hb dX7_off_49 rfl (lv_at hl 0 rfl) ?_
        refine va_get (D := D) (ci := 7) (v := .ref a_o_gateOff) (C := RX7) (T := TX7) (N := 43) hx hb hts in_X7 hown hK hP 0 rfl rfl 8 (by decide) fl_23 (fun _ h9 => h9) rfl dX7_off_50 ?_
        refine lv_iload_n hx hb dX7_off_53 rfl (lv_at hl 2 rfl) ?_
        obtain ⟨i16, h⟩ := h
        refine va_zald hx hb hK hP 1 3 rfl rfl i16 dX7_off_54 ?_
        refine lv_goto (tgt := 64) hx hb dX7_off_55 (by decide) ?_
        exact j_64_1 x1 x2 x3 (o_gateOff (x2).toNatClampNeg) o_gateOff o_wishOff h _ _ hP hD hS _ (lv_sub hl [0, 1, 2, 3] rfl)
    · have h := h.1 c7
      refine lv_iconst (v := -1) hx hb dX7_off_43 (by decide) ?_
      exact hret (-1 : Int32) (o_gateOff, o_wishOff) _ _ _ _ h hP hD hS dX7_off_44
  refine ent [.ref a_o, .int x1, .int x2, .int x3] (Nat.le_of_ble_eq_true rfl) (fun ls hl => ?_)
  have hl : lv_has ls 5 [(0, .ref a_o), (1, .int x1), (2, .int x2), (3, .int x3)] := hl
  unfold wp_X7_off at h
  refine lv_iload_n hx hb dX7_off_0 rfl (lv_at hl 1 rfl) ?_
  refine lv_i2l hx hb dX7_off_1 rfl ?_
  refine lv_lconst (v := 0) hx hb dX7_off_2 (by decide) ?_
  refine lv_lconst (v := 1) hx hb dX7_off_3 (by decide) ?_
  have hC : ([] : List Nat).map (fun i => ((w_X7_off cy a_o a_o_text a_o_letter a_o_least a_o_carries a_o_gateOff a_o_worth a_o_kind a_o_most a_o_wishOff a_o_use a_o_toldUp a_o_toldDown a_o_priceUp a_o_priceDown a_o_draftGate a_o_draftCarries a_o_draftWorth a_o_draftKind a_o_draftMost a_o_draftUse a_o_x a_o_bestX a_o_part a_o_row a_o_right a_o_m a_o_given a_o_wasOff o_trace o_typed o_gates o_wishes o_at o_start o_sort o_value o_fault o_drafted o_by o_bestBy o_bestWorth o_isBest o_parts o_gateOff o_wishOff) : va_W)[i]?) = ((w_X7_in cy ) : va_W).map some := rfl
  obtain ⟨hPc, hDc⟩ := cutC hP hD [] (by decide) hC
  have hFc := va_free hD hS hA [] hC
  refine va_calli (va_runS (As := [.long ((x1).toInt64), .long (0 : Int64), .long (1 : Int64)]) (rest := []) ⟨hx, hb, hml, hown, hts⟩ (c_X7_in l D cy _ h) (va_cwS 3 hts gX7_off_X7_in rfl rfl rfl (by decide +kernel) ⟨Nat.le_of_ble_eq_true rfl, Nat.le_of_ble_eq_true rfl⟩) (preS hPc hDc hK hN) rfl rfl hl.1 rfl (lv_room (Nat.le_of_ble_eq_true rfl)) dX7_off_4 ⟨Nat.zero_le _, Nat.zero_le _⟩) hS (fun q _ h => hFc q h) hFc (fun r1 u t H1 locs ht hvm h hB hz1 hk1 hS => ?_)
  try dsimp only at h hB
  obtain ⟨hP, hD⟩ := joinU (wd := (w_X7_off cy a_o a_o_text a_o_letter a_o_least a_o_carries a_o_gateOff a_o_worth a_o_kind a_o_most a_o_wishOff a_o_use a_o_toldUp a_o_toldDown a_o_priceUp a_o_priceDown a_o_draftGate a_o_draftCarries a_o_draftWorth a_o_draftKind a_o_draftMost a_o_draftUse a_o_x a_o_bestX a_o_part a_o_row a_o_right a_o_m a_o_given a_o_wasOff o_trace o_typed o_gates o_wishes o_at o_start o_sort o_value o_fault o_drafted o_by o_bestBy o_bestWorth o_isBest o_parts o_gateOff o_wishOff)) (wr := [(a_o, .inr (7, [.long o_trace, .ref a_o_text, .int o_typed, .int o_gates, .int o_wishes, .ref a_o_letter, .ref a_o_least, .ref a_o_carries, .ref a_o_gateOff, .ref a_o_worth, .ref a_o_kind, .ref a_o_most, .ref a_o_wishOff, .ref a_o_use, .ref a_o_toldUp, .ref a_o_toldDown, .ref a_o_priceUp, .ref a_o_priceDown, .int o_at, .int o_start, .int o_sort, .int o_value, .int o_fault, .ref a_o_draftGate, .ref a_o_draftCarries, .ref a_o_draftWorth, .ref a_o_draftKind, .ref a_o_draftMost, .ref a_o_draftUse, .int o_drafted, .ref a_o_x, .long o_by, .ref a_o_bestX, .long o_bestBy, .long o_bestWorth, .int o_isBest, .ref a_o_part, .int o_parts, .ref a_o_row, .ref a_o_right, .ref a_o_m, .ref a_o_given, .ref a_o_wasOff])), (a_o_gateOff, .inl (cy 3, 5, .inl o_gateOff)), (a_o_wishOff, .inl (cy 3, 4, .inl o_wishOff))]) hP hD [] [0, 1, 2] [] hC hk1 ht hB rfl rfl rfl (N := 3) rfl (by decide) rfl rfl
  generalize H1 = H at hP hS ⊢
  refine lv_if_eq (tgt := 43) hx hb dX7_off_7 (by decide) (fun c2 => ?_) (fun c2 => ?_)
  · have h := h.1 c2
    refine lv_iconst (v := -1) hx hb dX7_off_43 (by decide) ?_
    exact hret (-1 : Int32) (o_gateOff, o_wishOff) _ _ _ _ h hP hD hS dX7_off_44
  · have h := h.2 c2
    refine lv_iload_n hx hb dX7_off_10 rfl (lv_at hl 1 rfl) ?_
    refine lv_if_ne (tgt := 25) hx hb dX7_off_11 (by decide) (fun c3 => ?_) (fun c3 => ?_)
    · have h := h.2 c3
      refine lv_aload_n hx hb dX7_off_25 rfl (lv_at hl 0 rfl) ?_
      refine lv_iload_n hx hb dX7_off_26 rfl (lv_at hl 2 rfl) ?_
      have hC : ([0] : List Nat).map (fun i => ((w_X7_off cy a_o a_o_text a_o_letter a_o_least a_o_carries a_o_gateOff a_o_worth a_o_kind a_o_most a_o_wishOff a_o_use a_o_toldUp a_o_toldDown a_o_priceUp a_o_priceDown a_o_draftGate a_o_draftCarries a_o_draftWorth a_o_draftKind a_o_draftMost a_o_draftUse a_o_x a_o_bestX a_o_part a_o_row a_o_right a_o_m a_o_given a_o_wasOff o_trace o_typed o_gates o_wishes o_at o_start o_sort o_value o_fault o_drafted o_by o_bestBy o_bestWorth o_isBest o_parts o_gateOff o_wishOff) : va_W)[i]?) = ((w_X7_isWish cy a_o a_o_text a_o_letter a_o_least a_o_carries a_o_gateOff a_o_worth a_o_kind a_o_most a_o_wishOff a_o_use a_o_toldUp a_o_toldDown a_o_priceUp a_o_priceDown a_o_draftGate a_o_draftCarries a_o_draftWorth a_o_draftKind a_o_draftMost a_o_draftUse a_o_x a_o_bestX a_o_part a_o_row a_o_right a_o_m a_o_given a_o_wasOff o_trace o_typed o_gates o_wishes o_at o_start o_sort o_value o_fault o_drafted o_by o_bestBy o_bestWorth o_isBest o_parts) : va_W).map some := rfl
      obtain ⟨hPc, hDc⟩ := cutC hP hD [0] (by decide) hC
      have hFc := va_free hD hS hA [0] hC
      refine va_calli (va_runV (As := [.int x2]) (rest := []) ⟨hx, hb, hml, hown, hts⟩ (c_X7_isWish l D cy a_o a_o_text a_o_letter a_o_least a_o_carries a_o_gateOff a_o_worth a_o_kind a_o_most a_o_wishOff a_o_use a_o_toldUp a_o_toldDown a_o_priceUp a_o_priceDown a_o_draftGate a_o_draftCarries a_o_draftWorth a_o_draftKind a_o_draftMost a_o_draftUse a_o_x a_o_bestX a_o_part a_o_row a_o_right a_o_m a_o_given a_o_wasOff _ h) (cwV 1 hts gX7_off_X7_isWish rfl rfl rfl (by decide +kernel) ⟨Nat.le_of_ble_eq_true rfl, Nat.le_of_ble_eq_true rfl⟩) (preV hPc hDc hK hN (ci := 7) (q0 := 0) rfl rfl) rfl rfl hl.1 rfl (lv_room (Nat.le_of_ble_eq_true rfl)) dX7_off_27 ⟨Nat.zero_le _, Nat.zero_le _⟩) hS (fun q _ h => hFc q h) hFc (fun r4 u t H1 locs ht hvm h hB hz1 hk1 hS => ?_)
      try dsimp only at h hB
      obtain ⟨hP, hD⟩ := joinU (wd := (w_X7_off cy a_o a_o_text a_o_letter a_o_least a_o_carries a_o_gateOff a_o_worth a_o_kind a_o_most a_o_wishOff a_o_use a_o_toldUp a_o_toldDown a_o_priceUp a_o_priceDown a_o_draftGate a_o_draftCarries a_o_draftWorth a_o_draftKind a_o_draftMost a_o_draftUse a_o_x a_o_bestX a_o_part a_o_row a_o_right a_o_m a_o_given a_o_wasOff o_trace o_typed o_gates o_wishes o_at o_start o_sort o_value o_fault o_drafted o_by o_bestBy o_bestWorth o_isBest o_parts o_gateOff o_wishOff)) (wr := [(a_o_gateOff, .inl (cy 3, 5, .inl o_gateOff)), (a_o_wishOff, .inl (cy 3, 4, .inl o_wishOff))]) hP hD [0] [1, 2] [a_o] hC hk1 ht hB rfl rfl rfl (N := 3) rfl (by decide) rfl rfl
      generalize H1 = H at hP hS ⊢
      refine lv_if_eq (tgt := 43) hx hb dX7_off_30 (by decide) (fun c5 => ?_) (fun c5 => ?_)
      · have h := h.1 c5
        refine lv_iconst (v := -1) hx hb dX7_off_43 (by decide) ?_
        exact hret (-1 : Int32) (o_gateOff, o_wishOff) _ _ _ _ h hP hD hS dX7_off_44
      · have h := h.2 c5
        exact j_33_0 x1 x2 x3 o_gateOff o_wishOff h _ _ hP hD hS _ (lv_sub hl [0, 1, 2, 3] rfl)
    · have h := h.1 c3
      refine lv_aload_n hx hb dX7_off_14 rfl (lv_at hl 0 rfl) ?_
      refine lv_iload_n hx hb dX7_off_15 rfl (lv_at hl 2 rfl) ?_
      have hC : ([0] : List Nat).map (fun i => ((w_X7_off cy a_o a_o_text a_o_letter a_o_least a_o_carries a_o_gateOff a_o_worth a_o_kind a_o_most a_o_wishOff a_o_use a_o_toldUp a_o_toldDown a_o_priceUp a_o_priceDown a_o_draftGate a_o_draftCarries a_o_draftWorth a_o_draftKind a_o_draftMost a_o_draftUse a_o_x a_o_bestX a_o_part a_o_row a_o_right a_o_m a_o_given a_o_wasOff o_trace o_typed o_gates o_wishes o_at o_start o_sort o_value o_fault o_drafted o_by o_bestBy o_bestWorth o_isBest o_parts o_gateOff o_wishOff) : va_W)[i]?) = ((w_X7_isGate cy a_o a_o_text a_o_letter a_o_least a_o_carries a_o_gateOff a_o_worth a_o_kind a_o_most a_o_wishOff a_o_use a_o_toldUp a_o_toldDown a_o_priceUp a_o_priceDown a_o_draftGate a_o_draftCarries a_o_draftWorth a_o_draftKind a_o_draftMost a_o_draftUse a_o_x a_o_bestX a_o_part a_o_row a_o_right a_o_m a_o_given a_o_wasOff o_trace o_typed o_gates o_wishes o_at o_start o_sort o_value o_fault o_drafted o_by o_bestBy o_bestWorth o_isBest o_parts) : va_W).map some := rfl
      obtain ⟨hPc, hDc⟩ := cutC hP hD [0] (by decide) hC
      have hFc := va_free hD hS hA [0] hC
      refine va_calli (va_runV (As := [.int x2]) (rest := []) ⟨hx, hb, hml, hown, hts⟩ (c_X7_isGate l D cy a_o a_o_text a_o_letter a_o_least a_o_carries a_o_gateOff a_o_worth a_o_kind a_o_most a_o_wishOff a_o_use a_o_toldUp a_o_toldDown a_o_priceUp a_o_priceDown a_o_draftGate a_o_draftCarries a_o_draftWorth a_o_draftKind a_o_draftMost a_o_draftUse a_o_x a_o_bestX a_o_part a_o_row a_o_right a_o_m a_o_given a_o_wasOff _ h) (cwV 1 hts gX7_off_X7_isGate rfl rfl rfl (by decide +kernel) ⟨Nat.le_of_ble_eq_true rfl, Nat.le_of_ble_eq_true rfl⟩) (preV hPc hDc hK hN (ci := 7) (q0 := 0) rfl rfl) rfl rfl hl.1 rfl (lv_room (Nat.le_of_ble_eq_true rfl)) dX7_off_16 ⟨Nat.zero_le _, Nat.zero_le _⟩) hS (fun q _ h => hFc q h) hFc (fun r17 u t H1 locs ht hvm h hB hz1 hk1 hS => ?_)
      try dsimp only at h hB
      obtain ⟨hP, hD⟩ := joinU (wd := (w_X7_off cy a_o a_o_text a_o_letter a_o_least a_o_carries a_o_gateOff a_o_worth a_o_kind a_o_most a_o_wishOff a_o_use a_o_toldUp a_o_toldDown a_o_priceUp a_o_priceDown a_o_draftGate a_o_draftCarries a_o_draftWorth a_o_draftKind a_o_draftMost a_o_draftUse a_o_x a_o_bestX a_o_part a_o_row a_o_right a_o_m a_o_given a_o_wasOff o_trace o_typed o_gates o_wishes o_at o_start o_sort o_value o_fault o_drafted o_by o_bestBy o_bestWorth o_isBest o_parts o_gateOff o_wishOff)) (wr := [(a_o_gateOff, .inl (cy 3, 5, .inl o_gateOff)), (a_o_wishOff, .inl (cy 3, 4, .inl o_wishOff))]) hP hD [0] [1, 2] [a_o] hC hk1 ht hB rfl rfl rfl (N := 3) rfl (by decide) rfl rfl
      generalize H1 = H at hP hS ⊢
      refine lv_if_eq (tgt := 43) hx hb dX7_off_19 (by decide) (fun c18 => ?_) (fun c18 => ?_)
      · have h := h.1 c18
        refine lv_iconst (v := -1) hx hb dX7_off_43 (by decide) ?_
        exact hret (-1 : Int32) (o_gateOff, o_wishOff) _ _ _ _ h hP hD hS dX7_off_44
      · have h := h.2 c18
        refine lv_goto (tgt := 33) hx hb dX7_off_22 (by decide) ?_
        exact j_33_0 x1 x2 x3 o_gateOff o_wishOff h _ _ hP hD hS _ (lv_sub hl [0, 1, 2, 3] rfl)

def wj_X7_tell_33  (x1 : Int32) (x2 : Int32) (x3 : Int32) (x4 : Int32) (o_gates : Int32) (o_wishes : Int32) (o_toldUp : Nat → Int32) (o_toldDown : Nat → Int32) (o_priceUp : Nat → Int32) (o_priceDown : Nat → Int32) (post : Int32 → (Nat → Int32) → (Nat → Int32) → (Nat → Int32) → (Nat → Int32) → Prop) : Prop :=
  (wp_X7_in ((x3).toInt64) (-999 : Int64) (999 : Int64) (fun (r6 : Int32) => ((r6 = 0 → post (-1 : Int32) o_toldUp o_toldDown o_priceUp o_priceDown) ∧
   (¬ r6 = 0 → (wp_X7_in ((x4).toInt64) (1 : Int64) (12 : Int64) (fun (r8 : Int32) => ((r8 = 0 → post (-1 : Int32) o_toldUp o_toldDown o_priceUp o_priceDown) ∧
   (¬ r8 = 0 → ((x1 = 0 → (vp_in x2 4 ∧ post (1 : Int32) (upd o_toldUp (x2).toNatClampNeg x3) (upd o_toldDown (x2).toNatClampNeg x4) o_priceUp o_priceDown)) ∧
   (¬ x1 = 0 → (vp_in x2 5 ∧ post (1 : Int32) o_toldUp o_toldDown (upd o_priceUp (x2).toNatClampNeg x3) (upd o_priceDown (x2).toNatClampNeg x4))))))))))))
def wp_X7_tell  (o_gates : Int32) (o_wishes : Int32) (o_toldUp : Nat → Int32) (o_toldDown : Nat → Int32) (o_priceUp : Nat → Int32) (o_priceDown : Nat → Int32) (x1 : Int32) (x2 : Int32) (x3 : Int32) (x4 : Int32) (post : Int32 → (Nat → Int32) → (Nat → Int32) → (Nat → Int32) → (Nat → Int32) → Prop) : Prop :=
  (wp_X7_in ((x1).toInt64) (0 : Int64) (1 : Int64) (fun (r1 : Int32) => ((r1 = 0 → post (-1 : Int32) o_toldUp o_toldDown o_priceUp o_priceDown) ∧
   (¬ r1 = 0 → ((x1 = 0 → (wp_X7_isWish o_wishes x2 (fun (r13 : Int32) => ((r13 = 0 → post (-1 : Int32) o_toldUp o_toldDown o_priceUp o_priceDown) ∧
   (¬ r13 = 0 → wj_X7_tell_33 x1 x2 x3 x4 o_gates o_wishes o_toldUp o_toldDown o_priceUp o_priceDown post))))) ∧
   (¬ x1 = 0 → (wp_X7_isGate o_gates x2 (fun (r4 : Int32) => ((r4 = 0 → post (-1 : Int32) o_toldUp o_toldDown o_priceUp o_priceDown) ∧
   (¬ r4 = 0 → wj_X7_tell_33 x1 x2 x3 x4 o_gates o_wishes o_toldUp o_toldDown o_priceUp o_priceDown post))))))))))
abbrev w_X7_tell (cy : Nat → ClassId) (a_o a_o_text a_o_letter a_o_least a_o_carries a_o_gateOff a_o_worth a_o_kind a_o_most a_o_wishOff a_o_use a_o_toldUp a_o_toldDown a_o_priceUp a_o_priceDown a_o_draftGate a_o_draftCarries a_o_draftWorth a_o_draftKind a_o_draftMost a_o_draftUse a_o_x a_o_bestX a_o_part a_o_row a_o_right a_o_m a_o_given a_o_wasOff : Nat) (o_trace : Int64) (o_typed : Int32) (o_gates : Int32) (o_wishes : Int32) (o_at : Int32) (o_start : Int32) (o_sort : Int32) (o_value : Int32) (o_fault : Int32) (o_drafted : Int32) (o_by : Int64) (o_bestBy : Int64) (o_bestWorth : Int64) (o_isBest : Int32) (o_parts : Int32) (o_toldUp : Nat → Int32) (o_toldDown : Nat → Int32) (o_priceUp : Nat → Int32) (o_priceDown : Nat → Int32) : va_W := [(a_o, .inr (7, [.long o_trace, .ref a_o_text, .int o_typed, .int o_gates, .int o_wishes, .ref a_o_letter, .ref a_o_least, .ref a_o_carries, .ref a_o_gateOff, .ref a_o_worth, .ref a_o_kind, .ref a_o_most, .ref a_o_wishOff, .ref a_o_use, .ref a_o_toldUp, .ref a_o_toldDown, .ref a_o_priceUp, .ref a_o_priceDown, .int o_at, .int o_start, .int o_sort, .int o_value, .int o_fault, .ref a_o_draftGate, .ref a_o_draftCarries, .ref a_o_draftWorth, .ref a_o_draftKind, .ref a_o_draftMost, .ref a_o_draftUse, .int o_drafted, .ref a_o_x, .long o_by, .ref a_o_bestX, .long o_bestBy, .long o_bestWorth, .int o_isBest, .ref a_o_part, .int o_parts, .ref a_o_row, .ref a_o_right, .ref a_o_m, .ref a_o_given, .ref a_o_wasOff])), (a_o_toldUp, .inl (cy 1, 4, .inl o_toldUp)), (a_o_toldDown, .inl (cy 1, 4, .inl o_toldDown)), (a_o_priceUp, .inl (cy 1, 5, .inl o_priceUp)), (a_o_priceDown, .inl (cy 1, 5, .inl o_priceDown))]
set_option maxRecDepth 20000 in
theorem ggX7_tell_X7_in : GoodIn wsX7_tell wsX7_in := goodIn_r _ [11] (by decide +kernel) (by decide +kernel)
set_option maxRecDepth 20000 in
theorem ggX7_tell_X7_isGate : GoodIn wsX7_tell wsX7_isGate := goodIn_r _ [20, 21, 8, 9, 10, 11, 22, 23, 24, 25, 26, 27, 28, 29, 30, 31, 32, 33, 34, 35, 36, 37, 38, 39, 40, 41, 42, 43, 44, 45, 46, 47, 48, 49, 50, 51, 52, 53, 54, 55, 56, 57, 58, 59, 60, 61, 62, 63, 64] (by decide +kernel) (by decide +kernel)
set_option maxRecDepth 20000 in
theorem ggX7_tell_X7_isWish : GoodIn wsX7_tell wsX7_isWish := goodIn_r _ [15, 16, 8, 9, 10, 11, 22, 23, 24, 25, 26, 27, 28, 29, 30, 31, 32, 33, 34, 35, 36, 37, 38, 39, 40, 41, 42, 43, 44, 45, 46, 47, 48, 49, 50, 51, 52, 53, 54, 55, 56, 57, 58, 59, 60, 61, 62, 63, 64] (by decide +kernel) (by decide +kernel)
set_option maxRecDepth 20000 in
theorem gX7_tell_X7_in : GoodIn wsX7_tell (va_wsS RX7 102 yX7_in wsX7_in) := goodIn_app (goodIn_of _ (by decide +kernel)) ggX7_tell_X7_in
set_option maxRecDepth 20000 in
theorem gX7_tell_X7_isGate : GoodIn wsX7_tell (wsV RX7 188 RX7 yX7_isGate wsX7_isGate) := goodIn_app (goodIn_of _ (by decide +kernel)) ggX7_tell_X7_isGate
set_option maxRecDepth 20000 in
theorem gX7_tell_X7_isWish : GoodIn wsX7_tell (wsV RX7 194 RX7 yX7_isWish wsX7_isWish) := goodIn_app (goodIn_of _ (by decide +kernel)) ggX7_tell_X7_isWish
set_option maxHeartbeats 4000000 in
set_option maxRecDepth 100000 in
theorem c_X7_tell (l : Launch) (D : va_G) (cy : Nat → ClassId) (a_o a_o_text a_o_letter a_o_least a_o_carries a_o_gateOff a_o_worth a_o_kind a_o_most a_o_wishOff a_o_use a_o_toldUp a_o_toldDown a_o_priceUp a_o_priceDown a_o_draftGate a_o_draftCarries a_o_draftWorth a_o_draftKind a_o_draftMost a_o_draftUse a_o_x a_o_bestX a_o_part a_o_row a_o_right a_o_m a_o_given a_o_wasOff : Nat) (sz : Nat)  {o_trace : Int64} {o_typed : Int32} {o_gates : Int32} {o_wishes : Int32} {o_at : Int32} {o_start : Int32} {o_sort : Int32} {o_value : Int32} {o_fault : Int32} {o_drafted : Int32} {o_by : Int64} {o_bestBy : Int64} {o_bestWorth : Int64} {o_isBest : Int32} {o_parts : Int32} {o_toldUp : Nat → Int32} {o_toldDown : Nat → Int32} {o_priceUp : Nat → Int32} {o_priceDown : Nat → Int32} {x1 : Int32} {x2 : Int32} {x3 : Int32} {x4 : Int32} {post : Int32 → (Nat → Int32) → (Nat → Int32) → (Nat → Int32) → (Nat → Int32) → Prop} (h : wp_X7_tell o_gates o_wishes o_toldUp o_toldDown o_priceUp o_priceDown x1 x2 x3 x4 post) : Met l yX7_tell wsX7_tell ({ frames := 2, cells := 0, slots := 0, locals := 46 }) (va_Pc [.ref a_o, .int x1, .int x2, .int x3, .int x4] (wI D cy sz (w_X7_tell cy a_o a_o_text a_o_letter a_o_least a_o_carries a_o_gateOff a_o_worth a_o_kind a_o_most a_o_wishOff a_o_use a_o_toldUp a_o_toldDown a_o_priceUp a_o_priceDown a_o_draftGate a_o_draftCarries a_o_draftWorth a_o_draftKind a_o_draftMost a_o_draftUse a_o_x a_o_bestX a_o_part a_o_row a_o_right a_o_m a_o_given a_o_wasOff o_trace o_typed o_gates o_wishes o_at o_start o_sort o_value o_fault o_drafted o_by o_bestBy o_bestWorth o_isBest o_parts o_toldUp o_toldDown o_priceUp o_priceDown))) (va_Qi (fun (r : Int32) (u : (Nat → Int32) × (Nat → Int32) × (Nat → Int32) × (Nat → Int32)) => post r u.1 u.2.1 u.2.2.1 u.2.2.2) (fun (u : (Nat → Int32) × (Nat → Int32) × (Nat → Int32) × (Nat → Int32)) t => wO D cy (va_A (w_X7_tell cy a_o a_o_text a_o_letter a_o_least a_o_carries a_o_gateOff a_o_worth a_o_kind a_o_most a_o_wishOff a_o_use a_o_toldUp a_o_toldDown a_o_priceUp a_o_priceDown a_o_draftGate a_o_draftCarries a_o_draftWorth a_o_draftKind a_o_draftMost a_o_draftUse a_o_x a_o_bestX a_o_part a_o_row a_o_right a_o_m a_o_given a_o_wasOff o_trace o_typed o_gates o_wishes o_at o_start o_sort o_value o_fault o_drafted o_by o_bestBy o_bestWorth o_isBest o_parts o_toldUp o_toldDown o_priceUp o_priceDown) sz) (w_X7_tell cy a_o a_o_text a_o_letter a_o_least a_o_carries a_o_gateOff a_o_worth a_o_kind a_o_most a_o_wishOff a_o_use a_o_toldUp a_o_toldDown a_o_priceUp a_o_priceDown a_o_draftGate a_o_draftCarries a_o_draftWorth a_o_draftKind a_o_draftMost a_o_draftUse a_o_x a_o_bestX a_o_part a_o_row a_o_right a_o_m a_o_given a_o_wasOff o_trace o_typed o_gates o_wishes o_at o_start o_sort o_value o_fault o_drafted o_by o_bestBy o_bestWorth o_isBest o_parts u.1 u.2.1 u.2.2.1 u.2.2.2) t) (va_A (w_X7_tell cy a_o a_o_text a_o_letter a_o_least a_o_carries a_o_gateOff a_o_worth a_o_kind a_o_most a_o_wishOff a_o_use a_o_toldUp a_o_toldDown a_o_priceUp a_o_priceDown a_o_draftGate a_o_draftCarries a_o_draftWorth a_o_draftKind a_o_draftMost a_o_draftUse a_o_x a_o_bestX a_o_part a_o_row a_o_right a_o_m a_o_given a_o_wasOff o_trace o_typed o_gates o_wishes o_at o_start o_sort o_value o_fault o_drafted o_by o_bestBy o_bestWorth o_isBest o_parts o_toldUp o_toldDown o_priceUp o_priceDown) sz)) 0 0 (va_A (w_X7_tell cy a_o a_o_text a_o_letter a_o_least a_o_carries a_o_gateOff a_o_worth a_o_kind a_o_most a_o_wishOff a_o_use a_o_toldUp a_o_toldDown a_o_priceUp a_o_priceDown a_o_draftGate a_o_draftCarries a_o_draftWorth a_o_draftKind a_o_draftMost a_o_draftUse a_o_x a_o_bestX a_o_part a_o_row a_o_right a_o_m a_o_given a_o_wasOff o_trace o_typed o_gates o_wishes o_at o_start o_sort o_value o_fault o_drafted o_by o_bestBy o_bestWorth o_isBest o_parts o_toldUp o_toldDown o_priceUp o_priceDown) sz) := by
  refine contrI (S := (Nat → Int32) × (Nat → Int32) × (Nat → Int32) × (Nat → Int32)) (post := fun (r : Int32) (u : (Nat → Int32) × (Nat → Int32) × (Nat → Int32) × (Nat → Int32)) => post r u.1 u.2.1 u.2.2.1 u.2.2.2) (wOut := fun (u : (Nat → Int32) × (Nat → Int32) × (Nat → Int32) × (Nat → Int32)) => (w_X7_tell cy a_o a_o_text a_o_letter a_o_least a_o_carries a_o_gateOff a_o_worth a_o_kind a_o_most a_o_wishOff a_o_use a_o_toldUp a_o_toldDown a_o_priceUp a_o_priceDown a_o_draftGate a_o_draftCarries a_o_draftWorth a_o_draftKind a_o_draftMost a_o_draftUse a_o_x a_o_bestX a_o_part a_o_row a_o_right a_o_m a_o_given a_o_wasOff o_trace o_typed o_gates o_wishes o_at o_start o_sort o_value o_fault o_drafted o_by o_bestBy o_bestWorth o_isBest o_parts u.1 u.2.1 u.2.2.1 u.2.2.2)) (cc := cX7_tell) (maxL := 5) (own := RX7) (by decide +kernel) rfl rfl ?_
  intro p e s m args below meth c A Q hx hb hml hown hts hK hN hP hD hS hA hret
  have in_X7 : ∀ w ∈ u_ws RX7 TX7 43, w ∈ wsX7_tell := by decide +kernel
  have fl_48 := hts (.fieldLink RX7 48 "DawnTableModel" "priceUp" "[I") (by decide +kernel)
  have fl_51 := hts (.fieldLink RX7 51 "DawnTableModel" "priceDown" "[I") (by decide +kernel)
  have fl_42 := hts (.fieldLink RX7 42 "DawnTableModel" "toldUp" "[I") (by decide +kernel)
  have fl_45 := hts (.fieldLink RX7 45 "DawnTableModel" "toldDown" "[I") (by decide +kernel)
  have j_33_0 : ∀ (x1 : Int32) (x2 : Int32) (x3 : Int32) (x4 : Int32) (o_toldUp : Nat → Int32) (o_toldDown : Nat → Int32) (o_priceUp : Nat → Int32) (o_priceDown : Nat → Int32), wj_X7_tell_33  x1 x2 x3 x4 o_gates o_wishes o_toldUp o_toldDown o_priceUp o_priceDown  post → ∀ (H : Heap) (locs : List Loc), va_P D vwCl (w_X7_tell cy a_o a_o_text a_o_letter a_o_least a_o_carries a_o_gateOff a_o_worth a_o_kind a_o_most a_o_wishOff a_o_use a_o_toldUp a_o_toldDown a_o_priceUp a_o_priceDown a_o_draftGate a_o_draftCarries a_o_draftWorth a_o_draftKind a_o_draftMost a_o_draftUse a_o_x a_o_bestX a_o_part a_o_row a_o_right a_o_m a_o_given a_o_wasOff o_trace o_typed o_gates o_wishes o_at o_start o_sort o_value o_fault o_drafted o_by o_bestBy o_bestWorth o_isBest o_parts o_toldUp o_toldDown o_priceUp o_priceDown) H → va_D A (w_X7_tell cy a_o a_o_text a_o_letter a_o_least a_o_carries a_o_gateOff a_o_worth a_o_kind a_o_most a_o_wishOff a_o_use a_o_toldUp a_o_toldDown a_o_priceUp a_o_priceDown a_o_draftGate a_o_draftCarries a_o_draftWorth a_o_draftKind a_o_draftMost a_o_draftUse a_o_x a_o_bestX a_o_part a_o_row a_o_right a_o_m a_o_given a_o_wasOff o_trace o_typed o_gates o_wishes o_at o_start o_sort o_value o_fault o_drafted o_by o_bestBy o_bestWorth o_isBest o_parts o_toldUp o_toldDown o_priceUp o_priceDown) → va_S A s.heap H locs → ∀ (ls : Array Slot), lv_has ls 5 [(0, .ref a_o), (1, .int x1), (2, .int x2), (3, .int x3), (4, .int x4)] → W p l e ({ frames := 2, cells := 0, slots := 0, locals := 46 }) s m args below meth c H locs 0 0 Q (F0 m 33 ls []) := by
    intro x1 x2 x3 x4 o_toldUp o_toldDown o_priceUp o_priceDown  h H locs hP hD hS ls hl
    unfold wj_X7_tell_33 at h
    refine lv_iload_n hx hb dX7_tell_33 rfl (lv_at hl 3 rfl) ?_
    refine lv_i2l hx hb dX7_tell_34 rfl ?_
    refine lv_ldc2 hx hb hown (hts (.constantLong RX7 256 (-999)) (by decide +kernel)) dX7_tell_35 ?_
    refine lv_ldc2 hx hb hown (hts (.constantLong RX7 258 (999)) (by decide +kernel)) dX7_tell_38 ?_
    have hC : ([] : List Nat).map (fun i => ((w_X7_tell cy a_o a_o_text a_o_letter a_o_least a_o_carries a_o_gateOff a_o_worth a_o_kind a_o_most a_o_wishOff a_o_use a_o_toldUp a_o_toldDown a_o_priceUp a_o_priceDown a_o_draftGate a_o_draftCarries a_o_draftWorth a_o_draftKind a_o_draftMost a_o_draftUse a_o_x a_o_bestX a_o_part a_o_row a_o_right a_o_m a_o_given a_o_wasOff o_trace o_typed o_gates o_wishes o_at o_start o_sort o_value o_fault o_drafted o_by o_bestBy o_bestWorth o_isBest o_parts o_toldUp o_toldDown o_priceUp o_priceDown) : va_W)[i]?) = ((w_X7_in cy ) : va_W).map some := rfl
    obtain ⟨hPc, hDc⟩ := cutC hP hD [] (by decide) hC
    have hFc := va_free hD hS hA [] hC
    refine va_calli (va_runS (As := [.long ((x3).toInt64), .long (-999 : Int64), .long (999 : Int64)]) (rest := []) ⟨hx, hb, hml, hown, hts⟩ (c_X7_in l D cy _ h) (va_cwS 3 hts gX7_tell_X7_in rfl rfl rfl (by decide +kernel) ⟨Nat.le_of_ble_eq_true rfl, Nat.le_of_ble_eq_true rfl⟩) (preS hPc hDc hK hN) rfl rfl hl.1 rfl (lv_room (Nat.le_of_ble_eq_true rfl)) dX7_tell_41 ⟨Nat.zero_le _, Nat.zero_le _⟩) hS (fun q _ h => hFc q h) hFc (fun r6 u t H1 locs ht hvm h hB hz1 hk1 hS => ?_)
    try dsimp only at h hB
    obtain ⟨hP, hD⟩ := joinU (wd := (w_X7_tell cy a_o a_o_text a_o_letter a_o_least a_o_carries a_o_gateOff a_o_worth a_o_kind a_o_most a_o_wishOff a_o_use a_o_toldUp a_o_toldDown a_o_priceUp a_o_priceDown a_o_draftGate a_o_draftCarries a_o_draftWorth a_o_draftKind a_o_draftMost a_o_draftUse a_o_x a_o_bestX a_o_part a_o_row a_o_right a_o_m a_o_given a_o_wasOff o_trace o_typed o_gates o_wishes o_at o_start o_sort o_value o_fault o_drafted o_by o_bestBy o_bestWorth o_isBest o_parts o_toldUp o_toldDown o_priceUp o_priceDown)) (wr := [(a_o, .inr (7, [.long o_trace, .ref a_o_text, .int o_typed, .int o_gates, .int o_wishes, .ref a_o_letter, .ref a_o_least, .ref a_o_carries, .ref a_o_gateOff, .ref a_o_worth, .ref a_o_kind, .ref a_o_most, .ref a_o_wishOff, .ref a_o_use, .ref a_o_toldUp, .ref a_o_toldDown, .ref a_o_priceUp, .ref a_o_priceDown, .int o_at, .int o_start, .int o_sort, .int o_value, .int o_fault, .ref a_o_draftGate, .ref a_o_draftCarries, .ref a_o_draftWorth, .ref a_o_draftKind, .ref a_o_draftMost, .ref a_o_draftUse, .int o_drafted, .ref a_o_x, .long o_by, .ref a_o_bestX, .long o_bestBy, .long o_bestWorth, .int o_isBest, .ref a_o_part, .int o_parts, .ref a_o_row, .ref a_o_right, .ref a_o_m, .ref a_o_given, .ref a_o_wasOff])), (a_o_toldUp, .inl (cy 1, 4, .inl o_toldUp)), (a_o_toldDown, .inl (cy 1, 4, .inl o_toldDown)), (a_o_priceUp, .inl (cy 1, 5, .inl o_priceUp)), (a_o_priceDown, .inl (cy 1, 5, .inl o_priceDown))]) hP hD [] [0, 1, 2, 3, 4] [] hC hk1 ht hB rfl rfl rfl (N := 5) rfl (by decide) rfl rfl
    generalize H1 = H at hP hS ⊢
    refine lv_if_eq (tgt := 60) hx hb dX7_tell_44 (by decide) (fun c7 => ?_) (fun c7 => ?_)
    · have h := h.1 c7
      refine lv_iconst (v := -1) hx hb dX7_tell_60 (by decide) ?_
      exact hret (-1 : Int32) (o_toldUp, o_toldDown, o_priceUp, o_priceDown) _ _ _ _ h hP hD hS dX7_tell_61
    · have h := h.2 c7
      refine lv_iload hx hb dX7_tell_47 (lv_at hl 4 rfl) ?_
      refine lv_i2l hx hb dX7_tell_49 rfl ?_
      refine lv_lconst (v := 1) hx hb dX7_tell_50 (by decide) ?_
      refine lv_ldc2 hx hb hown (hts (.constantLong RX7 260 (12)) (by decide +kernel)) dX7_tell_51 ?_
      have hC : ([] : List Nat).map (fun i => ((w_X7_tell cy a_o a_o_text a_o_letter a_o_least a_o_carries a_o_gateOff a_o_worth a_o_kind a_o_most a_o_wishOff a_o_use a_o_toldUp a_o_toldDown a_o_priceUp a_o_priceDown a_o_draftGate a_o_draftCarries a_o_draftWorth a_o_draftKind a_o_draftMost a_o_draftUse a_o_x a_o_bestX a_o_part a_o_row a_o_right a_o_m a_o_given a_o_wasOff o_trace o_typed o_gates o_wishes o_at o_start o_sort o_value o_fault o_drafted o_by o_bestBy o_bestWorth o_isBest o_parts o_toldUp o_toldDown o_priceUp o_priceDown) : va_W)[i]?) = ((w_X7_in cy ) : va_W).map some := rfl
      obtain ⟨hPc, hDc⟩ := cutC hP hD [] (by decide) hC
      have hFc := va_free hD hS hA [] hC
      refine va_calli (va_runS (As := [.long ((x4).toInt64), .long (1 : Int64), .long (12 : Int64)]) (rest := []) ⟨hx, hb, hml, hown, hts⟩ (c_X7_in l D cy _ h) (va_cwS 3 hts gX7_tell_X7_in rfl rfl rfl (by decide +kernel) ⟨Nat.le_of_ble_eq_true rfl, Nat.le_of_ble_eq_true rfl⟩) (preS hPc hDc hK hN) rfl rfl hl.1 rfl (lv_room (Nat.le_of_ble_eq_true rfl)) dX7_tell_54 ⟨Nat.zero_le _, Nat.zero_le _⟩) hS (fun q _ h => hFc q h) hFc (fun r8 u t H1 locs ht hvm h hB hz1 hk1 hS => ?_)
      try dsimp only at h hB
      obtain ⟨hP, hD⟩ := joinU (wd := (w_X7_tell cy a_o a_o_text a_o_letter a_o_least a_o_carries a_o_gateOff a_o_worth a_o_kind a_o_most a_o_wishOff a_o_use a_o_toldUp a_o_toldDown a_o_priceUp a_o_priceDown a_o_draftGate a_o_draftCarries a_o_draftWorth a_o_draftKind a_o_draftMost a_o_draftUse a_o_x a_o_bestX a_o_part a_o_row a_o_right a_o_m a_o_given a_o_wasOff o_trace o_typed o_gates o_wishes o_at o_start o_sort o_value o_fault o_drafted o_by o_bestBy o_bestWorth o_isBest o_parts o_toldUp o_toldDown o_priceUp o_priceDown)) (wr := [(a_o, .inr (7, [.long o_trace, .ref a_o_text, .int o_typed, .int o_gates, .int o_wishes, .ref a_o_letter, .ref a_o_least, .ref a_o_carries, .ref a_o_gateOff, .ref a_o_worth, .ref a_o_kind, .ref a_o_most, .ref a_o_wishOff, .ref a_o_use, .ref a_o_toldUp, .ref a_o_toldDown, .ref a_o_priceUp, .ref a_o_priceDown, .int o_at, .int o_start, .int o_sort, .int o_value, .int o_fault, .ref a_o_draftGate, .ref a_o_draftCarries, .ref a_o_draftWorth, .ref a_o_draftKind, .ref a_o_draftMost, .ref a_o_draftUse, .int o_drafted, .ref a_o_x, .long o_by, .ref a_o_bestX, .long o_bestBy, .long o_bestWorth, .int o_isBest, .ref a_o_part, .int o_parts, .ref a_o_row, .ref a_o_right, .ref a_o_m, .ref a_o_given, .ref a_o_wasOff])), (a_o_toldUp, .inl (cy 1, 4, .inl o_toldUp)), (a_o_toldDown, .inl (cy 1, 4, .inl o_toldDown)), (a_o_priceUp, .inl (cy 1, 5, .inl o_priceUp)), (a_o_priceDown, .inl (cy 1, 5, .inl o_priceDown))]) hP hD [] [0, 1, 2, 3, 4] [] hC hk1 ht hB rfl rfl rfl (N := 5) rfl (by decide) rfl rfl
      generalize H1 = H at hP hS ⊢
      refine lv_if_ne (tgt := 62) hx hb dX7_tell_57 (by decide) (fun c9 => ?_) (fun c9 => ?_)
      · have h := h.2 c9
        refine lv_iload_n hx hb dX7_tell_62 rfl (lv_at hl 1 rfl) ?_
        refine lv_if_ne (tgt := 84) hx hb dX7_tell_63 (by decide) (fun c10 => ?_) (fun c10 => ?_)
        · have h := h.2 c10
          refine lv_aload_n hx hb dX7_tell_84 rfl (lv_at hl 0 rfl) ?_
          refine va_get (D := D) (ci := 7) (v := .ref a_o_priceUp) (C := RX7) (T := TX7) (N := 43) hx hb hts in_X7 hown hK hP 0 rfl rfl 16 (by decide) fl_48 (fun _ h9 => h9) rfl dX7_tell_85 ?_
          refine lv_iload_n hx hb dX7_tell_88 rfl (lv_at hl 2 rfl) ?_
          refine lv_iload_n hx hb dX7_tell_89 rfl (lv_at hl 3 rfl) ?_
          obtain ⟨i11, h⟩ := h
          refine va_iast hx hb hK hP hD hS 3 1 rfl rfl i11 dX7_tell_90 (fun H locs hP hD hS => ?_)
          have hP : va_P D vwCl (w_X7_tell cy a_o a_o_text a_o_letter a_o_least a_o_carries a_o_gateOff a_o_worth a_o_kind a_o_most a_o_wishOff a_o_use a_o_toldUp a_o_toldDown a_o_priceUp a_o_priceDown a_o_draftGate a_o_draftCarries a_o_draftWorth a_o_draftKind a_o_draftMost a_o_draftUse a_o_x a_o_bestX a_o_part a_o_row a_o_right a_o_m a_o_given a_o_wasOff o_trace o_typed o_gates o_wishes o_at o_start o_sort o_value o_fault o_drafted o_by o_bestBy o_bestWorth o_isBest o_parts o_toldUp o_toldDown (upd o_priceUp (x2).toNatClampNeg x3) o_priceDown) H := hP
          have hD : va_D A (w_X7_tell cy a_o a_o_text a_o_letter a_o_least a_o_carries a_o_gateOff a_o_worth a_o_kind a_o_most a_o_wishOff a_o_use a_o_toldUp a_o_toldDown a_o_priceUp a_o_priceDown a_o_draftGate a_o_draftCarries a_o_draftWorth a_o_draftKind a_o_draftMost a_o_draftUse a_o_x a_o_bestX a_o_part a_o_row a_o_right a_o_m a_o_given a_o_wasOff o_trace o_typed o_gates o_wishes o_at o_start o_sort o_value o_fault o_drafted o_by o_bestBy o_bestWorth o_isBest o_parts o_toldUp o_toldDown (upd o_priceUp (x2).toNatClampNeg x3) o_priceDown) := hD
          refine lv_aload_n hx hb dX7_tell_91 rfl (lv_at hl 0 rfl) ?_
          refine va_get (D := D) (ci := 7) (v := .ref a_o_priceDown) (C := RX7) (T := TX7) (N := 43) hx hb hts in_X7 hown hK hP 0 rfl rfl 17 (by decide) fl_51 (fun _ h9 => h9) rfl dX7_tell_92 ?_
          refine lv_iload_n hx hb dX7_tell_95 rfl (lv_at hl 2 rfl) ?_
          refine lv_iload hx hb dX7_tell_96 (lv_at hl 4 rfl) ?_
          refine va_iast hx hb hK hP hD hS 4 1 rfl rfl i11 dX7_tell_98 (fun H locs hP hD hS => ?_)
          have hP : va_P D vwCl (w_X7_tell cy a_o a_o_text a_o_letter a_o_least a_o_carries a_o_gateOff a_o_worth a_o_kind a_o_most a_o_wishOff a_o_use a_o_toldUp a_o_toldDown a_o_priceUp a_o_priceDown a_o_draftGate a_o_draftCarries a_o_draftWorth a_o_draftKind a_o_draftMost a_o_draftUse a_o_x a_o_bestX a_o_part a_o_row a_o_right a_o_m a_o_given a_o_wasOff o_trace o_typed o_gates o_wishes o_at o_start o_sort o_value o_fault o_drafted o_by o_bestBy o_bestWorth o_isBest o_parts o_toldUp o_toldDown (upd o_priceUp (x2).toNatClampNeg x3) (upd o_priceDown (x2).toNatClampNeg x4)) H := hP
          have hD : va_D A (w_X7_tell cy a_o a_o_text a_o_letter a_o_least a_o_carries a_o_gateOff a_o_worth a_o_kind a_o_most a_o_wishOff a_o_use a_o_toldUp a_o_toldDown a_o_priceUp a_o_priceDown a_o_draftGate a_o_draftCarries a_o_draftWorth a_o_draftKind a_o_draftMost a_o_draftUse a_o_x a_o_bestX a_o_part a_o_row a_o_right a_o_m a_o_given a_o_wasOff o_trace o_typed o_gates o_wishes o_at o_start o_sort o_value o_fault o_drafted o_by o_bestBy o_bestWorth o_isBest o_parts o_toldUp o_toldDown (upd o_priceUp (x2).toNatClampNeg x3) (upd o_priceDown (x2).toNatClampNeg x4)) := hD
          refine lv_iconst (v := 1) hx hb dX7_tell_99 (by decide) ?_
          exact hret (1 : Int32) (o_toldUp, o_toldDown, (upd o_priceUp (x2).toNatClampNeg x3), (upd o_priceDown (x2).toNatClampNeg x4)) _ _ _ _ h hP hD hS dX7_tell_100
        · have h := h.1 c10
          refine lv_aload_n hx hb dX7_tell_66 rfl (lv_at hl 0 rfl) ?_
          refine va_get (D := D) (ci := 7) (v := .ref a_o_toldUp) (C := RX7) (T := TX7) (N := 43) hx hb hts in_X7 hown hK hP 0 rfl rfl 14 (by decide) fl_42 (fun _ h9 => h9) rfl dX7_tell_67 ?_
          refine lv_iload_n hx hb dX7_tell_70 rfl (lv_at hl 2 rfl) ?_
          refine lv_iload_n hx hb dX7_tell_71 rfl (lv_at hl 3 rfl) ?_
          obtain ⟨i12, h⟩ := h
          refine va_iast hx hb hK hP hD hS 1 1 rfl rfl i12 dX7_tell_72 (fun H locs hP hD hS => ?_)
          have hP : va_P D vwCl (w_X7_tell cy a_o a_o_text a_o_letter a_o_least a_o_carries a_o_gateOff a_o_worth a_o_kind a_o_most a_o_wishOff a_o_use a_o_toldUp a_o_toldDown a_o_priceUp a_o_priceDown a_o_draftGate a_o_draftCarries a_o_draftWorth a_o_draftKind a_o_draftMost a_o_draftUse a_o_x a_o_bestX a_o_part a_o_row a_o_right a_o_m a_o_given a_o_wasOff o_trace o_typed o_gates o_wishes o_at o_start o_sort o_value o_fault o_drafted o_by o_bestBy o_bestWorth o_isBest o_parts (upd o_toldUp (x2).toNatClampNeg x3) o_toldDown o_priceUp o_priceDown) H := hP
          have hD : va_D A (w_X7_tell cy a_o a_o_text a_o_letter a_o_least a_o_carries a_o_gateOff a_o_worth a_o_kind a_o_most a_o_wishOff a_o_use a_o_toldUp a_o_toldDown a_o_priceUp a_o_priceDown a_o_draftGate a_o_draftCarries a_o_draftWorth a_o_draftKind a_o_draftMost a_o_draftUse a_o_x a_o_bestX a_o_part a_o_row a_o_right a_o_m a_o_given a_o_wasOff o_trace o_typed o_gates o_wishes o_at o_start o_sort o_value o_fault o_drafted o_by o_bestBy o_bestWorth o_isBest o_parts (upd o_toldUp (x2).toNatClampNeg x3) o_toldDown o_priceUp o_priceDown) := hD
          refine lv_aload_n hx hb dX7_tell_73 rfl (lv_at hl 0 rfl) ?_
          refine va_get (D := D) (ci := 7) (v := .ref a_o_toldDown) (C := RX7) (T := TX7) (N := 43) hx hb hts in_X7 hown hK hP 0 rfl rfl 15 (by decide) fl_45 (fun _ h9 => h9) rfl dX7_tell_74 ?_
          refine lv_iload_n hx hb dX7_tell_77 rfl (lv_at hl 2 rfl) ?_
          refine lv_iload hx hb dX7_tell_78 (lv_at hl 4 rfl) ?_
          refine va_iast hx hb hK hP hD hS 2 1 rfl rfl i12 dX7_tell_80 (fun H locs hP hD hS => ?_)
          have hP : va_P D vwCl (w_X7_tell cy a_o a_o_text a_o_letter a_o_least a_o_carries a_o_gateOff a_o_worth a_o_kind a_o_most a_o_wishOff a_o_use a_o_toldUp a_o_toldDown a_o_priceUp a_o_priceDown a_o_draftGate a_o_draftCarries a_o_draftWorth a_o_draftKind a_o_draftMost a_o_draftUse a_o_x a_o_bestX a_o_part a_o_row a_o_right a_o_m a_o_given a_o_wasOff o_trace o_typed o_gates o_wishes o_at o_start o_sort o_value o_fault o_drafted o_by o_bestBy o_bestWorth o_isBest o_parts (upd o_toldUp (x2).toNatClampNeg x3) (upd o_toldDown (x2).toNatClampNeg x4) o_priceUp o_priceDown) H := hP
          have hD : va_D A (w_X7_tell cy a_o a_o_text a_o_letter a_o_least a_o_carries a_o_gateOff a_o_worth a_o_kind a_o_most a_o_wishOff a_o_use a_o_toldUp a_o_toldDown a_o_priceUp a_o_priceDown a_o_draftGate a_o_draftCarries a_o_draftWorth a_o_draftKind a_o_draftMost a_o_draftUse a_o_x a_o_bestX a_o_part a_o_row a_o_right a_o_m a_o_given a_o_wasOff o_trace o_typed o_gates o_wishes o_at o_start o_sort o_value o_fault o_drafted o_by o_bestBy o_bestWorth o_isBest o_parts (upd o_toldUp (x2).toNatClampNeg x3) (upd o_toldDown (x2).toNatClampNeg x4) o_priceUp o_priceDown) := hD
          refine lv_goto (tgt := 99) hx hb dX7_tell_81 (by decide) ?_
          refine lv_iconst (v := 1) hx hb dX7_tell_99 (by decide) ?_
          exact hret (1 : Int32) ((upd o_toldUp (x2).toNatClampNeg x3), (upd o_toldDown (x2).toNatClampNeg x4), o_priceUp, o_priceDown) _ _ _ _ h hP hD hS dX7_tell_100
      · have h := h.1 c9
        refine lv_iconst (v := -1) hx hb dX7_tell_60 (by decide) ?_
        exact hret (-1 : Int32) (o_toldUp, o_toldDown, o_priceUp, o_priceDown) _ _ _ _ h hP hD hS dX7_tell_61
  refine ent [.ref a_o, .int x1, .int x2, .int x3, .int x4] (Nat.le_of_ble_eq_true rfl) (fun ls hl => ?_)
  have hl : lv_has ls 5 [(0, .ref a_o), (1, .int x1), (2, .int x2), (3, .int x3), (4, .int x4)] := hl
  unfold wp_X7_tell at h
  refine lv_iload_n hx hb dX7_tell_0 rfl (lv_at hl 1 rfl) ?_
  refine lv_i2l hx hb dX7_tell_1 rfl ?_
  refine lv_lconst (v := 0) hx hb dX7_tell_2 (by decide) ?_
  refine lv_lconst (v := 1) hx hb dX7_tell_3 (by decide) ?_
  have hC : ([] : List Nat).map (fun i => ((w_X7_tell cy a_o a_o_text a_o_letter a_o_least a_o_carries a_o_gateOff a_o_worth a_o_kind a_o_most a_o_wishOff a_o_use a_o_toldUp a_o_toldDown a_o_priceUp a_o_priceDown a_o_draftGate a_o_draftCarries a_o_draftWorth a_o_draftKind a_o_draftMost a_o_draftUse a_o_x a_o_bestX a_o_part a_o_row a_o_right a_o_m a_o_given a_o_wasOff o_trace o_typed o_gates o_wishes o_at o_start o_sort o_value o_fault o_drafted o_by o_bestBy o_bestWorth o_isBest o_parts o_toldUp o_toldDown o_priceUp o_priceDown) : va_W)[i]?) = ((w_X7_in cy ) : va_W).map some := rfl
  obtain ⟨hPc, hDc⟩ := cutC hP hD [] (by decide) hC
  have hFc := va_free hD hS hA [] hC
  refine va_calli (va_runS (As := [.long ((x1).toInt64), .long (0 : Int64), .long (1 : Int64)]) (rest := []) ⟨hx, hb, hml, hown, hts⟩ (c_X7_in l D cy _ h) (va_cwS 3 hts gX7_tell_X7_in rfl rfl rfl (by decide +kernel) ⟨Nat.le_of_ble_eq_true rfl, Nat.le_of_ble_eq_true rfl⟩) (preS hPc hDc hK hN) rfl rfl hl.1 rfl (lv_room (Nat.le_of_ble_eq_true rfl)) dX7_tell_4 ⟨Nat.zero_le _, Nat.zero_le _⟩) hS (fun q _ h => hFc q h) hFc (fun r1 u t H1 locs ht hvm h hB hz1 hk1 hS => ?_)
  try dsimp only at h hB
  obtain ⟨hP, hD⟩ := joinU (wd := (w_X7_tell cy a_o a_o_text a_o_letter a_o_least a_o_carries a_o_gateOff a_o_worth a_o_kind a_o_most a_o_wishOff a_o_use a_o_toldUp a_o_toldDown a_o_priceUp a_o_priceDown a_o_draftGate a_o_draftCarries a_o_draftWorth a_o_draftKind a_o_draftMost a_o_draftUse a_o_x a_o_bestX a_o_part a_o_row a_o_right a_o_m a_o_given a_o_wasOff o_trace o_typed o_gates o_wishes o_at o_start o_sort o_value o_fault o_drafted o_by o_bestBy o_bestWorth o_isBest o_parts o_toldUp o_toldDown o_priceUp o_priceDown)) (wr := [(a_o, .inr (7, [.long o_trace, .ref a_o_text, .int o_typed, .int o_gates, .int o_wishes, .ref a_o_letter, .ref a_o_least, .ref a_o_carries, .ref a_o_gateOff, .ref a_o_worth, .ref a_o_kind, .ref a_o_most, .ref a_o_wishOff, .ref a_o_use, .ref a_o_toldUp, .ref a_o_toldDown, .ref a_o_priceUp, .ref a_o_priceDown, .int o_at, .int o_start, .int o_sort, .int o_value, .int o_fault, .ref a_o_draftGate, .ref a_o_draftCarries, .ref a_o_draftWorth, .ref a_o_draftKind, .ref a_o_draftMost, .ref a_o_draftUse, .int o_drafted, .ref a_o_x, .long o_by, .ref a_o_bestX, .long o_bestBy, .long o_bestWorth, .int o_isBest, .ref a_o_part, .int o_parts, .ref a_o_row, .ref a_o_right, .ref a_o_m, .ref a_o_given, .ref a_o_wasOff])), (a_o_toldUp, .inl (cy 1, 4, .inl o_toldUp)), (a_o_toldDown, .inl (cy 1, 4, .inl o_toldDown)), (a_o_priceUp, .inl (cy 1, 5, .inl o_priceUp)), (a_o_priceDown, .inl (cy 1, 5, .inl o_priceDown))]) hP hD [] [0, 1, 2, 3, 4] [] hC hk1 ht hB rfl rfl rfl (N := 5) rfl (by decide) rfl rfl
  generalize H1 = H at hP hS ⊢
  refine lv_if_eq (tgt := 60) hx hb dX7_tell_7 (by decide) (fun c2 => ?_) (fun c2 => ?_)
  · have h := h.1 c2
    refine lv_iconst (v := -1) hx hb dX7_tell_60 (by decide) ?_
    exact hret (-1 : Int32) (o_toldUp, o_toldDown, o_priceUp, o_priceDown) _ _ _ _ h hP hD hS dX7_tell_61
  · have h := h.2 c2
    refine lv_iload_n hx hb dX7_tell_10 rfl (lv_at hl 1 rfl) ?_
    refine lv_if_ne (tgt := 25) hx hb dX7_tell_11 (by decide) (fun c3 => ?_) (fun c3 => ?_)
    · have h := h.2 c3
      refine lv_aload_n hx hb dX7_tell_25 rfl (lv_at hl 0 rfl) ?_
      refine lv_iload_n hx hb dX7_tell_26 rfl (lv_at hl 2 rfl) ?_
      have hC : ([0] : List Nat).map (fun i => ((w_X7_tell cy a_o a_o_text a_o_letter a_o_least a_o_carries a_o_gateOff a_o_worth a_o_kind a_o_most a_o_wishOff a_o_use a_o_toldUp a_o_toldDown a_o_priceUp a_o_priceDown a_o_draftGate a_o_draftCarries a_o_draftWorth a_o_draftKind a_o_draftMost a_o_draftUse a_o_x a_o_bestX a_o_part a_o_row a_o_right a_o_m a_o_given a_o_wasOff o_trace o_typed o_gates o_wishes o_at o_start o_sort o_value o_fault o_drafted o_by o_bestBy o_bestWorth o_isBest o_parts o_toldUp o_toldDown o_priceUp o_priceDown) : va_W)[i]?) = ((w_X7_isGate cy a_o a_o_text a_o_letter a_o_least a_o_carries a_o_gateOff a_o_worth a_o_kind a_o_most a_o_wishOff a_o_use a_o_toldUp a_o_toldDown a_o_priceUp a_o_priceDown a_o_draftGate a_o_draftCarries a_o_draftWorth a_o_draftKind a_o_draftMost a_o_draftUse a_o_x a_o_bestX a_o_part a_o_row a_o_right a_o_m a_o_given a_o_wasOff o_trace o_typed o_gates o_wishes o_at o_start o_sort o_value o_fault o_drafted o_by o_bestBy o_bestWorth o_isBest o_parts) : va_W).map some := rfl
      obtain ⟨hPc, hDc⟩ := cutC hP hD [0] (by decide) hC
      have hFc := va_free hD hS hA [0] hC
      refine va_calli (va_runV (As := [.int x2]) (rest := []) ⟨hx, hb, hml, hown, hts⟩ (c_X7_isGate l D cy a_o a_o_text a_o_letter a_o_least a_o_carries a_o_gateOff a_o_worth a_o_kind a_o_most a_o_wishOff a_o_use a_o_toldUp a_o_toldDown a_o_priceUp a_o_priceDown a_o_draftGate a_o_draftCarries a_o_draftWorth a_o_draftKind a_o_draftMost a_o_draftUse a_o_x a_o_bestX a_o_part a_o_row a_o_right a_o_m a_o_given a_o_wasOff _ h) (cwV 1 hts gX7_tell_X7_isGate rfl rfl rfl (by decide +kernel) ⟨Nat.le_of_ble_eq_true rfl, Nat.le_of_ble_eq_true rfl⟩) (preV hPc hDc hK hN (ci := 7) (q0 := 0) rfl rfl) rfl rfl hl.1 rfl (lv_room (Nat.le_of_ble_eq_true rfl)) dX7_tell_27 ⟨Nat.zero_le _, Nat.zero_le _⟩) hS (fun q _ h => hFc q h) hFc (fun r4 u t H1 locs ht hvm h hB hz1 hk1 hS => ?_)
      try dsimp only at h hB
      obtain ⟨hP, hD⟩ := joinU (wd := (w_X7_tell cy a_o a_o_text a_o_letter a_o_least a_o_carries a_o_gateOff a_o_worth a_o_kind a_o_most a_o_wishOff a_o_use a_o_toldUp a_o_toldDown a_o_priceUp a_o_priceDown a_o_draftGate a_o_draftCarries a_o_draftWorth a_o_draftKind a_o_draftMost a_o_draftUse a_o_x a_o_bestX a_o_part a_o_row a_o_right a_o_m a_o_given a_o_wasOff o_trace o_typed o_gates o_wishes o_at o_start o_sort o_value o_fault o_drafted o_by o_bestBy o_bestWorth o_isBest o_parts o_toldUp o_toldDown o_priceUp o_priceDown)) (wr := [(a_o_toldUp, .inl (cy 1, 4, .inl o_toldUp)), (a_o_toldDown, .inl (cy 1, 4, .inl o_toldDown)), (a_o_priceUp, .inl (cy 1, 5, .inl o_priceUp)), (a_o_priceDown, .inl (cy 1, 5, .inl o_priceDown))]) hP hD [0] [1, 2, 3, 4] [a_o] hC hk1 ht hB rfl rfl rfl (N := 5) rfl (by decide) rfl rfl
      generalize H1 = H at hP hS ⊢
      refine lv_if_eq (tgt := 60) hx hb dX7_tell_30 (by decide) (fun c5 => ?_) (fun c5 => ?_)
      · have h := h.1 c5
        refine lv_iconst (v := -1) hx hb dX7_tell_60 (by decide) ?_
        exact hret (-1 : Int32) (o_toldUp, o_toldDown, o_priceUp, o_priceDown) _ _ _ _ h hP hD hS dX7_tell_61
      · have h := h.2 c5
        exact j_33_0 x1 x2 x3 x4 o_toldUp o_toldDown o_priceUp o_priceDown h _ _ hP hD hS _ (lv_sub hl [0, 1, 2, 3, 4] rfl)
    · have h := h.1 c3
      refine lv_aload_n hx hb dX7_tell_14 rfl (lv_at hl 0 rfl) ?_
      refine lv_iload_n hx hb dX7_tell_15 rfl (lv_at hl 2 rfl) ?_
      have hC : ([0] : List Nat).map (fun i => ((w_X7_tell cy a_o a_o_text a_o_letter a_o_least a_o_carries a_o_gateOff a_o_worth a_o_kind a_o_most a_o_wishOff a_o_use a_o_toldUp a_o_toldDown a_o_priceUp a_o_priceDown a_o_draftGate a_o_draftCarries a_o_draftWorth a_o_draftKind a_o_draftMost a_o_draftUse a_o_x a_o_bestX a_o_part a_o_row a_o_right a_o_m a_o_given a_o_wasOff o_trace o_typed o_gates o_wishes o_at o_start o_sort o_value o_fault o_drafted o_by o_bestBy o_bestWorth o_isBest o_parts o_toldUp o_toldDown o_priceUp o_priceDown) : va_W)[i]?) = ((w_X7_isWish cy a_o a_o_text a_o_letter a_o_least a_o_carries a_o_gateOff a_o_worth a_o_kind a_o_most a_o_wishOff a_o_use a_o_toldUp a_o_toldDown a_o_priceUp a_o_priceDown a_o_draftGate a_o_draftCarries a_o_draftWorth a_o_draftKind a_o_draftMost a_o_draftUse a_o_x a_o_bestX a_o_part a_o_row a_o_right a_o_m a_o_given a_o_wasOff o_trace o_typed o_gates o_wishes o_at o_start o_sort o_value o_fault o_drafted o_by o_bestBy o_bestWorth o_isBest o_parts) : va_W).map some := rfl
      obtain ⟨hPc, hDc⟩ := cutC hP hD [0] (by decide) hC
      have hFc := va_free hD hS hA [0] hC
      refine va_calli (va_runV (As := [.int x2]) (rest := []) ⟨hx, hb, hml, hown, hts⟩ (c_X7_isWish l D cy a_o a_o_text a_o_letter a_o_least a_o_carries a_o_gateOff a_o_worth a_o_kind a_o_most a_o_wishOff a_o_use a_o_toldUp a_o_toldDown a_o_priceUp a_o_priceDown a_o_draftGate a_o_draftCarries a_o_draftWorth a_o_draftKind a_o_draftMost a_o_draftUse a_o_x a_o_bestX a_o_part a_o_row a_o_right a_o_m a_o_given a_o_wasOff _ h) (cwV 1 hts gX7_tell_X7_isWish rfl rfl rfl (by decide +kernel) ⟨Nat.le_of_ble_eq_true rfl, Nat.le_of_ble_eq_true rfl⟩) (preV hPc hDc hK hN (ci := 7) (q0 := 0) rfl rfl) rfl rfl hl.1 rfl (lv_room (Nat.le_of_ble_eq_true rfl)) dX7_tell_16 ⟨Nat.zero_le _, Nat.zero_le _⟩) hS (fun q _ h => hFc q h) hFc (fun r13 u t H1 locs ht hvm h hB hz1 hk1 hS => ?_)
      try dsimp only at h hB
      obtain ⟨hP, hD⟩ := joinU (wd := (w_X7_tell cy a_o a_o_text a_o_letter a_o_least a_o_carries a_o_gateOff a_o_worth a_o_kind a_o_most a_o_wishOff a_o_use a_o_toldUp a_o_toldDown a_o_priceUp a_o_priceDown a_o_draftGate a_o_draftCarries a_o_draftWorth a_o_draftKind a_o_draftMost a_o_draftUse a_o_x a_o_bestX a_o_part a_o_row a_o_right a_o_m a_o_given a_o_wasOff o_trace o_typed o_gates o_wishes o_at o_start o_sort o_value o_fault o_drafted o_by o_bestBy o_bestWorth o_isBest o_parts o_toldUp o_toldDown o_priceUp o_priceDown)) (wr := [(a_o_toldUp, .inl (cy 1, 4, .inl o_toldUp)), (a_o_toldDown, .inl (cy 1, 4, .inl o_toldDown)), (a_o_priceUp, .inl (cy 1, 5, .inl o_priceUp)), (a_o_priceDown, .inl (cy 1, 5, .inl o_priceDown))]) hP hD [0] [1, 2, 3, 4] [a_o] hC hk1 ht hB rfl rfl rfl (N := 5) rfl (by decide) rfl rfl
      generalize H1 = H at hP hS ⊢
      refine lv_if_eq (tgt := 60) hx hb dX7_tell_19 (by decide) (fun c14 => ?_) (fun c14 => ?_)
      · have h := h.1 c14
        refine lv_iconst (v := -1) hx hb dX7_tell_60 (by decide) ?_
        exact hret (-1 : Int32) (o_toldUp, o_toldDown, o_priceUp, o_priceDown) _ _ _ _ h hP hD hS dX7_tell_61
      · have h := h.2 c14
        refine lv_goto (tgt := 33) hx hb dX7_tell_22 (by decide) ?_
        exact j_33_0 x1 x2 x3 x4 o_toldUp o_toldDown o_priceUp o_priceDown h _ _ hP hD hS _ (lv_sub hl [0, 1, 2, 3, 4] rfl)

def wp_X7_toldX  (o_toldUp : Nat → Int32) (o_toldDown : Nat → Int32) (x1 : Int32) (post : Int64 → Prop) : Prop :=
  (vp_in x1 4 ∧ (¬ (o_toldDown (x1).toNatClampNeg) = 0 ∧ post (((o_toldUp (x1).toNatClampNeg)).toInt64 * (((27720 : Int32) / (o_toldDown (x1).toNatClampNeg))).toInt64)))
abbrev w_X7_toldX (cy : Nat → ClassId) (a_o a_o_text a_o_letter a_o_least a_o_carries a_o_gateOff a_o_worth a_o_kind a_o_most a_o_wishOff a_o_use a_o_toldUp a_o_toldDown a_o_priceUp a_o_priceDown a_o_draftGate a_o_draftCarries a_o_draftWorth a_o_draftKind a_o_draftMost a_o_draftUse a_o_x a_o_bestX a_o_part a_o_row a_o_right a_o_m a_o_given a_o_wasOff : Nat) (o_trace : Int64) (o_typed : Int32) (o_gates : Int32) (o_wishes : Int32) (o_at : Int32) (o_start : Int32) (o_sort : Int32) (o_value : Int32) (o_fault : Int32) (o_drafted : Int32) (o_by : Int64) (o_bestBy : Int64) (o_bestWorth : Int64) (o_isBest : Int32) (o_parts : Int32) (o_toldUp : Nat → Int32) (o_toldDown : Nat → Int32) : va_W := [(a_o, .inr (7, [.long o_trace, .ref a_o_text, .int o_typed, .int o_gates, .int o_wishes, .ref a_o_letter, .ref a_o_least, .ref a_o_carries, .ref a_o_gateOff, .ref a_o_worth, .ref a_o_kind, .ref a_o_most, .ref a_o_wishOff, .ref a_o_use, .ref a_o_toldUp, .ref a_o_toldDown, .ref a_o_priceUp, .ref a_o_priceDown, .int o_at, .int o_start, .int o_sort, .int o_value, .int o_fault, .ref a_o_draftGate, .ref a_o_draftCarries, .ref a_o_draftWorth, .ref a_o_draftKind, .ref a_o_draftMost, .ref a_o_draftUse, .int o_drafted, .ref a_o_x, .long o_by, .ref a_o_bestX, .long o_bestBy, .long o_bestWorth, .int o_isBest, .ref a_o_part, .int o_parts, .ref a_o_row, .ref a_o_right, .ref a_o_m, .ref a_o_given, .ref a_o_wasOff])), (a_o_toldUp, .inl (cy 1, 4, .inl o_toldUp)), (a_o_toldDown, .inl (cy 1, 4, .inl o_toldDown))]
set_option maxHeartbeats 4000000 in
set_option maxRecDepth 100000 in
theorem c_X7_toldX (l : Launch) (D : va_G) (cy : Nat → ClassId) (a_o a_o_text a_o_letter a_o_least a_o_carries a_o_gateOff a_o_worth a_o_kind a_o_most a_o_wishOff a_o_use a_o_toldUp a_o_toldDown a_o_priceUp a_o_priceDown a_o_draftGate a_o_draftCarries a_o_draftWorth a_o_draftKind a_o_draftMost a_o_draftUse a_o_x a_o_bestX a_o_part a_o_row a_o_right a_o_m a_o_given a_o_wasOff : Nat) (sz : Nat)  {o_trace : Int64} {o_typed : Int32} {o_gates : Int32} {o_wishes : Int32} {o_at : Int32} {o_start : Int32} {o_sort : Int32} {o_value : Int32} {o_fault : Int32} {o_drafted : Int32} {o_by : Int64} {o_bestBy : Int64} {o_bestWorth : Int64} {o_isBest : Int32} {o_parts : Int32} {o_toldUp : Nat → Int32} {o_toldDown : Nat → Int32} {x1 : Int32} {post : Int64 → Prop} (h : wp_X7_toldX o_toldUp o_toldDown x1 post) : Met l yX7_toldX wsX7_toldX ({ frames := 0, cells := 0, slots := 0, locals := 0 }) (va_Pc [.ref a_o, .int x1] (wI D cy sz (w_X7_toldX cy a_o a_o_text a_o_letter a_o_least a_o_carries a_o_gateOff a_o_worth a_o_kind a_o_most a_o_wishOff a_o_use a_o_toldUp a_o_toldDown a_o_priceUp a_o_priceDown a_o_draftGate a_o_draftCarries a_o_draftWorth a_o_draftKind a_o_draftMost a_o_draftUse a_o_x a_o_bestX a_o_part a_o_row a_o_right a_o_m a_o_given a_o_wasOff o_trace o_typed o_gates o_wishes o_at o_start o_sort o_value o_fault o_drafted o_by o_bestBy o_bestWorth o_isBest o_parts o_toldUp o_toldDown))) (va_Ql (fun (r : Int64) (u : Unit) => post r ) (fun (u : Unit) t => wO D cy (va_A (w_X7_toldX cy a_o a_o_text a_o_letter a_o_least a_o_carries a_o_gateOff a_o_worth a_o_kind a_o_most a_o_wishOff a_o_use a_o_toldUp a_o_toldDown a_o_priceUp a_o_priceDown a_o_draftGate a_o_draftCarries a_o_draftWorth a_o_draftKind a_o_draftMost a_o_draftUse a_o_x a_o_bestX a_o_part a_o_row a_o_right a_o_m a_o_given a_o_wasOff o_trace o_typed o_gates o_wishes o_at o_start o_sort o_value o_fault o_drafted o_by o_bestBy o_bestWorth o_isBest o_parts o_toldUp o_toldDown) sz) (w_X7_toldX cy a_o a_o_text a_o_letter a_o_least a_o_carries a_o_gateOff a_o_worth a_o_kind a_o_most a_o_wishOff a_o_use a_o_toldUp a_o_toldDown a_o_priceUp a_o_priceDown a_o_draftGate a_o_draftCarries a_o_draftWorth a_o_draftKind a_o_draftMost a_o_draftUse a_o_x a_o_bestX a_o_part a_o_row a_o_right a_o_m a_o_given a_o_wasOff o_trace o_typed o_gates o_wishes o_at o_start o_sort o_value o_fault o_drafted o_by o_bestBy o_bestWorth o_isBest o_parts o_toldUp o_toldDown) t) (va_A (w_X7_toldX cy a_o a_o_text a_o_letter a_o_least a_o_carries a_o_gateOff a_o_worth a_o_kind a_o_most a_o_wishOff a_o_use a_o_toldUp a_o_toldDown a_o_priceUp a_o_priceDown a_o_draftGate a_o_draftCarries a_o_draftWorth a_o_draftKind a_o_draftMost a_o_draftUse a_o_x a_o_bestX a_o_part a_o_row a_o_right a_o_m a_o_given a_o_wasOff o_trace o_typed o_gates o_wishes o_at o_start o_sort o_value o_fault o_drafted o_by o_bestBy o_bestWorth o_isBest o_parts o_toldUp o_toldDown) sz)) 0 0 (va_A (w_X7_toldX cy a_o a_o_text a_o_letter a_o_least a_o_carries a_o_gateOff a_o_worth a_o_kind a_o_most a_o_wishOff a_o_use a_o_toldUp a_o_toldDown a_o_priceUp a_o_priceDown a_o_draftGate a_o_draftCarries a_o_draftWorth a_o_draftKind a_o_draftMost a_o_draftUse a_o_x a_o_bestX a_o_part a_o_row a_o_right a_o_m a_o_given a_o_wasOff o_trace o_typed o_gates o_wishes o_at o_start o_sort o_value o_fault o_drafted o_by o_bestBy o_bestWorth o_isBest o_parts o_toldUp o_toldDown) sz) := by
  refine contrL (S := Unit) (post := fun (r : Int64) (u : Unit) => post r ) (wOut := fun (u : Unit) => (w_X7_toldX cy a_o a_o_text a_o_letter a_o_least a_o_carries a_o_gateOff a_o_worth a_o_kind a_o_most a_o_wishOff a_o_use a_o_toldUp a_o_toldDown a_o_priceUp a_o_priceDown a_o_draftGate a_o_draftCarries a_o_draftWorth a_o_draftKind a_o_draftMost a_o_draftUse a_o_x a_o_bestX a_o_part a_o_row a_o_right a_o_m a_o_given a_o_wasOff o_trace o_typed o_gates o_wishes o_at o_start o_sort o_value o_fault o_drafted o_by o_bestBy o_bestWorth o_isBest o_parts o_toldUp o_toldDown)) (cc := cX7_toldX) (maxL := 2) (own := RX7) (by decide +kernel) rfl rfl ?_
  intro p e s m args below meth c A Q hx hb hml hown hts hK hN hP hD hS hA hret
  have in_X7 : ∀ w ∈ u_ws RX7 TX7 43, w ∈ wsX7_toldX := by decide +kernel
  have fl_42 := hts (.fieldLink RX7 42 "DawnTableModel" "toldUp" "[I") (by decide +kernel)
  have fl_45 := hts (.fieldLink RX7 45 "DawnTableModel" "toldDown" "[I") (by decide +kernel)
  refine ent [.ref a_o, .int x1] (Nat.le_of_ble_eq_true rfl) (fun ls hl => ?_)
  have hl : lv_has ls 2 [(0, .ref a_o), (1, .int x1)] := hl
  unfold wp_X7_toldX at h
  refine lv_aload_n hx hb dX7_toldX_0 rfl (lv_at hl 0 rfl) ?_
  refine va_get (D := D) (ci := 7) (v := .ref a_o_toldUp) (C := RX7) (T := TX7) (N := 43) hx hb hts in_X7 hown hK hP 0 rfl rfl 14 (by decide) fl_42 (fun _ h9 => h9) rfl dX7_toldX_1 ?_
  refine lv_iload_n hx hb dX7_toldX_4 rfl (lv_at hl 1 rfl) ?_
  obtain ⟨i1, h⟩ := h
  refine va_iald hx hb hK hP 1 1 rfl rfl i1 dX7_toldX_5 ?_
  refine lv_i2l hx hb dX7_toldX_6 rfl ?_
  refine lv_sipush (v := 27720) hx hb dX7_toldX_7 (by decide) ?_
  refine lv_aload_n hx hb dX7_toldX_10 rfl (lv_at hl 0 rfl) ?_
  refine va_get (D := D) (ci := 7) (v := .ref a_o_toldDown) (C := RX7) (T := TX7) (N := 43) hx hb hts in_X7 hown hK hP 0 rfl rfl 15 (by decide) fl_45 (fun _ h9 => h9) rfl dX7_toldX_11 ?_
  refine lv_iload_n hx hb dX7_toldX_14 rfl (lv_at hl 1 rfl) ?_
  refine va_iald hx hb hK hP 2 1 rfl rfl i1 dX7_toldX_15 ?_
  obtain ⟨z2, h⟩ := h
  refine lv_idiv hx hb dX7_toldX_16 z2 ?_
  refine lv_i2l hx hb dX7_toldX_17 rfl ?_
  refine lv_lmul hx hb dX7_toldX_18 ?_
  exact hret (((o_toldUp (x1).toNatClampNeg)).toInt64 * (((27720 : Int32) / (o_toldDown (x1).toNatClampNeg))).toInt64) () _ _ _ _ h hP hD hS dX7_toldX_19

def wp_X7_price  (o_priceUp : Nat → Int32) (o_priceDown : Nat → Int32) (x1 : Int32) (post : Int64 → Prop) : Prop :=
  (vp_in x1 5 ∧ (¬ (o_priceDown (x1).toNatClampNeg) = 0 ∧ post (((o_priceUp (x1).toNatClampNeg)).toInt64 * (((27720 : Int32) / (o_priceDown (x1).toNatClampNeg))).toInt64)))
abbrev w_X7_price (cy : Nat → ClassId) (a_o a_o_text a_o_letter a_o_least a_o_carries a_o_gateOff a_o_worth a_o_kind a_o_most a_o_wishOff a_o_use a_o_toldUp a_o_toldDown a_o_priceUp a_o_priceDown a_o_draftGate a_o_draftCarries a_o_draftWorth a_o_draftKind a_o_draftMost a_o_draftUse a_o_x a_o_bestX a_o_part a_o_row a_o_right a_o_m a_o_given a_o_wasOff : Nat) (o_trace : Int64) (o_typed : Int32) (o_gates : Int32) (o_wishes : Int32) (o_at : Int32) (o_start : Int32) (o_sort : Int32) (o_value : Int32) (o_fault : Int32) (o_drafted : Int32) (o_by : Int64) (o_bestBy : Int64) (o_bestWorth : Int64) (o_isBest : Int32) (o_parts : Int32) (o_priceUp : Nat → Int32) (o_priceDown : Nat → Int32) : va_W := [(a_o, .inr (7, [.long o_trace, .ref a_o_text, .int o_typed, .int o_gates, .int o_wishes, .ref a_o_letter, .ref a_o_least, .ref a_o_carries, .ref a_o_gateOff, .ref a_o_worth, .ref a_o_kind, .ref a_o_most, .ref a_o_wishOff, .ref a_o_use, .ref a_o_toldUp, .ref a_o_toldDown, .ref a_o_priceUp, .ref a_o_priceDown, .int o_at, .int o_start, .int o_sort, .int o_value, .int o_fault, .ref a_o_draftGate, .ref a_o_draftCarries, .ref a_o_draftWorth, .ref a_o_draftKind, .ref a_o_draftMost, .ref a_o_draftUse, .int o_drafted, .ref a_o_x, .long o_by, .ref a_o_bestX, .long o_bestBy, .long o_bestWorth, .int o_isBest, .ref a_o_part, .int o_parts, .ref a_o_row, .ref a_o_right, .ref a_o_m, .ref a_o_given, .ref a_o_wasOff])), (a_o_priceUp, .inl (cy 1, 5, .inl o_priceUp)), (a_o_priceDown, .inl (cy 1, 5, .inl o_priceDown))]
set_option maxHeartbeats 4000000 in
set_option maxRecDepth 100000 in
theorem c_X7_price (l : Launch) (D : va_G) (cy : Nat → ClassId) (a_o a_o_text a_o_letter a_o_least a_o_carries a_o_gateOff a_o_worth a_o_kind a_o_most a_o_wishOff a_o_use a_o_toldUp a_o_toldDown a_o_priceUp a_o_priceDown a_o_draftGate a_o_draftCarries a_o_draftWorth a_o_draftKind a_o_draftMost a_o_draftUse a_o_x a_o_bestX a_o_part a_o_row a_o_right a_o_m a_o_given a_o_wasOff : Nat) (sz : Nat)  {o_trace : Int64} {o_typed : Int32} {o_gates : Int32} {o_wishes : Int32} {o_at : Int32} {o_start : Int32} {o_sort : Int32} {o_value : Int32} {o_fault : Int32} {o_drafted : Int32} {o_by : Int64} {o_bestBy : Int64} {o_bestWorth : Int64} {o_isBest : Int32} {o_parts : Int32} {o_priceUp : Nat → Int32} {o_priceDown : Nat → Int32} {x1 : Int32} {post : Int64 → Prop} (h : wp_X7_price o_priceUp o_priceDown x1 post) : Met l yX7_price wsX7_price ({ frames := 0, cells := 0, slots := 0, locals := 0 }) (va_Pc [.ref a_o, .int x1] (wI D cy sz (w_X7_price cy a_o a_o_text a_o_letter a_o_least a_o_carries a_o_gateOff a_o_worth a_o_kind a_o_most a_o_wishOff a_o_use a_o_toldUp a_o_toldDown a_o_priceUp a_o_priceDown a_o_draftGate a_o_draftCarries a_o_draftWorth a_o_draftKind a_o_draftMost a_o_draftUse a_o_x a_o_bestX a_o_part a_o_row a_o_right a_o_m a_o_given a_o_wasOff o_trace o_typed o_gates o_wishes o_at o_start o_sort o_value o_fault o_drafted o_by o_bestBy o_bestWorth o_isBest o_parts o_priceUp o_priceDown))) (va_Ql (fun (r : Int64) (u : Unit) => post r ) (fun (u : Unit) t => wO D cy (va_A (w_X7_price cy a_o a_o_text a_o_letter a_o_least a_o_carries a_o_gateOff a_o_worth a_o_kind a_o_most a_o_wishOff a_o_use a_o_toldUp a_o_toldDown a_o_priceUp a_o_priceDown a_o_draftGate a_o_draftCarries a_o_draftWorth a_o_draftKind a_o_draftMost a_o_draftUse a_o_x a_o_bestX a_o_part a_o_row a_o_right a_o_m a_o_given a_o_wasOff o_trace o_typed o_gates o_wishes o_at o_start o_sort o_value o_fault o_drafted o_by o_bestBy o_bestWorth o_isBest o_parts o_priceUp o_priceDown) sz) (w_X7_price cy a_o a_o_text a_o_letter a_o_least a_o_carries a_o_gateOff a_o_worth a_o_kind a_o_most a_o_wishOff a_o_use a_o_toldUp a_o_toldDown a_o_priceUp a_o_priceDown a_o_draftGate a_o_draftCarries a_o_draftWorth a_o_draftKind a_o_draftMost a_o_draftUse a_o_x a_o_bestX a_o_part a_o_row a_o_right a_o_m a_o_given a_o_wasOff o_trace o_typed o_gates o_wishes o_at o_start o_sort o_value o_fault o_drafted o_by o_bestBy o_bestWorth o_isBest o_parts o_priceUp o_priceDown) t) (va_A (w_X7_price cy a_o a_o_text a_o_letter a_o_least a_o_carries a_o_gateOff a_o_worth a_o_kind a_o_most a_o_wishOff a_o_use a_o_toldUp a_o_toldDown a_o_priceUp a_o_priceDown a_o_draftGate a_o_draftCarries a_o_draftWorth a_o_draftKind a_o_draftMost a_o_draftUse a_o_x a_o_bestX a_o_part a_o_row a_o_right a_o_m a_o_given a_o_wasOff o_trace o_typed o_gates o_wishes o_at o_start o_sort o_value o_fault o_drafted o_by o_bestBy o_bestWorth o_isBest o_parts o_priceUp o_priceDown) sz)) 0 0 (va_A (w_X7_price cy a_o a_o_text a_o_letter a_o_least a_o_carries a_o_gateOff a_o_worth a_o_kind a_o_most a_o_wishOff a_o_use a_o_toldUp a_o_toldDown a_o_priceUp a_o_priceDown a_o_draftGate a_o_draftCarries a_o_draftWorth a_o_draftKind a_o_draftMost a_o_draftUse a_o_x a_o_bestX a_o_part a_o_row a_o_right a_o_m a_o_given a_o_wasOff o_trace o_typed o_gates o_wishes o_at o_start o_sort o_value o_fault o_drafted o_by o_bestBy o_bestWorth o_isBest o_parts o_priceUp o_priceDown) sz) := by
  refine contrL (S := Unit) (post := fun (r : Int64) (u : Unit) => post r ) (wOut := fun (u : Unit) => (w_X7_price cy a_o a_o_text a_o_letter a_o_least a_o_carries a_o_gateOff a_o_worth a_o_kind a_o_most a_o_wishOff a_o_use a_o_toldUp a_o_toldDown a_o_priceUp a_o_priceDown a_o_draftGate a_o_draftCarries a_o_draftWorth a_o_draftKind a_o_draftMost a_o_draftUse a_o_x a_o_bestX a_o_part a_o_row a_o_right a_o_m a_o_given a_o_wasOff o_trace o_typed o_gates o_wishes o_at o_start o_sort o_value o_fault o_drafted o_by o_bestBy o_bestWorth o_isBest o_parts o_priceUp o_priceDown)) (cc := cX7_price) (maxL := 2) (own := RX7) (by decide +kernel) rfl rfl ?_
  intro p e s m args below meth c A Q hx hb hml hown hts hK hN hP hD hS hA hret
  have in_X7 : ∀ w ∈ u_ws RX7 TX7 43, w ∈ wsX7_price := by decide +kernel
  have fl_48 := hts (.fieldLink RX7 48 "DawnTableModel" "priceUp" "[I") (by decide +kernel)
  have fl_51 := hts (.fieldLink RX7 51 "DawnTableModel" "priceDown" "[I") (by decide +kernel)
  refine ent [.ref a_o, .int x1] (Nat.le_of_ble_eq_true rfl) (fun ls hl => ?_)
  have hl : lv_has ls 2 [(0, .ref a_o), (1, .int x1)] := hl
  unfold wp_X7_price at h
  refine lv_aload_n hx hb dX7_price_0 rfl (lv_at hl 0 rfl) ?_
  refine va_get (D := D) (ci := 7) (v := .ref a_o_priceUp) (C := RX7) (T := TX7) (N := 43) hx hb hts in_X7 hown hK hP 0 rfl rfl 16 (by decide) fl_48 (fun _ h9 => h9) rfl dX7_price_1 ?_
  refine lv_iload_n hx hb dX7_price_4 rfl (lv_at hl 1 rfl) ?_
  obtain ⟨i1, h⟩ := h
  refine va_iald hx hb hK hP 1 1 rfl rfl i1 dX7_price_5 ?_
  refine lv_i2l hx hb dX7_price_6 rfl ?_
  refine lv_sipush (v := 27720) hx hb dX7_price_7 (by decide) ?_
  refine lv_aload_n hx hb dX7_price_10 rfl (lv_at hl 0 rfl) ?_
  refine va_get (D := D) (ci := 7) (v := .ref a_o_priceDown) (C := RX7) (T := TX7) (N := 43) hx hb hts in_X7 hown hK hP 0 rfl rfl 17 (by decide) fl_51 (fun _ h9 => h9) rfl dX7_price_11 ?_
  refine lv_iload_n hx hb dX7_price_14 rfl (lv_at hl 1 rfl) ?_
  refine va_iald hx hb hK hP 2 1 rfl rfl i1 dX7_price_15 ?_
  obtain ⟨z2, h⟩ := h
  refine lv_idiv hx hb dX7_price_16 z2 ?_
  refine lv_i2l hx hb dX7_price_17 rfl ?_
  refine lv_lmul hx hb dX7_price_18 ?_
  exact hret (((o_priceUp (x1).toNatClampNeg)).toInt64 * (((27720 : Int32) / (o_priceDown (x1).toNatClampNeg))).toInt64) () _ _ _ _ h hP hD hS dX7_price_19

def wj_X7_offs_27  (x2 : Int32) (s0 : Int32) (s1 : Int32) (o_gates : Int32) (o_gateOff : Nat → Int32) (kb : Int32 → Int32 → Prop) (kx0 : Int32 → Prop) (post : Int32 → Prop) : Prop :=
  kb (s0 + s1) (x2 + (1 : Int32))
def ws_X7_offs_4 (o_gates : Int32) (o_gateOff : Nat → Int32) (kb : Int32 → Int32 → Prop) (kx0 : Int32 → Prop) (post : Int32 → Prop) (x1 : Int32) (x2 : Int32) : Prop :=
  ((o_gates ≤ x2 → kx0 x1) ∧
   (¬ o_gates ≤ x2 → (vp_in x2 5 ∧ (((o_gateOff (x2).toNatClampNeg) = 0 → wj_X7_offs_27 x2 x1 (0 : Int32) o_gates o_gateOff kb kx0 post) ∧
   (¬ (o_gateOff (x2).toNatClampNeg) = 0 → wj_X7_offs_27 x2 x1 (1 : Int32) o_gates o_gateOff kb kx0 post)))))
def wl_X7_offs_4 (o_gates : Int32) (o_gateOff : Nat → Int32) (kx0 : Int32 → Prop) (post : Int32 → Prop) : Nat → Int32 → Int32 → Prop
  | 0, _, _ => False
  | n + 1, x1, x2 => ws_X7_offs_4 o_gates o_gateOff (wl_X7_offs_4 o_gates o_gateOff kx0 post n) kx0 post x1 x2
def wp_X7_offs  (o_gates : Int32) (o_gateOff : Nat → Int32)  (post : Int32 → Prop) : Prop :=
  ∃ n5, wl_X7_offs_4 o_gates o_gateOff (fun (x1_4 : Int32) => post x1_4) post n5 (0 : Int32) (0 : Int32)
abbrev w_X7_offs (cy : Nat → ClassId) (a_o a_o_text a_o_letter a_o_least a_o_carries a_o_gateOff a_o_worth a_o_kind a_o_most a_o_wishOff a_o_use a_o_toldUp a_o_toldDown a_o_priceUp a_o_priceDown a_o_draftGate a_o_draftCarries a_o_draftWorth a_o_draftKind a_o_draftMost a_o_draftUse a_o_x a_o_bestX a_o_part a_o_row a_o_right a_o_m a_o_given a_o_wasOff : Nat) (o_trace : Int64) (o_typed : Int32) (o_gates : Int32) (o_wishes : Int32) (o_at : Int32) (o_start : Int32) (o_sort : Int32) (o_value : Int32) (o_fault : Int32) (o_drafted : Int32) (o_by : Int64) (o_bestBy : Int64) (o_bestWorth : Int64) (o_isBest : Int32) (o_parts : Int32) (o_gateOff : Nat → Int32) : va_W := [(a_o, .inr (7, [.long o_trace, .ref a_o_text, .int o_typed, .int o_gates, .int o_wishes, .ref a_o_letter, .ref a_o_least, .ref a_o_carries, .ref a_o_gateOff, .ref a_o_worth, .ref a_o_kind, .ref a_o_most, .ref a_o_wishOff, .ref a_o_use, .ref a_o_toldUp, .ref a_o_toldDown, .ref a_o_priceUp, .ref a_o_priceDown, .int o_at, .int o_start, .int o_sort, .int o_value, .int o_fault, .ref a_o_draftGate, .ref a_o_draftCarries, .ref a_o_draftWorth, .ref a_o_draftKind, .ref a_o_draftMost, .ref a_o_draftUse, .int o_drafted, .ref a_o_x, .long o_by, .ref a_o_bestX, .long o_bestBy, .long o_bestWorth, .int o_isBest, .ref a_o_part, .int o_parts, .ref a_o_row, .ref a_o_right, .ref a_o_m, .ref a_o_given, .ref a_o_wasOff])), (a_o_gateOff, .inl (cy 3, 5, .inl o_gateOff))]
set_option maxHeartbeats 4000000 in
set_option maxRecDepth 100000 in
theorem c_X7_offs (l : Launch) (D : va_G) (cy : Nat → ClassId) (a_o a_o_text a_o_letter a_o_least a_o_carries a_o_gateOff a_o_worth a_o_kind a_o_most a_o_wishOff a_o_use a_o_toldUp a_o_toldDown a_o_priceUp a_o_priceDown a_o_draftGate a_o_draftCarries a_o_draftWorth a_o_draftKind a_o_draftMost a_o_draftUse a_o_x a_o_bestX a_o_part a_o_row a_o_right a_o_m a_o_given a_o_wasOff : Nat) (sz : Nat)  {o_trace : Int64} {o_typed : Int32} {o_gates : Int32} {o_wishes : Int32} {o_at : Int32} {o_start : Int32} {o_sort : Int32} {o_value : Int32} {o_fault : Int32} {o_drafted : Int32} {o_by : Int64} {o_bestBy : Int64} {o_bestWorth : Int64} {o_isBest : Int32} {o_parts : Int32} {o_gateOff : Nat → Int32}  {post : Int32 → Prop} (h : wp_X7_offs o_gates o_gateOff post) : Met l yX7_offs wsX7_offs ({ frames := 0, cells := 0, slots := 0, locals := 0 }) (va_Pc [.ref a_o] (wI D cy sz (w_X7_offs cy a_o a_o_text a_o_letter a_o_least a_o_carries a_o_gateOff a_o_worth a_o_kind a_o_most a_o_wishOff a_o_use a_o_toldUp a_o_toldDown a_o_priceUp a_o_priceDown a_o_draftGate a_o_draftCarries a_o_draftWorth a_o_draftKind a_o_draftMost a_o_draftUse a_o_x a_o_bestX a_o_part a_o_row a_o_right a_o_m a_o_given a_o_wasOff o_trace o_typed o_gates o_wishes o_at o_start o_sort o_value o_fault o_drafted o_by o_bestBy o_bestWorth o_isBest o_parts o_gateOff))) (va_Qi (fun (r : Int32) (u : Unit) => post r ) (fun (u : Unit) t => wO D cy (va_A (w_X7_offs cy a_o a_o_text a_o_letter a_o_least a_o_carries a_o_gateOff a_o_worth a_o_kind a_o_most a_o_wishOff a_o_use a_o_toldUp a_o_toldDown a_o_priceUp a_o_priceDown a_o_draftGate a_o_draftCarries a_o_draftWorth a_o_draftKind a_o_draftMost a_o_draftUse a_o_x a_o_bestX a_o_part a_o_row a_o_right a_o_m a_o_given a_o_wasOff o_trace o_typed o_gates o_wishes o_at o_start o_sort o_value o_fault o_drafted o_by o_bestBy o_bestWorth o_isBest o_parts o_gateOff) sz) (w_X7_offs cy a_o a_o_text a_o_letter a_o_least a_o_carries a_o_gateOff a_o_worth a_o_kind a_o_most a_o_wishOff a_o_use a_o_toldUp a_o_toldDown a_o_priceUp a_o_priceDown a_o_draftGate a_o_draftCarries a_o_draftWorth a_o_draftKind a_o_draftMost a_o_draftUse a_o_x a_o_bestX a_o_part a_o_row a_o_right a_o_m a_o_given a_o_wasOff o_trace o_typed o_gates o_wishes o_at o_start o_sort o_value o_fault o_drafted o_by o_bestBy o_bestWorth o_isBest o_parts o_gateOff) t) (va_A (w_X7_offs cy a_o a_o_text a_o_letter a_o_least a_o_carries a_o_gateOff a_o_worth a_o_kind a_o_most a_o_wishOff a_o_use a_o_toldUp a_o_toldDown a_o_priceUp a_o_priceDown a_o_draftGate a_o_draftCarries a_o_draftWorth a_o_draftKind a_o_draftMost a_o_draftUse a_o_x a_o_bestX a_o_part a_o_row a_o_right a_o_m a_o_given a_o_wasOff o_trace o_typed o_gates o_wishes o_at o_start o_sort o_value o_fault o_drafted o_by o_bestBy o_bestWorth o_isBest o_parts o_gateOff) sz)) 0 0 (va_A (w_X7_offs cy a_o a_o_text a_o_letter a_o_least a_o_carries a_o_gateOff a_o_worth a_o_kind a_o_most a_o_wishOff a_o_use a_o_toldUp a_o_toldDown a_o_priceUp a_o_priceDown a_o_draftGate a_o_draftCarries a_o_draftWorth a_o_draftKind a_o_draftMost a_o_draftUse a_o_x a_o_bestX a_o_part a_o_row a_o_right a_o_m a_o_given a_o_wasOff o_trace o_typed o_gates o_wishes o_at o_start o_sort o_value o_fault o_drafted o_by o_bestBy o_bestWorth o_isBest o_parts o_gateOff) sz) := by
  refine contrI (S := Unit) (post := fun (r : Int32) (u : Unit) => post r ) (wOut := fun (u : Unit) => (w_X7_offs cy a_o a_o_text a_o_letter a_o_least a_o_carries a_o_gateOff a_o_worth a_o_kind a_o_most a_o_wishOff a_o_use a_o_toldUp a_o_toldDown a_o_priceUp a_o_priceDown a_o_draftGate a_o_draftCarries a_o_draftWorth a_o_draftKind a_o_draftMost a_o_draftUse a_o_x a_o_bestX a_o_part a_o_row a_o_right a_o_m a_o_given a_o_wasOff o_trace o_typed o_gates o_wishes o_at o_start o_sort o_value o_fault o_drafted o_by o_bestBy o_bestWorth o_isBest o_parts o_gateOff)) (cc := cX7_offs) (maxL := 3) (own := RX7) (by decide +kernel) rfl rfl ?_
  intro p e s m args below meth c A Q hx hb hml hown hts hK hN hP hD hS hA hret
  have in_X7 : ∀ w ∈ u_ws RX7 TX7 43, w ∈ wsX7_offs := by decide +kernel
  have fl_182 := hts (.fieldLink RX7 182 "DawnTableModel" "gates" "I") (by decide +kernel)
  have fl_23 := hts (.fieldLink RX7 23 "DawnTableModel" "gateOff" "[Z") (by decide +kernel)
  have j_27_0 : ∀ (x2 : Int32) (s0 : Int32) (s1 : Int32), ∀ (kb : Int32 → Int32 → Prop), (∀ (x1 : Int32) (x2 : Int32), kb x1 x2 → ∀ (H : Heap) (locs : List Loc), va_P D vwCl (w_X7_offs cy a_o a_o_text a_o_letter a_o_least a_o_carries a_o_gateOff a_o_worth a_o_kind a_o_most a_o_wishOff a_o_use a_o_toldUp a_o_toldDown a_o_priceUp a_o_priceDown a_o_draftGate a_o_draftCarries a_o_draftWorth a_o_draftKind a_o_draftMost a_o_draftUse a_o_x a_o_bestX a_o_part a_o_row a_o_right a_o_m a_o_given a_o_wasOff o_trace o_typed o_gates o_wishes o_at o_start o_sort o_value o_fault o_drafted o_by o_bestBy o_bestWorth o_isBest o_parts o_gateOff) H → va_D A (w_X7_offs cy a_o a_o_text a_o_letter a_o_least a_o_carries a_o_gateOff a_o_worth a_o_kind a_o_most a_o_wishOff a_o_use a_o_toldUp a_o_toldDown a_o_priceUp a_o_priceDown a_o_draftGate a_o_draftCarries a_o_draftWorth a_o_draftKind a_o_draftMost a_o_draftUse a_o_x a_o_bestX a_o_part a_o_row a_o_right a_o_m a_o_given a_o_wasOff o_trace o_typed o_gates o_wishes o_at o_start o_sort o_value o_fault o_drafted o_by o_bestBy o_bestWorth o_isBest o_parts o_gateOff) → va_S A s.heap H locs → ∀ (ls : Array Slot), lv_has ls 3 [(0, .ref a_o), (1, .int x1), (2, .int x2)] → W p l e ({ frames := 0, cells := 0, slots := 0, locals := 0 }) s m args below meth c H locs 0 0 Q (F0 m 4 ls [])) → ∀ (kx0 : Int32 → Prop), (∀ (x1 : Int32), kx0 x1 → ∀ (H : Heap) (locs : List Loc), va_P D vwCl (w_X7_offs cy a_o a_o_text a_o_letter a_o_least a_o_carries a_o_gateOff a_o_worth a_o_kind a_o_most a_o_wishOff a_o_use a_o_toldUp a_o_toldDown a_o_priceUp a_o_priceDown a_o_draftGate a_o_draftCarries a_o_draftWorth a_o_draftKind a_o_draftMost a_o_draftUse a_o_x a_o_bestX a_o_part a_o_row a_o_right a_o_m a_o_given a_o_wasOff o_trace o_typed o_gates o_wishes o_at o_start o_sort o_value o_fault o_drafted o_by o_bestBy o_bestWorth o_isBest o_parts o_gateOff) H → va_D A (w_X7_offs cy a_o a_o_text a_o_letter a_o_least a_o_carries a_o_gateOff a_o_worth a_o_kind a_o_most a_o_wishOff a_o_use a_o_toldUp a_o_toldDown a_o_priceUp a_o_priceDown a_o_draftGate a_o_draftCarries a_o_draftWorth a_o_draftKind a_o_draftMost a_o_draftUse a_o_x a_o_bestX a_o_part a_o_row a_o_right a_o_m a_o_given a_o_wasOff o_trace o_typed o_gates o_wishes o_at o_start o_sort o_value o_fault o_drafted o_by o_bestBy o_bestWorth o_isBest o_parts o_gateOff) → va_S A s.heap H locs → ∀ (ls : Array Slot), lv_has ls 3 [(1, .int x1)] → W p l e ({ frames := 0, cells := 0, slots := 0, locals := 0 }) s m args below meth c H locs 0 0 Q (F0 m 35 ls [])) → wj_X7_offs_27  x2 s0 s1 o_gates o_gateOff kb kx0 post → ∀ (H : Heap) (locs : List Loc), va_P D vwCl (w_X7_offs cy a_o a_o_text a_o_letter a_o_least a_o_carries a_o_gateOff a_o_worth a_o_kind a_o_most a_o_wishOff a_o_use a_o_toldUp a_o_toldDown a_o_priceUp a_o_priceDown a_o_draftGate a_o_draftCarries a_o_draftWorth a_o_draftKind a_o_draftMost a_o_draftUse a_o_x a_o_bestX a_o_part a_o_row a_o_right a_o_m a_o_given a_o_wasOff o_trace o_typed o_gates o_wishes o_at o_start o_sort o_value o_fault o_drafted o_by o_bestBy o_bestWorth o_isBest o_parts o_gateOff) H → va_D A (w_X7_offs cy a_o a_o_text a_o_letter a_o_least a_o_carries a_o_gateOff a_o_worth a_o_kind a_o_most a_o_wishOff a_o_use a_o_toldUp a_o_toldDown a_o_priceUp a_o_priceDown a_o_draftGate a_o_draftCarries a_o_draftWorth a_o_draftKind a_o_draftMost a_o_draftUse a_o_x a_o_bestX a_o_part a_o_row a_o_right a_o_m a_o_given a_o_wasOff o_trace o_typed o_gates o_wishes o_at o_start o_sort o_value o_fault o_drafted o_by o_bestBy o_bestWorth o_isBest o_parts o_gateOff) → va_S A s.heap H locs → ∀ (ls : Array Slot), lv_has ls 3 [(0, .ref a_o), (2, .int x2)] → W p l e ({ frames := 0, cells := 0, slots := 0, locals := 0 }) s m args below meth c H locs 0 0 Q (F0 m 27 ls [.int s1, .int s0]) := by
    intro x2 s0 s1 kb hkb kx0 hkx0  h H locs hP hD hS ls hl
    unfold wj_X7_offs_27 at h
    refine lv_iadd hx hb dX7_offs_27 ?_
    refine lv_istore_n (lv' := [(1, .int (s0 + s1)), (0, .ref a_o), (2, .int x2)]) hx hb dX7_offs_28 rfl hl (by decide) rfl (fun ls hl => ?_)
    refine lv_iinc (v := (x2 + (1 : Int32))) (lv' := [(2, .int (x2 + (1 : Int32))), (1, .int (s0 + s1)), (0, .ref a_o)]) hx hb dX7_offs_29 hl (k := 2) rfl (congrArg (fun z => x2 + z) (by decide : Int32.ofInt (1) = (1 : Int32))) (by decide) rfl (fun ls hl => ?_)
    refine lv_goto (tgt := 4) hx hb dX7_offs_32 (by decide) ?_
    exact hkb (s0 + s1) (x2 + (1 : Int32)) h _ _ hP hD hS _ (lv_sub hl [2, 1, 0] rfl)
  have l_4 : ∀ (kx0 : Int32 → Prop), (∀ (x1 : Int32), kx0 x1 → ∀ (H : Heap) (locs : List Loc), va_P D vwCl (w_X7_offs cy a_o a_o_text a_o_letter a_o_least a_o_carries a_o_gateOff a_o_worth a_o_kind a_o_most a_o_wishOff a_o_use a_o_toldUp a_o_toldDown a_o_priceUp a_o_priceDown a_o_draftGate a_o_draftCarries a_o_draftWorth a_o_draftKind a_o_draftMost a_o_draftUse a_o_x a_o_bestX a_o_part a_o_row a_o_right a_o_m a_o_given a_o_wasOff o_trace o_typed o_gates o_wishes o_at o_start o_sort o_value o_fault o_drafted o_by o_bestBy o_bestWorth o_isBest o_parts o_gateOff) H → va_D A (w_X7_offs cy a_o a_o_text a_o_letter a_o_least a_o_carries a_o_gateOff a_o_worth a_o_kind a_o_most a_o_wishOff a_o_use a_o_toldUp a_o_toldDown a_o_priceUp a_o_priceDown a_o_draftGate a_o_draftCarries a_o_draftWorth a_o_draftKind a_o_draftMost a_o_draftUse a_o_x a_o_bestX a_o_part a_o_row a_o_right a_o_m a_o_given a_o_wasOff o_trace o_typed o_gates o_wishes o_at o_start o_sort o_value o_fault o_drafted o_by o_bestBy o_bestWorth o_isBest o_parts o_gateOff) → va_S A s.heap H locs → ∀ (ls : Array Slot), lv_has ls 3 [(1, .int x1)] → W p l e ({ frames := 0, cells := 0, slots := 0, locals := 0 }) s m args below meth c H locs 0 0 Q (F0 m 35 ls [])) → ∀ (n : Nat) (x1 : Int32) (x2 : Int32), wl_X7_offs_4 o_gates o_gateOff kx0 post n x1 x2 → ∀ (H : Heap) (locs : List Loc), va_P D vwCl (w_X7_offs cy a_o a_o_text a_o_letter a_o_least a_o_carries a_o_gateOff a_o_worth a_o_kind a_o_most a_o_wishOff a_o_use a_o_toldUp a_o_toldDown a_o_priceUp a_o_priceDown a_o_draftGate a_o_draftCarries a_o_draftWorth a_o_draftKind a_o_draftMost a_o_draftUse a_o_x a_o_bestX a_o_part a_o_row a_o_right a_o_m a_o_given a_o_wasOff o_trace o_typed o_gates o_wishes o_at o_start o_sort o_value o_fault o_drafted o_by o_bestBy o_bestWorth o_isBest o_parts o_gateOff) H → va_D A (w_X7_offs cy a_o a_o_text a_o_letter a_o_least a_o_carries a_o_gateOff a_o_worth a_o_kind a_o_most a_o_wishOff a_o_use a_o_toldUp a_o_toldDown a_o_priceUp a_o_priceDown a_o_draftGate a_o_draftCarries a_o_draftWorth a_o_draftKind a_o_draftMost a_o_draftUse a_o_x a_o_bestX a_o_part a_o_row a_o_right a_o_m a_o_given a_o_wasOff o_trace o_typed o_gates o_wishes o_at o_start o_sort o_value o_fault o_drafted o_by o_bestBy o_bestWorth o_isBest o_parts o_gateOff) → va_S A s.heap H locs → ∀ (ls : Array Slot), lv_has ls 3 [(0, .ref a_o), (1, .int x1), (2, .int x2)] → W p l e ({ frames := 0, cells := 0, slots := 0, locals := 0 }) s m args below meth c H locs 0 0 Q (F0 m 4 ls []) := by
    intro  kx0 hkx0  n
    induction n with
    | zero => intro x1 x2 h; exact h.elim
    | succ n hkb =>
      intro x1 x2 h H locs hP hD hS ls hl
      replace h : ws_X7_offs_4 o_gates o_gateOff (wl_X7_offs_4 o_gates o_gateOff kx0 post n) kx0 post x1 x2 := h
      generalize wl_X7_offs_4 o_gates o_gateOff kx0 post n = kb at h hkb
      unfold ws_X7_offs_4 at h
      refine lv_iload_n hx hb dX7_offs_4 rfl (lv_at hl 2 rfl) ?_
      refine lv_aload_n hx hb dX7_offs_5 rfl (lv_at hl 0 rfl) ?_
      refine va_get (D := D) (ci := 7) (v := .int o_gates) (C := RX7) (T := TX7) (N := 43) hx hb hts in_X7 hown hK hP 0 rfl rfl 3 (by decide) fl_182 (fun _ h9 => h9) rfl dX7_offs_6 ?_
      refine lv_icmp_ge (tgt := 35) hx hb dX7_offs_9 (by decide) (fun c1 => ?_) (fun c1 => ?_)
      · have h := h.1 c1
        exact hkx0 x1 h _ _ hP hD hS _ (lv_sub hl [1] rfl)
      · have h := h.2 c1
        refine lv_iload_n hx hb dX7_offs_12 rfl (lv_at hl 1 rfl) ?_
        refine lv_aload_n hx hb dX7_offs_13 rfl (lv_at hl 0 rfl) ?_
        refine va_get (D := D) (ci := 7) (v := .ref a_o_gateOff) (C := RX7) (T := TX7) (N := 43) hx hb hts in_X7 hown hK hP 0 rfl rfl 8 (by decide) fl_23 (fun _ h9 => h9) rfl dX7_offs_14 ?_
        refine lv_iload_n hx hb dX7_offs_17 rfl (lv_at hl 2 rfl) ?_
        obtain ⟨i2, h⟩ := h
        refine va_zald hx hb hK hP 1 3 rfl rfl i2 dX7_offs_18 ?_
        refine lv_if_eq (tgt := 26) hx hb dX7_offs_19 (by decide) (fun c3 => ?_) (fun c3 => ?_)
        · have h := h.1 c3
          refine lv_iconst (v := 0) hx hb dX7_offs_26 (by decide) ?_
          exact j_27_0 x2 x1 (0 : Int32) kb hkb kx0 hkx0 h _ _ hP hD hS _ (lv_sub hl [0, 2] rfl)
        · have h := h.2 c3
          refine lv_iconst (v := 1) hx hb dX7_offs_22 (by decide) ?_
          refine lv_goto (tgt := 27) hx hb dX7_offs_23 (by decide) ?_
          exact j_27_0 x2 x1 (1 : Int32) kb hkb kx0 hkx0 h _ _ hP hD hS _ (lv_sub hl [0, 2] rfl)
  refine ent [.ref a_o] (Nat.le_of_ble_eq_true rfl) (fun ls hl => ?_)
  have hl : lv_has ls 3 [(0, .ref a_o)] := hl
  unfold wp_X7_offs at h
  refine lv_iconst (v := 0) hx hb dX7_offs_0 (by decide) ?_
  refine lv_istore_n (lv' := [(1, .int (0 : Int32)), (0, .ref a_o)]) hx hb dX7_offs_1 rfl hl (by decide) rfl (fun ls hl => ?_)
  refine lv_iconst (v := 0) hx hb dX7_offs_2 (by decide) ?_
  refine lv_istore_n (lv' := [(2, .int (0 : Int32)), (1, .int (0 : Int32)), (0, .ref a_o)]) hx hb dX7_offs_3 rfl hl (by decide) rfl (fun ls hl => ?_)
  obtain ⟨n5, h⟩ := h
  refine l_4  _ ?_ n5 (0 : Int32) (0 : Int32) h _ _ hP hD hS _ (lv_sub hl [2, 1, 0] rfl)
  · intro x1_4 h H locs hP hD hS ls hl
    refine lv_iload_n hx hb dX7_offs_35 rfl (lv_at hl 0 rfl) ?_
    exact hret x1_4 () _ _ _ _ h hP hD hS dX7_offs_36

def wj_X7_wishOffs_27  (x2 : Int32) (s0 : Int32) (s1 : Int32) (o_wishes : Int32) (o_wishOff : Nat → Int32) (kb : Int32 → Int32 → Prop) (kx0 : Int32 → Prop) (post : Int32 → Prop) : Prop :=
  kb (s0 + s1) (x2 + (1 : Int32))
def ws_X7_wishOffs_4 (o_wishes : Int32) (o_wishOff : Nat → Int32) (kb : Int32 → Int32 → Prop) (kx0 : Int32 → Prop) (post : Int32 → Prop) (x1 : Int32) (x2 : Int32) : Prop :=
  ((o_wishes ≤ x2 → kx0 x1) ∧
   (¬ o_wishes ≤ x2 → (vp_in x2 4 ∧ (((o_wishOff (x2).toNatClampNeg) = 0 → wj_X7_wishOffs_27 x2 x1 (0 : Int32) o_wishes o_wishOff kb kx0 post) ∧
   (¬ (o_wishOff (x2).toNatClampNeg) = 0 → wj_X7_wishOffs_27 x2 x1 (1 : Int32) o_wishes o_wishOff kb kx0 post)))))
def wl_X7_wishOffs_4 (o_wishes : Int32) (o_wishOff : Nat → Int32) (kx0 : Int32 → Prop) (post : Int32 → Prop) : Nat → Int32 → Int32 → Prop
  | 0, _, _ => False
  | n + 1, x1, x2 => ws_X7_wishOffs_4 o_wishes o_wishOff (wl_X7_wishOffs_4 o_wishes o_wishOff kx0 post n) kx0 post x1 x2
def wp_X7_wishOffs  (o_wishes : Int32) (o_wishOff : Nat → Int32)  (post : Int32 → Prop) : Prop :=
  ∃ n5, wl_X7_wishOffs_4 o_wishes o_wishOff (fun (x1_4 : Int32) => post x1_4) post n5 (0 : Int32) (0 : Int32)
abbrev w_X7_wishOffs (cy : Nat → ClassId) (a_o a_o_text a_o_letter a_o_least a_o_carries a_o_gateOff a_o_worth a_o_kind a_o_most a_o_wishOff a_o_use a_o_toldUp a_o_toldDown a_o_priceUp a_o_priceDown a_o_draftGate a_o_draftCarries a_o_draftWorth a_o_draftKind a_o_draftMost a_o_draftUse a_o_x a_o_bestX a_o_part a_o_row a_o_right a_o_m a_o_given a_o_wasOff : Nat) (o_trace : Int64) (o_typed : Int32) (o_gates : Int32) (o_wishes : Int32) (o_at : Int32) (o_start : Int32) (o_sort : Int32) (o_value : Int32) (o_fault : Int32) (o_drafted : Int32) (o_by : Int64) (o_bestBy : Int64) (o_bestWorth : Int64) (o_isBest : Int32) (o_parts : Int32) (o_wishOff : Nat → Int32) : va_W := [(a_o, .inr (7, [.long o_trace, .ref a_o_text, .int o_typed, .int o_gates, .int o_wishes, .ref a_o_letter, .ref a_o_least, .ref a_o_carries, .ref a_o_gateOff, .ref a_o_worth, .ref a_o_kind, .ref a_o_most, .ref a_o_wishOff, .ref a_o_use, .ref a_o_toldUp, .ref a_o_toldDown, .ref a_o_priceUp, .ref a_o_priceDown, .int o_at, .int o_start, .int o_sort, .int o_value, .int o_fault, .ref a_o_draftGate, .ref a_o_draftCarries, .ref a_o_draftWorth, .ref a_o_draftKind, .ref a_o_draftMost, .ref a_o_draftUse, .int o_drafted, .ref a_o_x, .long o_by, .ref a_o_bestX, .long o_bestBy, .long o_bestWorth, .int o_isBest, .ref a_o_part, .int o_parts, .ref a_o_row, .ref a_o_right, .ref a_o_m, .ref a_o_given, .ref a_o_wasOff])), (a_o_wishOff, .inl (cy 3, 4, .inl o_wishOff))]
set_option maxHeartbeats 4000000 in
set_option maxRecDepth 100000 in
theorem c_X7_wishOffs (l : Launch) (D : va_G) (cy : Nat → ClassId) (a_o a_o_text a_o_letter a_o_least a_o_carries a_o_gateOff a_o_worth a_o_kind a_o_most a_o_wishOff a_o_use a_o_toldUp a_o_toldDown a_o_priceUp a_o_priceDown a_o_draftGate a_o_draftCarries a_o_draftWorth a_o_draftKind a_o_draftMost a_o_draftUse a_o_x a_o_bestX a_o_part a_o_row a_o_right a_o_m a_o_given a_o_wasOff : Nat) (sz : Nat)  {o_trace : Int64} {o_typed : Int32} {o_gates : Int32} {o_wishes : Int32} {o_at : Int32} {o_start : Int32} {o_sort : Int32} {o_value : Int32} {o_fault : Int32} {o_drafted : Int32} {o_by : Int64} {o_bestBy : Int64} {o_bestWorth : Int64} {o_isBest : Int32} {o_parts : Int32} {o_wishOff : Nat → Int32}  {post : Int32 → Prop} (h : wp_X7_wishOffs o_wishes o_wishOff post) : Met l yX7_wishOffs wsX7_wishOffs ({ frames := 0, cells := 0, slots := 0, locals := 0 }) (va_Pc [.ref a_o] (wI D cy sz (w_X7_wishOffs cy a_o a_o_text a_o_letter a_o_least a_o_carries a_o_gateOff a_o_worth a_o_kind a_o_most a_o_wishOff a_o_use a_o_toldUp a_o_toldDown a_o_priceUp a_o_priceDown a_o_draftGate a_o_draftCarries a_o_draftWorth a_o_draftKind a_o_draftMost a_o_draftUse a_o_x a_o_bestX a_o_part a_o_row a_o_right a_o_m a_o_given a_o_wasOff o_trace o_typed o_gates o_wishes o_at o_start o_sort o_value o_fault o_drafted o_by o_bestBy o_bestWorth o_isBest o_parts o_wishOff))) (va_Qi (fun (r : Int32) (u : Unit) => post r ) (fun (u : Unit) t => wO D cy (va_A (w_X7_wishOffs cy a_o a_o_text a_o_letter a_o_least a_o_carries a_o_gateOff a_o_worth a_o_kind a_o_most a_o_wishOff a_o_use a_o_toldUp a_o_toldDown a_o_priceUp a_o_priceDown a_o_draftGate a_o_draftCarries a_o_draftWorth a_o_draftKind a_o_draftMost a_o_draftUse a_o_x a_o_bestX a_o_part a_o_row a_o_right a_o_m a_o_given a_o_wasOff o_trace o_typed o_gates o_wishes o_at o_start o_sort o_value o_fault o_drafted o_by o_bestBy o_bestWorth o_isBest o_parts o_wishOff) sz) (w_X7_wishOffs cy a_o a_o_text a_o_letter a_o_least a_o_carries a_o_gateOff a_o_worth a_o_kind a_o_most a_o_wishOff a_o_use a_o_toldUp a_o_toldDown a_o_priceUp a_o_priceDown a_o_draftGate a_o_draftCarries a_o_draftWorth a_o_draftKind a_o_draftMost a_o_draftUse a_o_x a_o_bestX a_o_part a_o_row a_o_right a_o_m a_o_given a_o_wasOff o_trace o_typed o_gates o_wishes o_at o_start o_sort o_value o_fault o_drafted o_by o_bestBy o_bestWorth o_isBest o_parts o_wishOff) t) (va_A (w_X7_wishOffs cy a_o a_o_text a_o_letter a_o_least a_o_carries a_o_gateOff a_o_worth a_o_kind a_o_most a_o_wishOff a_o_use a_o_toldUp a_o_toldDown a_o_priceUp a_o_priceDown a_o_draftGate a_o_draftCarries a_o_draftWorth a_o_draftKind a_o_draftMost a_o_draftUse a_o_x a_o_bestX a_o_part a_o_row a_o_right a_o_m a_o_given a_o_wasOff o_trace o_typed o_gates o_wishes o_at o_start o_sort o_value o_fault o_drafted o_by o_bestBy o_bestWorth o_isBest o_parts o_wishOff) sz)) 0 0 (va_A (w_X7_wishOffs cy a_o a_o_text a_o_letter a_o_least a_o_carries a_o_gateOff a_o_worth a_o_kind a_o_most a_o_wishOff a_o_use a_o_toldUp a_o_toldDown a_o_priceUp a_o_priceDown a_o_draftGate a_o_draftCarries a_o_draftWorth a_o_draftKind a_o_draftMost a_o_draftUse a_o_x a_o_bestX a_o_part a_o_row a_o_right a_o_m a_o_given a_o_wasOff o_trace o_typed o_gates o_wishes o_at o_start o_sort o_value o_fault o_drafted o_by o_bestBy o_bestWorth o_isBest o_parts o_wishOff) sz) := by
  refine contrI (S := Unit) (post := fun (r : Int32) (u : Unit) => post r ) (wOut := fun (u : Unit) => (w_X7_wishOffs cy a_o a_o_text a_o_letter a_o_least a_o_carries a_o_gateOff a_o_worth a_o_kind a_o_most a_o_wishOff a_o_use a_o_toldUp a_o_toldDown a_o_priceUp a_o_priceDown a_o_draftGate a_o_draftCarries a_o_draftWorth a_o_draftKind a_o_draftMost a_o_draftUse a_o_x a_o_bestX a_o_part a_o_row a_o_right a_o_m a_o_given a_o_wasOff o_trace o_typed o_gates o_wishes o_at o_start o_sort o_value o_fault o_drafted o_by o_bestBy o_bestWorth o_isBest o_parts o_wishOff)) (cc := cX7_wishOffs) (maxL := 3) (own := RX7) (by decide +kernel) rfl rfl ?_
  intro p e s m args below meth c A Q hx hb hml hown hts hK hN hP hD hS hA hret
  have in_X7 : ∀ w ∈ u_ws RX7 TX7 43, w ∈ wsX7_wishOffs := by decide +kernel
  have fl_185 := hts (.fieldLink RX7 185 "DawnTableModel" "wishes" "I") (by decide +kernel)
  have fl_36 := hts (.fieldLink RX7 36 "DawnTableModel" "wishOff" "[Z") (by decide +kernel)
  have j_27_0 : ∀ (x2 : Int32) (s0 : Int32) (s1 : Int32), ∀ (kb : Int32 → Int32 → Prop), (∀ (x1 : Int32) (x2 : Int32), kb x1 x2 → ∀ (H : Heap) (locs : List Loc), va_P D vwCl (w_X7_wishOffs cy a_o a_o_text a_o_letter a_o_least a_o_carries a_o_gateOff a_o_worth a_o_kind a_o_most a_o_wishOff a_o_use a_o_toldUp a_o_toldDown a_o_priceUp a_o_priceDown a_o_draftGate a_o_draftCarries a_o_draftWorth a_o_draftKind a_o_draftMost a_o_draftUse a_o_x a_o_bestX a_o_part a_o_row a_o_right a_o_m a_o_given a_o_wasOff o_trace o_typed o_gates o_wishes o_at o_start o_sort o_value o_fault o_drafted o_by o_bestBy o_bestWorth o_isBest o_parts o_wishOff) H → va_D A (w_X7_wishOffs cy a_o a_o_text a_o_letter a_o_least a_o_carries a_o_gateOff a_o_worth a_o_kind a_o_most a_o_wishOff a_o_use a_o_toldUp a_o_toldDown a_o_priceUp a_o_priceDown a_o_draftGate a_o_draftCarries a_o_draftWorth a_o_draftKind a_o_draftMost a_o_draftUse a_o_x a_o_bestX a_o_part a_o_row a_o_right a_o_m a_o_given a_o_wasOff o_trace o_typed o_gates o_wishes o_at o_start o_sort o_value o_fault o_drafted o_by o_bestBy o_bestWorth o_isBest o_parts o_wishOff) → va_S A s.heap H locs → ∀ (ls : Array Slot), lv_has ls 3 [(0, .ref a_o), (1, .int x1), (2, .int x2)] → W p l e ({ frames := 0, cells := 0, slots := 0, locals := 0 }) s m args below meth c H locs 0 0 Q (F0 m 4 ls [])) → ∀ (kx0 : Int32 → Prop), (∀ (x1 : Int32), kx0 x1 → ∀ (H : Heap) (locs : List Loc), va_P D vwCl (w_X7_wishOffs cy a_o a_o_text a_o_letter a_o_least a_o_carries a_o_gateOff a_o_worth a_o_kind a_o_most a_o_wishOff a_o_use a_o_toldUp a_o_toldDown a_o_priceUp a_o_priceDown a_o_draftGate a_o_draftCarries a_o_draftWorth a_o_draftKind a_o_draftMost a_o_draftUse a_o_x a_o_bestX a_o_part a_o_row a_o_right a_o_m a_o_given a_o_wasOff o_trace o_typed o_gates o_wishes o_at o_start o_sort o_value o_fault o_drafted o_by o_bestBy o_bestWorth o_isBest o_parts o_wishOff) H → va_D A (w_X7_wishOffs cy a_o a_o_text a_o_letter a_o_least a_o_carries a_o_gateOff a_o_worth a_o_kind a_o_most a_o_wishOff a_o_use a_o_toldUp a_o_toldDown a_o_priceUp a_o_priceDown a_o_draftGate a_o_draftCarries a_o_draftWorth a_o_draftKind a_o_draftMost a_o_draftUse a_o_x a_o_bestX a_o_part a_o_row a_o_right a_o_m a_o_given a_o_wasOff o_trace o_typed o_gates o_wishes o_at o_start o_sort o_value o_fault o_drafted o_by o_bestBy o_bestWorth o_isBest o_parts o_wishOff) → va_S A s.heap H locs → ∀ (ls : Array Slot), lv_has ls 3 [(1, .int x1)] → W p l e ({ frames := 0, cells := 0, slots := 0, locals := 0 }) s m args below meth c H locs 0 0 Q (F0 m 35 ls [])) → wj_X7_wishOffs_27  x2 s0 s1 o_wishes o_wishOff kb kx0 post → ∀ (H : Heap) (locs : List Loc), va_P D vwCl (w_X7_wishOffs cy a_o a_o_text a_o_letter a_o_least a_o_carries a_o_gateOff a_o_worth a_o_kind a_o_most a_o_wishOff a_o_use a_o_toldUp a_o_toldDown a_o_priceUp a_o_priceDown a_o_draftGate a_o_draftCarries a_o_draftWorth a_o_draftKind a_o_draftMost a_o_draftUse a_o_x a_o_bestX a_o_part a_o_row a_o_right a_o_m a_o_given a_o_wasOff o_trace o_typed o_gates o_wishes o_at o_start o_sort o_value o_fault o_drafted o_by o_bestBy o_bestWorth o_isBest o_parts o_wishOff) H → va_D A (w_X7_wishOffs cy a_o a_o_text a_o_letter a_o_least a_o_carries a_o_gateOff a_o_worth a_o_kind a_o_most a_o_wishOff a_o_use a_o_toldUp a_o_toldDown a_o_priceUp a_o_priceDown a_o_draftGate a_o_draftCarries a_o_draftWorth a_o_draftKind a_o_draftMost a_o_draftUse a_o_x a_o_bestX a_o_part a_o_row a_o_right a_o_m a_o_given a_o_wasOff o_trace o_typed o_gates o_wishes o_at o_start o_sort o_value o_fault o_drafted o_by o_bestBy o_bestWorth o_isBest o_parts o_wishOff) → va_S A s.heap H locs → ∀ (ls : Array Slot), lv_has ls 3 [(0, .ref a_o), (2, .int x2)] → W p l e ({ frames := 0, cells := 0, slots := 0, locals := 0 }) s m args below meth c H locs 0 0 Q (F0 m 27 ls [.int s1, .int s0]) := by
    intro x2 s0 s1 kb hkb kx0 hkx0  h H locs hP hD hS ls hl
    unfold wj_X7_wishOffs_27 at h
    refine lv_iadd hx hb dX7_wishOffs_27 ?_
    refine lv_istore_n (lv' := [(1, .int (s0 + s1)), (0, .ref a_o), (2, .int x2)]) hx hb dX7_wishOffs_28 rfl hl (by decide) rfl (fun ls hl => ?_)
    refine lv_iinc (v := (x2 + (1 : Int32))) (lv' := [(2, .int (x2 + (1 : Int32))), (1, .int (s0 + s1)), (0, .ref a_o)]) hx hb dX7_wishOffs_29 hl (k := 2) rfl (congrArg (fun z => x2 + z) (by decide : Int32.ofInt (1) = (1 : Int32))) (by decide) rfl (fun ls hl => ?_)
    refine lv_goto (tgt := 4) hx hb dX7_wishOffs_32 (by decide) ?_
    exact hkb (s0 + s1) (x2 + (1 : Int32)) h _ _ hP hD hS _ (lv_sub hl [2, 1, 0] rfl)
  have l_4 : ∀ (kx0 : Int32 → Prop), (∀ (x1 : Int32), kx0 x1 → ∀ (H : Heap) (locs : List Loc), va_P D vwCl (w_X7_wishOffs cy a_o a_o_text a_o_letter a_o_least a_o_carries a_o_gateOff a_o_worth a_o_kind a_o_most a_o_wishOff a_o_use a_o_toldUp a_o_toldDown a_o_priceUp a_o_priceDown a_o_draftGate a_o_draftCarries a_o_draftWorth a_o_draftKind a_o_draftMost a_o_draftUse a_o_x a_o_bestX a_o_part a_o_row a_o_right a_o_m a_o_given a_o_wasOff o_trace o_typed o_gates o_wishes o_at o_start o_sort o_value o_fault o_drafted o_by o_bestBy o_bestWorth o_isBest o_parts o_wishOff) H → va_D A (w_X7_wishOffs cy a_o a_o_text a_o_letter a_o_least a_o_carries a_o_gateOff a_o_worth a_o_kind a_o_most a_o_wishOff a_o_use a_o_toldUp a_o_toldDown a_o_priceUp a_o_priceDown a_o_draftGate a_o_draftCarries a_o_draftWorth a_o_draftKind a_o_draftMost a_o_draftUse a_o_x a_o_bestX a_o_part a_o_row a_o_right a_o_m a_o_given a_o_wasOff o_trace o_typed o_gates o_wishes o_at o_start o_sort o_value o_fault o_drafted o_by o_bestBy o_bestWorth o_isBest o_parts o_wishOff) → va_S A s.heap H locs → ∀ (ls : Array Slot), lv_has ls 3 [(1, .int x1)] → W p l e ({ frames := 0, cells := 0, slots := 0, locals := 0 }) s m args below meth c H locs 0 0 Q (F0 m 35 ls [])) → ∀ (n : Nat) (x1 : Int32) (x2 : Int32), wl_X7_wishOffs_4 o_wishes o_wishOff kx0 post n x1 x2 → ∀ (H : Heap) (locs : List Loc), va_P D vwCl (w_X7_wishOffs cy a_o a_o_text a_o_letter a_o_least a_o_carries a_o_gateOff a_o_worth a_o_kind a_o_most a_o_wishOff a_o_use a_o_toldUp a_o_toldDown a_o_priceUp a_o_priceDown a_o_draftGate a_o_draftCarries a_o_draftWorth a_o_draftKind a_o_draftMost a_o_draftUse a_o_x a_o_bestX a_o_part a_o_row a_o_right a_o_m a_o_given a_o_wasOff o_trace o_typed o_gates o_wishes o_at o_start o_sort o_value o_fault o_drafted o_by o_bestBy o_bestWorth o_isBest o_parts o_wishOff) H → va_D A (w_X7_wishOffs cy a_o a_o_text a_o_letter a_o_least a_o_carries a_o_gateOff a_o_worth a_o_kind a_o_most a_o_wishOff a_o_use a_o_toldUp a_o_toldDown a_o_priceUp a_o_priceDown a_o_draftGate a_o_draftCarries a_o_draftWorth a_o_draftKind a_o_draftMost a_o_draftUse a_o_x a_o_bestX a_o_part a_o_row a_o_right a_o_m a_o_given a_o_wasOff o_trace o_typed o_gates o_wishes o_at o_start o_sort o_value o_fault o_drafted o_by o_bestBy o_bestWorth o_isBest o_parts o_wishOff) → va_S A s.heap H locs → ∀ (ls : Array Slot), lv_has ls 3 [(0, .ref a_o), (1, .int x1), (2, .int x2)] → W p l e ({ frames := 0, cells := 0, slots := 0, locals := 0 }) s m args below meth c H locs 0 0 Q (F0 m 4 ls []) := by
    intro  kx0 hkx0  n
    induction n with
    | zero => intro x1 x2 h; exact h.elim
    | succ n hkb =>
      intro x1 x2 h H locs hP hD hS ls hl
      replace h : ws_X7_wishOffs_4 o_wishes o_wishOff (wl_X7_wishOffs_4 o_wishes o_wishOff kx0 post n) kx0 post x1 x2 := h
      generalize wl_X7_wishOffs_4 o_wishes o_wishOff kx0 post n = kb at h hkb
      unfold ws_X7_wishOffs_4 at h
      refine lv_iload_n hx hb dX7_wishOffs_4 rfl (lv_at hl 2 rfl) ?_
      refine lv_aload_n hx hb dX7_wishOffs_5 rfl (lv_at hl 0 rfl) ?_
      refine va_get (D := D) (ci := 7) (v := .int o_wishes) (C := RX7) (T := TX7) (N := 43) hx hb hts in_X7 hown hK hP 0 rfl rfl 4 (by decide) fl_185 (fun _ h9 => h9) rfl dX7_wishOffs_6 ?_
      refine lv_icmp_ge (tgt := 35) hx hb dX7_wishOffs_9 (by decide) (fun c1 => ?_) (fun c1 => ?_)
      · have h := h.1 c1
        exact hkx0 x1 h _ _ hP hD hS _ (lv_sub hl [1] rfl)
      · have h := h.2 c1
        refine lv_iload_n hx hb dX7_wishOffs_12 rfl (lv_at hl 1 rfl) ?_
        refine lv_aload_n hx hb dX7_wishOffs_13 rfl (lv_at hl 0 rfl) ?_
        refine va_get (D := D) (ci := 7) (v := .ref a_o_wishOff) (C := RX7) (T := TX7) (N := 43) hx hb hts in_X7 hown hK hP 0 rfl rfl 12 (by decide) fl_36 (fun _ h9 => h9) rfl dX7_wishOffs_14 ?_
        refine lv_iload_n hx hb dX7_wishOffs_17 rfl (lv_at hl 2 rfl) ?_
        obtain ⟨i2, h⟩ := h
        refine va_zald hx hb hK hP 1 3 rfl rfl i2 dX7_wishOffs_18 ?_
        refine lv_if_eq (tgt := 26) hx hb dX7_wishOffs_19 (by decide) (fun c3 => ?_) (fun c3 => ?_)
        · have h := h.1 c3
          refine lv_iconst (v := 0) hx hb dX7_wishOffs_26 (by decide) ?_
          exact j_27_0 x2 x1 (0 : Int32) kb hkb kx0 hkx0 h _ _ hP hD hS _ (lv_sub hl [0, 2] rfl)
        · have h := h.2 c3
          refine lv_iconst (v := 1) hx hb dX7_wishOffs_22 (by decide) ?_
          refine lv_goto (tgt := 27) hx hb dX7_wishOffs_23 (by decide) ?_
          exact j_27_0 x2 x1 (1 : Int32) kb hkb kx0 hkx0 h _ _ hP hD hS _ (lv_sub hl [0, 2] rfl)
  refine ent [.ref a_o] (Nat.le_of_ble_eq_true rfl) (fun ls hl => ?_)
  have hl : lv_has ls 3 [(0, .ref a_o)] := hl
  unfold wp_X7_wishOffs at h
  refine lv_iconst (v := 0) hx hb dX7_wishOffs_0 (by decide) ?_
  refine lv_istore_n (lv' := [(1, .int (0 : Int32)), (0, .ref a_o)]) hx hb dX7_wishOffs_1 rfl hl (by decide) rfl (fun ls hl => ?_)
  refine lv_iconst (v := 0) hx hb dX7_wishOffs_2 (by decide) ?_
  refine lv_istore_n (lv' := [(2, .int (0 : Int32)), (1, .int (0 : Int32)), (0, .ref a_o)]) hx hb dX7_wishOffs_3 rfl hl (by decide) rfl (fun ls hl => ?_)
  obtain ⟨n5, h⟩ := h
  refine l_4  _ ?_ n5 (0 : Int32) (0 : Int32) h _ _ hP hD hS _ (lv_sub hl [2, 1, 0] rfl)
  · intro x1_4 h H locs hP hD hS ls hl
    refine lv_iload_n hx hb dX7_wishOffs_35 rfl (lv_at hl 0 rfl) ?_
    exact hret x1_4 () _ _ _ _ h hP hD hS dX7_wishOffs_36

def wp_X7_count  (o_typed : Int32) (o_gates : Int32) (o_wishes : Int32) (o_gateOff : Nat → Int32) (o_wishOff : Nat → Int32) (x1 : Int32) (post : Int32 → Prop) : Prop :=
  ((x1 = (0 : Int32) → post o_gates) ∧
   (¬ x1 = (0 : Int32) → ((x1 = (1 : Int32) → post o_wishes) ∧
   (¬ x1 = (1 : Int32) → ((x1 = (2 : Int32) → (wp_X7_offs o_gates o_gateOff (fun (r4 : Int32) => post r4))) ∧
   (¬ x1 = (2 : Int32) → ((x1 = (3 : Int32) → (wp_X7_wishOffs o_wishes o_wishOff (fun (r6 : Int32) => post r6))) ∧
   (¬ x1 = (3 : Int32) → ((x1 = (4 : Int32) → post o_typed) ∧
   (¬ x1 = (4 : Int32) → post (-1 : Int32)))))))))))
abbrev w_X7_count (cy : Nat → ClassId) (a_o a_o_text a_o_letter a_o_least a_o_carries a_o_gateOff a_o_worth a_o_kind a_o_most a_o_wishOff a_o_use a_o_toldUp a_o_toldDown a_o_priceUp a_o_priceDown a_o_draftGate a_o_draftCarries a_o_draftWorth a_o_draftKind a_o_draftMost a_o_draftUse a_o_x a_o_bestX a_o_part a_o_row a_o_right a_o_m a_o_given a_o_wasOff : Nat) (o_trace : Int64) (o_typed : Int32) (o_gates : Int32) (o_wishes : Int32) (o_at : Int32) (o_start : Int32) (o_sort : Int32) (o_value : Int32) (o_fault : Int32) (o_drafted : Int32) (o_by : Int64) (o_bestBy : Int64) (o_bestWorth : Int64) (o_isBest : Int32) (o_parts : Int32) (o_gateOff : Nat → Int32) (o_wishOff : Nat → Int32) : va_W := [(a_o, .inr (7, [.long o_trace, .ref a_o_text, .int o_typed, .int o_gates, .int o_wishes, .ref a_o_letter, .ref a_o_least, .ref a_o_carries, .ref a_o_gateOff, .ref a_o_worth, .ref a_o_kind, .ref a_o_most, .ref a_o_wishOff, .ref a_o_use, .ref a_o_toldUp, .ref a_o_toldDown, .ref a_o_priceUp, .ref a_o_priceDown, .int o_at, .int o_start, .int o_sort, .int o_value, .int o_fault, .ref a_o_draftGate, .ref a_o_draftCarries, .ref a_o_draftWorth, .ref a_o_draftKind, .ref a_o_draftMost, .ref a_o_draftUse, .int o_drafted, .ref a_o_x, .long o_by, .ref a_o_bestX, .long o_bestBy, .long o_bestWorth, .int o_isBest, .ref a_o_part, .int o_parts, .ref a_o_row, .ref a_o_right, .ref a_o_m, .ref a_o_given, .ref a_o_wasOff])), (a_o_gateOff, .inl (cy 3, 5, .inl o_gateOff)), (a_o_wishOff, .inl (cy 3, 4, .inl o_wishOff))]
set_option maxRecDepth 20000 in
theorem ggX7_count_X7_offs : GoodIn wsX7_count wsX7_offs := goodIn_r _ [8, 1, 9, 15, 16, 17, 18, 19, 20, 21, 22, 23, 24, 25, 26, 27, 28, 29, 30, 31, 32, 33, 34, 35, 36, 37, 38, 39, 40, 41, 42, 43, 44, 45, 46, 47, 48, 49, 50, 51, 52, 53, 54, 55, 56, 57] (by decide +kernel) (by decide +kernel)
set_option maxRecDepth 20000 in
theorem ggX7_count_X7_wishOffs : GoodIn wsX7_count wsX7_wishOffs := goodIn_r _ [13, 2, 14, 15, 16, 17, 18, 19, 20, 21, 22, 23, 24, 25, 26, 27, 28, 29, 30, 31, 32, 33, 34, 35, 36, 37, 38, 39, 40, 41, 42, 43, 44, 45, 46, 47, 48, 49, 50, 51, 52, 53, 54, 55, 56, 57] (by decide +kernel) (by decide +kernel)
set_option maxRecDepth 20000 in
theorem gX7_count_X7_offs : GoodIn wsX7_count (wsV RX7 292 RX7 yX7_offs wsX7_offs) := goodIn_app (goodIn_of _ (by decide +kernel)) ggX7_count_X7_offs
set_option maxRecDepth 20000 in
theorem gX7_count_X7_wishOffs : GoodIn wsX7_count (wsV RX7 295 RX7 yX7_wishOffs wsX7_wishOffs) := goodIn_app (goodIn_of _ (by decide +kernel)) ggX7_count_X7_wishOffs
set_option maxHeartbeats 4000000 in
set_option maxRecDepth 100000 in
theorem c_X7_count (l : Launch) (D : va_G) (cy : Nat → ClassId) (a_o a_o_text a_o_letter a_o_least a_o_carries a_o_gateOff a_o_worth a_o_kind a_o_most a_o_wishOff a_o_use a_o_toldUp a_o_toldDown a_o_priceUp a_o_priceDown a_o_draftGate a_o_draftCarries a_o_draftWorth a_o_draftKind a_o_draftMost a_o_draftUse a_o_x a_o_bestX a_o_part a_o_row a_o_right a_o_m a_o_given a_o_wasOff : Nat) (sz : Nat)  {o_trace : Int64} {o_typed : Int32} {o_gates : Int32} {o_wishes : Int32} {o_at : Int32} {o_start : Int32} {o_sort : Int32} {o_value : Int32} {o_fault : Int32} {o_drafted : Int32} {o_by : Int64} {o_bestBy : Int64} {o_bestWorth : Int64} {o_isBest : Int32} {o_parts : Int32} {o_gateOff : Nat → Int32} {o_wishOff : Nat → Int32} {x1 : Int32} {post : Int32 → Prop} (h : wp_X7_count o_typed o_gates o_wishes o_gateOff o_wishOff x1 post) : Met l yX7_count wsX7_count ({ frames := 1, cells := 0, slots := 0, locals := 22 }) (va_Pc [.ref a_o, .int x1] (wI D cy sz (w_X7_count cy a_o a_o_text a_o_letter a_o_least a_o_carries a_o_gateOff a_o_worth a_o_kind a_o_most a_o_wishOff a_o_use a_o_toldUp a_o_toldDown a_o_priceUp a_o_priceDown a_o_draftGate a_o_draftCarries a_o_draftWorth a_o_draftKind a_o_draftMost a_o_draftUse a_o_x a_o_bestX a_o_part a_o_row a_o_right a_o_m a_o_given a_o_wasOff o_trace o_typed o_gates o_wishes o_at o_start o_sort o_value o_fault o_drafted o_by o_bestBy o_bestWorth o_isBest o_parts o_gateOff o_wishOff))) (va_Qi (fun (r : Int32) (u : Unit) => post r ) (fun (u : Unit) t => wO D cy (va_A (w_X7_count cy a_o a_o_text a_o_letter a_o_least a_o_carries a_o_gateOff a_o_worth a_o_kind a_o_most a_o_wishOff a_o_use a_o_toldUp a_o_toldDown a_o_priceUp a_o_priceDown a_o_draftGate a_o_draftCarries a_o_draftWorth a_o_draftKind a_o_draftMost a_o_draftUse a_o_x a_o_bestX a_o_part a_o_row a_o_right a_o_m a_o_given a_o_wasOff o_trace o_typed o_gates o_wishes o_at o_start o_sort o_value o_fault o_drafted o_by o_bestBy o_bestWorth o_isBest o_parts o_gateOff o_wishOff) sz) (w_X7_count cy a_o a_o_text a_o_letter a_o_least a_o_carries a_o_gateOff a_o_worth a_o_kind a_o_most a_o_wishOff a_o_use a_o_toldUp a_o_toldDown a_o_priceUp a_o_priceDown a_o_draftGate a_o_draftCarries a_o_draftWorth a_o_draftKind a_o_draftMost a_o_draftUse a_o_x a_o_bestX a_o_part a_o_row a_o_right a_o_m a_o_given a_o_wasOff o_trace o_typed o_gates o_wishes o_at o_start o_sort o_value o_fault o_drafted o_by o_bestBy o_bestWorth o_isBest o_parts o_gateOff o_wishOff) t) (va_A (w_X7_count cy a_o a_o_text a_o_letter a_o_least a_o_carries a_o_gateOff a_o_worth a_o_kind a_o_most a_o_wishOff a_o_use a_o_toldUp a_o_toldDown a_o_priceUp a_o_priceDown a_o_draftGate a_o_draftCarries a_o_draftWorth a_o_draftKind a_o_draftMost a_o_draftUse a_o_x a_o_bestX a_o_part a_o_row a_o_right a_o_m a_o_given a_o_wasOff o_trace o_typed o_gates o_wishes o_at o_start o_sort o_value o_fault o_drafted o_by o_bestBy o_bestWorth o_isBest o_parts o_gateOff o_wishOff) sz)) 0 0 (va_A (w_X7_count cy a_o a_o_text a_o_letter a_o_least a_o_carries a_o_gateOff a_o_worth a_o_kind a_o_most a_o_wishOff a_o_use a_o_toldUp a_o_toldDown a_o_priceUp a_o_priceDown a_o_draftGate a_o_draftCarries a_o_draftWorth a_o_draftKind a_o_draftMost a_o_draftUse a_o_x a_o_bestX a_o_part a_o_row a_o_right a_o_m a_o_given a_o_wasOff o_trace o_typed o_gates o_wishes o_at o_start o_sort o_value o_fault o_drafted o_by o_bestBy o_bestWorth o_isBest o_parts o_gateOff o_wishOff) sz) := by
  refine contrI (S := Unit) (post := fun (r : Int32) (u : Unit) => post r ) (wOut := fun (u : Unit) => (w_X7_count cy a_o a_o_text a_o_letter a_o_least a_o_carries a_o_gateOff a_o_worth a_o_kind a_o_most a_o_wishOff a_o_use a_o_toldUp a_o_toldDown a_o_priceUp a_o_priceDown a_o_draftGate a_o_draftCarries a_o_draftWorth a_o_draftKind a_o_draftMost a_o_draftUse a_o_x a_o_bestX a_o_part a_o_row a_o_right a_o_m a_o_given a_o_wasOff o_trace o_typed o_gates o_wishes o_at o_start o_sort o_value o_fault o_drafted o_by o_bestBy o_bestWorth o_isBest o_parts o_gateOff o_wishOff)) (cc := cX7_count) (maxL := 2) (own := RX7) (by decide +kernel) rfl rfl ?_
  intro p e s m args below meth c A Q hx hb hml hown hts hK hN hP hD hS hA hret
  have in_X7 : ∀ w ∈ u_ws RX7 TX7 43, w ∈ wsX7_count := by decide +kernel
  have fl_182 := hts (.fieldLink RX7 182 "DawnTableModel" "gates" "I") (by decide +kernel)
  have fl_185 := hts (.fieldLink RX7 185 "DawnTableModel" "wishes" "I") (by decide +kernel)
  have fl_106 := hts (.fieldLink RX7 106 "DawnTableModel" "typed" "I") (by decide +kernel)
  refine ent [.ref a_o, .int x1] (Nat.le_of_ble_eq_true rfl) (fun ls hl => ?_)
  have hl : lv_has ls 2 [(0, .ref a_o), (1, .int x1)] := hl
  unfold wp_X7_count at h
  refine lv_iload_n hx hb dX7_count_0 rfl (lv_at hl 1 rfl) ?_
  by_cases c1 : x1 = (0 : Int32)
  · have h := h.1 c1
    refine lv_tableIn (off := 35) (tgt := 36) hx hb dX7_count_1 (by rw [c1]; decide) (by rw [c1]; decide) (by rw [c1]; decide) (by decide) ?_
    refine lv_aload_n hx hb dX7_count_36 rfl (lv_at hl 0 rfl) ?_
    refine va_get (D := D) (ci := 7) (v := .int o_gates) (C := RX7) (T := TX7) (N := 43) hx hb hts in_X7 hown hK hP 0 rfl rfl 3 (by decide) fl_182 (fun _ h9 => h9) rfl dX7_count_37 ?_
    exact hret o_gates () _ _ _ _ h hP hD hS dX7_count_40
  · have h := h.2 c1
    have n_1_0 := c1
    by_cases c2 : x1 = (1 : Int32)
    · have h := h.1 c2
      refine lv_tableIn (off := 40) (tgt := 41) hx hb dX7_count_1 (by rw [c2]; decide) (by rw [c2]; decide) (by rw [c2]; decide) (by decide) ?_
      refine lv_aload_n hx hb dX7_count_41 rfl (lv_at hl 0 rfl) ?_
      refine va_get (D := D) (ci := 7) (v := .int o_wishes) (C := RX7) (T := TX7) (N := 43) hx hb hts in_X7 hown hK hP 0 rfl rfl 4 (by decide) fl_185 (fun _ h9 => h9) rfl dX7_count_42 ?_
      exact hret o_wishes () _ _ _ _ h hP hD hS dX7_count_45
    · have h := h.2 c2
      have n_1_1 := c2
      by_cases c3 : x1 = (2 : Int32)
      · have h := h.1 c3
        refine lv_tableIn (off := 45) (tgt := 46) hx hb dX7_count_1 (by rw [c3]; decide) (by rw [c3]; decide) (by rw [c3]; decide) (by decide) ?_
        refine lv_aload_n hx hb dX7_count_46 rfl (lv_at hl 0 rfl) ?_
        have hC : ([0, 1] : List Nat).map (fun i => ((w_X7_count cy a_o a_o_text a_o_letter a_o_least a_o_carries a_o_gateOff a_o_worth a_o_kind a_o_most a_o_wishOff a_o_use a_o_toldUp a_o_toldDown a_o_priceUp a_o_priceDown a_o_draftGate a_o_draftCarries a_o_draftWorth a_o_draftKind a_o_draftMost a_o_draftUse a_o_x a_o_bestX a_o_part a_o_row a_o_right a_o_m a_o_given a_o_wasOff o_trace o_typed o_gates o_wishes o_at o_start o_sort o_value o_fault o_drafted o_by o_bestBy o_bestWorth o_isBest o_parts o_gateOff o_wishOff) : va_W)[i]?) = ((w_X7_offs cy a_o a_o_text a_o_letter a_o_least a_o_carries a_o_gateOff a_o_worth a_o_kind a_o_most a_o_wishOff a_o_use a_o_toldUp a_o_toldDown a_o_priceUp a_o_priceDown a_o_draftGate a_o_draftCarries a_o_draftWorth a_o_draftKind a_o_draftMost a_o_draftUse a_o_x a_o_bestX a_o_part a_o_row a_o_right a_o_m a_o_given a_o_wasOff o_trace o_typed o_gates o_wishes o_at o_start o_sort o_value o_fault o_drafted o_by o_bestBy o_bestWorth o_isBest o_parts o_gateOff) : va_W).map some := rfl
        obtain ⟨hPc, hDc⟩ := cutC hP hD [0, 1] (by decide) hC
        have hFc := va_free hD hS hA [0, 1] hC
        refine va_calli (va_runV (As := []) (rest := []) ⟨hx, hb, hml, hown, hts⟩ (c_X7_offs l D cy a_o a_o_text a_o_letter a_o_least a_o_carries a_o_gateOff a_o_worth a_o_kind a_o_most a_o_wishOff a_o_use a_o_toldUp a_o_toldDown a_o_priceUp a_o_priceDown a_o_draftGate a_o_draftCarries a_o_draftWorth a_o_draftKind a_o_draftMost a_o_draftUse a_o_x a_o_bestX a_o_part a_o_row a_o_right a_o_m a_o_given a_o_wasOff _ h) (cwV 0 hts gX7_count_X7_offs rfl rfl rfl (by decide +kernel) ⟨Nat.le_of_ble_eq_true rfl, Nat.le_of_ble_eq_true rfl⟩) (preV hPc hDc hK hN (ci := 7) (q0 := 0) rfl rfl) rfl rfl hl.1 rfl (lv_room (Nat.le_of_ble_eq_true rfl)) dX7_count_47 ⟨Nat.zero_le _, Nat.zero_le _⟩) hS (fun q _ h => hFc q h) hFc (fun r4 u t H1 locs ht hvm h hB hz1 hk1 hS => ?_)
        try dsimp only at h hB
        obtain ⟨hP, hD⟩ := joinU (wd := (w_X7_count cy a_o a_o_text a_o_letter a_o_least a_o_carries a_o_gateOff a_o_worth a_o_kind a_o_most a_o_wishOff a_o_use a_o_toldUp a_o_toldDown a_o_priceUp a_o_priceDown a_o_draftGate a_o_draftCarries a_o_draftWorth a_o_draftKind a_o_draftMost a_o_draftUse a_o_x a_o_bestX a_o_part a_o_row a_o_right a_o_m a_o_given a_o_wasOff o_trace o_typed o_gates o_wishes o_at o_start o_sort o_value o_fault o_drafted o_by o_bestBy o_bestWorth o_isBest o_parts o_gateOff o_wishOff)) (wr := [(a_o_wishOff, .inl (cy 3, 4, .inl o_wishOff))]) hP hD [0, 1] [2] [a_o, a_o_gateOff] hC hk1 ht hB rfl rfl rfl (N := 3) rfl (by decide) rfl rfl
        generalize H1 = H at hP hS ⊢
        exact hret r4 () _ _ _ _ h hP hD hS dX7_count_50
      · have h := h.2 c3
        have n_1_2 := c3
        by_cases c5 : x1 = (3 : Int32)
        · have h := h.1 c5
          refine lv_tableIn (off := 50) (tgt := 51) hx hb dX7_count_1 (by rw [c5]; decide) (by rw [c5]; decide) (by rw [c5]; decide) (by decide) ?_
          refine lv_aload_n hx hb dX7_count_51 rfl (lv_at hl 0 rfl) ?_
          have hC : ([0, 2] : List Nat).map (fun i => ((w_X7_count cy a_o a_o_text a_o_letter a_o_least a_o_carries a_o_gateOff a_o_worth a_o_kind a_o_most a_o_wishOff a_o_use a_o_toldUp a_o_toldDown a_o_priceUp a_o_priceDown a_o_draftGate a_o_draftCarries a_o_draftWorth a_o_draftKind a_o_draftMost a_o_draftUse a_o_x a_o_bestX a_o_part a_o_row a_o_right a_o_m a_o_given a_o_wasOff o_trace o_typed o_gates o_wishes o_at o_start o_sort o_value o_fault o_drafted o_by o_bestBy o_bestWorth o_isBest o_parts o_gateOff o_wishOff) : va_W)[i]?) = ((w_X7_wishOffs cy a_o a_o_text a_o_letter a_o_least a_o_carries a_o_gateOff a_o_worth a_o_kind a_o_most a_o_wishOff a_o_use a_o_toldUp a_o_toldDown a_o_priceUp a_o_priceDown a_o_draftGate a_o_draftCarries a_o_draftWorth a_o_draftKind a_o_draftMost a_o_draftUse a_o_x a_o_bestX a_o_part a_o_row a_o_right a_o_m a_o_given a_o_wasOff o_trace o_typed o_gates o_wishes o_at o_start o_sort o_value o_fault o_drafted o_by o_bestBy o_bestWorth o_isBest o_parts o_wishOff) : va_W).map some := rfl
          obtain ⟨hPc, hDc⟩ := cutC hP hD [0, 2] (by decide) hC
          have hFc := va_free hD hS hA [0, 2] hC
          refine va_calli (va_runV (As := []) (rest := []) ⟨hx, hb, hml, hown, hts⟩ (c_X7_wishOffs l D cy a_o a_o_text a_o_letter a_o_least a_o_carries a_o_gateOff a_o_worth a_o_kind a_o_most a_o_wishOff a_o_use a_o_toldUp a_o_toldDown a_o_priceUp a_o_priceDown a_o_draftGate a_o_draftCarries a_o_draftWorth a_o_draftKind a_o_draftMost a_o_draftUse a_o_x a_o_bestX a_o_part a_o_row a_o_right a_o_m a_o_given a_o_wasOff _ h) (cwV 0 hts gX7_count_X7_wishOffs rfl rfl rfl (by decide +kernel) ⟨Nat.le_of_ble_eq_true rfl, Nat.le_of_ble_eq_true rfl⟩) (preV hPc hDc hK hN (ci := 7) (q0 := 0) rfl rfl) rfl rfl hl.1 rfl (lv_room (Nat.le_of_ble_eq_true rfl)) dX7_count_52 ⟨Nat.zero_le _, Nat.zero_le _⟩) hS (fun q _ h => hFc q h) hFc (fun r6 u t H1 locs ht hvm h hB hz1 hk1 hS => ?_)
          try dsimp only at h hB
          obtain ⟨hP, hD⟩ := joinU (wd := (w_X7_count cy a_o a_o_text a_o_letter a_o_least a_o_carries a_o_gateOff a_o_worth a_o_kind a_o_most a_o_wishOff a_o_use a_o_toldUp a_o_toldDown a_o_priceUp a_o_priceDown a_o_draftGate a_o_draftCarries a_o_draftWorth a_o_draftKind a_o_draftMost a_o_draftUse a_o_x a_o_bestX a_o_part a_o_row a_o_right a_o_m a_o_given a_o_wasOff o_trace o_typed o_gates o_wishes o_at o_start o_sort o_value o_fault o_drafted o_by o_bestBy o_bestWorth o_isBest o_parts o_gateOff o_wishOff)) (wr := [(a_o_gateOff, .inl (cy 3, 5, .inl o_gateOff))]) hP hD [0, 2] [1] [a_o, a_o_wishOff] hC hk1 ht hB rfl rfl rfl (N := 3) rfl (by decide) rfl rfl
          generalize H1 = H at hP hS ⊢
          exact hret r6 () _ _ _ _ h hP hD hS dX7_count_55
        · have h := h.2 c5
          have n_1_3 := c5
          by_cases c7 : x1 = (4 : Int32)
          · have h := h.1 c7
            refine lv_tableIn (off := 55) (tgt := 56) hx hb dX7_count_1 (by rw [c7]; decide) (by rw [c7]; decide) (by rw [c7]; decide) (by decide) ?_
            refine lv_aload_n hx hb dX7_count_56 rfl (lv_at hl 0 rfl) ?_
            refine va_get (D := D) (ci := 7) (v := .int o_typed) (C := RX7) (T := TX7) (N := 43) hx hb hts in_X7 hown hK hP 0 rfl rfl 2 (by decide) fl_106 (fun _ h9 => h9) rfl dX7_count_57 ?_
            exact hret o_typed () _ _ _ _ h hP hD hS dX7_count_60
          · have h := h.2 c7
            have n_1_4 := c7
            refine lv_tableOut (tgt := 61) hx hb dX7_count_1 (sw_out5 n_1_0 n_1_1 n_1_2 n_1_3 n_1_4) (by decide) ?_
            refine lv_iconst (v := -1) hx hb dX7_count_61 (by decide) ?_
            exact hret (-1 : Int32) () _ _ _ _ h hP hD hS dX7_count_62

def wp_X7_trace  (o_trace : Int64)  (post : Int64 → Prop) : Prop :=
  post o_trace
abbrev w_X7_trace (cy : Nat → ClassId) (a_o a_o_text a_o_letter a_o_least a_o_carries a_o_gateOff a_o_worth a_o_kind a_o_most a_o_wishOff a_o_use a_o_toldUp a_o_toldDown a_o_priceUp a_o_priceDown a_o_draftGate a_o_draftCarries a_o_draftWorth a_o_draftKind a_o_draftMost a_o_draftUse a_o_x a_o_bestX a_o_part a_o_row a_o_right a_o_m a_o_given a_o_wasOff : Nat) (o_trace : Int64) (o_typed : Int32) (o_gates : Int32) (o_wishes : Int32) (o_at : Int32) (o_start : Int32) (o_sort : Int32) (o_value : Int32) (o_fault : Int32) (o_drafted : Int32) (o_by : Int64) (o_bestBy : Int64) (o_bestWorth : Int64) (o_isBest : Int32) (o_parts : Int32) : va_W := [(a_o, .inr (7, [.long o_trace, .ref a_o_text, .int o_typed, .int o_gates, .int o_wishes, .ref a_o_letter, .ref a_o_least, .ref a_o_carries, .ref a_o_gateOff, .ref a_o_worth, .ref a_o_kind, .ref a_o_most, .ref a_o_wishOff, .ref a_o_use, .ref a_o_toldUp, .ref a_o_toldDown, .ref a_o_priceUp, .ref a_o_priceDown, .int o_at, .int o_start, .int o_sort, .int o_value, .int o_fault, .ref a_o_draftGate, .ref a_o_draftCarries, .ref a_o_draftWorth, .ref a_o_draftKind, .ref a_o_draftMost, .ref a_o_draftUse, .int o_drafted, .ref a_o_x, .long o_by, .ref a_o_bestX, .long o_bestBy, .long o_bestWorth, .int o_isBest, .ref a_o_part, .int o_parts, .ref a_o_row, .ref a_o_right, .ref a_o_m, .ref a_o_given, .ref a_o_wasOff]))]
set_option maxHeartbeats 4000000 in
set_option maxRecDepth 100000 in
theorem c_X7_trace (l : Launch) (D : va_G) (cy : Nat → ClassId) (a_o a_o_text a_o_letter a_o_least a_o_carries a_o_gateOff a_o_worth a_o_kind a_o_most a_o_wishOff a_o_use a_o_toldUp a_o_toldDown a_o_priceUp a_o_priceDown a_o_draftGate a_o_draftCarries a_o_draftWorth a_o_draftKind a_o_draftMost a_o_draftUse a_o_x a_o_bestX a_o_part a_o_row a_o_right a_o_m a_o_given a_o_wasOff : Nat) (sz : Nat)  {o_trace : Int64} {o_typed : Int32} {o_gates : Int32} {o_wishes : Int32} {o_at : Int32} {o_start : Int32} {o_sort : Int32} {o_value : Int32} {o_fault : Int32} {o_drafted : Int32} {o_by : Int64} {o_bestBy : Int64} {o_bestWorth : Int64} {o_isBest : Int32} {o_parts : Int32}  {post : Int64 → Prop} (h : wp_X7_trace o_trace post) : Met l yX7_trace wsX7_trace ({ frames := 0, cells := 0, slots := 0, locals := 0 }) (va_Pc [.ref a_o] (wI D cy sz (w_X7_trace cy a_o a_o_text a_o_letter a_o_least a_o_carries a_o_gateOff a_o_worth a_o_kind a_o_most a_o_wishOff a_o_use a_o_toldUp a_o_toldDown a_o_priceUp a_o_priceDown a_o_draftGate a_o_draftCarries a_o_draftWorth a_o_draftKind a_o_draftMost a_o_draftUse a_o_x a_o_bestX a_o_part a_o_row a_o_right a_o_m a_o_given a_o_wasOff o_trace o_typed o_gates o_wishes o_at o_start o_sort o_value o_fault o_drafted o_by o_bestBy o_bestWorth o_isBest o_parts))) (va_Ql (fun (r : Int64) (u : Unit) => post r ) (fun (u : Unit) t => wO D cy (va_A (w_X7_trace cy a_o a_o_text a_o_letter a_o_least a_o_carries a_o_gateOff a_o_worth a_o_kind a_o_most a_o_wishOff a_o_use a_o_toldUp a_o_toldDown a_o_priceUp a_o_priceDown a_o_draftGate a_o_draftCarries a_o_draftWorth a_o_draftKind a_o_draftMost a_o_draftUse a_o_x a_o_bestX a_o_part a_o_row a_o_right a_o_m a_o_given a_o_wasOff o_trace o_typed o_gates o_wishes o_at o_start o_sort o_value o_fault o_drafted o_by o_bestBy o_bestWorth o_isBest o_parts) sz) (w_X7_trace cy a_o a_o_text a_o_letter a_o_least a_o_carries a_o_gateOff a_o_worth a_o_kind a_o_most a_o_wishOff a_o_use a_o_toldUp a_o_toldDown a_o_priceUp a_o_priceDown a_o_draftGate a_o_draftCarries a_o_draftWorth a_o_draftKind a_o_draftMost a_o_draftUse a_o_x a_o_bestX a_o_part a_o_row a_o_right a_o_m a_o_given a_o_wasOff o_trace o_typed o_gates o_wishes o_at o_start o_sort o_value o_fault o_drafted o_by o_bestBy o_bestWorth o_isBest o_parts) t) (va_A (w_X7_trace cy a_o a_o_text a_o_letter a_o_least a_o_carries a_o_gateOff a_o_worth a_o_kind a_o_most a_o_wishOff a_o_use a_o_toldUp a_o_toldDown a_o_priceUp a_o_priceDown a_o_draftGate a_o_draftCarries a_o_draftWorth a_o_draftKind a_o_draftMost a_o_draftUse a_o_x a_o_bestX a_o_part a_o_row a_o_right a_o_m a_o_given a_o_wasOff o_trace o_typed o_gates o_wishes o_at o_start o_sort o_value o_fault o_drafted o_by o_bestBy o_bestWorth o_isBest o_parts) sz)) 0 0 (va_A (w_X7_trace cy a_o a_o_text a_o_letter a_o_least a_o_carries a_o_gateOff a_o_worth a_o_kind a_o_most a_o_wishOff a_o_use a_o_toldUp a_o_toldDown a_o_priceUp a_o_priceDown a_o_draftGate a_o_draftCarries a_o_draftWorth a_o_draftKind a_o_draftMost a_o_draftUse a_o_x a_o_bestX a_o_part a_o_row a_o_right a_o_m a_o_given a_o_wasOff o_trace o_typed o_gates o_wishes o_at o_start o_sort o_value o_fault o_drafted o_by o_bestBy o_bestWorth o_isBest o_parts) sz) := by
  refine contrL (S := Unit) (post := fun (r : Int64) (u : Unit) => post r ) (wOut := fun (u : Unit) => (w_X7_trace cy a_o a_o_text a_o_letter a_o_least a_o_carries a_o_gateOff a_o_worth a_o_kind a_o_most a_o_wishOff a_o_use a_o_toldUp a_o_toldDown a_o_priceUp a_o_priceDown a_o_draftGate a_o_draftCarries a_o_draftWorth a_o_draftKind a_o_draftMost a_o_draftUse a_o_x a_o_bestX a_o_part a_o_row a_o_right a_o_m a_o_given a_o_wasOff o_trace o_typed o_gates o_wishes o_at o_start o_sort o_value o_fault o_drafted o_by o_bestBy o_bestWorth o_isBest o_parts)) (cc := cX7_trace) (maxL := 1) (own := RX7) (by decide +kernel) rfl rfl ?_
  intro p e s m args below meth c A Q hx hb hml hown hts hK hN hP hD hS hA hret
  have in_X7 : ∀ w ∈ u_ws RX7 TX7 43, w ∈ wsX7_trace := by decide +kernel
  have fl_281 := hts (.fieldLink RX7 281 "DawnTableModel" "trace" "J") (by decide +kernel)
  refine ent [.ref a_o] (Nat.le_of_ble_eq_true rfl) (fun ls hl => ?_)
  have hl : lv_has ls 1 [(0, .ref a_o)] := hl
  unfold wp_X7_trace at h
  refine lv_aload_n hx hb dX7_trace_0 rfl (lv_at hl 0 rfl) ?_
  refine va_get (D := D) (ci := 7) (v := .long o_trace) (C := RX7) (T := TX7) (N := 43) hx hb hts in_X7 hown hK hP 0 rfl rfl 0 (by decide) fl_281 (fun _ h9 => h9) rfl dX7_trace_1 ?_
  exact hret o_trace () _ _ _ _ h hP hD hS dX7_trace_4

def ws_X7_bitsIn_4 (x0 : Int32) (kb : Int32 → Int32 → Prop) (kx0 : Int32 → Prop) (post : Int32 → Prop) (x1 : Int32) (x2 : Int32) : Prop :=
  (((5 : Int32) ≤ x2 → kx0 x1) ∧
   (¬ (5 : Int32) ≤ x2 → kb (x1 + ((x0 >>> (x2 &&& 31)) &&& (1 : Int32))) (x2 + (1 : Int32))))
def wl_X7_bitsIn_4 (x0 : Int32) (kx0 : Int32 → Prop) (post : Int32 → Prop) : Nat → Int32 → Int32 → Prop
  | 0, _, _ => False
  | n + 1, x1, x2 => ws_X7_bitsIn_4 x0 (wl_X7_bitsIn_4 x0 kx0 post n) kx0 post x1 x2
def wp_X7_bitsIn   (x0 : Int32) (post : Int32 → Prop) : Prop :=
  ∃ n3, wl_X7_bitsIn_4 x0 (fun (x1_2 : Int32) => post x1_2) post n3 (0 : Int32) (0 : Int32)
abbrev w_X7_bitsIn (cy : Nat → ClassId)  : va_W := []
set_option maxHeartbeats 4000000 in
set_option maxRecDepth 100000 in
theorem c_X7_bitsIn (l : Launch) (D : va_G) (cy : Nat → ClassId) (sz : Nat)   {x0 : Int32} {post : Int32 → Prop} (h : wp_X7_bitsIn x0 post) : Met l yX7_bitsIn wsX7_bitsIn ({ frames := 0, cells := 0, slots := 0, locals := 0 }) (va_Pc [.int x0] (wI D cy sz (w_X7_bitsIn cy ))) (va_Qi (fun (r : Int32) (u : Unit) => post r ) (fun (u : Unit) t => wO D cy (va_A (w_X7_bitsIn cy ) sz) (w_X7_bitsIn cy ) t) (va_A (w_X7_bitsIn cy ) sz)) 0 0 (va_A (w_X7_bitsIn cy ) sz) := by
  refine contrI (S := Unit) (post := fun (r : Int32) (u : Unit) => post r ) (wOut := fun (u : Unit) => (w_X7_bitsIn cy )) (cc := cX7_bitsIn) (maxL := 3) (own := RX7) (by decide +kernel) rfl rfl ?_
  intro p e s m args below meth c A Q hx hb hml hown hts hK hN hP hD hS hA hret
  have l_4 : ∀ (x0 : Int32), ∀ (kx0 : Int32 → Prop), (∀ (x1 : Int32), kx0 x1 → ∀ (H : Heap) (locs : List Loc), va_P D vwCl (w_X7_bitsIn cy ) H → va_D A (w_X7_bitsIn cy ) → va_S A s.heap H locs → ∀ (ls : Array Slot), lv_has ls 3 [(1, .int x1)] → W p l e ({ frames := 0, cells := 0, slots := 0, locals := 0 }) s m args below meth c H locs 0 0 Q (F0 m 23 ls [])) → ∀ (n : Nat) (x1 : Int32) (x2 : Int32), wl_X7_bitsIn_4 x0 kx0 post n x1 x2 → ∀ (H : Heap) (locs : List Loc), va_P D vwCl (w_X7_bitsIn cy ) H → va_D A (w_X7_bitsIn cy ) → va_S A s.heap H locs → ∀ (ls : Array Slot), lv_has ls 3 [(0, .int x0), (1, .int x1), (2, .int x2)] → W p l e ({ frames := 0, cells := 0, slots := 0, locals := 0 }) s m args below meth c H locs 0 0 Q (F0 m 4 ls []) := by
    intro x0 kx0 hkx0  n
    induction n with
    | zero => intro x1 x2 h; exact h.elim
    | succ n hkb =>
      intro x1 x2 h H locs hP hD hS ls hl
      replace h : ws_X7_bitsIn_4 x0 (wl_X7_bitsIn_4 x0 kx0 post n) kx0 post x1 x2 := h
      generalize wl_X7_bitsIn_4 x0 kx0 post n = kb at h hkb
      unfold ws_X7_bitsIn_4 at h
      refine lv_iload_n hx hb dX7_bitsIn_4 rfl (lv_at hl 2 rfl) ?_
      refine lv_iconst (v := 5) hx hb dX7_bitsIn_5 (by decide) ?_
      refine lv_icmp_ge (tgt := 23) hx hb dX7_bitsIn_6 (by decide) (fun c1 => ?_) (fun c1 => ?_)
      · have h := h.1 c1
        exact hkx0 x1 h _ _ hP hD hS _ (lv_sub hl [1] rfl)
      · have h := h.2 c1
        refine lv_iload_n hx hb dX7_bitsIn_9 rfl (lv_at hl 1 rfl) ?_
        refine lv_iload_n hx hb dX7_bitsIn_10 rfl (lv_at hl 0 rfl) ?_
        refine lv_iload_n hx hb dX7_bitsIn_11 rfl (lv_at hl 2 rfl) ?_
        refine lv_ishr hx hb dX7_bitsIn_12 ?_
        refine lv_iconst (v := 1) hx hb dX7_bitsIn_13 (by decide) ?_
        refine lv_iand hx hb dX7_bitsIn_14 ?_
        refine lv_iadd hx hb dX7_bitsIn_15 ?_
        refine lv_istore_n (lv' := [(1, .int (x1 + ((x0 >>> (x2 &&& 31)) &&& (1 : Int32)))), (0, .int x0), (2, .int x2)]) hx hb dX7_bitsIn_16 rfl hl (by decide) rfl (fun ls hl => ?_)
        refine lv_iinc (v := (x2 + (1 : Int32))) (lv' := [(2, .int (x2 + (1 : Int32))), (1, .int (x1 + ((x0 >>> (x2 &&& 31)) &&& (1 : Int32)))), (0, .int x0)]) hx hb dX7_bitsIn_17 hl (k := 2) rfl (congrArg (fun z => x2 + z) (by decide : Int32.ofInt (1) = (1 : Int32))) (by decide) rfl (fun ls hl => ?_)
        refine lv_goto (tgt := 4) hx hb dX7_bitsIn_20 (by decide) ?_
        exact hkb (x1 + ((x0 >>> (x2 &&& 31)) &&& (1 : Int32))) (x2 + (1 : Int32)) h _ _ hP hD hS _ (lv_sub hl [2, 1, 0] rfl)
  refine ent [.int x0] (Nat.le_of_ble_eq_true rfl) (fun ls hl => ?_)
  have hl : lv_has ls 3 [(0, .int x0)] := hl
  unfold wp_X7_bitsIn at h
  refine lv_iconst (v := 0) hx hb dX7_bitsIn_0 (by decide) ?_
  refine lv_istore_n (lv' := [(1, .int (0 : Int32)), (0, .int x0)]) hx hb dX7_bitsIn_1 rfl hl (by decide) rfl (fun ls hl => ?_)
  refine lv_iconst (v := 0) hx hb dX7_bitsIn_2 (by decide) ?_
  refine lv_istore_n (lv' := [(2, .int (0 : Int32)), (1, .int (0 : Int32)), (0, .int x0)]) hx hb dX7_bitsIn_3 rfl hl (by decide) rfl (fun ls hl => ?_)
  obtain ⟨n3, h⟩ := h
  refine l_4 x0 _ ?_ n3 (0 : Int32) (0 : Int32) h _ _ hP hD hS _ (lv_sub hl [2, 1, 0] rfl)
  · intro x1_2 h H locs hP hD hS ls hl
    refine lv_iload_n hx hb dX7_bitsIn_23 rfl (lv_at hl 0 rfl) ?_
    exact hret x1_2 () _ _ _ _ h hP hD hS dX7_bitsIn_24

def ws_X7_common_17  (kb : Int64 → Int64 → Prop) (kx0 : Int64 → Prop) (post : Int64 → Prop) (x4 : Int64) (x6 : Int64) : Prop :=
  ((x6 = (0 : Int64) → kx0 x4) ∧
   (¬ x6 = (0 : Int64) → (¬ x6 = 0 ∧ kb x6 (x4 - x4 / x6 * x6))))
def wl_X7_common_17  (kx0 : Int64 → Prop) (post : Int64 → Prop) : Nat → Int64 → Int64 → Prop
  | 0, _, _ => False
  | n + 1, x4, x6 => ws_X7_common_17  (wl_X7_common_17  kx0 post n) kx0 post x4 x6
def wp_X7_common   (x0 : Int64) (x2 : Int64) (post : Int64 → Prop) : Prop :=
  (((0 : Int64) ≤ x0 → ∃ n5, wl_X7_common_17 (fun (x4_4 : Int64) => post x4_4) post n5 x0 x2) ∧
   (¬ (0 : Int64) ≤ x0 → ∃ n7, wl_X7_common_17 (fun (x4_6 : Int64) => post x4_6) post n7 (-x0) x2))
abbrev w_X7_common (cy : Nat → ClassId)  : va_W := []
set_option maxHeartbeats 4000000 in
set_option maxRecDepth 100000 in
theorem c_X7_common (l : Launch) (D : va_G) (cy : Nat → ClassId) (sz : Nat)   {x0 : Int64} {x2 : Int64} {post : Int64 → Prop} (h : wp_X7_common x0 x2 post) : Met l yX7_common wsX7_common ({ frames := 0, cells := 0, slots := 0, locals := 0 }) (va_Pc [.long x0, .long x2] (wI D cy sz (w_X7_common cy ))) (va_Ql (fun (r : Int64) (u : Unit) => post r ) (fun (u : Unit) t => wO D cy (va_A (w_X7_common cy ) sz) (w_X7_common cy ) t) (va_A (w_X7_common cy ) sz)) 0 0 (va_A (w_X7_common cy ) sz) := by
  refine contrL (S := Unit) (post := fun (r : Int64) (u : Unit) => post r ) (wOut := fun (u : Unit) => (w_X7_common cy )) (cc := cX7_common) (maxL := 10) (own := RX7) (by decide +kernel) rfl rfl ?_
  intro p e s m args below meth c A Q hx hb hml hown hts hK hN hP hD hS hA hret
  have l_17 : ∀ (kx0 : Int64 → Prop), (∀ (x4 : Int64), kx0 x4 → ∀ (H : Heap) (locs : List Loc), va_P D vwCl (w_X7_common cy ) H → va_D A (w_X7_common cy ) → va_S A s.heap H locs → ∀ (ls : Array Slot), lv_has ls 10 [(4, .long x4)] → W p l e ({ frames := 0, cells := 0, slots := 0, locals := 0 }) s m args below meth c H locs 0 0 Q (F0 m 42 ls [])) → ∀ (n : Nat) (x4 : Int64) (x6 : Int64), wl_X7_common_17  kx0 post n x4 x6 → ∀ (H : Heap) (locs : List Loc), va_P D vwCl (w_X7_common cy ) H → va_D A (w_X7_common cy ) → va_S A s.heap H locs → ∀ (ls : Array Slot), lv_has ls 10 [(4, .long x4), (6, .long x6)] → W p l e ({ frames := 0, cells := 0, slots := 0, locals := 0 }) s m args below meth c H locs 0 0 Q (F0 m 17 ls []) := by
    intro  kx0 hkx0  n
    induction n with
    | zero => intro x4 x6 h; exact h.elim
    | succ n hkb =>
      intro x4 x6 h H locs hP hD hS ls hl
      replace h : ws_X7_common_17  (wl_X7_common_17  kx0 post n) kx0 post x4 x6 := h
      generalize wl_X7_common_17  kx0 post n = kb at h hkb
      unfold ws_X7_common_17 at h
      refine lv_lload hx hb dX7_common_17 (lv_at hl 1 rfl) ?_
      refine lv_lconst (v := 0) hx hb dX7_common_19 (by decide) ?_
      refine W.lcmp hx hb dX7_common_20 ?_
      refine lv_if_eq (tgt := 42) hx hb dX7_common_21 (by decide) (fun c2 => ?_) (fun c2 => ?_)
      · have h := h.1 (lc_eq.mp c2)
        exact hkx0 x4 h _ _ hP hD hS _ (lv_sub hl [0] rfl)
      · have h := h.2 (fun z => c2 (lc_eq.mpr z))
        refine lv_lload hx hb dX7_common_24 (lv_at hl 0 rfl) ?_
        refine lv_lload hx hb dX7_common_26 (lv_at hl 1 rfl) ?_
        obtain ⟨z3, h⟩ := h
        refine lv_lrem hx hb dX7_common_28 z3 ?_
        refine lv_lstore (lv' := [(8, .long (x4 - x4 / x6 * x6)), (4, .long x4), (6, .long x6)]) hx hb dX7_common_29 hl (by decide) rfl (fun ls hl => ?_)
        refine lv_lload hx hb dX7_common_31 (lv_at hl 2 rfl) ?_
        refine lv_lstore (lv' := [(4, .long x6), (8, .long (x4 - x4 / x6 * x6)), (6, .long x6)]) hx hb dX7_common_33 hl (by decide) rfl (fun ls hl => ?_)
        refine lv_lload hx hb dX7_common_35 (lv_at hl 1 rfl) ?_
        refine lv_lstore (lv' := [(6, .long (x4 - x4 / x6 * x6)), (4, .long x6), (8, .long (x4 - x4 / x6 * x6))]) hx hb dX7_common_37 hl (by decide) rfl (fun ls hl => ?_)
        refine lv_goto (tgt := 17) hx hb dX7_common_39 (by decide) ?_
        exact hkb x6 (x4 - x4 / x6 * x6) h _ _ hP hD hS _ (lv_sub hl [1, 0] rfl)
  refine ent [.long x0, .long x2] (Nat.le_of_ble_eq_true rfl) (fun ls hl => ?_)
  have hl : lv_has ls 10 [(0, .long x0), (2, .long x2)] := hl
  unfold wp_X7_common at h
  refine lv_lload_n hx hb dX7_common_0 rfl (lv_at hl 0 rfl) ?_
  refine lv_lconst (v := 0) hx hb dX7_common_1 (by decide) ?_
  refine W.lcmp hx hb dX7_common_2 ?_
  refine lv_if_ge (tgt := 11) hx hb dX7_common_3 (by decide) (fun c1 => ?_) (fun c1 => ?_)
  · have h := h.1 (lc_ge.mp c1)
    refine lv_lload_n hx hb dX7_common_11 rfl (lv_at hl 0 rfl) ?_
    refine lv_lstore (lv' := [(4, .long x0), (0, .long x0), (2, .long x2)]) hx hb dX7_common_12 hl (by decide) rfl (fun ls hl => ?_)
    refine lv_lload_n hx hb dX7_common_14 rfl (lv_at hl 2 rfl) ?_
    refine lv_lstore (lv' := [(6, .long x2), (4, .long x0), (0, .long x0), (2, .long x2)]) hx hb dX7_common_15 hl (by decide) rfl (fun ls hl => ?_)
    obtain ⟨n5, h⟩ := h
    refine l_17  _ ?_ n5 x0 x2 h _ _ hP hD hS _ (lv_sub hl [1, 0] rfl)
    · intro x4_4 h H locs hP hD hS ls hl
      refine lv_lload hx hb dX7_common_42 (lv_at hl 0 rfl) ?_
      exact hret x4_4 () _ _ _ _ h hP hD hS dX7_common_44
  · have h := h.2 (fun z => c1 (lc_ge.mpr z))
    refine lv_lload_n hx hb dX7_common_6 rfl (lv_at hl 0 rfl) ?_
    refine lv_lneg hx hb dX7_common_7 ?_
    refine lv_goto (tgt := 12) hx hb dX7_common_8 (by decide) ?_
    refine lv_lstore (lv' := [(4, .long (-x0)), (0, .long x0), (2, .long x2)]) hx hb dX7_common_12 hl (by decide) rfl (fun ls hl => ?_)
    refine lv_lload_n hx hb dX7_common_14 rfl (lv_at hl 2 rfl) ?_
    refine lv_lstore (lv' := [(6, .long x2), (4, .long (-x0)), (0, .long x0), (2, .long x2)]) hx hb dX7_common_15 hl (by decide) rfl (fun ls hl => ?_)
    obtain ⟨n7, h⟩ := h
    refine l_17  _ ?_ n7 (-x0) x2 h _ _ hP hD hS _ (lv_sub hl [1, 0] rfl)
    · intro x4_6 h H locs hP hD hS ls hl
      refine lv_lload hx hb dX7_common_42 (lv_at hl 0 rfl) ?_
      exact hret x4_6 () _ _ _ _ h hP hD hS dX7_common_44

def wp_X7_told   (x0 : Int64) (x2 : Int64) (x4 : Int32) (post : Int64 → Prop) : Prop :=
  (wp_X7_common x0 x2 (fun (r1 : Int64) => ((x4 = 0 → (¬ r1 = 0 ∧ post (x0 / r1))) ∧
   (¬ x4 = 0 → (¬ r1 = 0 ∧ post (x2 / r1))))))
abbrev w_X7_told (cy : Nat → ClassId)  : va_W := []
set_option maxRecDepth 20000 in
theorem ggX7_told_X7_common : GoodIn wsX7_told wsX7_common := goodIn_r _ [4] (by decide +kernel) (by decide +kernel)
set_option maxRecDepth 20000 in
theorem gX7_told_X7_common : GoodIn wsX7_told (va_wsS RX7 238 yX7_common wsX7_common) := goodIn_app (goodIn_of _ (by decide +kernel)) ggX7_told_X7_common
set_option maxHeartbeats 4000000 in
set_option maxRecDepth 100000 in
theorem c_X7_told (l : Launch) (D : va_G) (cy : Nat → ClassId) (sz : Nat)   {x0 : Int64} {x2 : Int64} {x4 : Int32} {post : Int64 → Prop} (h : wp_X7_told x0 x2 x4 post) : Met l yX7_told wsX7_told ({ frames := 1, cells := 0, slots := 0, locals := 29 }) (va_Pc [.long x0, .long x2, .int x4] (wI D cy sz (w_X7_told cy ))) (va_Ql (fun (r : Int64) (u : Unit) => post r ) (fun (u : Unit) t => wO D cy (va_A (w_X7_told cy ) sz) (w_X7_told cy ) t) (va_A (w_X7_told cy ) sz)) 0 0 (va_A (w_X7_told cy ) sz) := by
  refine contrL (S := Unit) (post := fun (r : Int64) (u : Unit) => post r ) (wOut := fun (u : Unit) => (w_X7_told cy )) (cc := cX7_told) (maxL := 7) (own := RX7) (by decide +kernel) rfl rfl ?_
  intro p e s m args below meth c A Q hx hb hml hown hts hK hN hP hD hS hA hret
  refine ent [.long x0, .long x2, .int x4] (Nat.le_of_ble_eq_true rfl) (fun ls hl => ?_)
  have hl : lv_has ls 7 [(0, .long x0), (2, .long x2), (4, .int x4)] := hl
  unfold wp_X7_told at h
  refine lv_lload_n hx hb dX7_told_0 rfl (lv_at hl 0 rfl) ?_
  refine lv_lload_n hx hb dX7_told_1 rfl (lv_at hl 1 rfl) ?_
  have hC : ([] : List Nat).map (fun i => ((w_X7_told cy ) : va_W)[i]?) = ((w_X7_common cy ) : va_W).map some := rfl
  obtain ⟨hPc, hDc⟩ := cutC hP hD [] (by decide) hC
  have hFc := va_free hD hS hA [] hC
  refine va_calll (va_runS (As := [.long x0, .long x2]) (rest := []) ⟨hx, hb, hml, hown, hts⟩ (c_X7_common l D cy _ h) (va_cwS 2 hts gX7_told_X7_common rfl rfl rfl (by decide +kernel) ⟨Nat.le_of_ble_eq_true rfl, Nat.le_of_ble_eq_true rfl⟩) (preS hPc hDc hK hN) rfl rfl hl.1 rfl (lv_room (Nat.le_of_ble_eq_true rfl)) dX7_told_2 ⟨Nat.zero_le _, Nat.zero_le _⟩) hS (fun q _ h => hFc q h) hFc (fun r1 u t H1 locs ht hvm h hB hz1 hk1 hS => ?_)
  try dsimp only at h hB
  obtain ⟨hP, hD⟩ := joinU (wd := (w_X7_told cy )) (wr := []) hP hD [] [] [] hC hk1 ht hB rfl rfl rfl (N := 0) rfl (by decide) rfl rfl
  generalize H1 = H at hP hS ⊢
  refine lv_lstore (lv' := [(5, .long r1), (0, .long x0), (2, .long x2), (4, .int x4)]) hx hb dX7_told_5 hl (by decide) rfl (fun ls hl => ?_)
  refine lv_iload hx hb dX7_told_7 (lv_at hl 3 rfl) ?_
  refine lv_if_ne (tgt := 19) hx hb dX7_told_9 (by decide) (fun c2 => ?_) (fun c2 => ?_)
  · have h := h.2 c2
    refine lv_lload_n hx hb dX7_told_19 rfl (lv_at hl 2 rfl) ?_
    refine lv_lload hx hb dX7_told_20 (lv_at hl 0 rfl) ?_
    obtain ⟨z3, h⟩ := h
    refine lv_ldiv hx hb dX7_told_22 z3 ?_
    exact hret (x2 / r1) () _ _ _ _ h hP hD hS dX7_told_23
  · have h := h.1 c2
    refine lv_lload_n hx hb dX7_told_12 rfl (lv_at hl 1 rfl) ?_
    refine lv_lload hx hb dX7_told_13 (lv_at hl 0 rfl) ?_
    obtain ⟨z4, h⟩ := h
    refine lv_ldiv hx hb dX7_told_15 z4 ?_
    refine lv_goto (tgt := 23) hx hb dX7_told_16 (by decide) ?_
    exact hret (x0 / r1) () _ _ _ _ h hP hD hS dX7_told_23
