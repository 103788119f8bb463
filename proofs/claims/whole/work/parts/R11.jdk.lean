abbrev w_J13_compare_74951 (cy : Nat → ClassId)  : va_W := []
set_option maxHeartbeats 4000000 in
set_option maxRecDepth 100000 in
theorem c_J13_compare_74951 (l : Launch) (D : va_G) (cy : Nat → ClassId) (sz : Nat)   {x0 : Int64} {x2 : Int64} {post : Int32 → Prop} (h : wp_J13_compare_74951 x0 x2 post) : Met l yJ13_compare_74951 wsJ13_compare_74951 ({ frames := 0, cells := 0, slots := 0, locals := 0 }) (va_Pc [.long x0, .long x2] (wI D cy sz (w_J13_compare_74951 cy ))) (va_Qi (fun (r : Int32) (u : Unit) => post r ) (fun (u : Unit) t => wO D cy (va_A (w_J13_compare_74951 cy ) sz) (w_J13_compare_74951 cy ) t) (va_A (w_J13_compare_74951 cy ) sz)) 0 0 (va_A (w_J13_compare_74951 cy ) sz) := by
  refine contrI (S := Unit) (post := fun (r : Int32) (u : Unit) => post r ) (wOut := fun (u : Unit) => (w_J13_compare_74951 cy )) (cc := cJ13_compare_74951) (maxL := 4) (own := RJ13) (by decide +kernel) rfl rfl ?_
  intro p e s m args below meth c A Q hx hb hml hown hts hK hN hP hD hS hA hret
  refine ent [.long x0, .long x2] (Nat.le_of_ble_eq_true rfl) (fun ls hl => ?_)
  have hl : lv_has ls 4 [(0, .long x0), (2, .long x2)] := hl
  unfold wp_J13_compare_74951 at h
  refine lv_lload_n hx hb dJ13_compare_74951_0 rfl (lv_at hl 0 rfl) ?_
  refine lv_lload_n hx hb dJ13_compare_74951_1 rfl (lv_at hl 1 rfl) ?_
  refine W.lcmp hx hb dJ13_compare_74951_2 ?_
  refine lv_if_ge (tgt := 10) hx hb dJ13_compare_74951_3 (by decide) (fun c1 => ?_) (fun c1 => ?_)
  · have h := h.1 (lc_ge.mp c1)
    refine lv_lload_n hx hb dJ13_compare_74951_10 rfl (lv_at hl 0 rfl) ?_
    refine lv_lload_n hx hb dJ13_compare_74951_11 rfl (lv_at hl 1 rfl) ?_
    refine W.lcmp hx hb dJ13_compare_74951_12 ?_
    refine lv_if_ne (tgt := 20) hx hb dJ13_compare_74951_13 (by decide) (fun c2 => ?_) (fun c2 => ?_)
    · have h := h.2 (fun z => c2 (lc_eq.mpr z))
      refine lv_iconst (v := 1) hx hb dJ13_compare_74951_20 (by decide) ?_
      exact hret (1 : Int32) () _ _ _ _ h hP hD hS dJ13_compare_74951_21
    · have h := h.1 (lc_eq.mp c2)
      refine lv_iconst (v := 0) hx hb dJ13_compare_74951_16 (by decide) ?_
      refine lv_goto (tgt := 21) hx hb dJ13_compare_74951_17 (by decide) ?_
      exact hret (0 : Int32) () _ _ _ _ h hP hD hS dJ13_compare_74951_21
  · have h := h.2 (fun z => c1 (lc_ge.mpr z))
    refine lv_iconst (v := -1) hx hb dJ13_compare_74951_6 (by decide) ?_
    refine lv_goto (tgt := 21) hx hb dJ13_compare_74951_7 (by decide) ?_
    exact hret (-1 : Int32) () _ _ _ _ h hP hD hS dJ13_compare_74951_21
abbrev w_J6_bitCount_0f7a4 (cy : Nat → ClassId)  : va_W := []
set_option maxHeartbeats 4000000 in
set_option maxRecDepth 100000 in
theorem c_J6_bitCount_0f7a4 (l : Launch) (D : va_G) (cy : Nat → ClassId) (sz : Nat)   {x0 : Int32} {post : Int32 → Prop} (h : wp_J6_bitCount_0f7a4 x0 post) : Met l yJ6_bitCount_0f7a4 wsJ6_bitCount_0f7a4 ({ frames := 0, cells := 0, slots := 0, locals := 0 }) (va_Pc [.int x0] (wI D cy sz (w_J6_bitCount_0f7a4 cy ))) (va_Qi (fun (r : Int32) (u : Unit) => post r ) (fun (u : Unit) t => wO D cy (va_A (w_J6_bitCount_0f7a4 cy ) sz) (w_J6_bitCount_0f7a4 cy ) t) (va_A (w_J6_bitCount_0f7a4 cy ) sz)) 0 0 (va_A (w_J6_bitCount_0f7a4 cy ) sz) := by
  refine contrI (S := Unit) (post := fun (r : Int32) (u : Unit) => post r ) (wOut := fun (u : Unit) => (w_J6_bitCount_0f7a4 cy )) (cc := cJ6_bitCount_0f7a4) (maxL := 1) (own := RJ6) (by decide +kernel) rfl rfl ?_
  intro p e s m args below meth c A Q hx hb hml hown hts hK hN hP hD hS hA hret
  refine ent [.int x0] (Nat.le_of_ble_eq_true rfl) (fun ls hl => ?_)
  have hl : lv_has ls 1 [(0, .int x0)] := hl
  unfold wp_J6_bitCount_0f7a4 at h
  refine lv_iload_n hx hb dJ6_bitCount_0f7a4_0 rfl (lv_at hl 0 rfl) ?_
  refine lv_iload_n hx hb dJ6_bitCount_0f7a4_1 rfl (lv_at hl 0 rfl) ?_
  refine lv_iconst (v := 1) hx hb dJ6_bitCount_0f7a4_2 (by decide) ?_
  refine lv_iushr hx hb dJ6_bitCount_0f7a4_3 rfl ?_
  refine lv_ldcw hx hb hown (hts (.constant RJ6 265 (1431655765)) (by decide +kernel)) dJ6_bitCount_0f7a4_4 ?_
  refine lv_iand hx hb dJ6_bitCount_0f7a4_7 ?_
  refine lv_isub hx hb dJ6_bitCount_0f7a4_8 ?_
  refine lv_topi (fun v1 ev1 => ?_)
  have h := h v1 ev1
  refine lv_istore_n (lv' := [(0, .int v1)]) hx hb dJ6_bitCount_0f7a4_9 rfl hl (by decide) rfl (fun ls hl => ?_)
  refine lv_iload_n hx hb dJ6_bitCount_0f7a4_10 rfl (lv_at hl 0 rfl) ?_
  refine lv_ldcw hx hb hown (hts (.constant RJ6 266 (858993459)) (by decide +kernel)) dJ6_bitCount_0f7a4_11 ?_
  refine lv_iand hx hb dJ6_bitCount_0f7a4_14 ?_
  refine lv_iload_n hx hb dJ6_bitCount_0f7a4_15 rfl (lv_at hl 0 rfl) ?_
  refine lv_iconst (v := 2) hx hb dJ6_bitCount_0f7a4_16 (by decide) ?_
  refine lv_iushr hx hb dJ6_bitCount_0f7a4_17 rfl ?_
  refine lv_ldcw hx hb hown (hts (.constant RJ6 266 (858993459)) (by decide +kernel)) dJ6_bitCount_0f7a4_18 ?_
  refine lv_iand hx hb dJ6_bitCount_0f7a4_21 ?_
  refine lv_iadd hx hb dJ6_bitCount_0f7a4_22 ?_
  refine lv_topi (fun v2 ev2 => ?_)
  have h := h v2 ev2
  refine lv_istore_n (lv' := [(0, .int v2)]) hx hb dJ6_bitCount_0f7a4_23 rfl hl (by decide) rfl (fun ls hl => ?_)
  refine lv_iload_n hx hb dJ6_bitCount_0f7a4_24 rfl (lv_at hl 0 rfl) ?_
  refine lv_iload_n hx hb dJ6_bitCount_0f7a4_25 rfl (lv_at hl 0 rfl) ?_
  refine lv_iconst (v := 4) hx hb dJ6_bitCount_0f7a4_26 (by decide) ?_
  refine lv_iushr hx hb dJ6_bitCount_0f7a4_27 rfl ?_
  refine lv_iadd hx hb dJ6_bitCount_0f7a4_28 ?_
  refine lv_ldcw hx hb hown (hts (.constant RJ6 267 (252645135)) (by decide +kernel)) dJ6_bitCount_0f7a4_29 ?_
  refine lv_iand hx hb dJ6_bitCount_0f7a4_32 ?_
  refine lv_topi (fun v3 ev3 => ?_)
  have h := h v3 ev3
  refine lv_istore_n (lv' := [(0, .int v3)]) hx hb dJ6_bitCount_0f7a4_33 rfl hl (by decide) rfl (fun ls hl => ?_)
  refine lv_iload_n hx hb dJ6_bitCount_0f7a4_34 rfl (lv_at hl 0 rfl) ?_
  refine lv_iload_n hx hb dJ6_bitCount_0f7a4_35 rfl (lv_at hl 0 rfl) ?_
  refine lv_bipush (v := 8) hx hb dJ6_bitCount_0f7a4_36 (by decide) ?_
  refine lv_iushr hx hb dJ6_bitCount_0f7a4_38 rfl ?_
  refine lv_iadd hx hb dJ6_bitCount_0f7a4_39 ?_
  refine lv_topi (fun v4 ev4 => ?_)
  have h := h v4 ev4
  refine lv_istore_n (lv' := [(0, .int v4)]) hx hb dJ6_bitCount_0f7a4_40 rfl hl (by decide) rfl (fun ls hl => ?_)
  refine lv_iload_n hx hb dJ6_bitCount_0f7a4_41 rfl (lv_at hl 0 rfl) ?_
  refine lv_iload_n hx hb dJ6_bitCount_0f7a4_42 rfl (lv_at hl 0 rfl) ?_
  refine lv_bipush (v := 16) hx hb dJ6_bitCount_0f7a4_43 (by decide) ?_
  refine lv_iushr hx hb dJ6_bitCount_0f7a4_45 rfl ?_
  refine lv_iadd hx hb dJ6_bitCount_0f7a4_46 ?_
  refine lv_topi (fun v5 ev5 => ?_)
  have h := h v5 ev5
  refine lv_istore_n (lv' := [(0, .int v5)]) hx hb dJ6_bitCount_0f7a4_47 rfl hl (by decide) rfl (fun ls hl => ?_)
  refine lv_iload_n hx hb dJ6_bitCount_0f7a4_48 rfl (lv_at hl 0 rfl) ?_
  refine lv_bipush (v := 63) hx hb dJ6_bitCount_0f7a4_49 (by decide) ?_
  refine lv_iand hx hb dJ6_bitCount_0f7a4_51 ?_
  exact hret (v5 &&& (63 : Int32)) () _ _ _ _ h hP hD hS dJ6_bitCount_0f7a4_52
abbrev w_J9_floorDiv_f86c9 (cy : Nat → ClassId)  : va_W := []
set_option maxHeartbeats 4000000 in
set_option maxRecDepth 100000 in
theorem c_J9_floorDiv_f86c9 (l : Launch) (D : va_G) (cy : Nat → ClassId) (sz : Nat)   {x0 : Int64} {x2 : Int64} {post : Int64 → Prop} (h : wp_J9_floorDiv_f86c9 x0 x2 post) : Met l yJ9_floorDiv_f86c9 wsJ9_floorDiv_f86c9 ({ frames := 0, cells := 0, slots := 0, locals := 0 }) (va_Pc [.long x0, .long x2] (wI D cy sz (w_J9_floorDiv_f86c9 cy ))) (va_Ql (fun (r : Int64) (u : Unit) => post r ) (fun (u : Unit) t => wO D cy (va_A (w_J9_floorDiv_f86c9 cy ) sz) (w_J9_floorDiv_f86c9 cy ) t) (va_A (w_J9_floorDiv_f86c9 cy ) sz)) 0 0 (va_A (w_J9_floorDiv_f86c9 cy ) sz) := by
  refine contrL (S := Unit) (post := fun (r : Int64) (u : Unit) => post r ) (wOut := fun (u : Unit) => (w_J9_floorDiv_f86c9 cy )) (cc := cJ9_floorDiv_f86c9) (maxL := 6) (own := RJ9) (by decide +kernel) rfl rfl ?_
  intro p e s m args below meth c A Q hx hb hml hown hts hK hN hP hD hS hA hret
  refine ent [.long x0, .long x2] (Nat.le_of_ble_eq_true rfl) (fun ls hl => ?_)
  have hl : lv_has ls 6 [(0, .long x0), (2, .long x2)] := hl
  unfold wp_J9_floorDiv_f86c9 at h
  refine lv_lload_n hx hb dJ9_floorDiv_f86c9_0 rfl (lv_at hl 0 rfl) ?_
  refine lv_lload_n hx hb dJ9_floorDiv_f86c9_1 rfl (lv_at hl 1 rfl) ?_
  obtain ⟨z1, h⟩ := h
  refine lv_ldiv hx hb dJ9_floorDiv_f86c9_2 z1 ?_
  refine lv_lstore (lv' := [(4, .long (x0 / x2)), (0, .long x0), (2, .long x2)]) hx hb dJ9_floorDiv_f86c9_3 hl (by decide) rfl (fun ls hl => ?_)
  refine lv_lload_n hx hb dJ9_floorDiv_f86c9_5 rfl (lv_at hl 1 rfl) ?_
  refine lv_lload_n hx hb dJ9_floorDiv_f86c9_6 rfl (lv_at hl 2 rfl) ?_
  refine lv_lxor hx hb dJ9_floorDiv_f86c9_7 ?_
  refine lv_lconst (v := 0) hx hb dJ9_floorDiv_f86c9_8 (by decide) ?_
  refine W.lcmp hx hb dJ9_floorDiv_f86c9_9 ?_
  refine lv_if_ge (tgt := 27) hx hb dJ9_floorDiv_f86c9_10 (by decide) (fun c2 => ?_) (fun c2 => ?_)
  · have h := h.1 (lc_ge.mp c2)
    refine lv_lload hx hb dJ9_floorDiv_f86c9_27 (lv_at hl 0 rfl) ?_
    exact hret (x0 / x2) () _ _ _ _ h hP hD hS dJ9_floorDiv_f86c9_29
  · have h := h.2 (fun z => c2 (lc_ge.mpr z))
    refine lv_lload hx hb dJ9_floorDiv_f86c9_13 (lv_at hl 0 rfl) ?_
    refine lv_lload_n hx hb dJ9_floorDiv_f86c9_15 rfl (lv_at hl 2 rfl) ?_
    refine lv_lmul hx hb dJ9_floorDiv_f86c9_16 ?_
    refine lv_lload_n hx hb dJ9_floorDiv_f86c9_17 rfl (lv_at hl 1 rfl) ?_
    refine W.lcmp hx hb dJ9_floorDiv_f86c9_18 ?_
    refine lv_if_eq (tgt := 27) hx hb dJ9_floorDiv_f86c9_19 (by decide) (fun c3 => ?_) (fun c3 => ?_)
    · have h := h.1 (lc_eq.mp c3)
      refine lv_lload hx hb dJ9_floorDiv_f86c9_27 (lv_at hl 0 rfl) ?_
      exact hret (x0 / x2) () _ _ _ _ h hP hD hS dJ9_floorDiv_f86c9_29
    · have h := h.2 (fun z => c3 (lc_eq.mpr z))
      refine lv_lload hx hb dJ9_floorDiv_f86c9_22 (lv_at hl 0 rfl) ?_
      refine lv_lconst (v := 1) hx hb dJ9_floorDiv_f86c9_24 (by decide) ?_
      refine lv_lsub hx hb dJ9_floorDiv_f86c9_25 ?_
      exact hret ((x0 / x2) - (1 : Int64)) () _ _ _ _ h hP hD hS dJ9_floorDiv_f86c9_26
abbrev w_J7_fill_d0a16 (cy : Nat → ClassId) (a_p0 : Nat) (n_p0 : Nat) (p0 : Nat → Int64) : va_W := [(a_p0, .inl (cy 2, n_p0, .inr (.inl p0)))]
set_option maxHeartbeats 4000000 in
set_option maxRecDepth 100000 in
theorem c_J7_fill_d0a16 (l : Launch) (D : va_G) (cy : Nat → ClassId) (a_p0 : Nat) (n_p0 : Nat) (sz : Nat)  {p0 : Nat → Int64} {x1 : Int64} {post : (Nat → Int64) → Prop} (h : wp_J7_fill_d0a16 n_p0 p0 x1 post) : Met l yJ7_fill_d0a16 wsJ7_fill_d0a16 ({ frames := 0, cells := 0, slots := 0, locals := 0 }) (va_Pc [.ref a_p0, .long x1] (wI D cy sz (w_J7_fill_d0a16 cy a_p0 n_p0 p0))) (va_Qv (fun (u : (Nat → Int64)) => post u) (fun (u : (Nat → Int64)) t => wO D cy (va_A (w_J7_fill_d0a16 cy a_p0 n_p0 p0) sz) (w_J7_fill_d0a16 cy a_p0 n_p0 u) t) (va_A (w_J7_fill_d0a16 cy a_p0 n_p0 p0) sz)) 0 0 (va_A (w_J7_fill_d0a16 cy a_p0 n_p0 p0) sz) := by
  refine contrV (S := (Nat → Int64)) (post := fun (u : (Nat → Int64)) => post u) (wOut := fun (u : (Nat → Int64)) => (w_J7_fill_d0a16 cy a_p0 n_p0 u)) (cc := cJ7_fill_d0a16) (maxL := 5) (own := RJ7) (by decide +kernel) rfl rfl ?_
  intro p e s m args below meth c A Q hx hb hml hown hts hK hN hP hD hS hA hret
  have l_6 : ∀ (x1 : Int64) (x4 : Int32), ∀ (kx0 : (Nat → Int64) → Prop), (∀ (p0 : Nat → Int64), kx0 p0 → ∀ (H : Heap) (locs : List Loc), va_P D vwCl (w_J7_fill_d0a16 cy a_p0 n_p0 p0) H → va_D A (w_J7_fill_d0a16 cy a_p0 n_p0 p0) → va_S A s.heap H locs → ∀ (ls : Array Slot), lv_has ls 5 [] → W p l e ({ frames := 0, cells := 0, slots := 0, locals := 0 }) s m args below meth c H locs 0 0 Q (F0 m 22 ls [])) → ∀ (n : Nat) (x3 : Int32) (p0 : Nat → Int64), wl_J7_fill_d0a16_6 n_p0 x1 x4 kx0 post n x3 p0 → ∀ (H : Heap) (locs : List Loc), va_P D vwCl (w_J7_fill_d0a16 cy a_p0 n_p0 p0) H → va_D A (w_J7_fill_d0a16 cy a_p0 n_p0 p0) → va_S A s.heap H locs → ∀ (ls : Array Slot), lv_has ls 5 [(0, .ref a_p0), (1, .long x1), (3, .int x3), (4, .int x4)] → W p l e ({ frames := 0, cells := 0, slots := 0, locals := 0 }) s m args below meth c H locs 0 0 Q (F0 m 6 ls []) := by
    intro x1 x4 kx0 hkx0  n
    induction n with
    | zero => intro x3 p0 h; exact h.elim
    | succ n hkb =>
      intro x3 p0 h H locs hP hD hS ls hl
      replace h : ws_J7_fill_d0a16_6 n_p0 x1 x4 (wl_J7_fill_d0a16_6 n_p0 x1 x4 kx0 post n) kx0 post x3 p0 := h
      generalize wl_J7_fill_d0a16_6 n_p0 x1 x4 kx0 post n = kb at h hkb
      unfold ws_J7_fill_d0a16_6 at h
      refine lv_iload_n hx hb dJ7_fill_d0a16_6 rfl (lv_at hl 2 rfl) ?_
      refine lv_iload hx hb dJ7_fill_d0a16_7 (lv_at hl 3 rfl) ?_
      refine lv_icmp_ge (tgt := 22) hx hb dJ7_fill_d0a16_9 (by decide) (fun c1 => ?_) (fun c1 => ?_)
      · have h := h.1 c1
        exact hkx0 p0 h _ _ hP hD hS _ (lv_sub hl [] rfl)
      · have h := h.2 c1
        refine lv_aload_n hx hb dJ7_fill_d0a16_12 rfl (lv_at hl 0 rfl) ?_
        refine lv_iload_n hx hb dJ7_fill_d0a16_13 rfl (lv_at hl 2 rfl) ?_
        refine lv_lload_n hx hb dJ7_fill_d0a16_14 rfl (lv_at hl 1 rfl) ?_
        obtain ⟨i2, h⟩ := h
        refine va_last hx hb hK hP hD hS 0 2 rfl rfl i2 dJ7_fill_d0a16_15 (fun H locs hP hD hS => ?_)
        have hP : va_P D vwCl (w_J7_fill_d0a16 cy a_p0 n_p0 (vp_updL p0 (x3).toNatClampNeg x1)) H := hP
        have hD : va_D A (w_J7_fill_d0a16 cy a_p0 n_p0 (vp_updL p0 (x3).toNatClampNeg x1)) := hD
        refine lv_iinc (v := (x3 + (1 : Int32))) (lv' := [(3, .int (x3 + (1 : Int32))), (0, .ref a_p0), (1, .long x1), (4, .int x4)]) hx hb dJ7_fill_d0a16_16 hl (k := 2) rfl (congrArg (fun z => x3 + z) (by decide : Int32.ofInt (1) = (1 : Int32))) (by decide) rfl (fun ls hl => ?_)
        refine lv_goto (tgt := 6) hx hb dJ7_fill_d0a16_19 (by decide) ?_
        exact hkb (x3 + (1 : Int32)) (vp_updL p0 (x3).toNatClampNeg x1) h _ _ hP hD hS _ (lv_sub hl [1, 2, 0, 3] rfl)
  refine ent [.ref a_p0, .long x1] (Nat.le_of_ble_eq_true rfl) (fun ls hl => ?_)
  have hl : lv_has ls 5 [(0, .ref a_p0), (1, .long x1)] := hl
  unfold wp_J7_fill_d0a16 at h
  refine lv_iconst (v := 0) hx hb dJ7_fill_d0a16_0 (by decide) ?_
  refine lv_istore_n (lv' := [(3, .int (0 : Int32)), (0, .ref a_p0), (1, .long x1)]) hx hb dJ7_fill_d0a16_1 rfl hl (by decide) rfl (fun ls hl => ?_)
  refine lv_aload_n hx hb dJ7_fill_d0a16_2 rfl (lv_at hl 1 rfl) ?_
  refine va_alen hx hb hK hP 0 2 rfl rfl rfl dJ7_fill_d0a16_3 ?_
  refine lv_istore (lv' := [(4, .int (Int32.ofNat n_p0)), (3, .int (0 : Int32)), (0, .ref a_p0), (1, .long x1)]) hx hb dJ7_fill_d0a16_4 hl (by decide) rfl (fun ls hl => ?_)
  obtain ⟨n4, h⟩ := h
  refine l_6 x1 (Int32.ofNat n_p0) _ ?_ n4 (0 : Int32) p0 h _ _ hP hD hS _ (lv_sub hl [2, 3, 1, 0] rfl)
  · intro p0_3 h H locs hP hD hS ls hl
    exact hret (p0_3) _ _ _ _ h hP hD hS dJ7_fill_d0a16_22
abbrev w_J7_fill_53178 (cy : Nat → ClassId) (a_p0 : Nat) (n_p0 : Nat) (p0 : Nat → Int32) : va_W := [(a_p0, .inl (cy 1, n_p0, .inl p0))]
set_option maxHeartbeats 4000000 in
set_option maxRecDepth 100000 in
theorem c_J7_fill_53178 (l : Launch) (D : va_G) (cy : Nat → ClassId) (a_p0 : Nat) (n_p0 : Nat) (sz : Nat)  {p0 : Nat → Int32} {x1 : Int32} {post : (Nat → Int32) → Prop} (h : wp_J7_fill_53178 n_p0 p0 x1 post) : Met l yJ7_fill_53178 wsJ7_fill_53178 ({ frames := 0, cells := 0, slots := 0, locals := 0 }) (va_Pc [.ref a_p0, .int x1] (wI D cy sz (w_J7_fill_53178 cy a_p0 n_p0 p0))) (va_Qv (fun (u : (Nat → Int32)) => post u) (fun (u : (Nat → Int32)) t => wO D cy (va_A (w_J7_fill_53178 cy a_p0 n_p0 p0) sz) (w_J7_fill_53178 cy a_p0 n_p0 u) t) (va_A (w_J7_fill_53178 cy a_p0 n_p0 p0) sz)) 0 0 (va_A (w_J7_fill_53178 cy a_p0 n_p0 p0) sz) := by
  refine contrV (S := (Nat → Int32)) (post := fun (u : (Nat → Int32)) => post u) (wOut := fun (u : (Nat → Int32)) => (w_J7_fill_53178 cy a_p0 n_p0 u)) (cc := cJ7_fill_53178) (maxL := 4) (own := RJ7) (by decide +kernel) rfl rfl ?_
  intro p e s m args below meth c A Q hx hb hml hown hts hK hN hP hD hS hA hret
  have l_5 : ∀ (x1 : Int32) (x3 : Int32), ∀ (kx0 : (Nat → Int32) → Prop), (∀ (p0 : Nat → Int32), kx0 p0 → ∀ (H : Heap) (locs : List Loc), va_P D vwCl (w_J7_fill_53178 cy a_p0 n_p0 p0) H → va_D A (w_J7_fill_53178 cy a_p0 n_p0 p0) → va_S A s.heap H locs → ∀ (ls : Array Slot), lv_has ls 4 [] → W p l e ({ frames := 0, cells := 0, slots := 0, locals := 0 }) s m args below meth c H locs 0 0 Q (F0 m 20 ls [])) → ∀ (n : Nat) (x2 : Int32) (p0 : Nat → Int32), wl_J7_fill_53178_5 n_p0 x1 x3 kx0 post n x2 p0 → ∀ (H : Heap) (locs : List Loc), va_P D vwCl (w_J7_fill_53178 cy a_p0 n_p0 p0) H → va_D A (w_J7_fill_53178 cy a_p0 n_p0 p0) → va_S A s.heap H locs → ∀ (ls : Array Slot), lv_has ls 4 [(0, .ref a_p0), (1, .int x1), (2, .int x2), (3, .int x3)] → W p l e ({ frames := 0, cells := 0, slots := 0, locals := 0 }) s m args below meth c H locs 0 0 Q (F0 m 5 ls []) := by
    intro x1 x3 kx0 hkx0  n
    induction n with
    | zero => intro x2 p0 h; exact h.elim
    | succ n hkb =>
      intro x2 p0 h H locs hP hD hS ls hl
      replace h : ws_J7_fill_53178_5 n_p0 x1 x3 (wl_J7_fill_53178_5 n_p0 x1 x3 kx0 post n) kx0 post x2 p0 := h
      generalize wl_J7_fill_53178_5 n_p0 x1 x3 kx0 post n = kb at h hkb
      unfold ws_J7_fill_53178_5 at h
      refine lv_iload_n hx hb dJ7_fill_53178_5 rfl (lv_at hl 2 rfl) ?_
      refine lv_iload_n hx hb dJ7_fill_53178_6 rfl (lv_at hl 3 rfl) ?_
      refine lv_icmp_ge (tgt := 20) hx hb dJ7_fill_53178_7 (by decide) (fun c1 => ?_) (fun c1 => ?_)
      · have h := h.1 c1
        exact hkx0 p0 h _ _ hP hD hS _ (lv_sub hl [] rfl)
      · have h := h.2 c1
        refine lv_aload_n hx hb dJ7_fill_53178_10 rfl (lv_at hl 0 rfl) ?_
        refine lv_iload_n hx hb dJ7_fill_53178_11 rfl (lv_at hl 2 rfl) ?_
        refine lv_iload_n hx hb dJ7_fill_53178_12 rfl (lv_at hl 1 rfl) ?_
        obtain ⟨i2, h⟩ := h
        refine va_iast hx hb hK hP hD hS 0 1 rfl rfl i2 dJ7_fill_53178_13 (fun H locs hP hD hS => ?_)
        have hP : va_P D vwCl (w_J7_fill_53178 cy a_p0 n_p0 (upd p0 (x2).toNatClampNeg x1)) H := hP
        have hD : va_D A (w_J7_fill_53178 cy a_p0 n_p0 (upd p0 (x2).toNatClampNeg x1)) := hD
        refine lv_iinc (v := (x2 + (1 : Int32))) (lv' := [(2, .int (x2 + (1 : Int32))), (0, .ref a_p0), (1, .int x1), (3, .int x3)]) hx hb dJ7_fill_53178_14 hl (k := 2) rfl (congrArg (fun z => x2 + z) (by decide : Int32.ofInt (1) = (1 : Int32))) (by decide) rfl (fun ls hl => ?_)
        refine lv_goto (tgt := 5) hx hb dJ7_fill_53178_17 (by decide) ?_
        exact hkb (x2 + (1 : Int32)) (upd p0 (x2).toNatClampNeg x1) h _ _ hP hD hS _ (lv_sub hl [1, 2, 0, 3] rfl)
  refine ent [.ref a_p0, .int x1] (Nat.le_of_ble_eq_true rfl) (fun ls hl => ?_)
  have hl : lv_has ls 4 [(0, .ref a_p0), (1, .int x1)] := hl
  unfold wp_J7_fill_53178 at h
  refine lv_iconst (v := 0) hx hb dJ7_fill_53178_0 (by decide) ?_
  refine lv_istore_n (lv' := [(2, .int (0 : Int32)), (0, .ref a_p0), (1, .int x1)]) hx hb dJ7_fill_53178_1 rfl hl (by decide) rfl (fun ls hl => ?_)
  refine lv_aload_n hx hb dJ7_fill_53178_2 rfl (lv_at hl 1 rfl) ?_
  refine va_alen hx hb hK hP 0 1 rfl rfl rfl dJ7_fill_53178_3 ?_
  refine lv_istore_n (lv' := [(3, .int (Int32.ofNat n_p0)), (2, .int (0 : Int32)), (0, .ref a_p0), (1, .int x1)]) hx hb dJ7_fill_53178_4 rfl hl (by decide) rfl (fun ls hl => ?_)
  obtain ⟨n4, h⟩ := h
  refine l_5 x1 (Int32.ofNat n_p0) _ ?_ n4 (0 : Int32) p0 h _ _ hP hD hS _ (lv_sub hl [2, 3, 1, 0] rfl)
  · intro p0_3 h H locs hP hD hS ls hl
    exact hret (p0_3) _ _ _ _ h hP hD hS dJ7_fill_53178_20
abbrev w_X4_addWish (cy : Nat → ClassId) (a_o a_o_isTold a_o_least a_o_gateOff a_o_limit a_o_value a_o_kind a_o_most a_o_wishOff a_o_use : Nat) (r_o_use : Nat → Nat) (o_wishes : Int32) (o_value : Nat → Int32) (o_kind : Nat → Int32) (o_most : Nat → Int32) (o_wishOff : Nat → Int32) (o_use : Nat → Nat → Int32) : va_W := [(a_o, .inr (4, [.ref a_o_isTold, .ref a_o_least, .ref a_o_gateOff, .ref a_o_limit, .ref a_o_value, .ref a_o_kind, .ref a_o_most, .ref a_o_wishOff, .ref a_o_use, .int o_wishes])), (a_o_value, .inl (cy 1, 4, .inl o_value)), (a_o_kind, .inl (cy 1, 4, .inl o_kind)), (a_o_most, .inl (cy 1, 4, .inl o_most)), (a_o_wishOff, .inl (cy 3, 4, .inl o_wishOff)), (a_o_use, .inl (cy 4, 4, .inr (.inr (.inr (.inr (mref r_o_use 4))))))] ++ rows4 r_o_use (rowI (cy 1) 5 o_use) ++ []
set_option maxRecDepth 20000 in
theorem ggX4_addWish_J7_fill_53178 : GoodIn wsX4_addWish wsJ7_fill_53178 := goodIn_r _ [10] (by decide +kernel) (by decide +kernel)
set_option maxRecDepth 20000 in
theorem gX4_addWish_J7_fill_53178 : GoodIn wsX4_addWish (va_wsS RX4 46 yJ7_fill_53178 wsJ7_fill_53178) := goodIn_app (goodIn_of _ (by decide +kernel)) ggX4_addWish_J7_fill_53178
set_option maxHeartbeats 4000000 in
set_option maxRecDepth 100000 in
theorem c_X4_addWish (l : Launch) (D : va_G) (cy : Nat → ClassId) (a_o a_o_isTold a_o_least a_o_gateOff a_o_limit a_o_value a_o_kind a_o_most a_o_wishOff a_o_use : Nat) (r_o_use : Nat → Nat) (sz : Nat)  {o_wishes : Int32} {o_value : Nat → Int32} {o_kind : Nat → Int32} {o_most : Nat → Int32} {o_wishOff : Nat → Int32} {o_use : Nat → Nat → Int32} {x1 : Int32} {x2 : Int32} {x3 : Int32} {post : Int32 → (Nat → Int32) → (Nat → Int32) → (Nat → Int32) → (Nat → Int32) → (Nat → Nat → Int32) → Prop} (h : wp_X4_addWish o_wishes o_value o_kind o_most o_wishOff o_use x1 x2 x3 post) : Met l yX4_addWish wsX4_addWish ({ frames := 1, cells := 0, slots := 0, locals := 23 }) (va_Pc [.ref a_o, .int x1, .int x2, .int x3] (wI D cy sz (w_X4_addWish cy a_o a_o_isTold a_o_least a_o_gateOff a_o_limit a_o_value a_o_kind a_o_most a_o_wishOff a_o_use r_o_use o_wishes o_value o_kind o_most o_wishOff o_use))) (va_Qv (fun (u : Int32 × (Nat → Int32) × (Nat → Int32) × (Nat → Int32) × (Nat → Int32) × (Nat → Nat → Int32)) => post u.1 u.2.1 u.2.2.1 u.2.2.2.1 u.2.2.2.2.1 u.2.2.2.2.2) (fun (u : Int32 × (Nat → Int32) × (Nat → Int32) × (Nat → Int32) × (Nat → Int32) × (Nat → Nat → Int32)) t => wO D cy (va_A (w_X4_addWish cy a_o a_o_isTold a_o_least a_o_gateOff a_o_limit a_o_value a_o_kind a_o_most a_o_wishOff a_o_use r_o_use o_wishes o_value o_kind o_most o_wishOff o_use) sz) (w_X4_addWish cy a_o a_o_isTold a_o_least a_o_gateOff a_o_limit a_o_value a_o_kind a_o_most a_o_wishOff a_o_use r_o_use u.1 u.2.1 u.2.2.1 u.2.2.2.1 u.2.2.2.2.1 u.2.2.2.2.2) t) (va_A (w_X4_addWish cy a_o a_o_isTold a_o_least a_o_gateOff a_o_limit a_o_value a_o_kind a_o_most a_o_wishOff a_o_use r_o_use o_wishes o_value o_kind o_most o_wishOff o_use) sz)) 0 0 (va_A (w_X4_addWish cy a_o a_o_isTold a_o_least a_o_gateOff a_o_limit a_o_value a_o_kind a_o_most a_o_wishOff a_o_use r_o_use o_wishes o_value o_kind o_most o_wishOff o_use) sz) := by
  refine contrV (S := Int32 × (Nat → Int32) × (Nat → Int32) × (Nat → Int32) × (Nat → Int32) × (Nat → Nat → Int32)) (post := fun (u : Int32 × (Nat → Int32) × (Nat → Int32) × (Nat → Int32) × (Nat → Int32) × (Nat → Nat → Int32)) => post u.1 u.2.1 u.2.2.1 u.2.2.2.1 u.2.2.2.2.1 u.2.2.2.2.2) (wOut := fun (u : Int32 × (Nat → Int32) × (Nat → Int32) × (Nat → Int32) × (Nat → Int32) × (Nat → Nat → Int32)) => (w_X4_addWish cy a_o a_o_isTold a_o_least a_o_gateOff a_o_limit a_o_value a_o_kind a_o_most a_o_wishOff a_o_use r_o_use u.1 u.2.1 u.2.2.1 u.2.2.2.1 u.2.2.2.2.1 u.2.2.2.2.2)) (cc := cX4_addWish) (maxL := 4) (own := RX4) (by decide +kernel) rfl rfl ?_
  intro p e s m args below meth c A Q hx hb hml hown hts hK hN hP hD hS hA hret
  have in_X4 : ∀ w ∈ u_ws RX4 TX4 10, w ∈ wsX4_addWish := by decide +kernel
  have fl_42 := hts (.fieldLink RX4 42 "DawnTable$Table" "wishes" "I") (by decide +kernel)
  have fl_25 := hts (.fieldLink RX4 25 "DawnTable$Table" "value" "[I") (by decide +kernel)
  have fl_28 := hts (.fieldLink RX4 28 "DawnTable$Table" "kind" "[I") (by decide +kernel)
  have fl_31 := hts (.fieldLink RX4 31 "DawnTable$Table" "most" "[I") (by decide +kernel)
  have fl_34 := hts (.fieldLink RX4 34 "DawnTable$Table" "wishOff" "[Z") (by decide +kernel)
  have fl_39 := hts (.fieldLink RX4 39 "DawnTable$Table" "use" "[[I") (by decide +kernel)
  refine ent [.ref a_o, .int x1, .int x2, .int x3] (Nat.le_of_ble_eq_true rfl) (fun ls hl => ?_)
  have hl : lv_has ls 4 [(0, .ref a_o), (1, .int x1), (2, .int x2), (3, .int x3)] := hl
  unfold wp_X4_addWish at h
  refine lv_aload_n hx hb dX4_addWish_0 rfl (lv_at hl 0 rfl) ?_
  refine va_get (D := D) (ci := 4) (v := .int o_wishes) (C := RX4) (T := TX4) (N := 10) hx hb hts in_X4 hown hK hP 0 rfl rfl 9 (by decide) fl_42 (fun _ h9 => h9) rfl dX4_addWish_1 ?_
  refine lv_iconst (v := 4) hx hb dX4_addWish_4 (by decide) ?_
  refine lv_icmp_lt (tgt := 9) hx hb dX4_addWish_5 (by decide) (fun c1 => ?_) (fun c1 => ?_)
  · have h := h.1 c1
    refine lv_aload_n hx hb dX4_addWish_9 rfl (lv_at hl 0 rfl) ?_
    refine va_get (D := D) (ci := 4) (v := .ref a_o_value) (C := RX4) (T := TX4) (N := 10) hx hb hts in_X4 hown hK hP 0 rfl rfl 4 (by decide) fl_25 (fun _ h9 => h9) rfl dX4_addWish_10 ?_
    refine lv_aload_n hx hb dX4_addWish_13 rfl (lv_at hl 0 rfl) ?_
    refine va_get (D := D) (ci := 4) (v := .int o_wishes) (C := RX4) (T := TX4) (N := 10) hx hb hts in_X4 hown hK hP 0 rfl rfl 9 (by decide) fl_42 (fun _ h9 => h9) rfl dX4_addWish_14 ?_
    refine lv_iload_n hx hb dX4_addWish_17 rfl (lv_at hl 1 rfl) ?_
    obtain ⟨i2, h⟩ := h
    refine va_iast hx hb hK hP hD hS 1 1 rfl rfl i2 dX4_addWish_18 (fun H locs hP hD hS => ?_)
    have hP : va_P D vwCl (w_X4_addWish cy a_o a_o_isTold a_o_least a_o_gateOff a_o_limit a_o_value a_o_kind a_o_most a_o_wishOff a_o_use r_o_use o_wishes (upd o_value (o_wishes).toNatClampNeg x1) o_kind o_most o_wishOff o_use) H := hP
    have hD : va_D A (w_X4_addWish cy a_o a_o_isTold a_o_least a_o_gateOff a_o_limit a_o_value a_o_kind a_o_most a_o_wishOff a_o_use r_o_use o_wishes (upd o_value (o_wishes).toNatClampNeg x1) o_kind o_most o_wishOff o_use) := hD
    refine lv_aload_n hx hb dX4_addWish_19 rfl (lv_at hl 0 rfl) ?_
    refine va_get (D := D) (ci := 4) (v := .ref a_o_kind) (C := RX4) (T := TX4) (N := 10) hx hb hts in_X4 hown hK hP 0 rfl rfl 5 (by decide) fl_28 (fun _ h9 => h9) rfl dX4_addWish_20 ?_
    refine lv_aload_n hx hb dX4_addWish_23 rfl (lv_at hl 0 rfl) ?_
    refine va_get (D := D) (ci := 4) (v := .int o_wishes) (C := RX4) (T := TX4) (N := 10) hx hb hts in_X4 hown hK hP 0 rfl rfl 9 (by decide) fl_42 (fun _ h9 => h9) rfl dX4_addWish_24 ?_
    refine lv_iload_n hx hb dX4_addWish_27 rfl (lv_at hl 2 rfl) ?_
    refine va_iast hx hb hK hP hD hS 2 1 rfl rfl i2 dX4_addWish_28 (fun H locs hP hD hS => ?_)
    have hP : va_P D vwCl (w_X4_addWish cy a_o a_o_isTold a_o_least a_o_gateOff a_o_limit a_o_value a_o_kind a_o_most a_o_wishOff a_o_use r_o_use o_wishes (upd o_value (o_wishes).toNatClampNeg x1) (upd o_kind (o_wishes).toNatClampNeg x2) o_most o_wishOff o_use) H := hP
    have hD : va_D A (w_X4_addWish cy a_o a_o_isTold a_o_least a_o_gateOff a_o_limit a_o_value a_o_kind a_o_most a_o_wishOff a_o_use r_o_use o_wishes (upd o_value (o_wishes).toNatClampNeg x1) (upd o_kind (o_wishes).toNatClampNeg x2) o_most o_wishOff o_use) := hD
    refine lv_aload_n hx hb dX4_addWish_29 rfl (lv_at hl 0 rfl) ?_
    refine va_get (D := D) (ci := 4) (v := .ref a_o_most) (C := RX4) (T := TX4) (N := 10) hx hb hts in_X4 hown hK hP 0 rfl rfl 6 (by decide) fl_31 (fun _ h9 => h9) rfl dX4_addWish_30 ?_
    refine lv_aload_n hx hb dX4_addWish_33 rfl (lv_at hl 0 rfl) ?_
    refine va_get (D := D) (ci := 4) (v := .int o_wishes) (C := RX4) (T := TX4) (N := 10) hx hb hts in_X4 hown hK hP 0 rfl rfl 9 (by decide) fl_42 (fun _ h9 => h9) rfl dX4_addWish_34 ?_
    refine lv_iload_n hx hb dX4_addWish_37 rfl (lv_at hl 3 rfl) ?_
    refine va_iast hx hb hK hP hD hS 3 1 rfl rfl i2 dX4_addWish_38 (fun H locs hP hD hS => ?_)
    have hP : va_P D vwCl (w_X4_addWish cy a_o a_o_isTold a_o_least a_o_gateOff a_o_limit a_o_value a_o_kind a_o_most a_o_wishOff a_o_use r_o_use o_wishes (upd o_value (o_wishes).toNatClampNeg x1) (upd o_kind (o_wishes).toNatClampNeg x2) (upd o_most (o_wishes).toNatClampNeg x3) o_wishOff o_use) H := hP
    have hD : va_D A (w_X4_addWish cy a_o a_o_isTold a_o_least a_o_gateOff a_o_limit a_o_value a_o_kind a_o_most a_o_wishOff a_o_use r_o_use o_wishes (upd o_value (o_wishes).toNatClampNeg x1) (upd o_kind (o_wishes).toNatClampNeg x2) (upd o_most (o_wishes).toNatClampNeg x3) o_wishOff o_use) := hD
    refine lv_aload_n hx hb dX4_addWish_39 rfl (lv_at hl 0 rfl) ?_
    refine va_get (D := D) (ci := 4) (v := .ref a_o_wishOff) (C := RX4) (T := TX4) (N := 10) hx hb hts in_X4 hown hK hP 0 rfl rfl 7 (by decide) fl_34 (fun _ h9 => h9) rfl dX4_addWish_40 ?_
    refine lv_aload_n hx hb dX4_addWish_43 rfl (lv_at hl 0 rfl) ?_
    refine va_get (D := D) (ci := 4) (v := .int o_wishes) (C := RX4) (T := TX4) (N := 10) hx hb hts in_X4 hown hK hP 0 rfl rfl 9 (by decide) fl_42 (fun _ h9 => h9) rfl dX4_addWish_44 ?_
    refine lv_iconst (v := 0) hx hb dX4_addWish_47 (by decide) ?_
    refine va_zast hx hb hK hP hD hS 4 3 rfl rfl i2 dX4_addWish_48 (fun H locs hP hD hS => ?_)
    have hP : va_P D vwCl (w_X4_addWish cy a_o a_o_isTold a_o_least a_o_gateOff a_o_limit a_o_value a_o_kind a_o_most a_o_wishOff a_o_use r_o_use o_wishes (upd o_value (o_wishes).toNatClampNeg x1) (upd o_kind (o_wishes).toNatClampNeg x2) (upd o_most (o_wishes).toNatClampNeg x3) (upd o_wishOff (o_wishes).toNatClampNeg (vp_nar .boolean (0 : Int32))) o_use) H := hP
    have hD : va_D A (w_X4_addWish cy a_o a_o_isTold a_o_least a_o_gateOff a_o_limit a_o_value a_o_kind a_o_most a_o_wishOff a_o_use r_o_use o_wishes (upd o_value (o_wishes).toNatClampNeg x1) (upd o_kind (o_wishes).toNatClampNeg x2) (upd o_most (o_wishes).toNatClampNeg x3) (upd o_wishOff (o_wishes).toNatClampNeg (vp_nar .boolean (0 : Int32))) o_use) := hD
    refine lv_aload_n hx hb dX4_addWish_49 rfl (lv_at hl 0 rfl) ?_
    refine va_get (D := D) (ci := 4) (v := .ref a_o_use) (C := RX4) (T := TX4) (N := 10) hx hb hts in_X4 hown hK hP 0 rfl rfl 8 (by decide) fl_39 (fun _ h9 => h9) rfl dX4_addWish_50 ?_
    refine lv_aload_n hx hb dX4_addWish_53 rfl (lv_at hl 0 rfl) ?_
    refine va_get (D := D) (ci := 4) (v := .int o_wishes) (C := RX4) (T := TX4) (N := 10) hx hb hts in_X4 hown hK hP 0 rfl rfl 9 (by decide) fl_42 (fun _ h9 => h9) rfl dX4_addWish_54 ?_
    refine mx_ald hx hb hK hP 5 4 rfl rfl i2 dX4_addWish_57 ?_
    refine lv_iconst (v := 0) hx hb dX4_addWish_58 (by decide) ?_
    have hr4 : (w_X4_addWish cy a_o a_o_isTold a_o_least a_o_gateOff a_o_limit a_o_value a_o_kind a_o_most a_o_wishOff a_o_use r_o_use o_wishes (upd o_value (o_wishes).toNatClampNeg x1) (upd o_kind (o_wishes).toNatClampNeg x2) (upd o_most (o_wishes).toNatClampNeg x3) (upd o_wishOff (o_wishes).toNatClampNeg (vp_nar .boolean (0 : Int32))) o_use)[6 + (o_wishes).toNatClampNeg]? = some (r_o_use (o_wishes).toNatClampNeg, rowI (cy 1) 5 o_use (o_wishes).toNatClampNeg) := (gI0 (in_lt i2))
    obtain ⟨hPc, hDc⟩ := cut1 hP hD hr4
    have hFc := free1 hD hS hA hr4
    refine va_callv (va_runS (As := [.ref (r_o_use (o_wishes).toNatClampNeg), .int (0 : Int32)]) (rest := []) ⟨hx, hb, hml, hown, hts⟩ (c_J7_fill_53178 l D cy (r_o_use (o_wishes).toNatClampNeg) 5 _ h) (va_cwS 2 hts gX4_addWish_J7_fill_53178 rfl rfl rfl (by decide +kernel) ⟨Nat.le_of_ble_eq_true rfl, Nat.le_of_ble_eq_true rfl⟩) (preS hPc hDc hK hN) rfl rfl hl.1 rfl (lv_room (Nat.le_of_ble_eq_true rfl)) dX4_addWish_59 ⟨Nat.zero_le _, Nat.zero_le _⟩) hS (fun q _ h => hFc q h) hFc (fun u3 t H1 locs ht hvm h hB hz1 hk1 hS => ?_)
    try dsimp only at h hB
    obtain ⟨hP, hD⟩ := join1 hP hD hr4 hk1 ht hB
    generalize H1 = H at hP hS ⊢
    have hP : va_P D vwCl (w_X4_addWish cy a_o a_o_isTold a_o_least a_o_gateOff a_o_limit a_o_value a_o_kind a_o_most a_o_wishOff a_o_use r_o_use o_wishes (upd o_value (o_wishes).toNatClampNeg x1) (upd o_kind (o_wishes).toNatClampNeg x2) (upd o_most (o_wishes).toNatClampNeg x3) (upd o_wishOff (o_wishes).toNatClampNeg (vp_nar .boolean (0 : Int32))) (va_up o_use (o_wishes).toNatClampNeg u3)) H := Eq.mp (congrArg (fun w => va_P D vwCl w H) (pI0 (in_lt i2))) hP
    have hD : va_D A (w_X4_addWish cy a_o a_o_isTold a_o_least a_o_gateOff a_o_limit a_o_value a_o_kind a_o_most a_o_wishOff a_o_use r_o_use o_wishes (upd o_value (o_wishes).toNatClampNeg x1) (upd o_kind (o_wishes).toNatClampNeg x2) (upd o_most (o_wishes).toNatClampNeg x3) (upd o_wishOff (o_wishes).toNatClampNeg (vp_nar .boolean (0 : Int32))) (va_up o_use (o_wishes).toNatClampNeg u3)) := Eq.mp (congrArg (fun w => va_D A w) (pI0 (in_lt i2))) hD
    refine lv_aload_n hx hb dX4_addWish_62 rfl (lv_at hl 0 rfl) ?_
    refine lv_dup hx hb dX4_addWish_63 rfl ?_
    refine va_get (D := D) (ci := 4) (v := .int o_wishes) (C := RX4) (T := TX4) (N := 10) hx hb hts in_X4 hown hK hP 0 rfl rfl 9 (by decide) fl_42 (fun _ h9 => h9) rfl dX4_addWish_64 ?_
    refine lv_iconst (v := 1) hx hb dX4_addWish_67 (by decide) ?_
    refine lv_iadd hx hb dX4_addWish_68 ?_
    refine va_put (D := D) (ci := 4) (v := .int (o_wishes + (1 : Int32))) (ty := .int) (C := RX4) (T := TX4) (N := 10) hx hb hts in_X4 tyX4 tyX4_ok nmX4 hown hK hP hD hS 0 rfl rfl 9 (by decide) fl_42 (fun _ h9 => h9) rfl (by decide +kernel) rfl rfl (Nat.le_of_ble_eq_true rfl) dX4_addWish_69 (fun H locs hP hD hS => ?_)
    have hP : va_P D vwCl (w_X4_addWish cy a_o a_o_isTold a_o_least a_o_gateOff a_o_limit a_o_value a_o_kind a_o_most a_o_wishOff a_o_use r_o_use (o_wishes + (1 : Int32)) (upd o_value (o_wishes).toNatClampNeg x1) (upd o_kind (o_wishes).toNatClampNeg x2) (upd o_most (o_wishes).toNatClampNeg x3) (upd o_wishOff (o_wishes).toNatClampNeg (vp_nar .boolean (0 : Int32))) (va_up o_use (o_wishes).toNatClampNeg u3)) H := hP
    have hD : va_D A (w_X4_addWish cy a_o a_o_isTold a_o_least a_o_gateOff a_o_limit a_o_value a_o_kind a_o_most a_o_wishOff a_o_use r_o_use (o_wishes + (1 : Int32)) (upd o_value (o_wishes).toNatClampNeg x1) (upd o_kind (o_wishes).toNatClampNeg x2) (upd o_most (o_wishes).toNatClampNeg x3) (upd o_wishOff (o_wishes).toNatClampNeg (vp_nar .boolean (0 : Int32))) (va_up o_use (o_wishes).toNatClampNeg u3)) := hD
    exact hret ((o_wishes + (1 : Int32)), (upd o_value (o_wishes).toNatClampNeg x1), (upd o_kind (o_wishes).toNatClampNeg x2), (upd o_most (o_wishes).toNatClampNeg x3), (upd o_wishOff (o_wishes).toNatClampNeg (vp_nar .boolean (0 : Int32))), (va_up o_use (o_wishes).toNatClampNeg u3)) _ _ _ _ h hP hD hS dX4_addWish_72
  · have h := h.2 c1
    exact hret (o_wishes, o_value, o_kind, o_most, o_wishOff, o_use) _ _ _ _ h hP hD hS dX4_addWish_8
