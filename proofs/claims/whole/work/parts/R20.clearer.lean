abbrev w_X1_takeParts (cy : Nat → ClassId) (a_o a_o_sheet a_o_fixed a_o_open a_o_parts a_o_parts_x : Nat) (r_o_sheet : Nat → Nat) (o_opens : Int32) (o_height : Int32) (o_low : Int64) (o_held : Int32) (o_sheet : Nat → Nat → Int64) (o_fixed : Nat → Int32) (o_open : Nat → Int32) (o_parts_holds : Int32) (o_parts_value : Int64) (o_parts_low : Int64) (o_parts_x : Nat → Int64) : va_W := [(a_o, .inr (1, [.ref a_o_sheet, .ref a_o_fixed, .ref a_o_open, .ref a_o_parts, .int o_opens, .int o_height, .long o_low, .int o_held])), (a_o_sheet, .inl (cy 5, 14, .inr (.inr (.inr (.inr (mref r_o_sheet 14)))))), (a_o_fixed, .inl (cy 1, 4, .inl o_fixed)), (a_o_open, .inl (cy 1, 4, .inl o_open)), (a_o_parts, .inr (2, [.ref a_o_parts_x, .int o_parts_holds, .long o_parts_value, .long o_parts_low])), (a_o_parts_x, .inl (cy 2, 4, .inr (.inl o_parts_x)))] ++ rows14 r_o_sheet (rowJ (cy 2) 5 o_sheet) ++ []
def cx_X1_takeParts (l : Launch) (D : va_G) (cy : Nat → ClassId) (a_o : Nat) (a_o_sheet : Nat) (a_o_fixed : Nat) (a_o_open : Nat) (a_o_parts : Nat) (a_o_parts_x : Nat) (r_o_sheet : Nat → Nat) (o_opens : Int32) (o_height : Int32) (o_low : Int64) (o_held : Int32) (o_sheet : Nat → Nat → Int64) (o_fixed : Nat → Int32) (o_open : Nat → Int32) (post : Int32 → Int64 → Int64 → (Nat → Int64) → Prop) (p : Program) (e : Env) (s : State) (m : MethodId) (args : Array Value) (below : List Frame) (meth : Method) (c : Code) (A : Nat → Prop) (Q : State → Prop) : Prop :=
  p.tables.exec = Jvm.exec ∧
  c.code = cX1_takeParts ∧
  c.maxLocals = 2 ∧
  s.vm.findClass RX1 = some m.cls ∧
  (∀ w ∈ wsX1_takeParts, w.before args s = true) ∧
  va_K D vwCl (tysA cy) s ∧
  NW s ∧
  (∀ q : Nat, s.heap.size ≤ q → A q) ∧
  (∀ (u : Int32 × Int64 × Int64 × (Nat → Int64)) (H : Heap) (locs : List Loc) (ls : Array Slot) (pc : Nat), post u.1 u.2.1 u.2.2.1 u.2.2.2 → va_P D vwCl (w_X1_takeParts cy a_o a_o_sheet a_o_fixed a_o_open a_o_parts a_o_parts_x r_o_sheet o_opens o_height o_low o_held o_sheet o_fixed o_open u.1 u.2.1 u.2.2.1 u.2.2.2) H → va_D A (w_X1_takeParts cy a_o a_o_sheet a_o_fixed a_o_open a_o_parts a_o_parts_x r_o_sheet o_opens o_height o_low o_held o_sheet o_fixed o_open u.1 u.2.1 u.2.2.1 u.2.2.2) → va_S A s.heap H locs → decode cX1_takeParts pc = .ok (.return_, 1) → W p l e ({ frames := 1, cells := 0, slots := 0, locals := 40 }) s m args below meth c H locs 0 0 Q (F0 m pc ls []))
set_option maxHeartbeats 4000000 in
set_option maxRecDepth 100000 in
theorem t_X1_takeParts_l_2 {l : Launch} {D : va_G} {cy : Nat → ClassId} {a_o : Nat} {a_o_sheet : Nat} {a_o_fixed : Nat} {a_o_open : Nat} {a_o_parts : Nat} {a_o_parts_x : Nat} {r_o_sheet : Nat → Nat} {o_opens : Int32} {o_height : Int32} {o_low : Int64} {o_held : Int32} {o_sheet : Nat → Nat → Int64} {o_fixed : Nat → Int32} {o_open : Nat → Int32} {post : Int32 → Int64 → Int64 → (Nat → Int64) → Prop} {p : Program} {e : Env} {s : State} {m : MethodId} {args : Array Value} {below : List Frame} {meth : Method} {c : Code} {A : Nat → Prop} {Q : State → Prop} (C : cx_X1_takeParts l D cy a_o a_o_sheet a_o_fixed a_o_open a_o_parts a_o_parts_x r_o_sheet o_opens o_height o_low o_held o_sheet o_fixed o_open post p e s m args below meth c A Q) : ∀ (o_parts_holds : Int32) (o_parts_value : Int64) (o_parts_low : Int64), ∀ (kx0 : (Nat → Int64) → Prop), (∀ (o_parts_x : Nat → Int64), kx0 o_parts_x → ∀ (H : Heap) (locs : List Loc), va_P D vwCl (w_X1_takeParts cy a_o a_o_sheet a_o_fixed a_o_open a_o_parts a_o_parts_x r_o_sheet o_opens o_height o_low o_held o_sheet o_fixed o_open o_parts_holds o_parts_value o_parts_low o_parts_x) H → va_D A (w_X1_takeParts cy a_o a_o_sheet a_o_fixed a_o_open a_o_parts a_o_parts_x r_o_sheet o_opens o_height o_low o_held o_sheet o_fixed o_open o_parts_holds o_parts_value o_parts_low o_parts_x) → va_S A s.heap H locs → ∀ (ls : Array Slot), lv_has ls 2 [(0, .ref a_o)] → W p l e ({ frames := 1, cells := 0, slots := 0, locals := 40 }) s m args below meth c H locs 0 0 Q (F0 m 38 ls [])) → ∀ (n : Nat) (x1 : Int32) (o_parts_x : Nat → Int64), wl_X1_takeParts_2 o_opens o_low o_sheet o_fixed o_open o_parts_holds o_parts_value o_parts_low kx0 post n x1 o_parts_x → ∀ (H : Heap) (locs : List Loc), va_P D vwCl (w_X1_takeParts cy a_o a_o_sheet a_o_fixed a_o_open a_o_parts a_o_parts_x r_o_sheet o_opens o_height o_low o_held o_sheet o_fixed o_open o_parts_holds o_parts_value o_parts_low o_parts_x) H → va_D A (w_X1_takeParts cy a_o a_o_sheet a_o_fixed a_o_open a_o_parts a_o_parts_x r_o_sheet o_opens o_height o_low o_held o_sheet o_fixed o_open o_parts_holds o_parts_value o_parts_low o_parts_x) → va_S A s.heap H locs → ∀ (ls : Array Slot), lv_has ls 2 [(0, .ref a_o), (1, .int x1)] → W p l e ({ frames := 1, cells := 0, slots := 0, locals := 40 }) s m args below meth c H locs 0 0 Q (F0 m 2 ls []) := by
    have C0 := C
    obtain ⟨hx, hb, hml, hown, hts, hK, hN, hA, hret⟩ := C0
    have in_X1 : ∀ w ∈ u_ws RX1 TX1 8, w ∈ wsX1_takeParts := by decide +kernel
    have fl_26 := hts (.fieldLink RX1 26 "DawnTable$Clearer" "parts" "LDawnTable$Clearing;") (by decide +kernel)
    have in_X2 : ∀ w ∈ u_ws RX2 TX2 4, w ∈ wsX1_takeParts := by decide +kernel
    have fl_80 := hts (.fieldLink RX1 80 "DawnTable$Clearing" "x" "[J") (by decide +kernel)
    have fl_16 := hts (.fieldLink RX1 16 "DawnTable$Clearer" "fixed" "[I") (by decide +kernel)
    have fl_37 := hts (.fieldLink RX1 37 "DawnTable$Clearer" "low" "J") (by decide +kernel)
    intro o_parts_holds o_parts_value o_parts_low kx0 hkx0  n
    induction n with
    | zero => intro x1 o_parts_x h; exact h.elim
    | succ n hkb =>
      intro x1 o_parts_x h H locs hP hD hS ls hl
      replace h : ws_X1_takeParts_2 o_opens o_low o_sheet o_fixed o_open o_parts_holds o_parts_value o_parts_low (wl_X1_takeParts_2 o_opens o_low o_sheet o_fixed o_open o_parts_holds o_parts_value o_parts_low kx0 post n) kx0 post x1 o_parts_x := h
      generalize wl_X1_takeParts_2 o_opens o_low o_sheet o_fixed o_open o_parts_holds o_parts_value o_parts_low kx0 post n = kb at h hkb
      unfold ws_X1_takeParts_2 at h
      refine lv_iload_n hx hb dX1_takeParts_2 rfl (lv_at hl 1 rfl) ?_
      refine lv_iconst (v := 4) hx hb dX1_takeParts_3 (by decide) ?_
      refine lv_icmp_ge (tgt := 38) hx hb dX1_takeParts_4 (by decide) (fun c1 => ?_) (fun c1 => ?_)
      · have h := h.1 c1
        exact hkx0 o_parts_x h _ _ hP hD hS _ (lv_sub hl [0] rfl)
      · have h := h.2 c1
        refine lv_aload_n hx hb dX1_takeParts_7 rfl (lv_at hl 0 rfl) ?_
        refine va_get (D := D) (ci := 1) (v := .ref a_o_parts) (C := RX1) (T := TX1) (N := 8) hx hb hts in_X1 hown hK hP 0 rfl rfl 3 (by decide) fl_26 (fun _ h9 => h9) rfl dX1_takeParts_8 ?_
        refine va_get (D := D) (ci := 2) (v := .ref a_o_parts_x) (C := RX2) (T := TX2) (N := 4) hx hb hts in_X2 hown hK hP 4 rfl rfl 0 (by decide) fl_80 (fun _ h9 => h9) rfl dX1_takeParts_11 ?_
        refine lv_iload_n hx hb dX1_takeParts_14 rfl (lv_at hl 1 rfl) ?_
        refine lv_aload_n hx hb dX1_takeParts_15 rfl (lv_at hl 0 rfl) ?_
        refine va_get (D := D) (ci := 1) (v := .ref a_o_fixed) (C := RX1) (T := TX1) (N := 8) hx hb hts in_X1 hown hK hP 0 rfl rfl 1 (by decide) fl_16 (fun _ h9 => h9) rfl dX1_takeParts_16 ?_
        refine lv_iload_n hx hb dX1_takeParts_19 rfl (lv_at hl 1 rfl) ?_
        obtain ⟨i2, h⟩ := h
        refine va_iald hx hb hK hP 2 1 rfl rfl i2 dX1_takeParts_20 ?_
        refine lv_iconst (v := 0) hx hb dX1_takeParts_21 (by decide) ?_
        refine va_mmax hx hb (hml.trans hl.1.symm) hown (hts (.methodLink RX1 151 Lib.Math.max.name) (by decide +kernel)) (hts (.static Lib.Math.max.name) (by decide +kernel)) (hts (.initialized "java/lang/Math") (by decide +kernel)) (hts (.code Lib.Math.max.name Lib.Math.max.code 2 (some .int)) (by decide +kernel)) (Nat.le_of_ble_eq_true rfl) (Nat.le_of_ble_eq_true rfl) (Nat.le_of_ble_eq_true rfl) (Nat.le_of_ble_eq_true rfl) dX1_takeParts_22 ?_
        refine lv_i2l hx hb dX1_takeParts_25 rfl ?_
        refine lv_aload_n hx hb dX1_takeParts_26 rfl (lv_at hl 0 rfl) ?_
        refine va_get (D := D) (ci := 1) (v := .long o_low) (C := RX1) (T := TX1) (N := 8) hx hb hts in_X1 hown hK hP 0 rfl rfl 6 (by decide) fl_37 (fun _ h9 => h9) rfl dX1_takeParts_27 ?_
        refine lv_lmul hx hb dX1_takeParts_30 ?_
        refine lv_topl (fun v3 ev3 => ?_)
        have h := h v3 ev3
        refine va_last hx hb hK hP hD hS 5 2 rfl rfl i2 dX1_takeParts_31 (fun H locs hP hD hS => ?_)
        have hP : va_P D vwCl (w_X1_takeParts cy a_o a_o_sheet a_o_fixed a_o_open a_o_parts a_o_parts_x r_o_sheet o_opens o_height o_low o_held o_sheet o_fixed o_open o_parts_holds o_parts_value o_parts_low (vp_updL o_parts_x (x1).toNatClampNeg v3)) H := hP
        have hD : va_D A (w_X1_takeParts cy a_o a_o_sheet a_o_fixed a_o_open a_o_parts a_o_parts_x r_o_sheet o_opens o_height o_low o_held o_sheet o_fixed o_open o_parts_holds o_parts_value o_parts_low (vp_updL o_parts_x (x1).toNatClampNeg v3)) := hD
        refine lv_iinc (v := (x1 + (1 : Int32))) (lv' := [(1, .int (x1 + (1 : Int32))), (0, .ref a_o)]) hx hb dX1_takeParts_32 hl (k := 1) rfl (congrArg (fun z => x1 + z) (by decide : Int32.ofInt (1) = (1 : Int32))) (by decide) rfl (fun ls hl => ?_)
        refine lv_goto (tgt := 2) hx hb dX1_takeParts_35 (by decide) ?_
        exact hkb (x1 + (1 : Int32)) (vp_updL o_parts_x (x1).toNatClampNeg v3) h _ _ hP hD hS _ (lv_sub hl [1, 0] rfl)
set_option maxHeartbeats 4000000 in
set_option maxRecDepth 100000 in
theorem t_X1_takeParts_l_40 {l : Launch} {D : va_G} {cy : Nat → ClassId} {a_o : Nat} {a_o_sheet : Nat} {a_o_fixed : Nat} {a_o_open : Nat} {a_o_parts : Nat} {a_o_parts_x : Nat} {r_o_sheet : Nat → Nat} {o_opens : Int32} {o_height : Int32} {o_low : Int64} {o_held : Int32} {o_sheet : Nat → Nat → Int64} {o_fixed : Nat → Int32} {o_open : Nat → Int32} {post : Int32 → Int64 → Int64 → (Nat → Int64) → Prop} {p : Program} {e : Env} {s : State} {m : MethodId} {args : Array Value} {below : List Frame} {meth : Method} {c : Code} {A : Nat → Prop} {Q : State → Prop} (C : cx_X1_takeParts l D cy a_o a_o_sheet a_o_fixed a_o_open a_o_parts a_o_parts_x r_o_sheet o_opens o_height o_low o_held o_sheet o_fixed o_open post p e s m args below meth c A Q) : ∀ (o_parts_holds : Int32) (o_parts_value : Int64) (o_parts_low : Int64), ∀ (kx0 : (Nat → Int64) → Prop), (∀ (o_parts_x : Nat → Int64), kx0 o_parts_x → ∀ (H : Heap) (locs : List Loc), va_P D vwCl (w_X1_takeParts cy a_o a_o_sheet a_o_fixed a_o_open a_o_parts a_o_parts_x r_o_sheet o_opens o_height o_low o_held o_sheet o_fixed o_open o_parts_holds o_parts_value o_parts_low o_parts_x) H → va_D A (w_X1_takeParts cy a_o a_o_sheet a_o_fixed a_o_open a_o_parts a_o_parts_x r_o_sheet o_opens o_height o_low o_held o_sheet o_fixed o_open o_parts_holds o_parts_value o_parts_low o_parts_x) → va_S A s.heap H locs → ∀ (ls : Array Slot), lv_has ls 2 [(0, .ref a_o)] → W p l e ({ frames := 1, cells := 0, slots := 0, locals := 40 }) s m args below meth c H locs 0 0 Q (F0 m 78 ls [])) → ∀ (n : Nat) (x1 : Int32) (o_parts_x : Nat → Int64), wl_X1_takeParts_40 o_opens o_low o_sheet o_fixed o_open o_parts_holds o_parts_value o_parts_low kx0 post n x1 o_parts_x → ∀ (H : Heap) (locs : List Loc), va_P D vwCl (w_X1_takeParts cy a_o a_o_sheet a_o_fixed a_o_open a_o_parts a_o_parts_x r_o_sheet o_opens o_height o_low o_held o_sheet o_fixed o_open o_parts_holds o_parts_value o_parts_low o_parts_x) H → va_D A (w_X1_takeParts cy a_o a_o_sheet a_o_fixed a_o_open a_o_parts a_o_parts_x r_o_sheet o_opens o_height o_low o_held o_sheet o_fixed o_open o_parts_holds o_parts_value o_parts_low o_parts_x) → va_S A s.heap H locs → ∀ (ls : Array Slot), lv_has ls 2 [(0, .ref a_o), (1, .int x1)] → W p l e ({ frames := 1, cells := 0, slots := 0, locals := 40 }) s m args below meth c H locs 0 0 Q (F0 m 40 ls []) := by
    have C0 := C
    obtain ⟨hx, hb, hml, hown, hts, hK, hN, hA, hret⟩ := C0
    have in_X1 : ∀ w ∈ u_ws RX1 TX1 8, w ∈ wsX1_takeParts := by decide +kernel
    have fl_26 := hts (.fieldLink RX1 26 "DawnTable$Clearer" "parts" "LDawnTable$Clearing;") (by decide +kernel)
    have in_X2 : ∀ w ∈ u_ws RX2 TX2 4, w ∈ wsX1_takeParts := by decide +kernel
    have fl_80 := hts (.fieldLink RX1 80 "DawnTable$Clearing" "x" "[J") (by decide +kernel)
    have fl_30 := hts (.fieldLink RX1 30 "DawnTable$Clearer" "opens" "I") (by decide +kernel)
    have fl_20 := hts (.fieldLink RX1 20 "DawnTable$Clearer" "open" "[I") (by decide +kernel)
    have fl_13 := hts (.fieldLink RX1 13 "DawnTable$Clearer" "sheet" "[[J") (by decide +kernel)
    intro o_parts_holds o_parts_value o_parts_low kx0 hkx0  n
    induction n with
    | zero => intro x1 o_parts_x h; exact h.elim
    | succ n hkb =>
      intro x1 o_parts_x h H locs hP hD hS ls hl
      replace h : ws_X1_takeParts_40 o_opens o_low o_sheet o_fixed o_open o_parts_holds o_parts_value o_parts_low (wl_X1_takeParts_40 o_opens o_low o_sheet o_fixed o_open o_parts_holds o_parts_value o_parts_low kx0 post n) kx0 post x1 o_parts_x := h
      generalize wl_X1_takeParts_40 o_opens o_low o_sheet o_fixed o_open o_parts_holds o_parts_value o_parts_low kx0 post n = kb at h hkb
      unfold ws_X1_takeParts_40 at h
      refine lv_iload_n hx hb dX1_takeParts_40 rfl (lv_at hl 1 rfl) ?_
      refine lv_aload_n hx hb dX1_takeParts_41 rfl (lv_at hl 0 rfl) ?_
      refine va_get (D := D) (ci := 1) (v := .int o_opens) (C := RX1) (T := TX1) (N := 8) hx hb hts in_X1 hown hK hP 0 rfl rfl 4 (by decide) fl_30 (fun _ h9 => h9) rfl dX1_takeParts_42 ?_
      refine lv_icmp_ge (tgt := 78) hx hb dX1_takeParts_45 (by decide) (fun c5 => ?_) (fun c5 => ?_)
      · have h := h.1 c5
        exact hkx0 o_parts_x h _ _ hP hD hS _ (lv_sub hl [0] rfl)
      · have h := h.2 c5
        refine lv_aload_n hx hb dX1_takeParts_48 rfl (lv_at hl 0 rfl) ?_
        refine va_get (D := D) (ci := 1) (v := .ref a_o_parts) (C := RX1) (T := TX1) (N := 8) hx hb hts in_X1 hown hK hP 0 rfl rfl 3 (by decide) fl_26 (fun _ h9 => h9) rfl dX1_takeParts_49 ?_
        refine va_get (D := D) (ci := 2) (v := .ref a_o_parts_x) (C := RX2) (T := TX2) (N := 4) hx hb hts in_X2 hown hK hP 4 rfl rfl 0 (by decide) fl_80 (fun _ h9 => h9) rfl dX1_takeParts_52 ?_
        refine lv_aload_n hx hb dX1_takeParts_55 rfl (lv_at hl 0 rfl) ?_
        refine va_get (D := D) (ci := 1) (v := .ref a_o_open) (C := RX1) (T := TX1) (N := 8) hx hb hts in_X1 hown hK hP 0 rfl rfl 2 (by decide) fl_20 (fun _ h9 => h9) rfl dX1_takeParts_56 ?_
        refine lv_iload_n hx hb dX1_takeParts_59 rfl (lv_at hl 1 rfl) ?_
        obtain ⟨i6, h⟩ := h
        refine va_iald hx hb hK hP 3 1 rfl rfl i6 dX1_takeParts_60 ?_
        refine lv_aload_n hx hb dX1_takeParts_61 rfl (lv_at hl 0 rfl) ?_
        refine va_get (D := D) (ci := 1) (v := .ref a_o_sheet) (C := RX1) (T := TX1) (N := 8) hx hb hts in_X1 hown hK hP 0 rfl rfl 0 (by decide) fl_13 (fun _ h9 => h9) rfl dX1_takeParts_62 ?_
        refine lv_iconst (v := 1) hx hb dX1_takeParts_65 (by decide) ?_
        refine lv_iload_n hx hb dX1_takeParts_66 rfl (lv_at hl 1 rfl) ?_
        refine lv_iadd hx hb dX1_takeParts_67 ?_
        obtain ⟨i7, h⟩ := h
        refine mx_ald hx hb hK hP 1 5 rfl rfl i7 dX1_takeParts_68 ?_
        refine lv_iconst (v := 4) hx hb dX1_takeParts_69 (by decide) ?_
        refine va_lald hx hb hK hP (6 + (((1 : Int32) + x1)).toNatClampNeg) 2 (gJ0 (in_lt i7)) rfl (by unfold vp_in; decide) dX1_takeParts_70 ?_
        refine lv_topl (fun v8 ev8 => ?_)
        have h := h v8 ev8
        obtain ⟨i9, h⟩ := h
        refine va_last hx hb hK hP hD hS 5 2 rfl rfl i9 dX1_takeParts_71 (fun H locs hP hD hS => ?_)
        have hP : va_P D vwCl (w_X1_takeParts cy a_o a_o_sheet a_o_fixed a_o_open a_o_parts a_o_parts_x r_o_sheet o_opens o_height o_low o_held o_sheet o_fixed o_open o_parts_holds o_parts_value o_parts_low (vp_updL o_parts_x ((o_open (x1).toNatClampNeg)).toNatClampNeg v8)) H := hP
        have hD : va_D A (w_X1_takeParts cy a_o a_o_sheet a_o_fixed a_o_open a_o_parts a_o_parts_x r_o_sheet o_opens o_height o_low o_held o_sheet o_fixed o_open o_parts_holds o_parts_value o_parts_low (vp_updL o_parts_x ((o_open (x1).toNatClampNeg)).toNatClampNeg v8)) := hD
        refine lv_iinc (v := (x1 + (1 : Int32))) (lv' := [(1, .int (x1 + (1 : Int32))), (0, .ref a_o)]) hx hb dX1_takeParts_72 hl (k := 1) rfl (congrArg (fun z => x1 + z) (by decide : Int32.ofInt (1) = (1 : Int32))) (by decide) rfl (fun ls hl => ?_)
        refine lv_goto (tgt := 40) hx hb dX1_takeParts_75 (by decide) ?_
        exact hkb (x1 + (1 : Int32)) (vp_updL o_parts_x ((o_open (x1).toNatClampNeg)).toNatClampNeg v8) h _ _ hP hD hS _ (lv_sub hl [1, 0] rfl)
set_option maxHeartbeats 4000000 in
set_option maxRecDepth 100000 in
theorem c_X1_takeParts (l : Launch) (D : va_G) (cy : Nat → ClassId) (a_o a_o_sheet a_o_fixed a_o_open a_o_parts a_o_parts_x : Nat) (r_o_sheet : Nat → Nat) (sz : Nat)  {o_opens : Int32} {o_height : Int32} {o_low : Int64} {o_held : Int32} {o_sheet : Nat → Nat → Int64} {o_fixed : Nat → Int32} {o_open : Nat → Int32} {o_parts_holds : Int32} {o_parts_value : Int64} {o_parts_low : Int64} {o_parts_x : Nat → Int64}  {post : Int32 → Int64 → Int64 → (Nat → Int64) → Prop} (h : wp_X1_takeParts o_opens o_low o_sheet o_fixed o_open o_parts_holds o_parts_value o_parts_low o_parts_x post) : Met l yX1_takeParts wsX1_takeParts ({ frames := 1, cells := 0, slots := 0, locals := 40 }) (va_Pc [.ref a_o] (wI D cy sz (w_X1_takeParts cy a_o a_o_sheet a_o_fixed a_o_open a_o_parts a_o_parts_x r_o_sheet o_opens o_height o_low o_held o_sheet o_fixed o_open o_parts_holds o_parts_value o_parts_low o_parts_x))) (va_Qv (fun (u : Int32 × Int64 × Int64 × (Nat → Int64)) => post u.1 u.2.1 u.2.2.1 u.2.2.2) (fun (u : Int32 × Int64 × Int64 × (Nat → Int64)) t => wO D cy (va_A (w_X1_takeParts cy a_o a_o_sheet a_o_fixed a_o_open a_o_parts a_o_parts_x r_o_sheet o_opens o_height o_low o_held o_sheet o_fixed o_open o_parts_holds o_parts_value o_parts_low o_parts_x) sz) (w_X1_takeParts cy a_o a_o_sheet a_o_fixed a_o_open a_o_parts a_o_parts_x r_o_sheet o_opens o_height o_low o_held o_sheet o_fixed o_open u.1 u.2.1 u.2.2.1 u.2.2.2) t) (va_A (w_X1_takeParts cy a_o a_o_sheet a_o_fixed a_o_open a_o_parts a_o_parts_x r_o_sheet o_opens o_height o_low o_held o_sheet o_fixed o_open o_parts_holds o_parts_value o_parts_low o_parts_x) sz)) 0 0 (va_A (w_X1_takeParts cy a_o a_o_sheet a_o_fixed a_o_open a_o_parts a_o_parts_x r_o_sheet o_opens o_height o_low o_held o_sheet o_fixed o_open o_parts_holds o_parts_value o_parts_low o_parts_x) sz) := by
  refine contrV (S := Int32 × Int64 × Int64 × (Nat → Int64)) (post := fun (u : Int32 × Int64 × Int64 × (Nat → Int64)) => post u.1 u.2.1 u.2.2.1 u.2.2.2) (wOut := fun (u : Int32 × Int64 × Int64 × (Nat → Int64)) => (w_X1_takeParts cy a_o a_o_sheet a_o_fixed a_o_open a_o_parts a_o_parts_x r_o_sheet o_opens o_height o_low o_held o_sheet o_fixed o_open u.1 u.2.1 u.2.2.1 u.2.2.2)) (cc := cX1_takeParts) (maxL := 2) (own := RX1) (by decide +kernel) rfl rfl ?_
  intro p e s m args below meth c A Q hx hb hml hown hts hK hN hP hD hS hA hret
  have in_X1 : ∀ w ∈ u_ws RX1 TX1 8, w ∈ wsX1_takeParts := by decide +kernel
  have fl_26 := hts (.fieldLink RX1 26 "DawnTable$Clearer" "parts" "LDawnTable$Clearing;") (by decide +kernel)
  have in_X2 : ∀ w ∈ u_ws RX2 TX2 4, w ∈ wsX1_takeParts := by decide +kernel
  have fl_80 := hts (.fieldLink RX1 80 "DawnTable$Clearing" "x" "[J") (by decide +kernel)
  have fl_16 := hts (.fieldLink RX1 16 "DawnTable$Clearer" "fixed" "[I") (by decide +kernel)
  have fl_37 := hts (.fieldLink RX1 37 "DawnTable$Clearer" "low" "J") (by decide +kernel)
  have fl_30 := hts (.fieldLink RX1 30 "DawnTable$Clearer" "opens" "I") (by decide +kernel)
  have fl_20 := hts (.fieldLink RX1 20 "DawnTable$Clearer" "open" "[I") (by decide +kernel)
  have fl_13 := hts (.fieldLink RX1 13 "DawnTable$Clearer" "sheet" "[[J") (by decide +kernel)
  have fl_154 := hts (.fieldLink RX1 154 "DawnTable$Clearing" "value" "J") (by decide +kernel)
  have fl_84 := hts (.fieldLink RX1 84 "DawnTable$Clearing" "low" "J") (by decide +kernel)
  have fl_53 := hts (.fieldLink RX1 53 "DawnTable$Clearing" "holds" "Z") (by decide +kernel)
  have C : cx_X1_takeParts l D cy a_o a_o_sheet a_o_fixed a_o_open a_o_parts a_o_parts_x r_o_sheet o_opens o_height o_low o_held o_sheet o_fixed o_open post p e s m args below meth c A Q := ⟨hx, hb, hml, hown, hts, hK, hN, hA, hret⟩
  have l_2 := t_X1_takeParts_l_2 C
  have l_40 := t_X1_takeParts_l_40 C
  refine ent [.ref a_o] (Nat.le_of_ble_eq_true rfl) (fun ls hl => ?_)
  have hl : lv_has ls 2 [(0, .ref a_o)] := hl
  unfold wp_X1_takeParts at h
  refine lv_iconst (v := 0) hx hb dX1_takeParts_0 (by decide) ?_
  refine lv_istore_n (lv' := [(1, .int (0 : Int32)), (0, .ref a_o)]) hx hb dX1_takeParts_1 rfl hl (by decide) rfl (fun ls hl => ?_)
  obtain ⟨n13, h⟩ := h
  refine l_2 o_parts_holds o_parts_value o_parts_low _ ?_ n13 (0 : Int32) o_parts_x h _ _ hP hD hS _ (lv_sub hl [1, 0] rfl)
  · intro o_parts_x_4 h H locs hP hD hS ls hl
    refine lv_iconst (v := 0) hx hb dX1_takeParts_38 (by decide) ?_
    refine lv_istore_n (lv' := [(1, .int (0 : Int32)), (0, .ref a_o)]) hx hb dX1_takeParts_39 rfl hl (by decide) rfl (fun ls hl => ?_)
    obtain ⟨n12, h⟩ := h
    refine l_40 o_parts_holds o_parts_value o_parts_low _ ?_ n12 (0 : Int32) o_parts_x_4 h _ _ hP hD hS _ (lv_sub hl [1, 0] rfl)
    · intro o_parts_x_10 h H locs hP hD hS ls hl
      refine lv_aload_n hx hb dX1_takeParts_78 rfl (lv_at hl 0 rfl) ?_
      refine va_get (D := D) (ci := 1) (v := .ref a_o_parts) (C := RX1) (T := TX1) (N := 8) hx hb hts in_X1 hown hK hP 0 rfl rfl 3 (by decide) fl_26 (fun _ h9 => h9) rfl dX1_takeParts_79 ?_
      refine lv_aload_n hx hb dX1_takeParts_82 rfl (lv_at hl 0 rfl) ?_
      refine va_get (D := D) (ci := 1) (v := .ref a_o_sheet) (C := RX1) (T := TX1) (N := 8) hx hb hts in_X1 hown hK hP 0 rfl rfl 0 (by decide) fl_13 (fun _ h9 => h9) rfl dX1_takeParts_83 ?_
      refine lv_iconst (v := 0) hx hb dX1_takeParts_86 (by decide) ?_
      refine mx_ald hx hb hK hP 1 5 rfl rfl (by unfold vp_in; decide) dX1_takeParts_87 ?_
      refine lv_iconst (v := 4) hx hb dX1_takeParts_88 (by decide) ?_
      refine va_lald hx hb hK hP (6 + ((0 : Int32)).toNatClampNeg) 2 (gJ0 (by decide)) rfl (by unfold vp_in; decide) dX1_takeParts_89 ?_
      refine lv_topl (fun v11 ev11 => ?_)
      have h := h v11 ev11
      refine va_put (D := D) (ci := 2) (v := .long v11) (ty := .long) (C := RX2) (T := TX2) (N := 4) hx hb hts in_X2 tyX2 tyX2_ok nmX2 hown hK hP hD hS 4 rfl rfl 2 (by decide) fl_154 (fun _ h9 => h9) rfl (by decide +kernel) rfl rfl (Nat.le_of_ble_eq_true rfl) dX1_takeParts_90 (fun H locs hP hD hS => ?_)
      have hP : va_P D vwCl (w_X1_takeParts cy a_o a_o_sheet a_o_fixed a_o_open a_o_parts a_o_parts_x r_o_sheet o_opens o_height o_low o_held o_sheet o_fixed o_open o_parts_holds v11 o_parts_low o_parts_x_10) H := hP
      have hD : va_D A (w_X1_takeParts cy a_o a_o_sheet a_o_fixed a_o_open a_o_parts a_o_parts_x r_o_sheet o_opens o_height o_low o_held o_sheet o_fixed o_open o_parts_holds v11 o_parts_low o_parts_x_10) := hD
      refine lv_aload_n hx hb dX1_takeParts_93 rfl (lv_at hl 0 rfl) ?_
      refine va_get (D := D) (ci := 1) (v := .ref a_o_parts) (C := RX1) (T := TX1) (N := 8) hx hb hts in_X1 hown hK hP 0 rfl rfl 3 (by decide) fl_26 (fun _ h9 => h9) rfl dX1_takeParts_94 ?_
      refine lv_aload_n hx hb dX1_takeParts_97 rfl (lv_at hl 0 rfl) ?_
      refine va_get (D := D) (ci := 1) (v := .long o_low) (C := RX1) (T := TX1) (N := 8) hx hb hts in_X1 hown hK hP 0 rfl rfl 6 (by decide) fl_37 (fun _ h9 => h9) rfl dX1_takeParts_98 ?_
      refine va_put (D := D) (ci := 2) (v := .long o_low) (ty := .long) (C := RX2) (T := TX2) (N := 4) hx hb hts in_X2 tyX2 tyX2_ok nmX2 hown hK hP hD hS 4 rfl rfl 3 (by decide) fl_84 (fun _ h9 => h9) rfl (by decide +kernel) rfl rfl (Nat.le_of_ble_eq_true rfl) dX1_takeParts_101 (fun H locs hP hD hS => ?_)
      have hP : va_P D vwCl (w_X1_takeParts cy a_o a_o_sheet a_o_fixed a_o_open a_o_parts a_o_parts_x r_o_sheet o_opens o_height o_low o_held o_sheet o_fixed o_open o_parts_holds v11 o_low o_parts_x_10) H := hP
      have hD : va_D A (w_X1_takeParts cy a_o a_o_sheet a_o_fixed a_o_open a_o_parts a_o_parts_x r_o_sheet o_opens o_height o_low o_held o_sheet o_fixed o_open o_parts_holds v11 o_low o_parts_x_10) := hD
      refine lv_aload_n hx hb dX1_takeParts_104 rfl (lv_at hl 0 rfl) ?_
      refine va_get (D := D) (ci := 1) (v := .ref a_o_parts) (C := RX1) (T := TX1) (N := 8) hx hb hts in_X1 hown hK hP 0 rfl rfl 3 (by decide) fl_26 (fun _ h9 => h9) rfl dX1_takeParts_105 ?_
      refine lv_iconst (v := 1) hx hb dX1_takeParts_108 (by decide) ?_
      refine va_put (D := D) (ci := 2) (v := .int (1 : Int32)) (ty := .boolean) (C := RX2) (T := TX2) (N := 4) hx hb hts in_X2 tyX2 tyX2_ok nmX2 hown hK hP hD hS 4 rfl rfl 1 (by decide) fl_53 (fun _ h9 => h9) rfl (by decide +kernel) rfl rfl (Nat.le_of_ble_eq_true rfl) dX1_takeParts_109 (fun H locs hP hD hS => ?_)
      have hP : va_P D vwCl (w_X1_takeParts cy a_o a_o_sheet a_o_fixed a_o_open a_o_parts a_o_parts_x r_o_sheet o_opens o_height o_low o_held o_sheet o_fixed o_open (1 : Int32) v11 o_low o_parts_x_10) H := hP
      have hD : va_D A (w_X1_takeParts cy a_o a_o_sheet a_o_fixed a_o_open a_o_parts a_o_parts_x r_o_sheet o_opens o_height o_low o_held o_sheet o_fixed o_open (1 : Int32) v11 o_low o_parts_x_10) := hD
      exact hret ((1 : Int32), v11, o_low, o_parts_x_10) _ _ _ _ h hP hD hS dX1_takeParts_112
abbrev w_X1_turn (cy : Nat → ClassId) (a_o a_o_sheet a_o_fixed a_o_open a_o_parts : Nat) (r_o_sheet : Nat → Nat) (o_opens : Int32) (o_height : Int32) (o_low : Int64) (o_held : Int32) (o_sheet : Nat → Nat → Int64) : va_W := [(a_o, .inr (1, [.ref a_o_sheet, .ref a_o_fixed, .ref a_o_open, .ref a_o_parts, .int o_opens, .int o_height, .long o_low, .int o_held])), (a_o_sheet, .inl (cy 5, 14, .inr (.inr (.inr (.inr (mref r_o_sheet 14))))))] ++ rows14 r_o_sheet (rowJ (cy 2) 5 o_sheet) ++ []
set_option maxRecDepth 20000 in
theorem ggX1_turn_J7_fill_d0a16 : GoodIn wsX1_turn wsJ7_fill_d0a16 := goodIn_r _ [8] (by decide +kernel) (by decide +kernel)
set_option maxRecDepth 20000 in
theorem gX1_turn_J7_fill_d0a16 : GoodIn wsX1_turn (va_wsS RX1 115 yJ7_fill_d0a16 wsJ7_fill_d0a16) := goodIn_app (goodIn_of _ (by decide +kernel)) ggX1_turn_J7_fill_d0a16
set_option maxHeartbeats 4000000 in
set_option maxRecDepth 100000 in
theorem c_X1_turn (l : Launch) (D : va_G) (cy : Nat → ClassId) (a_o a_o_sheet a_o_fixed a_o_open a_o_parts : Nat) (r_o_sheet : Nat → Nat) (sz : Nat)  {o_opens : Int32} {o_height : Int32} {o_low : Int64} {o_held : Int32} {o_sheet : Nat → Nat → Int64} {x1 : Int32} {x2 : Int32} {post : Int64 → (Nat → Nat → Int64) → Prop} (h : wp_X1_turn o_opens o_height o_low o_sheet x1 x2 post) : Met l yX1_turn wsX1_turn ({ frames := 1, cells := 0, slots := 0, locals := 24 }) (va_Pc [.ref a_o, .int x1, .int x2] (wI D cy sz (w_X1_turn cy a_o a_o_sheet a_o_fixed a_o_open a_o_parts r_o_sheet o_opens o_height o_low o_held o_sheet))) (va_Qv (fun (u : Int64 × (Nat → Nat → Int64)) => post u.1 u.2) (fun (u : Int64 × (Nat → Nat → Int64)) t => wO D cy (va_A (w_X1_turn cy a_o a_o_sheet a_o_fixed a_o_open a_o_parts r_o_sheet o_opens o_height o_low o_held o_sheet) sz) (w_X1_turn cy a_o a_o_sheet a_o_fixed a_o_open a_o_parts r_o_sheet o_opens o_height u.1 o_held u.2) t) (va_A (w_X1_turn cy a_o a_o_sheet a_o_fixed a_o_open a_o_parts r_o_sheet o_opens o_height o_low o_held o_sheet) sz)) 0 0 (va_A (w_X1_turn cy a_o a_o_sheet a_o_fixed a_o_open a_o_parts r_o_sheet o_opens o_height o_low o_held o_sheet) sz) := by
  refine contrV (S := Int64 × (Nat → Nat → Int64)) (post := fun (u : Int64 × (Nat → Nat → Int64)) => post u.1 u.2) (wOut := fun (u : Int64 × (Nat → Nat → Int64)) => (w_X1_turn cy a_o a_o_sheet a_o_fixed a_o_open a_o_parts r_o_sheet o_opens o_height u.1 o_held u.2)) (cc := cX1_turn) (maxL := 11) (own := RX1) (by decide +kernel) rfl rfl ?_
  intro p e s m args below meth c A Q hx hb hml hown hts hK hN hP hD hS hA hret
  have in_X1 : ∀ w ∈ u_ws RX1 TX1 8, w ∈ wsX1_turn := by decide +kernel
  have fl_13 := hts (.fieldLink RX1 13 "DawnTable$Clearer" "sheet" "[[J") (by decide +kernel)
  have fl_37 := hts (.fieldLink RX1 37 "DawnTable$Clearer" "low" "J") (by decide +kernel)
  have fl_34 := hts (.fieldLink RX1 34 "DawnTable$Clearer" "height" "I") (by decide +kernel)
  have fl_30 := hts (.fieldLink RX1 30 "DawnTable$Clearer" "opens" "I") (by decide +kernel)
  have l_68 : ∀ (x1 : Int32) (x2 : Int32) (y3 : Int32) (x4 : Int64) (x6 : Int32) (y7 : Int32) (x8 : Int64) (o_low : Int64), ∀ (kx0 : (Nat → Nat → Int64) → Prop), (∀ (o_sheet : Nat → Nat → Int64), kx0 o_sheet → ∀ (H : Heap) (locs : List Loc), va_P D vwCl (w_X1_turn cy a_o a_o_sheet a_o_fixed a_o_open a_o_parts r_o_sheet o_opens o_height o_low o_held o_sheet) H → va_D A (w_X1_turn cy a_o a_o_sheet a_o_fixed a_o_open a_o_parts r_o_sheet o_opens o_height o_low o_held o_sheet) → va_S A s.heap H locs → ∀ (ls : Array Slot), lv_has ls 11 [(0, .ref a_o), (1, .int x1), (2, .int x2), (3, .ref (r_o_sheet (y3).toNatClampNeg)), (4, .long x4), (6, .int x6), (7, .ref (r_o_sheet (y7).toNatClampNeg)), (8, .long x8)] → W p l e ({ frames := 1, cells := 0, slots := 0, locals := 24 }) s m args below meth c H locs 0 0 Q (F0 m 115 ls [])) → ∀ (n : Nat) (x10 : Int32) (o_sheet : Nat → Nat → Int64), wl_X1_turn_68 x1 x2 y3 x4 x6 y7 x8 o_opens o_height o_low kx0 post n x10 o_sheet → ∀ (H : Heap) (locs : List Loc), va_P D vwCl (w_X1_turn cy a_o a_o_sheet a_o_fixed a_o_open a_o_parts r_o_sheet o_opens o_height o_low o_held o_sheet) H → va_D A (w_X1_turn cy a_o a_o_sheet a_o_fixed a_o_open a_o_parts r_o_sheet o_opens o_height o_low o_held o_sheet) → va_S A s.heap H locs → ∀ (ls : Array Slot), lv_has ls 11 [(0, .ref a_o), (1, .int x1), (2, .int x2), (3, .ref (r_o_sheet (y3).toNatClampNeg)), (4, .long x4), (6, .int x6), (7, .ref (r_o_sheet (y7).toNatClampNeg)), (8, .long x8), (10, .int x10)] → W p l e ({ frames := 1, cells := 0, slots := 0, locals := 24 }) s m args below meth c H locs 0 0 Q (F0 m 68 ls []) := by
    intro x1 x2 y3 x4 x6 y7 x8 o_low kx0 hkx0  n
    induction n with
    | zero => intro x10 o_sheet h; exact h.elim
    | succ n hkb =>
      intro x10 o_sheet h H locs hP hD hS ls hl
      replace h : ws_X1_turn_68 x1 x2 y3 x4 x6 y7 x8 o_opens o_height o_low (wl_X1_turn_68 x1 x2 y3 x4 x6 y7 x8 o_opens o_height o_low kx0 post n) kx0 post x10 o_sheet := h
      generalize wl_X1_turn_68 x1 x2 y3 x4 x6 y7 x8 o_opens o_height o_low kx0 post n = kb at h hkb
      unfold ws_X1_turn_68 at h
      refine lv_iload hx hb dX1_turn_68 (lv_at hl 8 rfl) ?_
      refine lv_aload_n hx hb dX1_turn_70 rfl (lv_at hl 0 rfl) ?_
      refine va_get (D := D) (ci := 1) (v := .int o_opens) (C := RX1) (T := TX1) (N := 8) hx hb hts in_X1 hown hK hP 0 rfl rfl 4 (by decide) fl_30 (fun _ h9 => h9) rfl dX1_turn_71 ?_
      refine lv_icmp_ge (tgt := 115) hx hb dX1_turn_74 (by decide) (fun c9 => ?_) (fun c9 => ?_)
      · have h := h.1 c9
        exact hkx0 o_sheet h _ _ hP hD hS _ (lv_sub hl [0, 1, 2, 3, 4, 5, 6, 7] rfl)
      · have h := h.2 c9
        refine lv_iload hx hb dX1_turn_77 (lv_at hl 8 rfl) ?_
        refine lv_iload_n hx hb dX1_turn_79 rfl (lv_at hl 2 rfl) ?_
        refine lv_icmp_eq (tgt := 109) hx hb dX1_turn_80 (by decide) (fun c10 => ?_) (fun c10 => ?_)
        · have h := h.1 c10
          refine lv_iinc (v := (x10 + (1 : Int32))) (lv' := [(10, .int (x10 + (1 : Int32))), (0, .ref a_o), (1, .int x1), (2, .int x2), (3, .ref (r_o_sheet (y3).toNatClampNeg)), (4, .long x4), (6, .int x6), (7, .ref (r_o_sheet (y7).toNatClampNeg)), (8, .long x8)]) hx hb dX1_turn_109 hl (k := 8) rfl (congrArg (fun z => x10 + z) (by decide : Int32.ofInt (1) = (1 : Int32))) (by decide) rfl (fun ls hl => ?_)
          refine lv_goto (tgt := 68) hx hb dX1_turn_112 (by decide) ?_
          exact hkb (x10 + (1 : Int32)) o_sheet h _ _ hP hD hS _ (lv_sub hl [1, 2, 3, 4, 5, 6, 7, 8, 0] rfl)
        · have h := h.2 c10
          refine lv_aload hx hb dX1_turn_83 (lv_at hl 6 rfl) ?_
          refine lv_iload hx hb dX1_turn_85 (lv_at hl 8 rfl) ?_
          refine lv_lload hx hb dX1_turn_87 (lv_at hl 4 rfl) ?_
          refine lv_aload hx hb dX1_turn_89 (lv_at hl 6 rfl) ?_
          refine lv_iload hx hb dX1_turn_91 (lv_at hl 8 rfl) ?_
          obtain ⟨i11, h⟩ := h
          obtain ⟨i12, h⟩ := h
          refine va_lald hx hb hK hP (2 + (y7).toNatClampNeg) 2 (gJ0 (in_lt i11)) rfl i12 dX1_turn_93 ?_
          refine lv_lmul hx hb dX1_turn_94 ?_
          refine lv_lload hx hb dX1_turn_95 (lv_at hl 7 rfl) ?_
          refine lv_aload_n hx hb dX1_turn_97 rfl (lv_at hl 3 rfl) ?_
          refine lv_iload hx hb dX1_turn_98 (lv_at hl 8 rfl) ?_
          obtain ⟨i13, h⟩ := h
          refine va_lald hx hb hK hP (2 + (y3).toNatClampNeg) 2 (gJ0 (in_lt i13)) rfl i12 dX1_turn_100 ?_
          refine lv_lmul hx hb dX1_turn_101 ?_
          refine lv_lsub hx hb dX1_turn_102 ?_
          refine lv_aload_n hx hb dX1_turn_103 rfl (lv_at hl 0 rfl) ?_
          refine va_get (D := D) (ci := 1) (v := .long o_low) (C := RX1) (T := TX1) (N := 8) hx hb hts in_X1 hown hK hP 0 rfl rfl 6 (by decide) fl_37 (fun _ h9 => h9) rfl dX1_turn_104 ?_
          obtain ⟨z14, h⟩ := h
          refine lv_ldiv hx hb dX1_turn_107 z14 ?_
          refine lv_topl (fun v15 ev15 => ?_)
          have h := h v15 ev15
          refine va_last hx hb hK hP hD hS (2 + (y7).toNatClampNeg) 2 (gJ0 (in_lt i11)) rfl i12 dX1_turn_108 (fun H locs hP hD hS => ?_)
          have hP : va_P D vwCl (w_X1_turn cy a_o a_o_sheet a_o_fixed a_o_open a_o_parts r_o_sheet o_opens o_height o_low o_held (msetJ o_sheet (y7).toNatClampNeg (x10).toNatClampNeg v15)) H := Eq.mp (congrArg (fun w => va_P D vwCl w H) (pJ0 (in_lt i11))) hP
          have hD : va_D A (w_X1_turn cy a_o a_o_sheet a_o_fixed a_o_open a_o_parts r_o_sheet o_opens o_height o_low o_held (msetJ o_sheet (y7).toNatClampNeg (x10).toNatClampNeg v15)) := Eq.mp (congrArg (fun w => va_D A w) (pJ0 (in_lt i11))) hD
          refine lv_iinc (v := (x10 + (1 : Int32))) (lv' := [(10, .int (x10 + (1 : Int32))), (0, .ref a_o), (1, .int x1), (2, .int x2), (3, .ref (r_o_sheet (y3).toNatClampNeg)), (4, .long x4), (6, .int x6), (7, .ref (r_o_sheet (y7).toNatClampNeg)), (8, .long x8)]) hx hb dX1_turn_109 hl (k := 8) rfl (congrArg (fun z => x10 + z) (by decide : Int32.ofInt (1) = (1 : Int32))) (by decide) rfl (fun ls hl => ?_)
          refine lv_goto (tgt := 68) hx hb dX1_turn_112 (by decide) ?_
          exact hkb (x10 + (1 : Int32)) (msetJ o_sheet (y7).toNatClampNeg (x10).toNatClampNeg v15) h _ _ hP hD hS _ (lv_sub hl [1, 2, 3, 4, 5, 6, 7, 8, 0] rfl)
  have l_32 : ∀ (x1 : Int32) (x2 : Int32) (y3 : Int32) (x4 : Int64) (o_low : Int64), ∀ (kx0 : (Nat → Nat → Int64) → Prop), (∀ (o_sheet : Nat → Nat → Int64), kx0 o_sheet → ∀ (H : Heap) (locs : List Loc), va_P D vwCl (w_X1_turn cy a_o a_o_sheet a_o_fixed a_o_open a_o_parts r_o_sheet o_opens o_height o_low o_held o_sheet) H → va_D A (w_X1_turn cy a_o a_o_sheet a_o_fixed a_o_open a_o_parts r_o_sheet o_opens o_height o_low o_held o_sheet) → va_S A s.heap H locs → ∀ (ls : Array Slot), lv_has ls 11 [(0, .ref a_o), (2, .int x2), (3, .ref (r_o_sheet (y3).toNatClampNeg)), (4, .long x4)] → W p l e ({ frames := 1, cells := 0, slots := 0, locals := 24 }) s m args below meth c H locs 0 0 Q (F0 m 144 ls [])) → ∀ (n : Nat) (x6 : Int32) (o_sheet : Nat → Nat → Int64), wl_X1_turn_32 x1 x2 y3 x4 o_opens o_height o_low kx0 post n x6 o_sheet → ∀ (H : Heap) (locs : List Loc), va_P D vwCl (w_X1_turn cy a_o a_o_sheet a_o_fixed a_o_open a_o_parts r_o_sheet o_opens o_height o_low o_held o_sheet) H → va_D A (w_X1_turn cy a_o a_o_sheet a_o_fixed a_o_open a_o_parts r_o_sheet o_opens o_height o_low o_held o_sheet) → va_S A s.heap H locs → ∀ (ls : Array Slot), lv_has ls 11 [(0, .ref a_o), (1, .int x1), (2, .int x2), (3, .ref (r_o_sheet (y3).toNatClampNeg)), (4, .long x4), (6, .int x6)] → W p l e ({ frames := 1, cells := 0, slots := 0, locals := 24 }) s m args below meth c H locs 0 0 Q (F0 m 32 ls []) := by
    intro x1 x2 y3 x4 o_low kx0 hkx0  n
    induction n with
    | zero => intro x6 o_sheet h; exact h.elim
    | succ n hkb =>
      intro x6 o_sheet h H locs hP hD hS ls hl
      replace h : ws_X1_turn_32 x1 x2 y3 x4 o_opens o_height o_low (wl_X1_turn_32 x1 x2 y3 x4 o_opens o_height o_low kx0 post n) kx0 post x6 o_sheet := h
      generalize wl_X1_turn_32 x1 x2 y3 x4 o_opens o_height o_low kx0 post n = kb at h hkb
      unfold ws_X1_turn_32 at h
      refine lv_iload hx hb dX1_turn_32 (lv_at hl 5 rfl) ?_
      refine lv_aload_n hx hb dX1_turn_34 rfl (lv_at hl 0 rfl) ?_
      refine va_get (D := D) (ci := 1) (v := .int o_height) (C := RX1) (T := TX1) (N := 8) hx hb hts in_X1 hown hK hP 0 rfl rfl 5 (by decide) fl_34 (fun _ h9 => h9) rfl dX1_turn_35 ?_
      refine lv_icmp_ge (tgt := 144) hx hb dX1_turn_38 (by decide) (fun c5 => ?_) (fun c5 => ?_)
      · have h := h.1 c5
        exact hkx0 o_sheet h _ _ hP hD hS _ (lv_sub hl [0, 2, 3, 4] rfl)
      · have h := h.2 c5
        refine lv_iload hx hb dX1_turn_41 (lv_at hl 5 rfl) ?_
        refine lv_iload_n hx hb dX1_turn_43 rfl (lv_at hl 1 rfl) ?_
        refine lv_icmp_ne (tgt := 50) hx hb dX1_turn_44 (by decide) (fun c6 => ?_) (fun c6 => ?_)
        · have h := h.2 c6
          refine lv_aload_n hx hb dX1_turn_50 rfl (lv_at hl 0 rfl) ?_
          refine va_get (D := D) (ci := 1) (v := .ref a_o_sheet) (C := RX1) (T := TX1) (N := 8) hx hb hts in_X1 hown hK hP 0 rfl rfl 0 (by decide) fl_13 (fun _ h9 => h9) rfl dX1_turn_51 ?_
          refine lv_iload hx hb dX1_turn_54 (lv_at hl 5 rfl) ?_
          obtain ⟨i7, h⟩ := h
          refine mx_ald hx hb hK hP 1 5 rfl rfl i7 dX1_turn_56 ?_
          refine lv_astore (lv' := [(7, .ref (r_o_sheet (x6).toNatClampNeg)), (0, .ref a_o), (1, .int x1), (2, .int x2), (3, .ref (r_o_sheet (y3).toNatClampNeg)), (4, .long x4), (6, .int x6)]) hx hb dX1_turn_57 hl (by decide) rfl (fun ls hl => ?_)
          refine lv_aload hx hb dX1_turn_59 (lv_at hl 0 rfl) ?_
          refine lv_iload_n hx hb dX1_turn_61 rfl (lv_at hl 3 rfl) ?_
          obtain ⟨i8, h⟩ := h
          refine va_lald hx hb hK hP (2 + (x6).toNatClampNeg) 2 (gJ0 (in_lt i7)) rfl i8 dX1_turn_62 ?_
          refine lv_lstore (lv' := [(8, .long (o_sheet (x6).toNatClampNeg (x2).toNatClampNeg)), (7, .ref (r_o_sheet (x6).toNatClampNeg)), (0, .ref a_o), (1, .int x1), (2, .int x2), (3, .ref (r_o_sheet (y3).toNatClampNeg)), (4, .long x4), (6, .int x6)]) hx hb dX1_turn_63 hl (by decide) rfl (fun ls hl => ?_)
          refine lv_iconst (v := 0) hx hb dX1_turn_65 (by decide) ?_
          refine lv_istore (lv' := [(10, .int (0 : Int32)), (8, .long (o_sheet (x6).toNatClampNeg (x2).toNatClampNeg)), (7, .ref (r_o_sheet (x6).toNatClampNeg)), (0, .ref a_o), (1, .int x1), (2, .int x2), (3, .ref (r_o_sheet (y3).toNatClampNeg)), (4, .long x4), (6, .int x6)]) hx hb dX1_turn_66 hl (by decide) rfl (fun ls hl => ?_)
          obtain ⟨n21, h⟩ := h
          refine l_68 x1 x2 y3 x4 x6 x6 (o_sheet (x6).toNatClampNeg (x2).toNatClampNeg) o_low _ ?_ n21 (0 : Int32) o_sheet h _ _ hP hD hS _ (lv_sub hl [3, 4, 5, 6, 7, 8, 2, 1, 0] rfl)
          · intro o_sheet_16 h H locs hP hD hS ls hl
            refine lv_aload hx hb dX1_turn_115 (lv_at hl 6 rfl) ?_
            refine lv_iconst (v := 4) hx hb dX1_turn_117 (by decide) ?_
            refine lv_lload hx hb dX1_turn_118 (lv_at hl 4 rfl) ?_
            refine lv_aload hx hb dX1_turn_120 (lv_at hl 6 rfl) ?_
            refine lv_iconst (v := 4) hx hb dX1_turn_122 (by decide) ?_
            obtain ⟨i17, h⟩ := h
            refine va_lald hx hb hK hP (2 + (x6).toNatClampNeg) 2 (gJ0 (in_lt i17)) rfl (by unfold vp_in; decide) dX1_turn_123 ?_
            refine lv_lmul hx hb dX1_turn_124 ?_
            refine lv_lload hx hb dX1_turn_125 (lv_at hl 7 rfl) ?_
            refine lv_aload_n hx hb dX1_turn_127 rfl (lv_at hl 3 rfl) ?_
            refine lv_iconst (v := 4) hx hb dX1_turn_128 (by decide) ?_
            obtain ⟨i18, h⟩ := h
            refine va_lald hx hb hK hP (2 + (y3).toNatClampNeg) 2 (gJ0 (in_lt i18)) rfl (by unfold vp_in; decide) dX1_turn_129 ?_
            refine lv_lmul hx hb dX1_turn_130 ?_
            refine lv_lsub hx hb dX1_turn_131 ?_
            refine lv_aload_n hx hb dX1_turn_132 rfl (lv_at hl 0 rfl) ?_
            refine va_get (D := D) (ci := 1) (v := .long o_low) (C := RX1) (T := TX1) (N := 8) hx hb hts in_X1 hown hK hP 0 rfl rfl 6 (by decide) fl_37 (fun _ h9 => h9) rfl dX1_turn_133 ?_
            obtain ⟨z19, h⟩ := h
            refine lv_ldiv hx hb dX1_turn_136 z19 ?_
            refine lv_topl (fun v20 ev20 => ?_)
            have h := h v20 ev20
            refine va_last hx hb hK hP hD hS (2 + (x6).toNatClampNeg) 2 (gJ0 (in_lt i17)) rfl (by unfold vp_in; decide) dX1_turn_137 (fun H locs hP hD hS => ?_)
            have hP : va_P D vwCl (w_X1_turn cy a_o a_o_sheet a_o_fixed a_o_open a_o_parts r_o_sheet o_opens o_height o_low o_held (msetJ o_sheet_16 (x6).toNatClampNeg ((4 : Int32)).toNatClampNeg v20)) H := Eq.mp (congrArg (fun w => va_P D vwCl w H) (pJ0 (in_lt i17))) hP
            have hD : va_D A (w_X1_turn cy a_o a_o_sheet a_o_fixed a_o_open a_o_parts r_o_sheet o_opens o_height o_low o_held (msetJ o_sheet_16 (x6).toNatClampNeg ((4 : Int32)).toNatClampNeg v20)) := Eq.mp (congrArg (fun w => va_D A w) (pJ0 (in_lt i17))) hD
            refine lv_iinc (v := (x6 + (1 : Int32))) (lv' := [(6, .int (x6 + (1 : Int32))), (0, .ref a_o), (1, .int x1), (2, .int x2), (3, .ref (r_o_sheet (y3).toNatClampNeg)), (4, .long x4), (7, .ref (r_o_sheet (x6).toNatClampNeg)), (8, .long (o_sheet (x6).toNatClampNeg (x2).toNatClampNeg))]) hx hb dX1_turn_138 hl (k := 5) rfl (congrArg (fun z => x6 + z) (by decide : Int32.ofInt (1) = (1 : Int32))) (by decide) rfl (fun ls hl => ?_)
            refine lv_goto (tgt := 32) hx hb dX1_turn_141 (by decide) ?_
            exact hkb (x6 + (1 : Int32)) (msetJ o_sheet_16 (x6).toNatClampNeg ((4 : Int32)).toNatClampNeg v20) h _ _ hP hD hS _ (lv_sub hl [1, 2, 3, 4, 5, 0] rfl)
        · have h := h.1 c6
          refine lv_goto (tgt := 138) hx hb dX1_turn_47 (by decide) ?_
          refine lv_iinc (v := (x6 + (1 : Int32))) (lv' := [(6, .int (x6 + (1 : Int32))), (0, .ref a_o), (1, .int x1), (2, .int x2), (3, .ref (r_o_sheet (y3).toNatClampNeg)), (4, .long x4)]) hx hb dX1_turn_138 hl (k := 5) rfl (congrArg (fun z => x6 + z) (by decide : Int32.ofInt (1) = (1 : Int32))) (by decide) rfl (fun ls hl => ?_)
          refine lv_goto (tgt := 32) hx hb dX1_turn_141 (by decide) ?_
          exact hkb (x6 + (1 : Int32)) o_sheet h _ _ hP hD hS _ (lv_sub hl [1, 2, 3, 4, 5, 0] rfl)
  refine ent [.ref a_o, .int x1, .int x2] (Nat.le_of_ble_eq_true rfl) (fun ls hl => ?_)
  have hl : lv_has ls 11 [(0, .ref a_o), (1, .int x1), (2, .int x2)] := hl
  unfold wp_X1_turn at h
  refine lv_aload_n hx hb dX1_turn_0 rfl (lv_at hl 0 rfl) ?_
  refine va_get (D := D) (ci := 1) (v := .ref a_o_sheet) (C := RX1) (T := TX1) (N := 8) hx hb hts in_X1 hown hK hP 0 rfl rfl 0 (by decide) fl_13 (fun _ h9 => h9) rfl dX1_turn_1 ?_
  refine lv_iload_n hx hb dX1_turn_4 rfl (lv_at hl 1 rfl) ?_
  obtain ⟨i1, h⟩ := h
  refine mx_ald hx hb hK hP 1 5 rfl rfl i1 dX1_turn_5 ?_
  refine lv_astore_n (lv' := [(3, .ref (r_o_sheet (x1).toNatClampNeg)), (0, .ref a_o), (1, .int x1), (2, .int x2)]) hx hb dX1_turn_6 rfl hl (by decide) rfl (fun ls hl => ?_)
  refine lv_aload_n hx hb dX1_turn_7 rfl (lv_at hl 0 rfl) ?_
  refine lv_iload_n hx hb dX1_turn_8 rfl (lv_at hl 3 rfl) ?_
  obtain ⟨i2, h⟩ := h
  refine va_lald hx hb hK hP (2 + (x1).toNatClampNeg) 2 (gJ0 (in_lt i1)) rfl i2 dX1_turn_9 ?_
  refine lv_lstore (lv' := [(4, .long (o_sheet (x1).toNatClampNeg (x2).toNatClampNeg)), (3, .ref (r_o_sheet (x1).toNatClampNeg)), (0, .ref a_o), (1, .int x1), (2, .int x2)]) hx hb dX1_turn_10 hl (by decide) rfl (fun ls hl => ?_)
  refine lv_aload_n hx hb dX1_turn_12 rfl (lv_at hl 2 rfl) ?_
  refine va_get (D := D) (ci := 1) (v := .long o_low) (C := RX1) (T := TX1) (N := 8) hx hb hts in_X1 hown hK hP 0 rfl rfl 6 (by decide) fl_37 (fun _ h9 => h9) rfl dX1_turn_13 ?_
  refine lv_lconst (v := 0) hx hb dX1_turn_16 (by decide) ?_
  refine W.lcmp hx hb dX1_turn_17 ?_
  refine lv_if_le (tgt := 28) hx hb dX1_turn_18 (by decide) (fun c3 => ?_) (fun c3 => ?_)
  · have h := h.1 (lc_le.mp c3)
    exact hret (o_low, o_sheet) _ _ _ _ h hP hD hS dX1_turn_28
  · have h := h.2 (fun z => c3 (lc_le.mpr z))
    refine lv_lload hx hb dX1_turn_21 (lv_at hl 0 rfl) ?_
    refine lv_lconst (v := 0) hx hb dX1_turn_23 (by decide) ?_
    refine W.lcmp hx hb dX1_turn_24 ?_
    refine lv_if_gt (tgt := 29) hx hb dX1_turn_25 (by decide) (fun c4 => ?_) (fun c4 => ?_)
    · have h := h.1 (lc_gt.mp c4)
      refine lv_iconst (v := 0) hx hb dX1_turn_29 (by decide) ?_
      refine lv_istore (lv' := [(6, .int (0 : Int32)), (4, .long (o_sheet (x1).toNatClampNeg (x2).toNatClampNeg)), (3, .ref (r_o_sheet (x1).toNatClampNeg)), (0, .ref a_o), (1, .int x1), (2, .int x2)]) hx hb dX1_turn_30 hl (by decide) rfl (fun ls hl => ?_)
      obtain ⟨n28, h⟩ := h
      refine l_32 x1 x2 x1 (o_sheet (x1).toNatClampNeg (x2).toNatClampNeg) o_low _ ?_ n28 (0 : Int32) o_sheet h _ _ hP hD hS _ (lv_sub hl [3, 4, 5, 2, 1, 0] rfl)
      · intro o_sheet_22 h H locs hP hD hS ls hl
        refine lv_aload_n hx hb dX1_turn_144 rfl (lv_at hl 2 rfl) ?_
        refine lv_lconst (v := 0) hx hb dX1_turn_145 (by decide) ?_
        obtain ⟨i23, h⟩ := h
        have hr25 : (w_X1_turn cy a_o a_o_sheet a_o_fixed a_o_open a_o_parts r_o_sheet o_opens o_height o_low o_held o_sheet_22)[2 + (x1).toNatClampNeg]? = some (r_o_sheet (x1).toNatClampNeg, rowJ (cy 2) 5 o_sheet_22 (x1).toNatClampNeg) := (gJ0 (in_lt i23))
        obtain ⟨hPc, hDc⟩ := cut1 hP hD hr25
        have hFc := free1 hD hS hA hr25
        refine va_callv (va_runS (As := [.ref (r_o_sheet (x1).toNatClampNeg), .long (0 : Int64)]) (rest := []) ⟨hx, hb, hml, hown, hts⟩ (c_J7_fill_d0a16 l D cy (r_o_sheet (x1).toNatClampNeg) 5 _ h) (va_cwS 2 hts gX1_turn_J7_fill_d0a16 rfl rfl rfl (by decide +kernel) ⟨Nat.le_of_ble_eq_true rfl, Nat.le_of_ble_eq_true rfl⟩) (preS hPc hDc hK hN) rfl rfl hl.1 rfl (lv_room (Nat.le_of_ble_eq_true rfl)) dX1_turn_146 ⟨Nat.zero_le _, Nat.zero_le _⟩) hS (fun q _ h => hFc q h) hFc (fun u24 t H1 locs ht hvm h hB hz1 hk1 hS => ?_)
        try dsimp only at h hB
        obtain ⟨hP, hD⟩ := join1 hP hD hr25 hk1 ht hB
        generalize H1 = H at hP hS ⊢
        have hP : va_P D vwCl (w_X1_turn cy a_o a_o_sheet a_o_fixed a_o_open a_o_parts r_o_sheet o_opens o_height o_low o_held (va_up o_sheet_22 (x1).toNatClampNeg u24)) H := Eq.mp (congrArg (fun w => va_P D vwCl w H) (pJ0 (in_lt i23))) hP
        have hD : va_D A (w_X1_turn cy a_o a_o_sheet a_o_fixed a_o_open a_o_parts r_o_sheet o_opens o_height o_low o_held (va_up o_sheet_22 (x1).toNatClampNeg u24)) := Eq.mp (congrArg (fun w => va_D A w) (pJ0 (in_lt i23))) hD
        refine lv_aload_n hx hb dX1_turn_149 rfl (lv_at hl 2 rfl) ?_
        refine lv_iload_n hx hb dX1_turn_150 rfl (lv_at hl 1 rfl) ?_
        refine lv_lload hx hb dX1_turn_151 (lv_at hl 3 rfl) ?_
        obtain ⟨i26, h⟩ := h
        refine va_last hx hb hK hP hD hS (2 + (x1).toNatClampNeg) 2 (gJ0 (in_lt i23)) rfl i26 dX1_turn_153 (fun H locs hP hD hS => ?_)
        have hP : va_P D vwCl (w_X1_turn cy a_o a_o_sheet a_o_fixed a_o_open a_o_parts r_o_sheet o_opens o_height o_low o_held (msetJ (va_up o_sheet_22 (x1).toNatClampNeg u24) (x1).toNatClampNeg (x2).toNatClampNeg (o_sheet (x1).toNatClampNeg (x2).toNatClampNeg))) H := Eq.mp (congrArg (fun w => va_P D vwCl w H) (pJ0 (in_lt i23))) hP
        have hD : va_D A (w_X1_turn cy a_o a_o_sheet a_o_fixed a_o_open a_o_parts r_o_sheet o_opens o_height o_low o_held (msetJ (va_up o_sheet_22 (x1).toNatClampNeg u24) (x1).toNatClampNeg (x2).toNatClampNeg (o_sheet (x1).toNatClampNeg (x2).toNatClampNeg))) := Eq.mp (congrArg (fun w => va_D A w) (pJ0 (in_lt i23))) hD
        obtain ⟨f27, ef27⟩ : ∃ z : Nat → Nat → Int64, z = (msetJ (va_up o_sheet_22 (x1).toNatClampNeg u24) (x1).toNatClampNeg (x2).toNatClampNeg (o_sheet (x1).toNatClampNeg (x2).toNatClampNeg)) := ⟨_, rfl⟩
        have h := h f27 ef27
        rw [← ef27] at hP hD
        refine lv_aload_n hx hb dX1_turn_154 rfl (lv_at hl 0 rfl) ?_
        refine lv_lload hx hb dX1_turn_155 (lv_at hl 3 rfl) ?_
        refine va_put (D := D) (ci := 1) (v := .long (o_sheet (x1).toNatClampNeg (x2).toNatClampNeg)) (ty := .long) (C := RX1) (T := TX1) (N := 8) hx hb hts in_X1 tyX1 tyX1_ok nmX1 hown hK hP hD hS 0 rfl rfl 6 (by decide) fl_37 (fun _ h9 => h9) rfl (by decide +kernel) rfl rfl (Nat.le_of_ble_eq_true rfl) dX1_turn_157 (fun H locs hP hD hS => ?_)
        have hP : va_P D vwCl (w_X1_turn cy a_o a_o_sheet a_o_fixed a_o_open a_o_parts r_o_sheet o_opens o_height (o_sheet (x1).toNatClampNeg (x2).toNatClampNeg) o_held f27) H := hP
        have hD : va_D A (w_X1_turn cy a_o a_o_sheet a_o_fixed a_o_open a_o_parts r_o_sheet o_opens o_height (o_sheet (x1).toNatClampNeg (x2).toNatClampNeg) o_held f27) := hD
        exact hret ((o_sheet (x1).toNatClampNeg (x2).toNatClampNeg), f27) _ _ _ _ h hP hD hS dX1_turn_160
    · have h := h.2 (fun z => c4 (lc_gt.mpr z))
      exact hret (o_low, o_sheet) _ _ _ _ h hP hD hS dX1_turn_28
abbrev w_X1_isCheaper (cy : Nat → ClassId) (a_o a_o_sheet a_o_fixed a_o_open a_o_parts : Nat) (r_o_sheet : Nat → Nat) (o_opens : Int32) (o_height : Int32) (o_low : Int64) (o_held : Int32) (o_sheet : Nat → Nat → Int64) : va_W := [(a_o, .inr (1, [.ref a_o_sheet, .ref a_o_fixed, .ref a_o_open, .ref a_o_parts, .int o_opens, .int o_height, .long o_low, .int o_held])), (a_o_sheet, .inl (cy 5, 14, .inr (.inr (.inr (.inr (mref r_o_sheet 14))))))] ++ rows14 r_o_sheet (rowJ (cy 2) 5 o_sheet) ++ []
set_option maxRecDepth 20000 in
theorem ggX1_isCheaper_J13_compare_74951 : GoodIn wsX1_isCheaper wsJ13_compare_74951 := goodIn_r _ [6] (by decide +kernel) (by decide +kernel)
set_option maxRecDepth 20000 in
theorem gX1_isCheaper_J13_compare_74951 : GoodIn wsX1_isCheaper (va_wsS RX1 145 yJ13_compare_74951 wsJ13_compare_74951) := goodIn_app (goodIn_of _ (by decide +kernel)) ggX1_isCheaper_J13_compare_74951
set_option maxHeartbeats 4000000 in
set_option maxRecDepth 100000 in
theorem c_X1_isCheaper (l : Launch) (D : va_G) (cy : Nat → ClassId) (a_o a_o_sheet a_o_fixed a_o_open a_o_parts : Nat) (r_o_sheet : Nat → Nat) (sz : Nat)  {o_opens : Int32} {o_height : Int32} {o_low : Int64} {o_held : Int32} {o_sheet : Nat → Nat → Int64} {x1 : Int32} {x2 : Int32} {x3 : Int32} {post : Int32 → Prop} (h : wp_X1_isCheaper o_opens o_sheet x1 x2 x3 post) : Met l yX1_isCheaper wsX1_isCheaper ({ frames := 1, cells := 0, slots := 0, locals := 23 }) (va_Pc [.ref a_o, .int x1, .int x2, .int x3] (wI D cy sz (w_X1_isCheaper cy a_o a_o_sheet a_o_fixed a_o_open a_o_parts r_o_sheet o_opens o_height o_low o_held o_sheet))) (va_Qi (fun (r : Int32) (u : Unit) => post r ) (fun (u : Unit) t => wO D cy (va_A (w_X1_isCheaper cy a_o a_o_sheet a_o_fixed a_o_open a_o_parts r_o_sheet o_opens o_height o_low o_held o_sheet) sz) (w_X1_isCheaper cy a_o a_o_sheet a_o_fixed a_o_open a_o_parts r_o_sheet o_opens o_height o_low o_held o_sheet) t) (va_A (w_X1_isCheaper cy a_o a_o_sheet a_o_fixed a_o_open a_o_parts r_o_sheet o_opens o_height o_low o_held o_sheet) sz)) 0 0 (va_A (w_X1_isCheaper cy a_o a_o_sheet a_o_fixed a_o_open a_o_parts r_o_sheet o_opens o_height o_low o_held o_sheet) sz) := by
  refine contrZ (S := Unit) (post := fun (r : Int32) (u : Unit) => post r ) (wOut := fun (u : Unit) => (w_X1_isCheaper cy a_o a_o_sheet a_o_fixed a_o_open a_o_parts r_o_sheet o_opens o_height o_low o_held o_sheet)) (cc := cX1_isCheaper) (maxL := 10) (own := RX1) (by decide +kernel) rfl rfl ?_
  intro p e s m args below meth c A Q hx hb hml hown hts hK hN hP hD hS hA hret
  have in_X1 : ∀ w ∈ u_ws RX1 TX1 8, w ∈ wsX1_isCheaper := by decide +kernel
  have fl_13 := hts (.fieldLink RX1 13 "DawnTable$Clearer" "sheet" "[[J") (by decide +kernel)
  have fl_30 := hts (.fieldLink RX1 30 "DawnTable$Clearer" "opens" "I") (by decide +kernel)
  have l_50 : ∀ (x2 : Int32) (x3 : Int32) (x4 : Int64) (x6 : Int64), ∀ (kx0 : Int32 → Prop), (∀ (x8 : Int32), kx0 x8 → ∀ (H : Heap) (locs : List Loc), va_P D vwCl (w_X1_isCheaper cy a_o a_o_sheet a_o_fixed a_o_open a_o_parts r_o_sheet o_opens o_height o_low o_held o_sheet) H → va_D A (w_X1_isCheaper cy a_o a_o_sheet a_o_fixed a_o_open a_o_parts r_o_sheet o_opens o_height o_low o_held o_sheet) → va_S A s.heap H locs → ∀ (ls : Array Slot), lv_has ls 10 [(8, .int x8)] → W p l e ({ frames := 1, cells := 0, slots := 0, locals := 23 }) s m args below meth c H locs 0 0 Q (F0 m 99 ls [])) → ∀ (n : Nat) (x8 : Int32) (x9 : Int32), wl_X1_isCheaper_50 x2 x3 x4 x6 o_opens o_sheet kx0 post n x8 x9 → ∀ (H : Heap) (locs : List Loc), va_P D vwCl (w_X1_isCheaper cy a_o a_o_sheet a_o_fixed a_o_open a_o_parts r_o_sheet o_opens o_height o_low o_held o_sheet) H → va_D A (w_X1_isCheaper cy a_o a_o_sheet a_o_fixed a_o_open a_o_parts r_o_sheet o_opens o_height o_low o_held o_sheet) → va_S A s.heap H locs → ∀ (ls : Array Slot), lv_has ls 10 [(0, .ref a_o), (2, .int x2), (3, .int x3), (4, .long x4), (6, .long x6), (8, .int x8), (9, .int x9)] → W p l e ({ frames := 1, cells := 0, slots := 0, locals := 23 }) s m args below meth c H locs 0 0 Q (F0 m 50 ls []) := by
    intro x2 x3 x4 x6 kx0 hkx0  n
    induction n with
    | zero => intro x8 x9 h; exact h.elim
    | succ n hkb =>
      intro x8 x9 h H locs hP hD hS ls hl
      replace h : ws_X1_isCheaper_50 x2 x3 x4 x6 o_opens o_sheet (wl_X1_isCheaper_50 x2 x3 x4 x6 o_opens o_sheet kx0 post n) kx0 post x8 x9 := h
      generalize wl_X1_isCheaper_50 x2 x3 x4 x6 o_opens o_sheet kx0 post n = kb at h hkb
      unfold ws_X1_isCheaper_50 at h
      refine lv_iload hx hb dX1_isCheaper_50 (lv_at hl 6 rfl) ?_
      refine lv_aload_n hx hb dX1_isCheaper_52 rfl (lv_at hl 0 rfl) ?_
      refine va_get (D := D) (ci := 1) (v := .int o_opens) (C := RX1) (T := TX1) (N := 8) hx hb hts in_X1 hown hK hP 0 rfl rfl 4 (by decide) fl_30 (fun _ h9 => h9) rfl dX1_isCheaper_53 ?_
      refine lv_icmp_gt (tgt := 99) hx hb dX1_isCheaper_56 (by decide) (fun c5 => ?_) (fun c5 => ?_)
      · have h := h.1 c5
        exact hkx0 x8 h _ _ hP hD hS _ (lv_sub hl [5] rfl)
      · have h := h.2 c5
        refine lv_iload hx hb dX1_isCheaper_59 (lv_at hl 5 rfl) ?_
        refine lv_if_ne (tgt := 99) hx hb dX1_isCheaper_61 (by decide) (fun c6 => ?_) (fun c6 => ?_)
        · have h := h.2 c6
          exact hkx0 x8 h _ _ hP hD hS _ (lv_sub hl [5] rfl)
        · have h := h.1 c6
          refine lv_aload_n hx hb dX1_isCheaper_64 rfl (lv_at hl 0 rfl) ?_
          refine va_get (D := D) (ci := 1) (v := .ref a_o_sheet) (C := RX1) (T := TX1) (N := 8) hx hb hts in_X1 hown hK hP 0 rfl rfl 0 (by decide) fl_13 (fun _ h9 => h9) rfl dX1_isCheaper_65 ?_
          refine lv_iload hx hb dX1_isCheaper_68 (lv_at hl 6 rfl) ?_
          obtain ⟨i7, h⟩ := h
          refine mx_ald hx hb hK hP 1 5 rfl rfl i7 dX1_isCheaper_70 ?_
          refine lv_iload_n hx hb dX1_isCheaper_71 rfl (lv_at hl 2 rfl) ?_
          obtain ⟨i8, h⟩ := h
          refine va_lald hx hb hK hP (2 + (x9).toNatClampNeg) 2 (gJ0 (in_lt i7)) rfl i8 dX1_isCheaper_72 ?_
          refine lv_lload hx hb dX1_isCheaper_73 (lv_at hl 3 rfl) ?_
          refine lv_lmul hx hb dX1_isCheaper_75 ?_
          refine lv_aload_n hx hb dX1_isCheaper_76 rfl (lv_at hl 0 rfl) ?_
          refine va_get (D := D) (ci := 1) (v := .ref a_o_sheet) (C := RX1) (T := TX1) (N := 8) hx hb hts in_X1 hown hK hP 0 rfl rfl 0 (by decide) fl_13 (fun _ h9 => h9) rfl dX1_isCheaper_77 ?_
          refine lv_iload hx hb dX1_isCheaper_80 (lv_at hl 6 rfl) ?_
          refine mx_ald hx hb hK hP 1 5 rfl rfl i7 dX1_isCheaper_82 ?_
          refine lv_iload_n hx hb dX1_isCheaper_83 rfl (lv_at hl 1 rfl) ?_
          obtain ⟨i9, h⟩ := h
          refine va_lald hx hb hK hP (2 + (x9).toNatClampNeg) 2 (gJ0 (in_lt i7)) rfl i9 dX1_isCheaper_84 ?_
          refine lv_lload hx hb dX1_isCheaper_85 (lv_at hl 4 rfl) ?_
          refine lv_lmul hx hb dX1_isCheaper_87 ?_
          have hC : ([] : List Nat).map (fun i => ((w_X1_isCheaper cy a_o a_o_sheet a_o_fixed a_o_open a_o_parts r_o_sheet o_opens o_height o_low o_held o_sheet) : va_W)[i]?) = ((w_J13_compare_74951 cy ) : va_W).map some := rfl
          obtain ⟨hPc, hDc⟩ := cutC hP hD [] (by decide) hC
          have hFc := va_free hD hS hA [] hC
          refine va_calli (va_runS (As := [.long ((o_sheet (x9).toNatClampNeg (x3).toNatClampNeg) * x4), .long ((o_sheet (x9).toNatClampNeg (x2).toNatClampNeg) * x6)]) (rest := []) ⟨hx, hb, hml, hown, hts⟩ (c_J13_compare_74951 l D cy _ h) (va_cwS 2 hts gX1_isCheaper_J13_compare_74951 rfl rfl rfl (by decide +kernel) ⟨Nat.le_of_ble_eq_true rfl, Nat.le_of_ble_eq_true rfl⟩) (preS hPc hDc hK hN) rfl rfl hl.1 rfl (lv_room (Nat.le_of_ble_eq_true rfl)) dX1_isCheaper_88 ⟨Nat.zero_le _, Nat.zero_le _⟩) hS (fun q _ h => hFc q h) hFc (fun r10 u t H1 locs ht hvm h hB hz1 hk1 hS => ?_)
          try dsimp only at h hB
          obtain ⟨hP, hD⟩ := joinU (wd := (w_X1_isCheaper cy a_o a_o_sheet a_o_fixed a_o_open a_o_parts r_o_sheet o_opens o_height o_low o_held o_sheet)) (wr := [(a_o, .inr (1, [.ref a_o_sheet, .ref a_o_fixed, .ref a_o_open, .ref a_o_parts, .int o_opens, .int o_height, .long o_low, .int o_held])), (a_o_sheet, .inl (cy 5, 14, .inr (.inr (.inr (.inr (mref r_o_sheet 14)))))), (r_o_sheet 0, rowJ (cy 2) 5 o_sheet 0), (r_o_sheet 1, rowJ (cy 2) 5 o_sheet 1), (r_o_sheet 2, rowJ (cy 2) 5 o_sheet 2), (r_o_sheet 3, rowJ (cy 2) 5 o_sheet 3), (r_o_sheet 4, rowJ (cy 2) 5 o_sheet 4), (r_o_sheet 5, rowJ (cy 2) 5 o_sheet 5), (r_o_sheet 6, rowJ (cy 2) 5 o_sheet 6), (r_o_sheet 7, rowJ (cy 2) 5 o_sheet 7), (r_o_sheet 8, rowJ (cy 2) 5 o_sheet 8), (r_o_sheet 9, rowJ (cy 2) 5 o_sheet 9), (r_o_sheet 10, rowJ (cy 2) 5 o_sheet 10), (r_o_sheet 11, rowJ (cy 2) 5 o_sheet 11), (r_o_sheet 12, rowJ (cy 2) 5 o_sheet 12), (r_o_sheet 13, rowJ (cy 2) 5 o_sheet 13)]) hP hD [] [0, 1, 2, 3, 4, 5, 6, 7, 8, 9, 10, 11, 12, 13, 14, 15] [] hC hk1 ht hB rfl rfl rfl (N := 16) rfl (by decide) rfl rfl
          generalize H1 = H at hP hS ⊢
          refine lv_istore (lv' := [(8, .int r10), (0, .ref a_o), (2, .int x2), (3, .int x3), (4, .long x4), (6, .long x6), (9, .int x9)]) hx hb dX1_isCheaper_91 hl (by decide) rfl (fun ls hl => ?_)
          refine lv_iinc (v := (x9 + (1 : Int32))) (lv' := [(9, .int (x9 + (1 : Int32))), (8, .int r10), (0, .ref a_o), (2, .int x2), (3, .int x3), (4, .long x4), (6, .long x6)]) hx hb dX1_isCheaper_93 hl (k := 6) rfl (congrArg (fun z => x9 + z) (by decide : Int32.ofInt (1) = (1 : Int32))) (by decide) rfl (fun ls hl => ?_)
          refine lv_goto (tgt := 50) hx hb dX1_isCheaper_96 (by decide) ?_
          exact hkb r10 (x9 + (1 : Int32)) h _ _ hP hD hS _ (lv_sub hl [2, 3, 4, 5, 6, 1, 0] rfl)
  have j_99_0 : ∀ (x8 : Int32), wj_X1_isCheaper_99  x8 o_opens o_sheet  post → ∀ (H : Heap) (locs : List Loc), va_P D vwCl (w_X1_isCheaper cy a_o a_o_sheet a_o_fixed a_o_open a_o_parts r_o_sheet o_opens o_height o_low o_held o_sheet) H → va_D A (w_X1_isCheaper cy a_o a_o_sheet a_o_fixed a_o_open a_o_parts r_o_sheet o_opens o_height o_low o_held o_sheet) → va_S A s.heap H locs → ∀ (ls : Array Slot), lv_has ls 10 [(8, .int x8)] → W p l e ({ frames := 1, cells := 0, slots := 0, locals := 23 }) s m args below meth c H locs 0 0 Q (F0 m 99 ls []) := by
    intro x8  h H locs hP hD hS ls hl
    unfold wj_X1_isCheaper_99 at h
    refine lv_iload hx hb dX1_isCheaper_99 (lv_at hl 0 rfl) ?_
    refine lv_if_le (tgt := 108) hx hb dX1_isCheaper_101 (by decide) (fun c12 => ?_) (fun c12 => ?_)
    · have h := h.1 c12
      refine lv_iconst (v := 0) hx hb dX1_isCheaper_108 (by decide) ?_
      exact hret (0 : Int32) () _ _ _ _ rfl h hP hD hS dX1_isCheaper_109
    · have h := h.2 c12
      refine lv_iconst (v := 1) hx hb dX1_isCheaper_104 (by decide) ?_
      refine lv_goto (tgt := 109) hx hb dX1_isCheaper_105 (by decide) ?_
      exact hret (1 : Int32) () _ _ _ _ rfl h hP hD hS dX1_isCheaper_109
  refine ent [.ref a_o, .int x1, .int x2, .int x3] (Nat.le_of_ble_eq_true rfl) (fun ls hl => ?_)
  have hl : lv_has ls 10 [(0, .ref a_o), (1, .int x1), (2, .int x2), (3, .int x3)] := hl
  unfold wp_X1_isCheaper at h
  refine lv_aload_n hx hb dX1_isCheaper_0 rfl (lv_at hl 0 rfl) ?_
  refine va_get (D := D) (ci := 1) (v := .ref a_o_sheet) (C := RX1) (T := TX1) (N := 8) hx hb hts in_X1 hown hK hP 0 rfl rfl 0 (by decide) fl_13 (fun _ h9 => h9) rfl dX1_isCheaper_1 ?_
  refine lv_iload_n hx hb dX1_isCheaper_4 rfl (lv_at hl 1 rfl) ?_
  obtain ⟨i1, h⟩ := h
  refine mx_ald hx hb hK hP 1 5 rfl rfl i1 dX1_isCheaper_5 ?_
  refine lv_iload_n hx hb dX1_isCheaper_6 rfl (lv_at hl 2 rfl) ?_
  obtain ⟨i2, h⟩ := h
  refine va_lald hx hb hK hP (2 + (x1).toNatClampNeg) 2 (gJ0 (in_lt i1)) rfl i2 dX1_isCheaper_7 ?_
  refine lv_lstore (lv' := [(4, .long (o_sheet (x1).toNatClampNeg (x2).toNatClampNeg)), (0, .ref a_o), (1, .int x1), (2, .int x2), (3, .int x3)]) hx hb dX1_isCheaper_8 hl (by decide) rfl (fun ls hl => ?_)
  refine lv_aload_n hx hb dX1_isCheaper_10 rfl (lv_at hl 1 rfl) ?_
  refine va_get (D := D) (ci := 1) (v := .ref a_o_sheet) (C := RX1) (T := TX1) (N := 8) hx hb hts in_X1 hown hK hP 0 rfl rfl 0 (by decide) fl_13 (fun _ h9 => h9) rfl dX1_isCheaper_11 ?_
  refine lv_iload_n hx hb dX1_isCheaper_14 rfl (lv_at hl 2 rfl) ?_
  refine mx_ald hx hb hK hP 1 5 rfl rfl i1 dX1_isCheaper_15 ?_
  refine lv_iload_n hx hb dX1_isCheaper_16 rfl (lv_at hl 4 rfl) ?_
  obtain ⟨i3, h⟩ := h
  refine va_lald hx hb hK hP (2 + (x1).toNatClampNeg) 2 (gJ0 (in_lt i1)) rfl i3 dX1_isCheaper_17 ?_
  refine lv_lstore (lv' := [(6, .long (o_sheet (x1).toNatClampNeg (x3).toNatClampNeg)), (4, .long (o_sheet (x1).toNatClampNeg (x2).toNatClampNeg)), (0, .ref a_o), (1, .int x1), (2, .int x2), (3, .int x3)]) hx hb dX1_isCheaper_18 hl (by decide) rfl (fun ls hl => ?_)
  refine lv_aload_n hx hb dX1_isCheaper_20 rfl (lv_at hl 2 rfl) ?_
  refine va_get (D := D) (ci := 1) (v := .ref a_o_sheet) (C := RX1) (T := TX1) (N := 8) hx hb hts in_X1 hown hK hP 0 rfl rfl 0 (by decide) fl_13 (fun _ h9 => h9) rfl dX1_isCheaper_21 ?_
  refine lv_iconst (v := 0) hx hb dX1_isCheaper_24 (by decide) ?_
  refine mx_ald hx hb hK hP 1 5 rfl rfl (by unfold vp_in; decide) dX1_isCheaper_25 ?_
  refine lv_iload_n hx hb dX1_isCheaper_26 rfl (lv_at hl 4 rfl) ?_
  refine va_lald hx hb hK hP (2 + ((0 : Int32)).toNatClampNeg) 2 (gJ0 (by decide)) rfl i2 dX1_isCheaper_27 ?_
  refine lv_lload hx hb dX1_isCheaper_28 (lv_at hl 0 rfl) ?_
  refine lv_lmul hx hb dX1_isCheaper_30 ?_
  refine lv_aload_n hx hb dX1_isCheaper_31 rfl (lv_at hl 2 rfl) ?_
  refine va_get (D := D) (ci := 1) (v := .ref a_o_sheet) (C := RX1) (T := TX1) (N := 8) hx hb hts in_X1 hown hK hP 0 rfl rfl 0 (by decide) fl_13 (fun _ h9 => h9) rfl dX1_isCheaper_32 ?_
  refine lv_iconst (v := 0) hx hb dX1_isCheaper_35 (by decide) ?_
  refine mx_ald hx hb hK hP 1 5 rfl rfl (by unfold vp_in; decide) dX1_isCheaper_36 ?_
  refine lv_iload_n hx hb dX1_isCheaper_37 rfl (lv_at hl 5 rfl) ?_
  refine va_lald hx hb hK hP (2 + ((0 : Int32)).toNatClampNeg) 2 (gJ0 (by decide)) rfl i3 dX1_isCheaper_38 ?_
  refine lv_lload hx hb dX1_isCheaper_39 (lv_at hl 1 rfl) ?_
  refine lv_lmul hx hb dX1_isCheaper_41 ?_
  have hC : ([] : List Nat).map (fun i => ((w_X1_isCheaper cy a_o a_o_sheet a_o_fixed a_o_open a_o_parts r_o_sheet o_opens o_height o_low o_held o_sheet) : va_W)[i]?) = ((w_J13_compare_74951 cy ) : va_W).map some := rfl
  obtain ⟨hPc, hDc⟩ := cutC hP hD [] (by decide) hC
  have hFc := va_free hD hS hA [] hC
  refine va_calli (va_runS (As := [.long ((o_sheet ((0 : Int32)).toNatClampNeg (x2).toNatClampNeg) * (o_sheet (x1).toNatClampNeg (x3).toNatClampNeg)), .long ((o_sheet ((0 : Int32)).toNatClampNeg (x3).toNatClampNeg) * (o_sheet (x1).toNatClampNeg (x2).toNatClampNeg))]) (rest := []) ⟨hx, hb, hml, hown, hts⟩ (c_J13_compare_74951 l D cy _ h) (va_cwS 2 hts gX1_isCheaper_J13_compare_74951 rfl rfl rfl (by decide +kernel) ⟨Nat.le_of_ble_eq_true rfl, Nat.le_of_ble_eq_true rfl⟩) (preS hPc hDc hK hN) rfl rfl hl.1 rfl (lv_room (Nat.le_of_ble_eq_true rfl)) dX1_isCheaper_42 ⟨Nat.zero_le _, Nat.zero_le _⟩) hS (fun q _ h => hFc q h) hFc (fun r4 u t H1 locs ht hvm h hB hz1 hk1 hS => ?_)
  try dsimp only at h hB
  obtain ⟨hP, hD⟩ := joinU (wd := (w_X1_isCheaper cy a_o a_o_sheet a_o_fixed a_o_open a_o_parts r_o_sheet o_opens o_height o_low o_held o_sheet)) (wr := [(a_o, .inr (1, [.ref a_o_sheet, .ref a_o_fixed, .ref a_o_open, .ref a_o_parts, .int o_opens, .int o_height, .long o_low, .int o_held])), (a_o_sheet, .inl (cy 5, 14, .inr (.inr (.inr (.inr (mref r_o_sheet 14)))))), (r_o_sheet 0, rowJ (cy 2) 5 o_sheet 0), (r_o_sheet 1, rowJ (cy 2) 5 o_sheet 1), (r_o_sheet 2, rowJ (cy 2) 5 o_sheet 2), (r_o_sheet 3, rowJ (cy 2) 5 o_sheet 3), (r_o_sheet 4, rowJ (cy 2) 5 o_sheet 4), (r_o_sheet 5, rowJ (cy 2) 5 o_sheet 5), (r_o_sheet 6, rowJ (cy 2) 5 o_sheet 6), (r_o_sheet 7, rowJ (cy 2) 5 o_sheet 7), (r_o_sheet 8, rowJ (cy 2) 5 o_sheet 8), (r_o_sheet 9, rowJ (cy 2) 5 o_sheet 9), (r_o_sheet 10, rowJ (cy 2) 5 o_sheet 10), (r_o_sheet 11, rowJ (cy 2) 5 o_sheet 11), (r_o_sheet 12, rowJ (cy 2) 5 o_sheet 12), (r_o_sheet 13, rowJ (cy 2) 5 o_sheet 13)]) hP hD [] [0, 1, 2, 3, 4, 5, 6, 7, 8, 9, 10, 11, 12, 13, 14, 15] [] hC hk1 ht hB rfl rfl rfl (N := 16) rfl (by decide) rfl rfl
  generalize H1 = H at hP hS ⊢
  refine lv_istore (lv' := [(8, .int r4), (6, .long (o_sheet (x1).toNatClampNeg (x3).toNatClampNeg)), (4, .long (o_sheet (x1).toNatClampNeg (x2).toNatClampNeg)), (0, .ref a_o), (1, .int x1), (2, .int x2), (3, .int x3)]) hx hb dX1_isCheaper_45 hl (by decide) rfl (fun ls hl => ?_)
  refine lv_iconst (v := 1) hx hb dX1_isCheaper_47 (by decide) ?_
  refine lv_istore (lv' := [(9, .int (1 : Int32)), (8, .int r4), (6, .long (o_sheet (x1).toNatClampNeg (x3).toNatClampNeg)), (4, .long (o_sheet (x1).toNatClampNeg (x2).toNatClampNeg)), (0, .ref a_o), (1, .int x1), (2, .int x2), (3, .int x3)]) hx hb dX1_isCheaper_48 hl (by decide) rfl (fun ls hl => ?_)
  obtain ⟨n13, h⟩ := h
  refine l_50 x2 x3 (o_sheet (x1).toNatClampNeg (x2).toNatClampNeg) (o_sheet (x1).toNatClampNeg (x3).toNatClampNeg) _ ?_ n13 r4 (1 : Int32) h _ _ hP hD hS _ (lv_sub hl [4, 6, 7, 3, 2, 1, 0] rfl)
  · intro x8_11 h H locs hP hD hS ls hl
    exact j_99_0 x8_11 h _ _ hP hD hS _ (lv_sub hl [0] rfl)
abbrev w_X1_cheapestColumn (cy : Nat → ClassId) (a_o a_o_sheet a_o_fixed a_o_open a_o_parts : Nat) (r_o_sheet : Nat → Nat) (o_opens : Int32) (o_height : Int32) (o_low : Int64) (o_held : Int32) (o_sheet : Nat → Nat → Int64) : va_W := [(a_o, .inr (1, [.ref a_o_sheet, .ref a_o_fixed, .ref a_o_open, .ref a_o_parts, .int o_opens, .int o_height, .long o_low, .int o_held])), (a_o_sheet, .inl (cy 5, 14, .inr (.inr (.inr (.inr (mref r_o_sheet 14))))))] ++ rows14 r_o_sheet (rowJ (cy 2) 5 o_sheet) ++ []
set_option maxRecDepth 20000 in
theorem ggX1_cheapestColumn_X1_isCheaper : GoodIn wsX1_cheapestColumn wsX1_isCheaper := goodIn_r _ [7, 2, 1, 8, 9, 10, 11, 12, 13, 14, 15, 16, 17, 18, 19] (by decide +kernel) (by decide +kernel)
set_option maxRecDepth 20000 in
theorem gX1_cheapestColumn_X1_isCheaper : GoodIn wsX1_cheapestColumn (wsV RX1 141 RX1 yX1_isCheaper wsX1_isCheaper) := goodIn_app (goodIn_of _ (by decide +kernel)) ggX1_cheapestColumn_X1_isCheaper
set_option maxHeartbeats 4000000 in
set_option maxRecDepth 100000 in
theorem c_X1_cheapestColumn (l : Launch) (D : va_G) (cy : Nat → ClassId) (a_o a_o_sheet a_o_fixed a_o_open a_o_parts : Nat) (r_o_sheet : Nat → Nat) (sz : Nat)  {o_opens : Int32} {o_height : Int32} {o_low : Int64} {o_held : Int32} {o_sheet : Nat → Nat → Int64} {x1 : Int32} {post : Int32 → Prop} (h : wp_X1_cheapestColumn o_opens o_sheet x1 post) : Met l yX1_cheapestColumn wsX1_cheapestColumn ({ frames := 2, cells := 0, slots := 0, locals := 52 }) (va_Pc [.ref a_o, .int x1] (wI D cy sz (w_X1_cheapestColumn cy a_o a_o_sheet a_o_fixed a_o_open a_o_parts r_o_sheet o_opens o_height o_low o_held o_sheet))) (va_Qi (fun (r : Int32) (u : Unit) => post r ) (fun (u : Unit) t => wO D cy (va_A (w_X1_cheapestColumn cy a_o a_o_sheet a_o_fixed a_o_open a_o_parts r_o_sheet o_opens o_height o_low o_held o_sheet) sz) (w_X1_cheapestColumn cy a_o a_o_sheet a_o_fixed a_o_open a_o_parts r_o_sheet o_opens o_height o_low o_held o_sheet) t) (va_A (w_X1_cheapestColumn cy a_o a_o_sheet a_o_fixed a_o_open a_o_parts r_o_sheet o_opens o_height o_low o_held o_sheet) sz)) 0 0 (va_A (w_X1_cheapestColumn cy a_o a_o_sheet a_o_fixed a_o_open a_o_parts r_o_sheet o_opens o_height o_low o_held o_sheet) sz) := by
  refine contrI (S := Unit) (post := fun (r : Int32) (u : Unit) => post r ) (wOut := fun (u : Unit) => (w_X1_cheapestColumn cy a_o a_o_sheet a_o_fixed a_o_open a_o_parts r_o_sheet o_opens o_height o_low o_held o_sheet)) (cc := cX1_cheapestColumn) (maxL := 4) (own := RX1) (by decide +kernel) rfl rfl ?_
  intro p e s m args below meth c A Q hx hb hml hown hts hK hN hP hD hS hA hret
  have in_X1 : ∀ w ∈ u_ws RX1 TX1 8, w ∈ wsX1_cheapestColumn := by decide +kernel
  have fl_30 := hts (.fieldLink RX1 30 "DawnTable$Clearer" "opens" "I") (by decide +kernel)
  have fl_13 := hts (.fieldLink RX1 13 "DawnTable$Clearer" "sheet" "[[J") (by decide +kernel)
  have l_4 : ∀ (x1 : Int32), ∀ (kx0 : Int32 → Prop), (∀ (x2 : Int32), kx0 x2 → ∀ (H : Heap) (locs : List Loc), va_P D vwCl (w_X1_cheapestColumn cy a_o a_o_sheet a_o_fixed a_o_open a_o_parts r_o_sheet o_opens o_height o_low o_held o_sheet) H → va_D A (w_X1_cheapestColumn cy a_o a_o_sheet a_o_fixed a_o_open a_o_parts r_o_sheet o_opens o_height o_low o_held o_sheet) → va_S A s.heap H locs → ∀ (ls : Array Slot), lv_has ls 4 [(2, .int x2)] → W p l e ({ frames := 2, cells := 0, slots := 0, locals := 52 }) s m args below meth c H locs 0 0 Q (F0 m 50 ls [])) → ∀ (n : Nat) (x2 : Int32) (x3 : Int32), wl_X1_cheapestColumn_4 x1 o_opens o_sheet kx0 post n x2 x3 → ∀ (H : Heap) (locs : List Loc), va_P D vwCl (w_X1_cheapestColumn cy a_o a_o_sheet a_o_fixed a_o_open a_o_parts r_o_sheet o_opens o_height o_low o_held o_sheet) H → va_D A (w_X1_cheapestColumn cy a_o a_o_sheet a_o_fixed a_o_open a_o_parts r_o_sheet o_opens o_height o_low o_held o_sheet) → va_S A s.heap H locs → ∀ (ls : Array Slot), lv_has ls 4 [(0, .ref a_o), (1, .int x1), (2, .int x2), (3, .int x3)] → W p l e ({ frames := 2, cells := 0, slots := 0, locals := 52 }) s m args below meth c H locs 0 0 Q (F0 m 4 ls []) := by
    intro x1 kx0 hkx0  n
    induction n with
    | zero => intro x2 x3 h; exact h.elim
    | succ n hkb =>
      intro x2 x3 h H locs hP hD hS ls hl
      replace h : ws_X1_cheapestColumn_4 x1 o_opens o_sheet (wl_X1_cheapestColumn_4 x1 o_opens o_sheet kx0 post n) kx0 post x2 x3 := h
      generalize wl_X1_cheapestColumn_4 x1 o_opens o_sheet kx0 post n = kb at h hkb
      unfold ws_X1_cheapestColumn_4 at h
      refine lv_iload_n hx hb dX1_cheapestColumn_4 rfl (lv_at hl 3 rfl) ?_
      refine lv_aload_n hx hb dX1_cheapestColumn_5 rfl (lv_at hl 0 rfl) ?_
      refine va_get (D := D) (ci := 1) (v := .int o_opens) (C := RX1) (T := TX1) (N := 8) hx hb hts in_X1 hown hK hP 0 rfl rfl 4 (by decide) fl_30 (fun _ h9 => h9) rfl dX1_cheapestColumn_6 ?_
      refine lv_icmp_ge (tgt := 50) hx hb dX1_cheapestColumn_9 (by decide) (fun c1 => ?_) (fun c1 => ?_)
      · have h := h.1 c1
        exact hkx0 x2 h _ _ hP hD hS _ (lv_sub hl [2] rfl)
      · have h := h.2 c1
        refine lv_aload_n hx hb dX1_cheapestColumn_12 rfl (lv_at hl 0 rfl) ?_
        refine va_get (D := D) (ci := 1) (v := .ref a_o_sheet) (C := RX1) (T := TX1) (N := 8) hx hb hts in_X1 hown hK hP 0 rfl rfl 0 (by decide) fl_13 (fun _ h9 => h9) rfl dX1_cheapestColumn_13 ?_
        refine lv_iload_n hx hb dX1_cheapestColumn_16 rfl (lv_at hl 1 rfl) ?_
        obtain ⟨i2, h⟩ := h
        refine mx_ald hx hb hK hP 1 5 rfl rfl i2 dX1_cheapestColumn_17 ?_
        refine lv_iload_n hx hb dX1_cheapestColumn_18 rfl (lv_at hl 3 rfl) ?_
        obtain ⟨i3, h⟩ := h
        refine va_lald hx hb hK hP (2 + (x1).toNatClampNeg) 2 (gJ0 (in_lt i2)) rfl i3 dX1_cheapestColumn_19 ?_
        refine lv_lconst (v := 0) hx hb dX1_cheapestColumn_20 (by decide) ?_
        refine W.lcmp hx hb dX1_cheapestColumn_21 ?_
        refine lv_if_gt (tgt := 28) hx hb dX1_cheapestColumn_22 (by decide) (fun c4 => ?_) (fun c4 => ?_)
        · have h := h.1 (lc_gt.mp c4)
          refine lv_iload_n hx hb dX1_cheapestColumn_28 rfl (lv_at hl 2 rfl) ?_
          refine lv_if_lt (tgt := 42) hx hb dX1_cheapestColumn_29 (by decide) (fun c5 => ?_) (fun c5 => ?_)
          · have h := h.1 c5
            refine lv_iload_n hx hb dX1_cheapestColumn_42 rfl (lv_at hl 3 rfl) ?_
            refine lv_istore_n (lv' := [(2, .int x3), (0, .ref a_o), (1, .int x1), (3, .int x3)]) hx hb dX1_cheapestColumn_43 rfl hl (by decide) rfl (fun ls hl => ?_)
            refine lv_iinc (v := (x3 + (1 : Int32))) (lv' := [(3, .int (x3 + (1 : Int32))), (2, .int x3), (0, .ref a_o), (1, .int x1)]) hx hb dX1_cheapestColumn_44 hl (k := 3) rfl (congrArg (fun z => x3 + z) (by decide : Int32.ofInt (1) = (1 : Int32))) (by decide) rfl (fun ls hl => ?_)
            refine lv_goto (tgt := 4) hx hb dX1_cheapestColumn_47 (by decide) ?_
            exact hkb x3 (x3 + (1 : Int32)) h _ _ hP hD hS _ (lv_sub hl [2, 3, 1, 0] rfl)
          · have h := h.2 c5
            refine lv_aload_n hx hb dX1_cheapestColumn_32 rfl (lv_at hl 0 rfl) ?_
            refine lv_iload_n hx hb dX1_cheapestColumn_33 rfl (lv_at hl 1 rfl) ?_
            refine lv_iload_n hx hb dX1_cheapestColumn_34 rfl (lv_at hl 3 rfl) ?_
            refine lv_iload_n hx hb dX1_cheapestColumn_35 rfl (lv_at hl 2 rfl) ?_
            have hC : ([0, 1, 2, 3, 4, 5, 6, 7, 8, 9, 10, 11, 12, 13, 14, 15] : List Nat).map (fun i => ((w_X1_cheapestColumn cy a_o a_o_sheet a_o_fixed a_o_open a_o_parts r_o_sheet o_opens o_height o_low o_held o_sheet) : va_W)[i]?) = ((w_X1_isCheaper cy a_o a_o_sheet a_o_fixed a_o_open a_o_parts r_o_sheet o_opens o_height o_low o_held o_sheet) : va_W).map some := rfl
            obtain ⟨hPc, hDc⟩ := cutC hP hD [0, 1, 2, 3, 4, 5, 6, 7, 8, 9, 10, 11, 12, 13, 14, 15] (by decide) hC
            have hFc := va_free hD hS hA [0, 1, 2, 3, 4, 5, 6, 7, 8, 9, 10, 11, 12, 13, 14, 15] hC
            refine va_calli (va_runV (As := [.int x1, .int x3, .int x2]) (rest := []) ⟨hx, hb, hml, hown, hts⟩ (c_X1_isCheaper l D cy a_o a_o_sheet a_o_fixed a_o_open a_o_parts r_o_sheet _ h) (cwV 3 hts gX1_cheapestColumn_X1_isCheaper rfl rfl rfl (by decide +kernel) ⟨Nat.le_of_ble_eq_true rfl, Nat.le_of_ble_eq_true rfl⟩) (preV hPc hDc hK hN (ci := 1) (q0 := 0) rfl rfl) rfl rfl hl.1 rfl (lv_room (Nat.le_of_ble_eq_true rfl)) dX1_cheapestColumn_36 ⟨Nat.zero_le _, Nat.zero_le _⟩) hS (fun q _ h => hFc q h) hFc (fun r6 u t H1 locs ht hvm h hB hz1 hk1 hS => ?_)
            try dsimp only at h hB
            obtain ⟨hP, hD⟩ := joinU (wd := (w_X1_cheapestColumn cy a_o a_o_sheet a_o_fixed a_o_open a_o_parts r_o_sheet o_opens o_height o_low o_held o_sheet)) (wr := []) hP hD [0, 1, 2, 3, 4, 5, 6, 7, 8, 9, 10, 11, 12, 13, 14, 15] [] [a_o, a_o_sheet, r_o_sheet 0, r_o_sheet 1, r_o_sheet 2, r_o_sheet 3, r_o_sheet 4, r_o_sheet 5, r_o_sheet 6, r_o_sheet 7, r_o_sheet 8, r_o_sheet 9, r_o_sheet 10, r_o_sheet 11, r_o_sheet 12, r_o_sheet 13] hC hk1 ht hB rfl rfl rfl (N := 16) rfl (by decide) rfl rfl
            generalize H1 = H at hP hS ⊢
            refine lv_if_eq (tgt := 44) hx hb dX1_cheapestColumn_39 (by decide) (fun c7 => ?_) (fun c7 => ?_)
            · have h := h.1 c7
              refine lv_iinc (v := (x3 + (1 : Int32))) (lv' := [(3, .int (x3 + (1 : Int32))), (0, .ref a_o), (1, .int x1), (2, .int x2)]) hx hb dX1_cheapestColumn_44 hl (k := 3) rfl (congrArg (fun z => x3 + z) (by decide : Int32.ofInt (1) = (1 : Int32))) (by decide) rfl (fun ls hl => ?_)
              refine lv_goto (tgt := 4) hx hb dX1_cheapestColumn_47 (by decide) ?_
              exact hkb x2 (x3 + (1 : Int32)) h _ _ hP hD hS _ (lv_sub hl [1, 2, 3, 0] rfl)
            · have h := h.2 c7
              refine lv_iload_n hx hb dX1_cheapestColumn_42 rfl (lv_at hl 3 rfl) ?_
              refine lv_istore_n (lv' := [(2, .int x3), (0, .ref a_o), (1, .int x1), (3, .int x3)]) hx hb dX1_cheapestColumn_43 rfl hl (by decide) rfl (fun ls hl => ?_)
              refine lv_iinc (v := (x3 + (1 : Int32))) (lv' := [(3, .int (x3 + (1 : Int32))), (2, .int x3), (0, .ref a_o), (1, .int x1)]) hx hb dX1_cheapestColumn_44 hl (k := 3) rfl (congrArg (fun z => x3 + z) (by decide : Int32.ofInt (1) = (1 : Int32))) (by decide) rfl (fun ls hl => ?_)
              refine lv_goto (tgt := 4) hx hb dX1_cheapestColumn_47 (by decide) ?_
              exact hkb x3 (x3 + (1 : Int32)) h _ _ hP hD hS _ (lv_sub hl [2, 3, 1, 0] rfl)
        · have h := h.2 (fun z => c4 (lc_gt.mpr z))
          refine lv_goto (tgt := 44) hx hb dX1_cheapestColumn_25 (by decide) ?_
          refine lv_iinc (v := (x3 + (1 : Int32))) (lv' := [(3, .int (x3 + (1 : Int32))), (0, .ref a_o), (1, .int x1), (2, .int x2)]) hx hb dX1_cheapestColumn_44 hl (k := 3) rfl (congrArg (fun z => x3 + z) (by decide : Int32.ofInt (1) = (1 : Int32))) (by decide) rfl (fun ls hl => ?_)
          refine lv_goto (tgt := 4) hx hb dX1_cheapestColumn_47 (by decide) ?_
          exact hkb x2 (x3 + (1 : Int32)) h _ _ hP hD hS _ (lv_sub hl [1, 2, 3, 0] rfl)
  refine ent [.ref a_o, .int x1] (Nat.le_of_ble_eq_true rfl) (fun ls hl => ?_)
  have hl : lv_has ls 4 [(0, .ref a_o), (1, .int x1)] := hl
  unfold wp_X1_cheapestColumn at h
  refine lv_iconst (v := -1) hx hb dX1_cheapestColumn_0 (by decide) ?_
  refine lv_istore_n (lv' := [(2, .int (-1 : Int32)), (0, .ref a_o), (1, .int x1)]) hx hb dX1_cheapestColumn_1 rfl hl (by decide) rfl (fun ls hl => ?_)
  refine lv_iconst (v := 0) hx hb dX1_cheapestColumn_2 (by decide) ?_
  refine lv_istore_n (lv' := [(3, .int (0 : Int32)), (2, .int (-1 : Int32)), (0, .ref a_o), (1, .int x1)]) hx hb dX1_cheapestColumn_3 rfl hl (by decide) rfl (fun ls hl => ?_)
  obtain ⟨n9, h⟩ := h
  refine l_4 x1 _ ?_ n9 (-1 : Int32) (0 : Int32) h _ _ hP hD hS _ (lv_sub hl [2, 3, 1, 0] rfl)
  · intro x2_8 h H locs hP hD hS ls hl
    refine lv_iload_n hx hb dX1_cheapestColumn_50 rfl (lv_at hl 0 rfl) ?_
    exact hret x2_8 () _ _ _ _ h hP hD hS dX1_cheapestColumn_51
abbrev w_X1_lowestRow (cy : Nat → ClassId) (a_o a_o_sheet a_o_fixed a_o_open a_o_parts : Nat) (r_o_sheet : Nat → Nat) (o_opens : Int32) (o_height : Int32) (o_low : Int64) (o_held : Int32) (o_sheet : Nat → Nat → Int64) : va_W := [(a_o, .inr (1, [.ref a_o_sheet, .ref a_o_fixed, .ref a_o_open, .ref a_o_parts, .int o_opens, .int o_height, .long o_low, .int o_held])), (a_o_sheet, .inl (cy 5, 14, .inr (.inr (.inr (.inr (mref r_o_sheet 14))))))] ++ rows14 r_o_sheet (rowJ (cy 2) 5 o_sheet) ++ []
set_option maxHeartbeats 4000000 in
set_option maxRecDepth 100000 in
theorem c_X1_lowestRow (l : Launch) (D : va_G) (cy : Nat → ClassId) (a_o a_o_sheet a_o_fixed a_o_open a_o_parts : Nat) (r_o_sheet : Nat → Nat) (sz : Nat)  {o_opens : Int32} {o_height : Int32} {o_low : Int64} {o_held : Int32} {o_sheet : Nat → Nat → Int64}  {post : Int32 → Prop} (h : wp_X1_lowestRow o_height o_sheet post) : Met l yX1_lowestRow wsX1_lowestRow ({ frames := 0, cells := 0, slots := 0, locals := 0 }) (va_Pc [.ref a_o] (wI D cy sz (w_X1_lowestRow cy a_o a_o_sheet a_o_fixed a_o_open a_o_parts r_o_sheet o_opens o_height o_low o_held o_sheet))) (va_Qi (fun (r : Int32) (u : Unit) => post r ) (fun (u : Unit) t => wO D cy (va_A (w_X1_lowestRow cy a_o a_o_sheet a_o_fixed a_o_open a_o_parts r_o_sheet o_opens o_height o_low o_held o_sheet) sz) (w_X1_lowestRow cy a_o a_o_sheet a_o_fixed a_o_open a_o_parts r_o_sheet o_opens o_height o_low o_held o_sheet) t) (va_A (w_X1_lowestRow cy a_o a_o_sheet a_o_fixed a_o_open a_o_parts r_o_sheet o_opens o_height o_low o_held o_sheet) sz)) 0 0 (va_A (w_X1_lowestRow cy a_o a_o_sheet a_o_fixed a_o_open a_o_parts r_o_sheet o_opens o_height o_low o_held o_sheet) sz) := by
  refine contrI (S := Unit) (post := fun (r : Int32) (u : Unit) => post r ) (wOut := fun (u : Unit) => (w_X1_lowestRow cy a_o a_o_sheet a_o_fixed a_o_open a_o_parts r_o_sheet o_opens o_height o_low o_held o_sheet)) (cc := cX1_lowestRow) (maxL := 5) (own := RX1) (by decide +kernel) rfl rfl ?_
  intro p e s m args below meth c A Q hx hb hml hown hts hK hN hP hD hS hA hret
  have in_X1 : ∀ w ∈ u_ws RX1 TX1 8, w ∈ wsX1_lowestRow := by decide +kernel
  have fl_34 := hts (.fieldLink RX1 34 "DawnTable$Clearer" "height" "I") (by decide +kernel)
  have fl_13 := hts (.fieldLink RX1 13 "DawnTable$Clearer" "sheet" "[[J") (by decide +kernel)
  have l_7 : ∀ (kx0 : Int32 → Prop), (∀ (x1 : Int32), kx0 x1 → ∀ (H : Heap) (locs : List Loc), va_P D vwCl (w_X1_lowestRow cy a_o a_o_sheet a_o_fixed a_o_open a_o_parts r_o_sheet o_opens o_height o_low o_held o_sheet) H → va_D A (w_X1_lowestRow cy a_o a_o_sheet a_o_fixed a_o_open a_o_parts r_o_sheet o_opens o_height o_low o_held o_sheet) → va_S A s.heap H locs → ∀ (ls : Array Slot), lv_has ls 5 [(1, .int x1)] → W p l e ({ frames := 0, cells := 0, slots := 0, locals := 0 }) s m args below meth c H locs 0 0 Q (F0 m 52 ls [])) → ∀ (n : Nat) (x1 : Int32) (x2 : Int64) (x4 : Int32), wl_X1_lowestRow_7 o_height o_sheet kx0 post n x1 x2 x4 → ∀ (H : Heap) (locs : List Loc), va_P D vwCl (w_X1_lowestRow cy a_o a_o_sheet a_o_fixed a_o_open a_o_parts r_o_sheet o_opens o_height o_low o_held o_sheet) H → va_D A (w_X1_lowestRow cy a_o a_o_sheet a_o_fixed a_o_open a_o_parts r_o_sheet o_opens o_height o_low o_held o_sheet) → va_S A s.heap H locs → ∀ (ls : Array Slot), lv_has ls 5 [(0, .ref a_o), (1, .int x1), (2, .long x2), (4, .int x4)] → W p l e ({ frames := 0, cells := 0, slots := 0, locals := 0 }) s m args below meth c H locs 0 0 Q (F0 m 7 ls []) := by
    intro  kx0 hkx0  n
    induction n with
    | zero => intro x1 x2 x4 h; exact h.elim
    | succ n hkb =>
      intro x1 x2 x4 h H locs hP hD hS ls hl
      replace h : ws_X1_lowestRow_7 o_height o_sheet (wl_X1_lowestRow_7 o_height o_sheet kx0 post n) kx0 post x1 x2 x4 := h
      generalize wl_X1_lowestRow_7 o_height o_sheet kx0 post n = kb at h hkb
      unfold ws_X1_lowestRow_7 at h
      refine lv_iload hx hb dX1_lowestRow_7 (lv_at hl 3 rfl) ?_
      refine lv_aload_n hx hb dX1_lowestRow_9 rfl (lv_at hl 0 rfl) ?_
      refine va_get (D := D) (ci := 1) (v := .int o_height) (C := RX1) (T := TX1) (N := 8) hx hb hts in_X1 hown hK hP 0 rfl rfl 5 (by decide) fl_34 (fun _ h9 => h9) rfl dX1_lowestRow_10 ?_
      refine lv_icmp_ge (tgt := 52) hx hb dX1_lowestRow_13 (by decide) (fun c1 => ?_) (fun c1 => ?_)
      · have h := h.1 c1
        exact hkx0 x1 h _ _ hP hD hS _ (lv_sub hl [1] rfl)
      · have h := h.2 c1
        refine lv_aload_n hx hb dX1_lowestRow_16 rfl (lv_at hl 0 rfl) ?_
        refine va_get (D := D) (ci := 1) (v := .ref a_o_sheet) (C := RX1) (T := TX1) (N := 8) hx hb hts in_X1 hown hK hP 0 rfl rfl 0 (by decide) fl_13 (fun _ h9 => h9) rfl dX1_lowestRow_17 ?_
        refine lv_iload hx hb dX1_lowestRow_20 (lv_at hl 3 rfl) ?_
        obtain ⟨i2, h⟩ := h
        refine mx_ald hx hb hK hP 1 5 rfl rfl i2 dX1_lowestRow_22 ?_
        refine lv_iconst (v := 4) hx hb dX1_lowestRow_23 (by decide) ?_
        refine va_lald hx hb hK hP (2 + (x4).toNatClampNeg) 2 (gJ0 (in_lt i2)) rfl (by unfold vp_in; decide) dX1_lowestRow_24 ?_
        refine lv_lload_n hx hb dX1_lowestRow_25 rfl (lv_at hl 2 rfl) ?_
        refine W.lcmp hx hb dX1_lowestRow_26 ?_
        refine lv_if_lt (tgt := 33) hx hb dX1_lowestRow_27 (by decide) (fun c3 => ?_) (fun c3 => ?_)
        · have h := h.1 (lc_lt.mp c3)
          refine lv_aload_n hx hb dX1_lowestRow_33 rfl (lv_at hl 0 rfl) ?_
          refine va_get (D := D) (ci := 1) (v := .ref a_o_sheet) (C := RX1) (T := TX1) (N := 8) hx hb hts in_X1 hown hK hP 0 rfl rfl 0 (by decide) fl_13 (fun _ h9 => h9) rfl dX1_lowestRow_34 ?_
          refine lv_iload hx hb dX1_lowestRow_37 (lv_at hl 3 rfl) ?_
          refine mx_ald hx hb hK hP 1 5 rfl rfl i2 dX1_lowestRow_39 ?_
          refine lv_iconst (v := 4) hx hb dX1_lowestRow_40 (by decide) ?_
          refine va_lald hx hb hK hP (2 + (x4).toNatClampNeg) 2 (gJ0 (in_lt i2)) rfl (by unfold vp_in; decide) dX1_lowestRow_41 ?_
          refine lv_lstore_n (lv' := [(2, .long (o_sheet (x4).toNatClampNeg ((4 : Int32)).toNatClampNeg)), (0, .ref a_o), (1, .int x1), (4, .int x4)]) hx hb dX1_lowestRow_42 rfl hl (by decide) rfl (fun ls hl => ?_)
          refine lv_iload hx hb dX1_lowestRow_43 (lv_at hl 3 rfl) ?_
          refine lv_istore_n (lv' := [(1, .int x4), (2, .long (o_sheet (x4).toNatClampNeg ((4 : Int32)).toNatClampNeg)), (0, .ref a_o), (4, .int x4)]) hx hb dX1_lowestRow_45 rfl hl (by decide) rfl (fun ls hl => ?_)
          refine lv_iinc (v := (x4 + (1 : Int32))) (lv' := [(4, .int (x4 + (1 : Int32))), (1, .int x4), (2, .long (o_sheet (x4).toNatClampNeg ((4 : Int32)).toNatClampNeg)), (0, .ref a_o)]) hx hb dX1_lowestRow_46 hl (k := 3) rfl (congrArg (fun z => x4 + z) (by decide : Int32.ofInt (1) = (1 : Int32))) (by decide) rfl (fun ls hl => ?_)
          refine lv_goto (tgt := 7) hx hb dX1_lowestRow_49 (by decide) ?_
          exact hkb x4 (o_sheet (x4).toNatClampNeg ((4 : Int32)).toNatClampNeg) (x4 + (1 : Int32)) h _ _ hP hD hS _ (lv_sub hl [3, 1, 2, 0] rfl)
        · have h := h.2 (fun z => c3 (lc_lt.mpr z))
          refine lv_goto (tgt := 46) hx hb dX1_lowestRow_30 (by decide) ?_
          refine lv_iinc (v := (x4 + (1 : Int32))) (lv' := [(4, .int (x4 + (1 : Int32))), (0, .ref a_o), (1, .int x1), (2, .long x2)]) hx hb dX1_lowestRow_46 hl (k := 3) rfl (congrArg (fun z => x4 + z) (by decide : Int32.ofInt (1) = (1 : Int32))) (by decide) rfl (fun ls hl => ?_)
          refine lv_goto (tgt := 7) hx hb dX1_lowestRow_49 (by decide) ?_
          exact hkb x1 x2 (x4 + (1 : Int32)) h _ _ hP hD hS _ (lv_sub hl [1, 2, 3, 0] rfl)
  refine ent [.ref a_o] (Nat.le_of_ble_eq_true rfl) (fun ls hl => ?_)
  have hl : lv_has ls 5 [(0, .ref a_o)] := hl
  unfold wp_X1_lowestRow at h
  refine lv_iconst (v := -1) hx hb dX1_lowestRow_0 (by decide) ?_
  refine lv_istore_n (lv' := [(1, .int (-1 : Int32)), (0, .ref a_o)]) hx hb dX1_lowestRow_1 rfl hl (by decide) rfl (fun ls hl => ?_)
  refine lv_lconst (v := 0) hx hb dX1_lowestRow_2 (by decide) ?_
  refine lv_lstore_n (lv' := [(2, .long (0 : Int64)), (1, .int (-1 : Int32)), (0, .ref a_o)]) hx hb dX1_lowestRow_3 rfl hl (by decide) rfl (fun ls hl => ?_)
  refine lv_iconst (v := 1) hx hb dX1_lowestRow_4 (by decide) ?_
  refine lv_istore (lv' := [(4, .int (1 : Int32)), (2, .long (0 : Int64)), (1, .int (-1 : Int32)), (0, .ref a_o)]) hx hb dX1_lowestRow_5 hl (by decide) rfl (fun ls hl => ?_)
  obtain ⟨n5, h⟩ := h
  refine l_7  _ ?_ n5 (-1 : Int32) (0 : Int64) (1 : Int32) h _ _ hP hD hS _ (lv_sub hl [3, 2, 1, 0] rfl)
  · intro x1_4 h H locs hP hD hS ls hl
    refine lv_iload_n hx hb dX1_lowestRow_52 rfl (lv_at hl 0 rfl) ?_
    exact hret x1_4 () _ _ _ _ h hP hD hS dX1_lowestRow_53
abbrev w_X1_fillWish (cy : Nat → ClassId) (a_o a_o_sheet a_o_fixed a_o_open a_o_parts a_p1 a_p1_isTold a_p1_least a_p1_gateOff a_p1_limit a_p1_value a_p1_kind a_p1_most a_p1_wishOff a_p1_use : Nat) (r_o_sheet : Nat → Nat) (o_opens : Int32) (o_height : Int32) (o_low : Int64) (o_held : Int32) (o_sheet : Nat → Nat → Int64) (o_open : Nat → Int32) (p1_wishes : Int32) (p1_value : Nat → Int32) (p1_most : Nat → Int32) : va_W := [(a_o, .inr (1, [.ref a_o_sheet, .ref a_o_fixed, .ref a_o_open, .ref a_o_parts, .int o_opens, .int o_height, .long o_low, .int o_held])), (a_o_sheet, .inl (cy 5, 14, .inr (.inr (.inr (.inr (mref r_o_sheet 14)))))), (a_o_open, .inl (cy 1, 4, .inl o_open)), (a_p1, .inr (4, [.ref a_p1_isTold, .ref a_p1_least, .ref a_p1_gateOff, .ref a_p1_limit, .ref a_p1_value, .ref a_p1_kind, .ref a_p1_most, .ref a_p1_wishOff, .ref a_p1_use, .int p1_wishes])), (a_p1_value, .inl (cy 1, 4, .inl p1_value)), (a_p1_most, .inl (cy 1, 4, .inl p1_most))] ++ rows14 r_o_sheet (rowJ (cy 2) 5 o_sheet) ++ []
def cx_X1_fillWish (l : Launch) (D : va_G) (cy : Nat → ClassId) (a_o : Nat) (a_o_sheet : Nat) (a_o_fixed : Nat) (a_o_open : Nat) (a_o_parts : Nat) (a_p1 : Nat) (a_p1_isTold : Nat) (a_p1_least : Nat) (a_p1_gateOff : Nat) (a_p1_limit : Nat) (a_p1_value : Nat) (a_p1_kind : Nat) (a_p1_most : Nat) (a_p1_wishOff : Nat) (a_p1_use : Nat) (r_o_sheet : Nat → Nat) (o_opens : Int32) (o_height : Int32) (o_low : Int64) (o_held : Int32) (o_open : Nat → Int32) (p1_wishes : Int32) (p1_value : Nat → Int32) (p1_most : Nat → Int32) (post : (Nat → Nat → Int64) → Prop) (p : Program) (e : Env) (s : State) (m : MethodId) (args : Array Value) (below : List Frame) (meth : Method) (c : Code) (A : Nat → Prop) (Q : State → Prop) : Prop :=
  p.tables.exec = Jvm.exec ∧
  c.code = cX1_fillWish ∧
  c.maxLocals = 6 ∧
  s.vm.findClass RX1 = some m.cls ∧
  (∀ w ∈ wsX1_fillWish, w.before args s = true) ∧
  va_K D vwCl (tysA cy) s ∧
  NW s ∧
  (∀ q : Nat, s.heap.size ≤ q → A q) ∧
  (∀ (u : (Nat → Nat → Int64)) (H : Heap) (locs : List Loc) (ls : Array Slot) (pc : Nat), post u → va_P D vwCl (w_X1_fillWish cy a_o a_o_sheet a_o_fixed a_o_open a_o_parts a_p1 a_p1_isTold a_p1_least a_p1_gateOff a_p1_limit a_p1_value a_p1_kind a_p1_most a_p1_wishOff a_p1_use r_o_sheet o_opens o_height o_low o_held u o_open p1_wishes p1_value p1_most) H → va_D A (w_X1_fillWish cy a_o a_o_sheet a_o_fixed a_o_open a_o_parts a_p1 a_p1_isTold a_p1_least a_p1_gateOff a_p1_limit a_p1_value a_p1_kind a_p1_most a_p1_wishOff a_p1_use r_o_sheet o_opens o_height o_low o_held u o_open p1_wishes p1_value p1_most) → va_S A s.heap H locs → decode cX1_fillWish pc = .ok (.return_, 1) → W p l e ({ frames := 0, cells := 0, slots := 0, locals := 0 }) s m args below meth c H locs 0 0 Q (F0 m pc ls []))
set_option maxHeartbeats 4000000 in
set_option maxRecDepth 100000 in
theorem t_X1_fillWish_j_42_1 {l : Launch} {D : va_G} {cy : Nat → ClassId} {a_o : Nat} {a_o_sheet : Nat} {a_o_fixed : Nat} {a_o_open : Nat} {a_o_parts : Nat} {a_p1 : Nat} {a_p1_isTold : Nat} {a_p1_least : Nat} {a_p1_gateOff : Nat} {a_p1_limit : Nat} {a_p1_value : Nat} {a_p1_kind : Nat} {a_p1_most : Nat} {a_p1_wishOff : Nat} {a_p1_use : Nat} {r_o_sheet : Nat → Nat} {o_opens : Int32} {o_height : Int32} {o_low : Int64} {o_held : Int32} {o_open : Nat → Int32} {p1_wishes : Int32} {p1_value : Nat → Int32} {p1_most : Nat → Int32} {post : (Nat → Nat → Int64) → Prop} {p : Program} {e : Env} {s : State} {m : MethodId} {args : Array Value} {below : List Frame} {meth : Method} {c : Code} {A : Nat → Prop} {Q : State → Prop} (C : cx_X1_fillWish l D cy a_o a_o_sheet a_o_fixed a_o_open a_o_parts a_p1 a_p1_isTold a_p1_least a_p1_gateOff a_p1_limit a_p1_value a_p1_kind a_p1_most a_p1_wishOff a_p1_use r_o_sheet o_opens o_height o_low o_held o_open p1_wishes p1_value p1_most post p e s m args below meth c A Q) : ∀ (x2 : Int32) (x3 : Int32) (x4 : Int32) (s0 : Int32) (o_sheet : Nat → Nat → Int64), wj_X1_fillWish_42  x2 x3 x4 s0 o_opens o_sheet o_open p1_value p1_most  post → ∀ (H : Heap) (locs : List Loc), va_P D vwCl (w_X1_fillWish cy a_o a_o_sheet a_o_fixed a_o_open a_o_parts a_p1 a_p1_isTold a_p1_least a_p1_gateOff a_p1_limit a_p1_value a_p1_kind a_p1_most a_p1_wishOff a_p1_use r_o_sheet o_opens o_height o_low o_held o_sheet o_open p1_wishes p1_value p1_most) H → va_D A (w_X1_fillWish cy a_o a_o_sheet a_o_fixed a_o_open a_o_parts a_p1 a_p1_isTold a_p1_least a_p1_gateOff a_p1_limit a_p1_value a_p1_kind a_p1_most a_p1_wishOff a_p1_use r_o_sheet o_opens o_height o_low o_held o_sheet o_open p1_wishes p1_value p1_most) → va_S A s.heap H locs → ∀ (ls : Array Slot), lv_has ls 6 [(0, .ref a_o), (1, .ref a_p1), (2, .int x2), (3, .int x3), (4, .int x4)] → W p l e ({ frames := 0, cells := 0, slots := 0, locals := 0 }) s m args below meth c H locs 0 0 Q (F0 m 42 ls [.int s0]) := by
    have C0 := C
    obtain ⟨hx, hb, hml, hown, hts, hK, hN, hA, hret⟩ := C0
    have in_X1 : ∀ w ∈ u_ws RX1 TX1 8, w ∈ wsX1_fillWish := by decide +kernel
    have in_X4 : ∀ w ∈ u_ws RX4 TX4 10, w ∈ wsX1_fillWish := by decide +kernel
    have fl_121 := hts (.fieldLink RX1 121 "DawnTable$Table" "value" "[I") (by decide +kernel)
    have fl_13 := hts (.fieldLink RX1 13 "DawnTable$Clearer" "sheet" "[[J") (by decide +kernel)
    have fl_30 := hts (.fieldLink RX1 30 "DawnTable$Clearer" "opens" "I") (by decide +kernel)
    have fl_94 := hts (.fieldLink RX1 94 "DawnTable$Table" "most" "[I") (by decide +kernel)
    intro x2 x3 x4 s0 o_sheet  h H locs hP hD hS ls hl
    unfold wj_X1_fillWish_42 at h
    refine lv_istore (lv' := [(5, .int s0), (0, .ref a_o), (1, .ref a_p1), (2, .int x2), (3, .int x3), (4, .int x4)]) hx hb dX1_fillWish_42 hl (by decide) rfl (fun ls hl => ?_)
    refine lv_aload_n hx hb dX1_fillWish_44 rfl (lv_at hl 1 rfl) ?_
    refine va_get (D := D) (ci := 1) (v := .ref a_o_sheet) (C := RX1) (T := TX1) (N := 8) hx hb hts in_X1 hown hK hP 0 rfl rfl 0 (by decide) fl_13 (fun _ h9 => h9) rfl dX1_fillWish_45 ?_
    refine lv_iconst (v := 0) hx hb dX1_fillWish_48 (by decide) ?_
    refine mx_ald hx hb hK hP 1 5 rfl rfl (by unfold vp_in; decide) dX1_fillWish_49 ?_
    refine lv_iconst (v := 4) hx hb dX1_fillWish_50 (by decide) ?_
    refine lv_dup2_11 hx hb dX1_fillWish_51 rfl rfl ?_
    refine va_lald hx hb hK hP (6 + ((0 : Int32)).toNatClampNeg) 2 (gJ0 (by decide)) rfl (by unfold vp_in; decide) dX1_fillWish_52 ?_
    refine lv_aload_n hx hb dX1_fillWish_53 rfl (lv_at hl 2 rfl) ?_
    refine va_get (D := D) (ci := 4) (v := .ref a_p1_value) (C := RX4) (T := TX4) (N := 10) hx hb hts in_X4 hown hK hP 3 rfl rfl 4 (by decide) fl_121 (fun _ h9 => h9) rfl dX1_fillWish_54 ?_
    refine lv_iload_n hx hb dX1_fillWish_57 rfl (lv_at hl 4 rfl) ?_
    obtain ⟨i6, h⟩ := h
    refine va_iald hx hb hK hP 4 1 rfl rfl i6 dX1_fillWish_58 ?_
    refine lv_iload hx hb dX1_fillWish_59 (lv_at hl 5 rfl) ?_
    refine lv_imul hx hb dX1_fillWish_61 ?_
    refine lv_i2l hx hb dX1_fillWish_62 rfl ?_
    refine lv_ladd hx hb dX1_fillWish_63 ?_
    refine lv_topl (fun v7 ev7 => ?_)
    have h := h v7 ev7
    refine va_last hx hb hK hP hD hS (6 + ((0 : Int32)).toNatClampNeg) 2 (gJ0 (by decide)) rfl (by unfold vp_in; decide) dX1_fillWish_64 (fun H locs hP hD hS => ?_)
    have hP : va_P D vwCl (w_X1_fillWish cy a_o a_o_sheet a_o_fixed a_o_open a_o_parts a_p1 a_p1_isTold a_p1_least a_p1_gateOff a_p1_limit a_p1_value a_p1_kind a_p1_most a_p1_wishOff a_p1_use r_o_sheet o_opens o_height o_low o_held (msetJ o_sheet ((0 : Int32)).toNatClampNeg ((4 : Int32)).toNatClampNeg v7) o_open p1_wishes p1_value p1_most) H := Eq.mp (congrArg (fun w => va_P D vwCl w H) (pJ0 (by decide))) hP
    have hD : va_D A (w_X1_fillWish cy a_o a_o_sheet a_o_fixed a_o_open a_o_parts a_p1 a_p1_isTold a_p1_least a_p1_gateOff a_p1_limit a_p1_value a_p1_kind a_p1_most a_p1_wishOff a_p1_use r_o_sheet o_opens o_height o_low o_held (msetJ o_sheet ((0 : Int32)).toNatClampNeg ((4 : Int32)).toNatClampNeg v7) o_open p1_wishes p1_value p1_most) := Eq.mp (congrArg (fun w => va_D A w) (pJ0 (by decide))) hD
    refine lv_aload_n hx hb dX1_fillWish_65 rfl (lv_at hl 1 rfl) ?_
    refine va_get (D := D) (ci := 1) (v := .ref a_o_sheet) (C := RX1) (T := TX1) (N := 8) hx hb hts in_X1 hown hK hP 0 rfl rfl 0 (by decide) fl_13 (fun _ h9 => h9) rfl dX1_fillWish_66 ?_
    refine lv_iconst (v := 0) hx hb dX1_fillWish_69 (by decide) ?_
    refine mx_ald hx hb hK hP 1 5 rfl rfl (by unfold vp_in; decide) dX1_fillWish_70 ?_
    refine lv_iload_n hx hb dX1_fillWish_71 rfl (lv_at hl 3 rfl) ?_
    refine lv_aload_n hx hb dX1_fillWish_72 rfl (lv_at hl 2 rfl) ?_
    refine va_get (D := D) (ci := 4) (v := .ref a_p1_value) (C := RX4) (T := TX4) (N := 10) hx hb hts in_X4 hown hK hP 3 rfl rfl 4 (by decide) fl_121 (fun _ h9 => h9) rfl dX1_fillWish_73 ?_
    refine lv_iload_n hx hb dX1_fillWish_76 rfl (lv_at hl 4 rfl) ?_
    refine va_iald hx hb hK hP 4 1 rfl rfl i6 dX1_fillWish_77 ?_
    refine lv_iload hx hb dX1_fillWish_78 (lv_at hl 0 rfl) ?_
    refine lv_imul hx hb dX1_fillWish_80 ?_
    refine lv_i2l hx hb dX1_fillWish_81 rfl ?_
    obtain ⟨i8, h⟩ := h
    refine va_last hx hb hK hP hD hS (6 + ((0 : Int32)).toNatClampNeg) 2 (gJ0 (by decide)) rfl i8 dX1_fillWish_82 (fun H locs hP hD hS => ?_)
    have hP : va_P D vwCl (w_X1_fillWish cy a_o a_o_sheet a_o_fixed a_o_open a_o_parts a_p1 a_p1_isTold a_p1_least a_p1_gateOff a_p1_limit a_p1_value a_p1_kind a_p1_most a_p1_wishOff a_p1_use r_o_sheet o_opens o_height o_low o_held (msetJ (msetJ o_sheet ((0 : Int32)).toNatClampNeg ((4 : Int32)).toNatClampNeg v7) ((0 : Int32)).toNatClampNeg (x2).toNatClampNeg ((((p1_value (x3).toNatClampNeg) * s0)).toInt64)) o_open p1_wishes p1_value p1_most) H := Eq.mp (congrArg (fun w => va_P D vwCl w H) (pJ0 (by decide))) hP
    have hD : va_D A (w_X1_fillWish cy a_o a_o_sheet a_o_fixed a_o_open a_o_parts a_p1 a_p1_isTold a_p1_least a_p1_gateOff a_p1_limit a_p1_value a_p1_kind a_p1_most a_p1_wishOff a_p1_use r_o_sheet o_opens o_height o_low o_held (msetJ (msetJ o_sheet ((0 : Int32)).toNatClampNeg ((4 : Int32)).toNatClampNeg v7) ((0 : Int32)).toNatClampNeg (x2).toNatClampNeg ((((p1_value (x3).toNatClampNeg) * s0)).toInt64)) o_open p1_wishes p1_value p1_most) := Eq.mp (congrArg (fun w => va_D A w) (pJ0 (by decide))) hD
    obtain ⟨f9, ef9⟩ : ∃ z : Nat → Nat → Int64, z = (msetJ (msetJ o_sheet ((0 : Int32)).toNatClampNeg ((4 : Int32)).toNatClampNeg v7) ((0 : Int32)).toNatClampNeg (x2).toNatClampNeg ((((p1_value (x3).toNatClampNeg) * s0)).toInt64)) := ⟨_, rfl⟩
    have h := h f9 ef9
    rw [← ef9] at hP hD
    refine lv_aload_n hx hb dX1_fillWish_83 rfl (lv_at hl 1 rfl) ?_
    refine va_get (D := D) (ci := 1) (v := .ref a_o_sheet) (C := RX1) (T := TX1) (N := 8) hx hb hts in_X1 hown hK hP 0 rfl rfl 0 (by decide) fl_13 (fun _ h9 => h9) rfl dX1_fillWish_84 ?_
    refine lv_iconst (v := 1) hx hb dX1_fillWish_87 (by decide) ?_
    refine lv_iload_n hx hb dX1_fillWish_88 rfl (lv_at hl 3 rfl) ?_
    refine lv_iadd hx hb dX1_fillWish_89 ?_
    obtain ⟨i10, h⟩ := h
    refine mx_ald hx hb hK hP 1 5 rfl rfl i10 dX1_fillWish_90 ?_
    refine lv_iconst (v := 4) hx hb dX1_fillWish_91 (by decide) ?_
    refine lv_iload hx hb dX1_fillWish_92 (lv_at hl 5 rfl) ?_
    refine lv_i2l hx hb dX1_fillWish_94 rfl ?_
    refine va_last hx hb hK hP hD hS (6 + (((1 : Int32) + x2)).toNatClampNeg) 2 (gJ0 (in_lt i10)) rfl (by unfold vp_in; decide) dX1_fillWish_95 (fun H locs hP hD hS => ?_)
    have hP : va_P D vwCl (w_X1_fillWish cy a_o a_o_sheet a_o_fixed a_o_open a_o_parts a_p1 a_p1_isTold a_p1_least a_p1_gateOff a_p1_limit a_p1_value a_p1_kind a_p1_most a_p1_wishOff a_p1_use r_o_sheet o_opens o_height o_low o_held (msetJ f9 (((1 : Int32) + x2)).toNatClampNeg ((4 : Int32)).toNatClampNeg ((x4).toInt64)) o_open p1_wishes p1_value p1_most) H := Eq.mp (congrArg (fun w => va_P D vwCl w H) (pJ0 (in_lt i10))) hP
    have hD : va_D A (w_X1_fillWish cy a_o a_o_sheet a_o_fixed a_o_open a_o_parts a_p1 a_p1_isTold a_p1_least a_p1_gateOff a_p1_limit a_p1_value a_p1_kind a_p1_most a_p1_wishOff a_p1_use r_o_sheet o_opens o_height o_low o_held (msetJ f9 (((1 : Int32) + x2)).toNatClampNeg ((4 : Int32)).toNatClampNeg ((x4).toInt64)) o_open p1_wishes p1_value p1_most) := Eq.mp (congrArg (fun w => va_D A w) (pJ0 (in_lt i10))) hD
    refine lv_aload_n hx hb dX1_fillWish_96 rfl (lv_at hl 1 rfl) ?_
    refine va_get (D := D) (ci := 1) (v := .ref a_o_sheet) (C := RX1) (T := TX1) (N := 8) hx hb hts in_X1 hown hK hP 0 rfl rfl 0 (by decide) fl_13 (fun _ h9 => h9) rfl dX1_fillWish_97 ?_
    refine lv_iconst (v := 1) hx hb dX1_fillWish_100 (by decide) ?_
    refine lv_iload_n hx hb dX1_fillWish_101 rfl (lv_at hl 3 rfl) ?_
    refine lv_iadd hx hb dX1_fillWish_102 ?_
    refine mx_ald hx hb hK hP 1 5 rfl rfl i10 dX1_fillWish_103 ?_
    refine lv_iload_n hx hb dX1_fillWish_104 rfl (lv_at hl 3 rfl) ?_
    refine lv_iload hx hb dX1_fillWish_105 (lv_at hl 0 rfl) ?_
    refine lv_i2l hx hb dX1_fillWish_107 rfl ?_
    refine va_last hx hb hK hP hD hS (6 + (((1 : Int32) + x2)).toNatClampNeg) 2 (gJ0 (in_lt i10)) rfl i8 dX1_fillWish_108 (fun H locs hP hD hS => ?_)
    have hP : va_P D vwCl (w_X1_fillWish cy a_o a_o_sheet a_o_fixed a_o_open a_o_parts a_p1 a_p1_isTold a_p1_least a_p1_gateOff a_p1_limit a_p1_value a_p1_kind a_p1_most a_p1_wishOff a_p1_use r_o_sheet o_opens o_height o_low o_held (msetJ (msetJ f9 (((1 : Int32) + x2)).toNatClampNeg ((4 : Int32)).toNatClampNeg ((x4).toInt64)) (((1 : Int32) + x2)).toNatClampNeg (x2).toNatClampNeg ((s0).toInt64)) o_open p1_wishes p1_value p1_most) H := Eq.mp (congrArg (fun w => va_P D vwCl w H) (pJ0 (in_lt i10))) hP
    have hD : va_D A (w_X1_fillWish cy a_o a_o_sheet a_o_fixed a_o_open a_o_parts a_p1 a_p1_isTold a_p1_least a_p1_gateOff a_p1_limit a_p1_value a_p1_kind a_p1_most a_p1_wishOff a_p1_use r_o_sheet o_opens o_height o_low o_held (msetJ (msetJ f9 (((1 : Int32) + x2)).toNatClampNeg ((4 : Int32)).toNatClampNeg ((x4).toInt64)) (((1 : Int32) + x2)).toNatClampNeg (x2).toNatClampNeg ((s0).toInt64)) o_open p1_wishes p1_value p1_most) := Eq.mp (congrArg (fun w => va_D A w) (pJ0 (in_lt i10))) hD
    obtain ⟨f11, ef11⟩ : ∃ z : Nat → Nat → Int64, z = (msetJ (msetJ f9 (((1 : Int32) + x2)).toNatClampNeg ((4 : Int32)).toNatClampNeg ((x4).toInt64)) (((1 : Int32) + x2)).toNatClampNeg (x2).toNatClampNeg ((s0).toInt64)) := ⟨_, rfl⟩
    have h := h f11 ef11
    rw [← ef11] at hP hD
    refine lv_aload_n hx hb dX1_fillWish_109 rfl (lv_at hl 1 rfl) ?_
    refine va_get (D := D) (ci := 1) (v := .ref a_o_sheet) (C := RX1) (T := TX1) (N := 8) hx hb hts in_X1 hown hK hP 0 rfl rfl 0 (by decide) fl_13 (fun _ h9 => h9) rfl dX1_fillWish_110 ?_
    refine lv_iconst (v := 1) hx hb dX1_fillWish_113 (by decide) ?_
    refine lv_aload_n hx hb dX1_fillWish_114 rfl (lv_at hl 1 rfl) ?_
    refine va_get (D := D) (ci := 1) (v := .int o_opens) (C := RX1) (T := TX1) (N := 8) hx hb hts in_X1 hown hK hP 0 rfl rfl 4 (by decide) fl_30 (fun _ h9 => h9) rfl dX1_fillWish_115 ?_
    refine lv_iadd hx hb dX1_fillWish_118 ?_
    refine lv_iload_n hx hb dX1_fillWish_119 rfl (lv_at hl 3 rfl) ?_
    refine lv_iadd hx hb dX1_fillWish_120 ?_
    obtain ⟨i12, h⟩ := h
    refine mx_ald hx hb hK hP 1 5 rfl rfl i12 dX1_fillWish_121 ?_
    refine lv_iconst (v := 4) hx hb dX1_fillWish_122 (by decide) ?_
    refine lv_aload_n hx hb dX1_fillWish_123 rfl (lv_at hl 2 rfl) ?_
    refine va_get (D := D) (ci := 4) (v := .ref a_p1_most) (C := RX4) (T := TX4) (N := 10) hx hb hts in_X4 hown hK hP 3 rfl rfl 6 (by decide) fl_94 (fun _ h9 => h9) rfl dX1_fillWish_124 ?_
    refine lv_iload_n hx hb dX1_fillWish_127 rfl (lv_at hl 4 rfl) ?_
    refine va_iald hx hb hK hP 5 1 rfl rfl i6 dX1_fillWish_128 ?_
    refine lv_iload hx hb dX1_fillWish_129 (lv_at hl 5 rfl) ?_
    refine lv_isub hx hb dX1_fillWish_131 ?_
    refine lv_i2l hx hb dX1_fillWish_132 rfl ?_
    refine va_last hx hb hK hP hD hS (6 + ((((1 : Int32) + o_opens) + x2)).toNatClampNeg) 2 (gJ0 (in_lt i12)) rfl (by unfold vp_in; decide) dX1_fillWish_133 (fun H locs hP hD hS => ?_)
    have hP : va_P D vwCl (w_X1_fillWish cy a_o a_o_sheet a_o_fixed a_o_open a_o_parts a_p1 a_p1_isTold a_p1_least a_p1_gateOff a_p1_limit a_p1_value a_p1_kind a_p1_most a_p1_wishOff a_p1_use r_o_sheet o_opens o_height o_low o_held (msetJ f11 ((((1 : Int32) + o_opens) + x2)).toNatClampNeg ((4 : Int32)).toNatClampNeg ((((p1_most (x3).toNatClampNeg) - x4)).toInt64)) o_open p1_wishes p1_value p1_most) H := Eq.mp (congrArg (fun w => va_P D vwCl w H) (pJ0 (in_lt i12))) hP
    have hD : va_D A (w_X1_fillWish cy a_o a_o_sheet a_o_fixed a_o_open a_o_parts a_p1 a_p1_isTold a_p1_least a_p1_gateOff a_p1_limit a_p1_value a_p1_kind a_p1_most a_p1_wishOff a_p1_use r_o_sheet o_opens o_height o_low o_held (msetJ f11 ((((1 : Int32) + o_opens) + x2)).toNatClampNeg ((4 : Int32)).toNatClampNeg ((((p1_most (x3).toNatClampNeg) - x4)).toInt64)) o_open p1_wishes p1_value p1_most) := Eq.mp (congrArg (fun w => va_D A w) (pJ0 (in_lt i12))) hD
    obtain ⟨f13, ef13⟩ : ∃ z : Nat → Nat → Int64, z = (msetJ f11 ((((1 : Int32) + o_opens) + x2)).toNatClampNeg ((4 : Int32)).toNatClampNeg ((((p1_most (x3).toNatClampNeg) - x4)).toInt64)) := ⟨_, rfl⟩
    have h := h f13 ef13
    rw [← ef13] at hP hD
    refine lv_aload_n hx hb dX1_fillWish_134 rfl (lv_at hl 1 rfl) ?_
    refine va_get (D := D) (ci := 1) (v := .ref a_o_sheet) (C := RX1) (T := TX1) (N := 8) hx hb hts in_X1 hown hK hP 0 rfl rfl 0 (by decide) fl_13 (fun _ h9 => h9) rfl dX1_fillWish_135 ?_
    refine lv_iconst (v := 1) hx hb dX1_fillWish_138 (by decide) ?_
    refine lv_aload_n hx hb dX1_fillWish_139 rfl (lv_at hl 1 rfl) ?_
    refine va_get (D := D) (ci := 1) (v := .int o_opens) (C := RX1) (T := TX1) (N := 8) hx hb hts in_X1 hown hK hP 0 rfl rfl 4 (by decide) fl_30 (fun _ h9 => h9) rfl dX1_fillWish_140 ?_
    refine lv_iadd hx hb dX1_fillWish_143 ?_
    refine lv_iload_n hx hb dX1_fillWish_144 rfl (lv_at hl 3 rfl) ?_
    refine lv_iadd hx hb dX1_fillWish_145 ?_
    refine mx_ald hx hb hK hP 1 5 rfl rfl i12 dX1_fillWish_146 ?_
    refine lv_iload_n hx hb dX1_fillWish_147 rfl (lv_at hl 3 rfl) ?_
    refine lv_iload hx hb dX1_fillWish_148 (lv_at hl 0 rfl) ?_
    refine lv_ineg hx hb dX1_fillWish_150 ?_
    refine lv_i2l hx hb dX1_fillWish_151 rfl ?_
    refine va_last hx hb hK hP hD hS (6 + ((((1 : Int32) + o_opens) + x2)).toNatClampNeg) 2 (gJ0 (in_lt i12)) rfl i8 dX1_fillWish_152 (fun H locs hP hD hS => ?_)
    have hP : va_P D vwCl (w_X1_fillWish cy a_o a_o_sheet a_o_fixed a_o_open a_o_parts a_p1 a_p1_isTold a_p1_least a_p1_gateOff a_p1_limit a_p1_value a_p1_kind a_p1_most a_p1_wishOff a_p1_use r_o_sheet o_opens o_height o_low o_held (msetJ f13 ((((1 : Int32) + o_opens) + x2)).toNatClampNeg (x2).toNatClampNeg (((-s0)).toInt64)) o_open p1_wishes p1_value p1_most) H := Eq.mp (congrArg (fun w => va_P D vwCl w H) (pJ0 (in_lt i12))) hP
    have hD : va_D A (w_X1_fillWish cy a_o a_o_sheet a_o_fixed a_o_open a_o_parts a_p1 a_p1_isTold a_p1_least a_p1_gateOff a_p1_limit a_p1_value a_p1_kind a_p1_most a_p1_wishOff a_p1_use r_o_sheet o_opens o_height o_low o_held (msetJ f13 ((((1 : Int32) + o_opens) + x2)).toNatClampNeg (x2).toNatClampNeg (((-s0)).toInt64)) o_open p1_wishes p1_value p1_most) := Eq.mp (congrArg (fun w => va_D A w) (pJ0 (in_lt i12))) hD
    obtain ⟨f14, ef14⟩ : ∃ z : Nat → Nat → Int64, z = (msetJ f13 ((((1 : Int32) + o_opens) + x2)).toNatClampNeg (x2).toNatClampNeg (((-s0)).toInt64)) := ⟨_, rfl⟩
    have h := h f14 ef14
    rw [← ef14] at hP hD
    exact hret (f14) _ _ _ _ h hP hD hS dX1_fillWish_153
set_option maxHeartbeats 4000000 in
set_option maxRecDepth 100000 in
theorem t_X1_fillWish_j_26_0 {l : Launch} {D : va_G} {cy : Nat → ClassId} {a_o : Nat} {a_o_sheet : Nat} {a_o_fixed : Nat} {a_o_open : Nat} {a_o_parts : Nat} {a_p1 : Nat} {a_p1_isTold : Nat} {a_p1_least : Nat} {a_p1_gateOff : Nat} {a_p1_limit : Nat} {a_p1_value : Nat} {a_p1_kind : Nat} {a_p1_most : Nat} {a_p1_wishOff : Nat} {a_p1_use : Nat} {r_o_sheet : Nat → Nat} {o_opens : Int32} {o_height : Int32} {o_low : Int64} {o_held : Int32} {o_open : Nat → Int32} {p1_wishes : Int32} {p1_value : Nat → Int32} {p1_most : Nat → Int32} {post : (Nat → Nat → Int64) → Prop} {p : Program} {e : Env} {s : State} {m : MethodId} {args : Array Value} {below : List Frame} {meth : Method} {c : Code} {A : Nat → Prop} {Q : State → Prop} (C : cx_X1_fillWish l D cy a_o a_o_sheet a_o_fixed a_o_open a_o_parts a_p1 a_p1_isTold a_p1_least a_p1_gateOff a_p1_limit a_p1_value a_p1_kind a_p1_most a_p1_wishOff a_p1_use r_o_sheet o_opens o_height o_low o_held o_open p1_wishes p1_value p1_most post p e s m args below meth c A Q) : ∀ (x2 : Int32) (x3 : Int32) (s0 : Int32) (o_sheet : Nat → Nat → Int64), wj_X1_fillWish_26  x2 x3 s0 o_opens o_sheet o_open p1_value p1_most  post → ∀ (H : Heap) (locs : List Loc), va_P D vwCl (w_X1_fillWish cy a_o a_o_sheet a_o_fixed a_o_open a_o_parts a_p1 a_p1_isTold a_p1_least a_p1_gateOff a_p1_limit a_p1_value a_p1_kind a_p1_most a_p1_wishOff a_p1_use r_o_sheet o_opens o_height o_low o_held o_sheet o_open p1_wishes p1_value p1_most) H → va_D A (w_X1_fillWish cy a_o a_o_sheet a_o_fixed a_o_open a_o_parts a_p1 a_p1_isTold a_p1_least a_p1_gateOff a_p1_limit a_p1_value a_p1_kind a_p1_most a_p1_wishOff a_p1_use r_o_sheet o_opens o_height o_low o_held o_sheet o_open p1_wishes p1_value p1_most) → va_S A s.heap H locs → ∀ (ls : Array Slot), lv_has ls 6 [(0, .ref a_o), (1, .ref a_p1), (2, .int x2), (3, .int x3)] → W p l e ({ frames := 0, cells := 0, slots := 0, locals := 0 }) s m args below meth c H locs 0 0 Q (F0 m 26 ls [.int s0]) := by
    have C0 := C
    obtain ⟨hx, hb, hml, hown, hts, hK, hN, hA, hret⟩ := C0
    have in_X4 : ∀ w ∈ u_ws RX4 TX4 10, w ∈ wsX1_fillWish := by decide +kernel
    have fl_121 := hts (.fieldLink RX1 121 "DawnTable$Table" "value" "[I") (by decide +kernel)
    have j_42_1 := t_X1_fillWish_j_42_1 C
    intro x2 x3 s0 o_sheet  h H locs hP hD hS ls hl
    unfold wj_X1_fillWish_26 at h
    refine lv_istore (lv' := [(4, .int s0), (0, .ref a_o), (1, .ref a_p1), (2, .int x2), (3, .int x3)]) hx hb dX1_fillWish_26 hl (by decide) rfl (fun ls hl => ?_)
    refine lv_aload_n hx hb dX1_fillWish_28 rfl (lv_at hl 2 rfl) ?_
    refine va_get (D := D) (ci := 4) (v := .ref a_p1_value) (C := RX4) (T := TX4) (N := 10) hx hb hts in_X4 hown hK hP 3 rfl rfl 4 (by decide) fl_121 (fun _ h9 => h9) rfl dX1_fillWish_29 ?_
    refine lv_iload_n hx hb dX1_fillWish_32 rfl (lv_at hl 4 rfl) ?_
    obtain ⟨i4, h⟩ := h
    refine va_iald hx hb hK hP 4 1 rfl rfl i4 dX1_fillWish_33 ?_
    refine lv_if_le (tgt := 41) hx hb dX1_fillWish_34 (by decide) (fun c5 => ?_) (fun c5 => ?_)
    · have h := h.1 c5
      refine lv_iconst (v := 1) hx hb dX1_fillWish_41 (by decide) ?_
      exact j_42_1 x2 x3 s0 (1 : Int32) o_sheet h _ _ hP hD hS _ (lv_sub hl [1, 2, 3, 4, 0] rfl)
    · have h := h.2 c5
      refine lv_iconst (v := -1) hx hb dX1_fillWish_37 (by decide) ?_
      refine lv_goto (tgt := 42) hx hb dX1_fillWish_38 (by decide) ?_
      exact j_42_1 x2 x3 s0 (-1 : Int32) o_sheet h _ _ hP hD hS _ (lv_sub hl [1, 2, 3, 4, 0] rfl)
set_option maxHeartbeats 4000000 in
set_option maxRecDepth 100000 in
theorem c_X1_fillWish (l : Launch) (D : va_G) (cy : Nat → ClassId) (a_o a_o_sheet a_o_fixed a_o_open a_o_parts a_p1 a_p1_isTold a_p1_least a_p1_gateOff a_p1_limit a_p1_value a_p1_kind a_p1_most a_p1_wishOff a_p1_use : Nat) (r_o_sheet : Nat → Nat) (sz : Nat)  {o_opens : Int32} {o_height : Int32} {o_low : Int64} {o_held : Int32} {o_sheet : Nat → Nat → Int64} {o_open : Nat → Int32} {p1_wishes : Int32} {p1_value : Nat → Int32} {p1_most : Nat → Int32} {x2 : Int32} {post : (Nat → Nat → Int64) → Prop} (h : wp_X1_fillWish o_opens o_sheet o_open p1_value p1_most x2 post) : Met l yX1_fillWish wsX1_fillWish ({ frames := 0, cells := 0, slots := 0, locals := 0 }) (va_Pc [.ref a_o, .ref a_p1, .int x2] (wI D cy sz (w_X1_fillWish cy a_o a_o_sheet a_o_fixed a_o_open a_o_parts a_p1 a_p1_isTold a_p1_least a_p1_gateOff a_p1_limit a_p1_value a_p1_kind a_p1_most a_p1_wishOff a_p1_use r_o_sheet o_opens o_height o_low o_held o_sheet o_open p1_wishes p1_value p1_most))) (va_Qv (fun (u : (Nat → Nat → Int64)) => post u) (fun (u : (Nat → Nat → Int64)) t => wO D cy (va_A (w_X1_fillWish cy a_o a_o_sheet a_o_fixed a_o_open a_o_parts a_p1 a_p1_isTold a_p1_least a_p1_gateOff a_p1_limit a_p1_value a_p1_kind a_p1_most a_p1_wishOff a_p1_use r_o_sheet o_opens o_height o_low o_held o_sheet o_open p1_wishes p1_value p1_most) sz) (w_X1_fillWish cy a_o a_o_sheet a_o_fixed a_o_open a_o_parts a_p1 a_p1_isTold a_p1_least a_p1_gateOff a_p1_limit a_p1_value a_p1_kind a_p1_most a_p1_wishOff a_p1_use r_o_sheet o_opens o_height o_low o_held u o_open p1_wishes p1_value p1_most) t) (va_A (w_X1_fillWish cy a_o a_o_sheet a_o_fixed a_o_open a_o_parts a_p1 a_p1_isTold a_p1_least a_p1_gateOff a_p1_limit a_p1_value a_p1_kind a_p1_most a_p1_wishOff a_p1_use r_o_sheet o_opens o_height o_low o_held o_sheet o_open p1_wishes p1_value p1_most) sz)) 0 0 (va_A (w_X1_fillWish cy a_o a_o_sheet a_o_fixed a_o_open a_o_parts a_p1 a_p1_isTold a_p1_least a_p1_gateOff a_p1_limit a_p1_value a_p1_kind a_p1_most a_p1_wishOff a_p1_use r_o_sheet o_opens o_height o_low o_held o_sheet o_open p1_wishes p1_value p1_most) sz) := by
  refine contrV (S := (Nat → Nat → Int64)) (post := fun (u : (Nat → Nat → Int64)) => post u) (wOut := fun (u : (Nat → Nat → Int64)) => (w_X1_fillWish cy a_o a_o_sheet a_o_fixed a_o_open a_o_parts a_p1 a_p1_isTold a_p1_least a_p1_gateOff a_p1_limit a_p1_value a_p1_kind a_p1_most a_p1_wishOff a_p1_use r_o_sheet o_opens o_height o_low o_held u o_open p1_wishes p1_value p1_most)) (cc := cX1_fillWish) (maxL := 6) (own := RX1) (by decide +kernel) rfl rfl ?_
  intro p e s m args below meth c A Q hx hb hml hown hts hK hN hP hD hS hA hret
  have in_X1 : ∀ w ∈ u_ws RX1 TX1 8, w ∈ wsX1_fillWish := by decide +kernel
  have fl_20 := hts (.fieldLink RX1 20 "DawnTable$Clearer" "open" "[I") (by decide +kernel)
  have in_X4 : ∀ w ∈ u_ws RX4 TX4 10, w ∈ wsX1_fillWish := by decide +kernel
  have fl_121 := hts (.fieldLink RX1 121 "DawnTable$Table" "value" "[I") (by decide +kernel)
  have fl_13 := hts (.fieldLink RX1 13 "DawnTable$Clearer" "sheet" "[[J") (by decide +kernel)
  have fl_30 := hts (.fieldLink RX1 30 "DawnTable$Clearer" "opens" "I") (by decide +kernel)
  have fl_94 := hts (.fieldLink RX1 94 "DawnTable$Table" "most" "[I") (by decide +kernel)
  have C : cx_X1_fillWish l D cy a_o a_o_sheet a_o_fixed a_o_open a_o_parts a_p1 a_p1_isTold a_p1_least a_p1_gateOff a_p1_limit a_p1_value a_p1_kind a_p1_most a_p1_wishOff a_p1_use r_o_sheet o_opens o_height o_low o_held o_open p1_wishes p1_value p1_most post p e s m args below meth c A Q := ⟨hx, hb, hml, hown, hts, hK, hN, hA, hret⟩
  have j_26_0 := t_X1_fillWish_j_26_0 C
  refine ent [.ref a_o, .ref a_p1, .int x2] (Nat.le_of_ble_eq_true rfl) (fun ls hl => ?_)
  have hl : lv_has ls 6 [(0, .ref a_o), (1, .ref a_p1), (2, .int x2)] := hl
  unfold wp_X1_fillWish at h
  refine lv_aload_n hx hb dX1_fillWish_0 rfl (lv_at hl 0 rfl) ?_
  refine va_get (D := D) (ci := 1) (v := .ref a_o_open) (C := RX1) (T := TX1) (N := 8) hx hb hts in_X1 hown hK hP 0 rfl rfl 2 (by decide) fl_20 (fun _ h9 => h9) rfl dX1_fillWish_1 ?_
  refine lv_iload_n hx hb dX1_fillWish_4 rfl (lv_at hl 2 rfl) ?_
  obtain ⟨i1, h⟩ := h
  refine va_iald hx hb hK hP 2 1 rfl rfl i1 dX1_fillWish_5 ?_
  refine lv_istore_n (lv' := [(3, .int (o_open (x2).toNatClampNeg)), (0, .ref a_o), (1, .ref a_p1), (2, .int x2)]) hx hb dX1_fillWish_6 rfl hl (by decide) rfl (fun ls hl => ?_)
  refine lv_aload_n hx hb dX1_fillWish_7 rfl (lv_at hl 2 rfl) ?_
  refine va_get (D := D) (ci := 4) (v := .ref a_p1_value) (C := RX4) (T := TX4) (N := 10) hx hb hts in_X4 hown hK hP 3 rfl rfl 4 (by decide) fl_121 (fun _ h9 => h9) rfl dX1_fillWish_8 ?_
  refine lv_iload_n hx hb dX1_fillWish_11 rfl (lv_at hl 0 rfl) ?_
  obtain ⟨i2, h⟩ := h
  refine va_iald hx hb hK hP 4 1 rfl rfl i2 dX1_fillWish_12 ?_
  refine lv_if_le (tgt := 25) hx hb dX1_fillWish_13 (by decide) (fun c3 => ?_) (fun c3 => ?_)
  · have h := h.1 c3
    refine lv_iconst (v := 0) hx hb dX1_fillWish_25 (by decide) ?_
    exact j_26_0 x2 (o_open (x2).toNatClampNeg) (0 : Int32) o_sheet h _ _ hP hD hS _ (lv_sub hl [1, 2, 3, 0] rfl)
  · have h := h.2 c3
    refine lv_aload_n hx hb dX1_fillWish_16 rfl (lv_at hl 2 rfl) ?_
    refine va_get (D := D) (ci := 4) (v := .ref a_p1_most) (C := RX4) (T := TX4) (N := 10) hx hb hts in_X4 hown hK hP 3 rfl rfl 6 (by decide) fl_94 (fun _ h9 => h9) rfl dX1_fillWish_17 ?_
    refine lv_iload_n hx hb dX1_fillWish_20 rfl (lv_at hl 0 rfl) ?_
    refine va_iald hx hb hK hP 5 1 rfl rfl i2 dX1_fillWish_21 ?_
    refine lv_goto (tgt := 26) hx hb dX1_fillWish_22 (by decide) ?_
    exact j_26_0 x2 (o_open (x2).toNatClampNeg) (p1_most ((o_open (x2).toNatClampNeg)).toNatClampNeg) o_sheet h _ _ hP hD hS _ (lv_sub hl [1, 2, 3, 0] rfl)
abbrev w_X1_fillGate (cy : Nat → ClassId) (a_o a_o_sheet a_o_fixed a_o_open a_o_parts a_p1 a_p1_isTold a_p1_least a_p1_gateOff a_p1_limit a_p1_value a_p1_kind a_p1_most a_p1_wishOff a_p1_use : Nat) (r_o_sheet r_p1_use : Nat → Nat) (o_opens : Int32) (o_height : Int32) (o_low : Int64) (o_held : Int32) (o_sheet : Nat → Nat → Int64) (o_fixed : Nat → Int32) (o_open : Nat → Int32) (p1_wishes : Int32) (p1_least : Nat → Int32) (p1_limit : Nat → Int32) (p1_use : Nat → Nat → Int32) : va_W := [(a_o, .inr (1, [.ref a_o_sheet, .ref a_o_fixed, .ref a_o_open, .ref a_o_parts, .int o_opens, .int o_height, .long o_low, .int o_held])), (a_o_sheet, .inl (cy 5, 14, .inr (.inr (.inr (.inr (mref r_o_sheet 14)))))), (a_o_fixed, .inl (cy 1, 4, .inl o_fixed)), (a_o_open, .inl (cy 1, 4, .inl o_open)), (a_p1, .inr (4, [.ref a_p1_isTold, .ref a_p1_least, .ref a_p1_gateOff, .ref a_p1_limit, .ref a_p1_value, .ref a_p1_kind, .ref a_p1_most, .ref a_p1_wishOff, .ref a_p1_use, .int p1_wishes])), (a_p1_least, .inl (cy 3, 5, .inl p1_least)), (a_p1_limit, .inl (cy 1, 5, .inl p1_limit)), (a_p1_use, .inl (cy 4, 4, .inr (.inr (.inr (.inr (mref r_p1_use 4))))))] ++ rows14 r_o_sheet (rowJ (cy 2) 5 o_sheet) ++ (rows4 r_p1_use (rowI (cy 1) 5 p1_use) ++ [])
def cx_X1_fillGate (l : Launch) (D : va_G) (cy : Nat → ClassId) (a_o : Nat) (a_o_sheet : Nat) (a_o_fixed : Nat) (a_o_open : Nat) (a_o_parts : Nat) (a_p1 : Nat) (a_p1_isTold : Nat) (a_p1_least : Nat) (a_p1_gateOff : Nat) (a_p1_limit : Nat) (a_p1_value : Nat) (a_p1_kind : Nat) (a_p1_most : Nat) (a_p1_wishOff : Nat) (a_p1_use : Nat) (r_o_sheet : Nat → Nat) (r_p1_use : Nat → Nat) (o_opens : Int32) (o_low : Int64) (o_held : Int32) (o_fixed : Nat → Int32) (o_open : Nat → Int32) (p1_wishes : Int32) (p1_least : Nat → Int32) (p1_limit : Nat → Int32) (p1_use : Nat → Nat → Int32) (post : Int32 → (Nat → Nat → Int64) → Prop) (p : Program) (e : Env) (s : State) (m : MethodId) (args : Array Value) (below : List Frame) (meth : Method) (c : Code) (A : Nat → Prop) (Q : State → Prop) : Prop :=
  p.tables.exec = Jvm.exec ∧
  c.code = cX1_fillGate ∧
  c.maxLocals = 9 ∧
  s.vm.findClass RX1 = some m.cls ∧
  (∀ w ∈ wsX1_fillGate, w.before args s = true) ∧
  va_K D vwCl (tysA cy) s ∧
  NW s ∧
  (∀ q : Nat, s.heap.size ≤ q → A q) ∧
  (∀ (u : Int32 × (Nat → Nat → Int64)) (H : Heap) (locs : List Loc) (ls : Array Slot) (pc : Nat), post u.1 u.2 → va_P D vwCl (w_X1_fillGate cy a_o a_o_sheet a_o_fixed a_o_open a_o_parts a_p1 a_p1_isTold a_p1_least a_p1_gateOff a_p1_limit a_p1_value a_p1_kind a_p1_most a_p1_wishOff a_p1_use r_o_sheet r_p1_use o_opens u.1 o_low o_held u.2 o_fixed o_open p1_wishes p1_least p1_limit p1_use) H → va_D A (w_X1_fillGate cy a_o a_o_sheet a_o_fixed a_o_open a_o_parts a_p1 a_p1_isTold a_p1_least a_p1_gateOff a_p1_limit a_p1_value a_p1_kind a_p1_most a_p1_wishOff a_p1_use r_o_sheet r_p1_use o_opens u.1 o_low o_held u.2 o_fixed o_open p1_wishes p1_least p1_limit p1_use) → va_S A s.heap H locs → decode cX1_fillGate pc = .ok (.return_, 1) → W p l e ({ frames := 0, cells := 0, slots := 0, locals := 0 }) s m args below meth c H locs 0 0 Q (F0 m pc ls []))
set_option maxHeartbeats 4000000 in
set_option maxRecDepth 100000 in
theorem t_X1_fillGate_l_59 {l : Launch} {D : va_G} {cy : Nat → ClassId} {a_o : Nat} {a_o_sheet : Nat} {a_o_fixed : Nat} {a_o_open : Nat} {a_o_parts : Nat} {a_p1 : Nat} {a_p1_isTold : Nat} {a_p1_least : Nat} {a_p1_gateOff : Nat} {a_p1_limit : Nat} {a_p1_value : Nat} {a_p1_kind : Nat} {a_p1_most : Nat} {a_p1_wishOff : Nat} {a_p1_use : Nat} {r_o_sheet : Nat → Nat} {r_p1_use : Nat → Nat} {o_opens : Int32} {o_low : Int64} {o_held : Int32} {o_fixed : Nat → Int32} {o_open : Nat → Int32} {p1_wishes : Int32} {p1_least : Nat → Int32} {p1_limit : Nat → Int32} {p1_use : Nat → Nat → Int32} {post : Int32 → (Nat → Nat → Int64) → Prop} {p : Program} {e : Env} {s : State} {m : MethodId} {args : Array Value} {below : List Frame} {meth : Method} {c : Code} {A : Nat → Prop} {Q : State → Prop} (C : cx_X1_fillGate l D cy a_o a_o_sheet a_o_fixed a_o_open a_o_parts a_p1 a_p1_isTold a_p1_least a_p1_gateOff a_p1_limit a_p1_value a_p1_kind a_p1_most a_p1_wishOff a_p1_use r_o_sheet r_p1_use o_opens o_low o_held o_fixed o_open p1_wishes p1_least p1_limit p1_use post p e s m args below meth c A Q) : ∀ (x2 : Int32) (y3 : Int32) (x4 : Int32) (o_height : Int32) (o_sheet : Nat → Nat → Int64), ∀ (kx0 : Int64 → Prop), (∀ (x5 : Int64), kx0 x5 → ∀ (H : Heap) (locs : List Loc), va_P D vwCl (w_X1_fillGate cy a_o a_o_sheet a_o_fixed a_o_open a_o_parts a_p1 a_p1_isTold a_p1_least a_p1_gateOff a_p1_limit a_p1_value a_p1_kind a_p1_most a_p1_wishOff a_p1_use r_o_sheet r_p1_use o_opens o_height o_low o_held o_sheet o_fixed o_open p1_wishes p1_least p1_limit p1_use) H → va_D A (w_X1_fillGate cy a_o a_o_sheet a_o_fixed a_o_open a_o_parts a_p1 a_p1_isTold a_p1_least a_p1_gateOff a_p1_limit a_p1_value a_p1_kind a_p1_most a_p1_wishOff a_p1_use r_o_sheet r_p1_use o_opens o_height o_low o_held o_sheet o_fixed o_open p1_wishes p1_least p1_limit p1_use) → va_S A s.heap H locs → ∀ (ls : Array Slot), lv_has ls 9 [(0, .ref a_o), (1, .ref a_p1), (2, .int x2), (3, .ref (r_o_sheet (y3).toNatClampNeg)), (4, .int x4), (5, .long x5)] → W p l e ({ frames := 0, cells := 0, slots := 0, locals := 0 }) s m args below meth c H locs 0 0 Q (F0 m 104 ls [])) → ∀ (n : Nat) (x5 : Int64) (x7 : Int32), wl_X1_fillGate_59 x2 y3 x4 o_opens o_height o_sheet o_fixed o_open p1_least p1_limit p1_use kx0 post n x5 x7 → ∀ (H : Heap) (locs : List Loc), va_P D vwCl (w_X1_fillGate cy a_o a_o_sheet a_o_fixed a_o_open a_o_parts a_p1 a_p1_isTold a_p1_least a_p1_gateOff a_p1_limit a_p1_value a_p1_kind a_p1_most a_p1_wishOff a_p1_use r_o_sheet r_p1_use o_opens o_height o_low o_held o_sheet o_fixed o_open p1_wishes p1_least p1_limit p1_use) H → va_D A (w_X1_fillGate cy a_o a_o_sheet a_o_fixed a_o_open a_o_parts a_p1 a_p1_isTold a_p1_least a_p1_gateOff a_p1_limit a_p1_value a_p1_kind a_p1_most a_p1_wishOff a_p1_use r_o_sheet r_p1_use o_opens o_height o_low o_held o_sheet o_fixed o_open p1_wishes p1_least p1_limit p1_use) → va_S A s.heap H locs → ∀ (ls : Array Slot), lv_has ls 9 [(0, .ref a_o), (1, .ref a_p1), (2, .int x2), (3, .ref (r_o_sheet (y3).toNatClampNeg)), (4, .int x4), (5, .long x5), (7, .int x7)] → W p l e ({ frames := 0, cells := 0, slots := 0, locals := 0 }) s m args below meth c H locs 0 0 Q (F0 m 59 ls []) := by
    have C0 := C
    obtain ⟨hx, hb, hml, hown, hts, hK, hN, hA, hret⟩ := C0
    have in_X1 : ∀ w ∈ u_ws RX1 TX1 8, w ∈ wsX1_fillGate := by decide +kernel
    have in_X4 : ∀ w ∈ u_ws RX4 TX4 10, w ∈ wsX1_fillGate := by decide +kernel
    have fl_16 := hts (.fieldLink RX1 16 "DawnTable$Clearer" "fixed" "[I") (by decide +kernel)
    have fl_137 := hts (.fieldLink RX1 137 "DawnTable$Table" "use" "[[I") (by decide +kernel)
    intro x2 y3 x4 o_height o_sheet kx0 hkx0  n
    induction n with
    | zero => intro x5 x7 h; exact h.elim
    | succ n hkb =>
      intro x5 x7 h H locs hP hD hS ls hl
      replace h : ws_X1_fillGate_59 x2 y3 x4 o_opens o_height o_sheet o_fixed o_open p1_least p1_limit p1_use (wl_X1_fillGate_59 x2 y3 x4 o_opens o_height o_sheet o_fixed o_open p1_least p1_limit p1_use kx0 post n) kx0 post x5 x7 := h
      generalize wl_X1_fillGate_59 x2 y3 x4 o_opens o_height o_sheet o_fixed o_open p1_least p1_limit p1_use kx0 post n = kb at h hkb
      unfold ws_X1_fillGate_59 at h
      refine lv_iload hx hb dX1_fillGate_59 (lv_at hl 6 rfl) ?_
      refine lv_iconst (v := 4) hx hb dX1_fillGate_61 (by decide) ?_
      refine lv_icmp_ge (tgt := 104) hx hb dX1_fillGate_62 (by decide) (fun c6 => ?_) (fun c6 => ?_)
      · have h := h.1 c6
        exact hkx0 x5 h _ _ hP hD hS _ (lv_sub hl [0, 1, 2, 3, 4, 5] rfl)
      · have h := h.2 c6
        refine lv_aload_n hx hb dX1_fillGate_65 rfl (lv_at hl 0 rfl) ?_
        refine va_get (D := D) (ci := 1) (v := .ref a_o_fixed) (C := RX1) (T := TX1) (N := 8) hx hb hts in_X1 hown hK hP 0 rfl rfl 1 (by decide) fl_16 (fun _ h9 => h9) rfl dX1_fillGate_66 ?_
        refine lv_iload hx hb dX1_fillGate_69 (lv_at hl 6 rfl) ?_
        obtain ⟨i7, h⟩ := h
        refine va_iald hx hb hK hP 2 1 rfl rfl i7 dX1_fillGate_71 ?_
        refine lv_if_le (tgt := 98) hx hb dX1_fillGate_72 (by decide) (fun c8 => ?_) (fun c8 => ?_)
        · have h := h.1 c8
          refine lv_iinc (v := (x7 + (1 : Int32))) (lv' := [(7, .int (x7 + (1 : Int32))), (0, .ref a_o), (1, .ref a_p1), (2, .int x2), (3, .ref (r_o_sheet (y3).toNatClampNeg)), (4, .int x4), (5, .long x5)]) hx hb dX1_fillGate_98 hl (k := 6) rfl (congrArg (fun z => x7 + z) (by decide : Int32.ofInt (1) = (1 : Int32))) (by decide) rfl (fun ls hl => ?_)
          refine lv_goto (tgt := 59) hx hb dX1_fillGate_101 (by decide) ?_
          exact hkb x5 (x7 + (1 : Int32)) h _ _ hP hD hS _ (lv_sub hl [1, 2, 3, 4, 5, 6, 0] rfl)
        · have h := h.2 c8
          refine lv_lload hx hb dX1_fillGate_75 (lv_at hl 5 rfl) ?_
          refine lv_aload_n hx hb dX1_fillGate_77 rfl (lv_at hl 1 rfl) ?_
          refine va_get (D := D) (ci := 4) (v := .ref a_p1_use) (C := RX4) (T := TX4) (N := 10) hx hb hts in_X4 hown hK hP 4 rfl rfl 8 (by decide) fl_137 (fun _ h9 => h9) rfl dX1_fillGate_78 ?_
          refine lv_iload hx hb dX1_fillGate_81 (lv_at hl 6 rfl) ?_
          refine mx_ald hx hb hK hP 7 4 rfl rfl i7 dX1_fillGate_83 ?_
          refine lv_iload_n hx hb dX1_fillGate_84 rfl (lv_at hl 2 rfl) ?_
          obtain ⟨i9, h⟩ := h
          refine va_iald hx hb hK hP (22 + (x7).toNatClampNeg) 1 (gI1 (in_lt i7)) rfl i9 dX1_fillGate_85 ?_
          refine lv_aload_n hx hb dX1_fillGate_86 rfl (lv_at hl 0 rfl) ?_
          refine va_get (D := D) (ci := 1) (v := .ref a_o_fixed) (C := RX1) (T := TX1) (N := 8) hx hb hts in_X1 hown hK hP 0 rfl rfl 1 (by decide) fl_16 (fun _ h9 => h9) rfl dX1_fillGate_87 ?_
          refine lv_iload hx hb dX1_fillGate_90 (lv_at hl 6 rfl) ?_
          refine va_iald hx hb hK hP 2 1 rfl rfl i7 dX1_fillGate_92 ?_
          refine lv_imul hx hb dX1_fillGate_93 ?_
          refine lv_i2l hx hb dX1_fillGate_94 rfl ?_
          refine lv_ladd hx hb dX1_fillGate_95 ?_
          refine lv_topl (fun v10 ev10 => ?_)
          have h := h v10 ev10
          refine lv_lstore (lv' := [(5, .long v10), (0, .ref a_o), (1, .ref a_p1), (2, .int x2), (3, .ref (r_o_sheet (y3).toNatClampNeg)), (4, .int x4), (7, .int x7)]) hx hb dX1_fillGate_96 hl (by decide) rfl (fun ls hl => ?_)
          refine lv_iinc (v := (x7 + (1 : Int32))) (lv' := [(7, .int (x7 + (1 : Int32))), (5, .long v10), (0, .ref a_o), (1, .ref a_p1), (2, .int x2), (3, .ref (r_o_sheet (y3).toNatClampNeg)), (4, .int x4)]) hx hb dX1_fillGate_98 hl (k := 6) rfl (congrArg (fun z => x7 + z) (by decide : Int32.ofInt (1) = (1 : Int32))) (by decide) rfl (fun ls hl => ?_)
          refine lv_goto (tgt := 59) hx hb dX1_fillGate_101 (by decide) ?_
          exact hkb v10 (x7 + (1 : Int32)) h _ _ hP hD hS _ (lv_sub hl [2, 3, 4, 5, 6, 1, 0] rfl)
set_option maxHeartbeats 4000000 in
set_option maxRecDepth 100000 in
theorem t_X1_fillGate_l_107 {l : Launch} {D : va_G} {cy : Nat → ClassId} {a_o : Nat} {a_o_sheet : Nat} {a_o_fixed : Nat} {a_o_open : Nat} {a_o_parts : Nat} {a_p1 : Nat} {a_p1_isTold : Nat} {a_p1_least : Nat} {a_p1_gateOff : Nat} {a_p1_limit : Nat} {a_p1_value : Nat} {a_p1_kind : Nat} {a_p1_most : Nat} {a_p1_wishOff : Nat} {a_p1_use : Nat} {r_o_sheet : Nat → Nat} {r_p1_use : Nat → Nat} {o_opens : Int32} {o_low : Int64} {o_held : Int32} {o_fixed : Nat → Int32} {o_open : Nat → Int32} {p1_wishes : Int32} {p1_least : Nat → Int32} {p1_limit : Nat → Int32} {p1_use : Nat → Nat → Int32} {post : Int32 → (Nat → Nat → Int64) → Prop} {p : Program} {e : Env} {s : State} {m : MethodId} {args : Array Value} {below : List Frame} {meth : Method} {c : Code} {A : Nat → Prop} {Q : State → Prop} (C : cx_X1_fillGate l D cy a_o a_o_sheet a_o_fixed a_o_open a_o_parts a_p1 a_p1_isTold a_p1_least a_p1_gateOff a_p1_limit a_p1_value a_p1_kind a_p1_most a_p1_wishOff a_p1_use r_o_sheet r_p1_use o_opens o_low o_held o_fixed o_open p1_wishes p1_least p1_limit p1_use post p e s m args below meth c A Q) : ∀ (x2 : Int32) (y3 : Int32) (x4 : Int32) (o_height : Int32), ∀ (kx0 : Int64 → (Nat → Nat → Int64) → Prop), (∀ (x5 : Int64) (o_sheet : Nat → Nat → Int64), kx0 x5 o_sheet → ∀ (H : Heap) (locs : List Loc), va_P D vwCl (w_X1_fillGate cy a_o a_o_sheet a_o_fixed a_o_open a_o_parts a_p1 a_p1_isTold a_p1_least a_p1_gateOff a_p1_limit a_p1_value a_p1_kind a_p1_most a_p1_wishOff a_p1_use r_o_sheet r_p1_use o_opens o_height o_low o_held o_sheet o_fixed o_open p1_wishes p1_least p1_limit p1_use) H → va_D A (w_X1_fillGate cy a_o a_o_sheet a_o_fixed a_o_open a_o_parts a_p1 a_p1_isTold a_p1_least a_p1_gateOff a_p1_limit a_p1_value a_p1_kind a_p1_most a_p1_wishOff a_p1_use r_o_sheet r_p1_use o_opens o_height o_low o_held o_sheet o_fixed o_open p1_wishes p1_least p1_limit p1_use) → va_S A s.heap H locs → ∀ (ls : Array Slot), lv_has ls 9 [(3, .ref (r_o_sheet (y3).toNatClampNeg)), (4, .int x4), (5, .long x5)] → W p l e ({ frames := 0, cells := 0, slots := 0, locals := 0 }) s m args below meth c H locs 0 0 Q (F0 m 181 ls [])) → ∀ (n : Nat) (x5 : Int64) (x7 : Int32) (o_sheet : Nat → Nat → Int64), wl_X1_fillGate_107 x2 y3 x4 o_opens o_height o_fixed o_open p1_least p1_limit p1_use kx0 post n x5 x7 o_sheet → ∀ (H : Heap) (locs : List Loc), va_P D vwCl (w_X1_fillGate cy a_o a_o_sheet a_o_fixed a_o_open a_o_parts a_p1 a_p1_isTold a_p1_least a_p1_gateOff a_p1_limit a_p1_value a_p1_kind a_p1_most a_p1_wishOff a_p1_use r_o_sheet r_p1_use o_opens o_height o_low o_held o_sheet o_fixed o_open p1_wishes p1_least p1_limit p1_use) H → va_D A (w_X1_fillGate cy a_o a_o_sheet a_o_fixed a_o_open a_o_parts a_p1 a_p1_isTold a_p1_least a_p1_gateOff a_p1_limit a_p1_value a_p1_kind a_p1_most a_p1_wishOff a_p1_use r_o_sheet r_p1_use o_opens o_height o_low o_held o_sheet o_fixed o_open p1_wishes p1_least p1_limit p1_use) → va_S A s.heap H locs → ∀ (ls : Array Slot), lv_has ls 9 [(0, .ref a_o), (1, .ref a_p1), (2, .int x2), (3, .ref (r_o_sheet (y3).toNatClampNeg)), (4, .int x4), (5, .long x5), (7, .int x7)] → W p l e ({ frames := 0, cells := 0, slots := 0, locals := 0 }) s m args below meth c H locs 0 0 Q (F0 m 107 ls []) := by
    have C0 := C
    obtain ⟨hx, hb, hml, hown, hts, hK, hN, hA, hret⟩ := C0
    have in_X1 : ∀ w ∈ u_ws RX1 TX1 8, w ∈ wsX1_fillGate := by decide +kernel
    have fl_13 := hts (.fieldLink RX1 13 "DawnTable$Clearer" "sheet" "[[J") (by decide +kernel)
    have in_X4 : ∀ w ∈ u_ws RX4 TX4 10, w ∈ wsX1_fillGate := by decide +kernel
    have fl_137 := hts (.fieldLink RX1 137 "DawnTable$Table" "use" "[[I") (by decide +kernel)
    have fl_30 := hts (.fieldLink RX1 30 "DawnTable$Clearer" "opens" "I") (by decide +kernel)
    have fl_20 := hts (.fieldLink RX1 20 "DawnTable$Clearer" "open" "[I") (by decide +kernel)
    intro x2 y3 x4 o_height kx0 hkx0  n
    induction n with
    | zero => intro x5 x7 o_sheet h; exact h.elim
    | succ n hkb =>
      intro x5 x7 o_sheet h H locs hP hD hS ls hl
      replace h : ws_X1_fillGate_107 x2 y3 x4 o_opens o_height o_fixed o_open p1_least p1_limit p1_use (wl_X1_fillGate_107 x2 y3 x4 o_opens o_height o_fixed o_open p1_least p1_limit p1_use kx0 post n) kx0 post x5 x7 o_sheet := h
      generalize wl_X1_fillGate_107 x2 y3 x4 o_opens o_height o_fixed o_open p1_least p1_limit p1_use kx0 post n = kb at h hkb
      unfold ws_X1_fillGate_107 at h
      refine lv_iload hx hb dX1_fillGate_107 (lv_at hl 6 rfl) ?_
      refine lv_aload_n hx hb dX1_fillGate_109 rfl (lv_at hl 0 rfl) ?_
      refine va_get (D := D) (ci := 1) (v := .int o_opens) (C := RX1) (T := TX1) (N := 8) hx hb hts in_X1 hown hK hP 0 rfl rfl 4 (by decide) fl_30 (fun _ h9 => h9) rfl dX1_fillGate_110 ?_
      refine lv_icmp_ge (tgt := 181) hx hb dX1_fillGate_113 (by decide) (fun c12 => ?_) (fun c12 => ?_)
      · have h := h.1 c12
        exact hkx0 x5 o_sheet h _ _ hP hD hS _ (lv_sub hl [3, 4, 5] rfl)
      · have h := h.2 c12
        refine lv_aload_n hx hb dX1_fillGate_116 rfl (lv_at hl 1 rfl) ?_
        refine va_get (D := D) (ci := 4) (v := .ref a_p1_use) (C := RX4) (T := TX4) (N := 10) hx hb hts in_X4 hown hK hP 4 rfl rfl 8 (by decide) fl_137 (fun _ h9 => h9) rfl dX1_fillGate_117 ?_
        refine lv_aload_n hx hb dX1_fillGate_120 rfl (lv_at hl 0 rfl) ?_
        refine va_get (D := D) (ci := 1) (v := .ref a_o_open) (C := RX1) (T := TX1) (N := 8) hx hb hts in_X1 hown hK hP 0 rfl rfl 2 (by decide) fl_20 (fun _ h9 => h9) rfl dX1_fillGate_121 ?_
        refine lv_iload hx hb dX1_fillGate_124 (lv_at hl 6 rfl) ?_
        obtain ⟨i13, h⟩ := h
        refine va_iald hx hb hK hP 3 1 rfl rfl i13 dX1_fillGate_126 ?_
        obtain ⟨i14, h⟩ := h
        refine mx_ald hx hb hK hP 7 4 rfl rfl i14 dX1_fillGate_127 ?_
        refine lv_iload_n hx hb dX1_fillGate_128 rfl (lv_at hl 2 rfl) ?_
        obtain ⟨i15, h⟩ := h
        refine va_iald hx hb hK hP (22 + ((o_open (x7).toNatClampNeg)).toNatClampNeg) 1 (gI1 (in_lt i14)) rfl i15 dX1_fillGate_129 ?_
        refine lv_topi (fun v16 ev16 => ?_)
        have h := h v16 ev16
        refine lv_istore (lv' := [(8, .int v16), (0, .ref a_o), (1, .ref a_p1), (2, .int x2), (3, .ref (r_o_sheet (y3).toNatClampNeg)), (4, .int x4), (5, .long x5), (7, .int x7)]) hx hb dX1_fillGate_130 hl (by decide) rfl (fun ls hl => ?_)
        refine lv_lload hx hb dX1_fillGate_132 (lv_at hl 6 rfl) ?_
        refine lv_iload hx hb dX1_fillGate_134 (lv_at hl 0 rfl) ?_
        refine lv_i2l hx hb dX1_fillGate_136 rfl ?_
        refine lv_aload_n hx hb dX1_fillGate_137 rfl (lv_at hl 1 rfl) ?_
        refine va_get (D := D) (ci := 1) (v := .ref a_o_sheet) (C := RX1) (T := TX1) (N := 8) hx hb hts in_X1 hown hK hP 0 rfl rfl 0 (by decide) fl_13 (fun _ h9 => h9) rfl dX1_fillGate_138 ?_
        refine lv_iconst (v := 1) hx hb dX1_fillGate_141 (by decide) ?_
        refine lv_iload hx hb dX1_fillGate_142 (lv_at hl 7 rfl) ?_
        refine lv_iadd hx hb dX1_fillGate_144 ?_
        obtain ⟨i17, h⟩ := h
        refine mx_ald hx hb hK hP 1 5 rfl rfl i17 dX1_fillGate_145 ?_
        refine lv_iconst (v := 4) hx hb dX1_fillGate_146 (by decide) ?_
        refine va_lald hx hb hK hP (8 + (((1 : Int32) + x7)).toNatClampNeg) 2 (gJ0 (in_lt i17)) rfl (by unfold vp_in; decide) dX1_fillGate_147 ?_
        refine lv_lmul hx hb dX1_fillGate_148 ?_
        refine lv_ladd hx hb dX1_fillGate_149 ?_
        refine lv_topl (fun v18 ev18 => ?_)
        have h := h v18 ev18
        refine lv_lstore (lv' := [(5, .long v18), (8, .int v16), (0, .ref a_o), (1, .ref a_p1), (2, .int x2), (3, .ref (r_o_sheet (y3).toNatClampNeg)), (4, .int x4), (7, .int x7)]) hx hb dX1_fillGate_150 hl (by decide) rfl (fun ls hl => ?_)
        refine lv_aload_n hx hb dX1_fillGate_152 rfl (lv_at hl 5 rfl) ?_
        refine lv_iload hx hb dX1_fillGate_153 (lv_at hl 7 rfl) ?_
        refine lv_iload hx hb dX1_fillGate_155 (lv_at hl 6 rfl) ?_
        refine lv_iload hx hb dX1_fillGate_157 (lv_at hl 1 rfl) ?_
        refine lv_imul hx hb dX1_fillGate_159 ?_
        refine lv_i2l hx hb dX1_fillGate_160 rfl ?_
        refine lv_aload_n hx hb dX1_fillGate_161 rfl (lv_at hl 2 rfl) ?_
        refine va_get (D := D) (ci := 1) (v := .ref a_o_sheet) (C := RX1) (T := TX1) (N := 8) hx hb hts in_X1 hown hK hP 0 rfl rfl 0 (by decide) fl_13 (fun _ h9 => h9) rfl dX1_fillGate_162 ?_
        refine lv_iconst (v := 1) hx hb dX1_fillGate_165 (by decide) ?_
        refine lv_iload hx hb dX1_fillGate_166 (lv_at hl 7 rfl) ?_
        refine lv_iadd hx hb dX1_fillGate_168 ?_
        refine mx_ald hx hb hK hP 1 5 rfl rfl i17 dX1_fillGate_169 ?_
        refine lv_iload hx hb dX1_fillGate_170 (lv_at hl 7 rfl) ?_
        obtain ⟨i19, h⟩ := h
        refine va_lald hx hb hK hP (8 + (((1 : Int32) + x7)).toNatClampNeg) 2 (gJ0 (in_lt i17)) rfl i19 dX1_fillGate_172 ?_
        refine lv_lmul hx hb dX1_fillGate_173 ?_
        refine lv_topl (fun v20 ev20 => ?_)
        have h := h v20 ev20
        obtain ⟨i21, h⟩ := h
        refine va_last hx hb hK hP hD hS (8 + (y3).toNatClampNeg) 2 (gJ0 (in_lt i21)) rfl i19 dX1_fillGate_174 (fun H locs hP hD hS => ?_)
        have hP : va_P D vwCl (w_X1_fillGate cy a_o a_o_sheet a_o_fixed a_o_open a_o_parts a_p1 a_p1_isTold a_p1_least a_p1_gateOff a_p1_limit a_p1_value a_p1_kind a_p1_most a_p1_wishOff a_p1_use r_o_sheet r_p1_use o_opens o_height o_low o_held (msetJ o_sheet (y3).toNatClampNeg (x7).toNatClampNeg v20) o_fixed o_open p1_wishes p1_least p1_limit p1_use) H := Eq.mp (congrArg (fun w => va_P D vwCl w H) (pJ0 (in_lt i21))) hP
        have hD : va_D A (w_X1_fillGate cy a_o a_o_sheet a_o_fixed a_o_open a_o_parts a_p1 a_p1_isTold a_p1_least a_p1_gateOff a_p1_limit a_p1_value a_p1_kind a_p1_most a_p1_wishOff a_p1_use r_o_sheet r_p1_use o_opens o_height o_low o_held (msetJ o_sheet (y3).toNatClampNeg (x7).toNatClampNeg v20) o_fixed o_open p1_wishes p1_least p1_limit p1_use) := Eq.mp (congrArg (fun w => va_D A w) (pJ0 (in_lt i21))) hD
        refine lv_iinc (v := (x7 + (1 : Int32))) (lv' := [(7, .int (x7 + (1 : Int32))), (5, .long v18), (8, .int v16), (0, .ref a_o), (1, .ref a_p1), (2, .int x2), (3, .ref (r_o_sheet (y3).toNatClampNeg)), (4, .int x4)]) hx hb dX1_fillGate_175 hl (k := 7) rfl (congrArg (fun z => x7 + z) (by decide : Int32.ofInt (1) = (1 : Int32))) (by decide) rfl (fun ls hl => ?_)
        refine lv_goto (tgt := 107) hx hb dX1_fillGate_178 (by decide) ?_
        exact hkb v18 (x7 + (1 : Int32)) (msetJ o_sheet (y3).toNatClampNeg (x7).toNatClampNeg v20) h _ _ hP hD hS _ (lv_sub hl [3, 4, 5, 6, 7, 1, 0] rfl)
set_option maxHeartbeats 4000000 in
set_option maxRecDepth 100000 in
theorem t_X1_fillGate_j_44_0 {l : Launch} {D : va_G} {cy : Nat → ClassId} {a_o : Nat} {a_o_sheet : Nat} {a_o_fixed : Nat} {a_o_open : Nat} {a_o_parts : Nat} {a_p1 : Nat} {a_p1_isTold : Nat} {a_p1_least : Nat} {a_p1_gateOff : Nat} {a_p1_limit : Nat} {a_p1_value : Nat} {a_p1_kind : Nat} {a_p1_most : Nat} {a_p1_wishOff : Nat} {a_p1_use : Nat} {r_o_sheet : Nat → Nat} {r_p1_use : Nat → Nat} {o_opens : Int32} {o_low : Int64} {o_held : Int32} {o_fixed : Nat → Int32} {o_open : Nat → Int32} {p1_wishes : Int32} {p1_least : Nat → Int32} {p1_limit : Nat → Int32} {p1_use : Nat → Nat → Int32} {post : Int32 → (Nat → Nat → Int64) → Prop} {p : Program} {e : Env} {s : State} {m : MethodId} {args : Array Value} {below : List Frame} {meth : Method} {c : Code} {A : Nat → Prop} {Q : State → Prop} (C : cx_X1_fillGate l D cy a_o a_o_sheet a_o_fixed a_o_open a_o_parts a_p1 a_p1_isTold a_p1_least a_p1_gateOff a_p1_limit a_p1_value a_p1_kind a_p1_most a_p1_wishOff a_p1_use r_o_sheet r_p1_use o_opens o_low o_held o_fixed o_open p1_wishes p1_least p1_limit p1_use post p e s m args below meth c A Q) : ∀ (x2 : Int32) (y3 : Int32) (s0 : Int32) (o_height : Int32) (o_sheet : Nat → Nat → Int64), wj_X1_fillGate_44  x2 y3 s0 o_opens o_height o_sheet o_fixed o_open p1_least p1_limit p1_use  post → ∀ (H : Heap) (locs : List Loc), va_P D vwCl (w_X1_fillGate cy a_o a_o_sheet a_o_fixed a_o_open a_o_parts a_p1 a_p1_isTold a_p1_least a_p1_gateOff a_p1_limit a_p1_value a_p1_kind a_p1_most a_p1_wishOff a_p1_use r_o_sheet r_p1_use o_opens o_height o_low o_held o_sheet o_fixed o_open p1_wishes p1_least p1_limit p1_use) H → va_D A (w_X1_fillGate cy a_o a_o_sheet a_o_fixed a_o_open a_o_parts a_p1 a_p1_isTold a_p1_least a_p1_gateOff a_p1_limit a_p1_value a_p1_kind a_p1_most a_p1_wishOff a_p1_use r_o_sheet r_p1_use o_opens o_height o_low o_held o_sheet o_fixed o_open p1_wishes p1_least p1_limit p1_use) → va_S A s.heap H locs → ∀ (ls : Array Slot), lv_has ls 9 [(0, .ref a_o), (1, .ref a_p1), (2, .int x2), (3, .ref (r_o_sheet (y3).toNatClampNeg))] → W p l e ({ frames := 0, cells := 0, slots := 0, locals := 0 }) s m args below meth c H locs 0 0 Q (F0 m 44 ls [.int s0]) := by
    have C0 := C
    obtain ⟨hx, hb, hml, hown, hts, hK, hN, hA, hret⟩ := C0
    have in_X4 : ∀ w ∈ u_ws RX4 TX4 10, w ∈ wsX1_fillGate := by decide +kernel
    have fl_134 := hts (.fieldLink RX1 134 "DawnTable$Table" "limit" "[I") (by decide +kernel)
    have l_59 := t_X1_fillGate_l_59 C
    have l_107 := t_X1_fillGate_l_107 C
    intro x2 y3 s0 o_height o_sheet  h H locs hP hD hS ls hl
    unfold wj_X1_fillGate_44 at h
    refine lv_istore (lv' := [(4, .int s0), (0, .ref a_o), (1, .ref a_p1), (2, .int x2), (3, .ref (r_o_sheet (y3).toNatClampNeg))]) hx hb dX1_fillGate_44 hl (by decide) rfl (fun ls hl => ?_)
    refine lv_aload_n hx hb dX1_fillGate_46 rfl (lv_at hl 2 rfl) ?_
    refine va_get (D := D) (ci := 4) (v := .ref a_p1_limit) (C := RX4) (T := TX4) (N := 10) hx hb hts in_X4 hown hK hP 4 rfl rfl 3 (by decide) fl_134 (fun _ h9 => h9) rfl dX1_fillGate_47 ?_
    refine lv_iload_n hx hb dX1_fillGate_50 rfl (lv_at hl 3 rfl) ?_
    obtain ⟨i5, h⟩ := h
    refine va_iald hx hb hK hP 6 1 rfl rfl i5 dX1_fillGate_51 ?_
    refine lv_ineg hx hb dX1_fillGate_52 ?_
    refine lv_i2l hx hb dX1_fillGate_53 rfl ?_
    refine lv_lstore (lv' := [(5, .long (((-(p1_limit (x2).toNatClampNeg))).toInt64)), (4, .int s0), (0, .ref a_o), (1, .ref a_p1), (2, .int x2), (3, .ref (r_o_sheet (y3).toNatClampNeg))]) hx hb dX1_fillGate_54 hl (by decide) rfl (fun ls hl => ?_)
    refine lv_iconst (v := 0) hx hb dX1_fillGate_56 (by decide) ?_
    refine lv_istore (lv' := [(7, .int (0 : Int32)), (5, .long (((-(p1_limit (x2).toNatClampNeg))).toInt64)), (4, .int s0), (0, .ref a_o), (1, .ref a_p1), (2, .int x2), (3, .ref (r_o_sheet (y3).toNatClampNeg))]) hx hb dX1_fillGate_57 hl (by decide) rfl (fun ls hl => ?_)
    obtain ⟨n26, h⟩ := h
    refine l_59 x2 y3 s0 o_height o_sheet _ ?_ n26 (((-(p1_limit (x2).toNatClampNeg))).toInt64) (0 : Int32) h _ _ hP hD hS _ (lv_sub hl [3, 4, 5, 6, 2, 1, 0] rfl)
    · intro x5_11 h H locs hP hD hS ls hl
      refine lv_iconst (v := 0) hx hb dX1_fillGate_104 (by decide) ?_
      refine lv_istore (lv' := [(7, .int (0 : Int32)), (0, .ref a_o), (1, .ref a_p1), (2, .int x2), (3, .ref (r_o_sheet (y3).toNatClampNeg)), (4, .int s0), (5, .long x5_11)]) hx hb dX1_fillGate_105 hl (by decide) rfl (fun ls hl => ?_)
      obtain ⟨n25, h⟩ := h
      refine l_107 x2 y3 s0 o_height _ ?_ n25 x5_11 (0 : Int32) o_sheet h _ _ hP hD hS _ (lv_sub hl [1, 2, 3, 4, 5, 6, 0] rfl)
      · intro x5_22 o_sheet_23 h H locs hP hD hS ls hl
        refine lv_aload_n hx hb dX1_fillGate_181 rfl (lv_at hl 0 rfl) ?_
        refine lv_iconst (v := 4) hx hb dX1_fillGate_182 (by decide) ?_
        refine lv_iload hx hb dX1_fillGate_183 (lv_at hl 1 rfl) ?_
        refine lv_i2l hx hb dX1_fillGate_185 rfl ?_
        refine lv_lload hx hb dX1_fillGate_186 (lv_at hl 2 rfl) ?_
        refine lv_lmul hx hb dX1_fillGate_188 ?_
        obtain ⟨i24, h⟩ := h
        refine va_last hx hb hK hP hD hS (8 + (y3).toNatClampNeg) 2 (gJ0 (in_lt i24)) rfl (by unfold vp_in; decide) dX1_fillGate_189 (fun H locs hP hD hS => ?_)
        have hP : va_P D vwCl (w_X1_fillGate cy a_o a_o_sheet a_o_fixed a_o_open a_o_parts a_p1 a_p1_isTold a_p1_least a_p1_gateOff a_p1_limit a_p1_value a_p1_kind a_p1_most a_p1_wishOff a_p1_use r_o_sheet r_p1_use o_opens o_height o_low o_held (msetJ o_sheet_23 (y3).toNatClampNeg ((4 : Int32)).toNatClampNeg ((s0).toInt64 * x5_22)) o_fixed o_open p1_wishes p1_least p1_limit p1_use) H := Eq.mp (congrArg (fun w => va_P D vwCl w H) (pJ0 (in_lt i24))) hP
        have hD : va_D A (w_X1_fillGate cy a_o a_o_sheet a_o_fixed a_o_open a_o_parts a_p1 a_p1_isTold a_p1_least a_p1_gateOff a_p1_limit a_p1_value a_p1_kind a_p1_most a_p1_wishOff a_p1_use r_o_sheet r_p1_use o_opens o_height o_low o_held (msetJ o_sheet_23 (y3).toNatClampNeg ((4 : Int32)).toNatClampNeg ((s0).toInt64 * x5_22)) o_fixed o_open p1_wishes p1_least p1_limit p1_use) := Eq.mp (congrArg (fun w => va_D A w) (pJ0 (in_lt i24))) hD
        exact hret (o_height, (msetJ o_sheet_23 (y3).toNatClampNeg ((4 : Int32)).toNatClampNeg ((s0).toInt64 * x5_22))) _ _ _ _ h hP hD hS dX1_fillGate_190
set_option maxHeartbeats 4000000 in
set_option maxRecDepth 100000 in
theorem c_X1_fillGate (l : Launch) (D : va_G) (cy : Nat → ClassId) (a_o a_o_sheet a_o_fixed a_o_open a_o_parts a_p1 a_p1_isTold a_p1_least a_p1_gateOff a_p1_limit a_p1_value a_p1_kind a_p1_most a_p1_wishOff a_p1_use : Nat) (r_o_sheet r_p1_use : Nat → Nat) (sz : Nat)  {o_opens : Int32} {o_height : Int32} {o_low : Int64} {o_held : Int32} {o_sheet : Nat → Nat → Int64} {o_fixed : Nat → Int32} {o_open : Nat → Int32} {p1_wishes : Int32} {p1_least : Nat → Int32} {p1_limit : Nat → Int32} {p1_use : Nat → Nat → Int32} {x2 : Int32} {post : Int32 → (Nat → Nat → Int64) → Prop} (h : wp_X1_fillGate o_opens o_height o_sheet o_fixed o_open p1_least p1_limit p1_use x2 post) : Met l yX1_fillGate wsX1_fillGate ({ frames := 0, cells := 0, slots := 0, locals := 0 }) (va_Pc [.ref a_o, .ref a_p1, .int x2] (wI D cy sz (w_X1_fillGate cy a_o a_o_sheet a_o_fixed a_o_open a_o_parts a_p1 a_p1_isTold a_p1_least a_p1_gateOff a_p1_limit a_p1_value a_p1_kind a_p1_most a_p1_wishOff a_p1_use r_o_sheet r_p1_use o_opens o_height o_low o_held o_sheet o_fixed o_open p1_wishes p1_least p1_limit p1_use))) (va_Qv (fun (u : Int32 × (Nat → Nat → Int64)) => post u.1 u.2) (fun (u : Int32 × (Nat → Nat → Int64)) t => wO D cy (va_A (w_X1_fillGate cy a_o a_o_sheet a_o_fixed a_o_open a_o_parts a_p1 a_p1_isTold a_p1_least a_p1_gateOff a_p1_limit a_p1_value a_p1_kind a_p1_most a_p1_wishOff a_p1_use r_o_sheet r_p1_use o_opens o_height o_low o_held o_sheet o_fixed o_open p1_wishes p1_least p1_limit p1_use) sz) (w_X1_fillGate cy a_o a_o_sheet a_o_fixed a_o_open a_o_parts a_p1 a_p1_isTold a_p1_least a_p1_gateOff a_p1_limit a_p1_value a_p1_kind a_p1_most a_p1_wishOff a_p1_use r_o_sheet r_p1_use o_opens u.1 o_low o_held u.2 o_fixed o_open p1_wishes p1_least p1_limit p1_use) t) (va_A (w_X1_fillGate cy a_o a_o_sheet a_o_fixed a_o_open a_o_parts a_p1 a_p1_isTold a_p1_least a_p1_gateOff a_p1_limit a_p1_value a_p1_kind a_p1_most a_p1_wishOff a_p1_use r_o_sheet r_p1_use o_opens o_height o_low o_held o_sheet o_fixed o_open p1_wishes p1_least p1_limit p1_use) sz)) 0 0 (va_A (w_X1_fillGate cy a_o a_o_sheet a_o_fixed a_o_open a_o_parts a_p1 a_p1_isTold a_p1_least a_p1_gateOff a_p1_limit a_p1_value a_p1_kind a_p1_most a_p1_wishOff a_p1_use r_o_sheet r_p1_use o_opens o_height o_low o_held o_sheet o_fixed o_open p1_wishes p1_least p1_limit p1_use) sz) := by
  refine contrV (S := Int32 × (Nat → Nat → Int64)) (post := fun (u : Int32 × (Nat → Nat → Int64)) => post u.1 u.2) (wOut := fun (u : Int32 × (Nat → Nat → Int64)) => (w_X1_fillGate cy a_o a_o_sheet a_o_fixed a_o_open a_o_parts a_p1 a_p1_isTold a_p1_least a_p1_gateOff a_p1_limit a_p1_value a_p1_kind a_p1_most a_p1_wishOff a_p1_use r_o_sheet r_p1_use o_opens u.1 o_low o_held u.2 o_fixed o_open p1_wishes p1_least p1_limit p1_use)) (cc := cX1_fillGate) (maxL := 9) (own := RX1) (by decide +kernel) rfl rfl ?_
  intro p e s m args below meth c A Q hx hb hml hown hts hK hN hP hD hS hA hret
  have in_X1 : ∀ w ∈ u_ws RX1 TX1 8, w ∈ wsX1_fillGate := by decide +kernel
  have fl_34 := hts (.fieldLink RX1 34 "DawnTable$Clearer" "height" "I") (by decide +kernel)
  have fl_13 := hts (.fieldLink RX1 13 "DawnTable$Clearer" "sheet" "[[J") (by decide +kernel)
  have in_X4 : ∀ w ∈ u_ws RX4 TX4 10, w ∈ wsX1_fillGate := by decide +kernel
  have fl_131 := hts (.fieldLink RX1 131 "DawnTable$Table" "least" "[Z") (by decide +kernel)
  have fl_134 := hts (.fieldLink RX1 134 "DawnTable$Table" "limit" "[I") (by decide +kernel)
  have fl_16 := hts (.fieldLink RX1 16 "DawnTable$Clearer" "fixed" "[I") (by decide +kernel)
  have fl_137 := hts (.fieldLink RX1 137 "DawnTable$Table" "use" "[[I") (by decide +kernel)
  have fl_30 := hts (.fieldLink RX1 30 "DawnTable$Clearer" "opens" "I") (by decide +kernel)
  have fl_20 := hts (.fieldLink RX1 20 "DawnTable$Clearer" "open" "[I") (by decide +kernel)
  have C : cx_X1_fillGate l D cy a_o a_o_sheet a_o_fixed a_o_open a_o_parts a_p1 a_p1_isTold a_p1_least a_p1_gateOff a_p1_limit a_p1_value a_p1_kind a_p1_most a_p1_wishOff a_p1_use r_o_sheet r_p1_use o_opens o_low o_held o_fixed o_open p1_wishes p1_least p1_limit p1_use post p e s m args below meth c A Q := ⟨hx, hb, hml, hown, hts, hK, hN, hA, hret⟩
  have j_44_0 := t_X1_fillGate_j_44_0 C
  refine ent [.ref a_o, .ref a_p1, .int x2] (Nat.le_of_ble_eq_true rfl) (fun ls hl => ?_)
  have hl : lv_has ls 9 [(0, .ref a_o), (1, .ref a_p1), (2, .int x2)] := hl
  unfold wp_X1_fillGate at h
  refine lv_aload_n hx hb dX1_fillGate_0 rfl (lv_at hl 0 rfl) ?_
  refine va_get (D := D) (ci := 1) (v := .int o_height) (C := RX1) (T := TX1) (N := 8) hx hb hts in_X1 hown hK hP 0 rfl rfl 5 (by decide) fl_34 (fun _ h9 => h9) rfl dX1_fillGate_1 ?_
  refine lv_bipush (v := 14) hx hb dX1_fillGate_4 (by decide) ?_
  refine lv_icmp_lt (tgt := 10) hx hb dX1_fillGate_6 (by decide) (fun c1 => ?_) (fun c1 => ?_)
  · have h := h.1 c1
    refine lv_aload_n hx hb dX1_fillGate_10 rfl (lv_at hl 0 rfl) ?_
    refine va_get (D := D) (ci := 1) (v := .ref a_o_sheet) (C := RX1) (T := TX1) (N := 8) hx hb hts in_X1 hown hK hP 0 rfl rfl 0 (by decide) fl_13 (fun _ h9 => h9) rfl dX1_fillGate_11 ?_
    refine lv_aload_n hx hb dX1_fillGate_14 rfl (lv_at hl 0 rfl) ?_
    refine va_get (D := D) (ci := 1) (v := .int o_height) (C := RX1) (T := TX1) (N := 8) hx hb hts in_X1 hown hK hP 0 rfl rfl 5 (by decide) fl_34 (fun _ h9 => h9) rfl dX1_fillGate_15 ?_
    obtain ⟨i2, h⟩ := h
    refine mx_ald hx hb hK hP 1 5 rfl rfl i2 dX1_fillGate_18 ?_
    refine lv_astore_n (lv' := [(3, .ref (r_o_sheet (o_height).toNatClampNeg)), (0, .ref a_o), (1, .ref a_p1), (2, .int x2)]) hx hb dX1_fillGate_19 rfl hl (by decide) rfl (fun ls hl => ?_)
    refine lv_aload_n hx hb dX1_fillGate_20 rfl (lv_at hl 1 rfl) ?_
    refine lv_dup hx hb dX1_fillGate_21 rfl ?_
    refine va_get (D := D) (ci := 1) (v := .int o_height) (C := RX1) (T := TX1) (N := 8) hx hb hts in_X1 hown hK hP 0 rfl rfl 5 (by decide) fl_34 (fun _ h9 => h9) rfl dX1_fillGate_22 ?_
    refine lv_iconst (v := 1) hx hb dX1_fillGate_25 (by decide) ?_
    refine lv_iadd hx hb dX1_fillGate_26 ?_
    refine va_put (D := D) (ci := 1) (v := .int (o_height + (1 : Int32))) (ty := .int) (C := RX1) (T := TX1) (N := 8) hx hb hts in_X1 tyX1 tyX1_ok nmX1 hown hK hP hD hS 0 rfl rfl 5 (by decide) fl_34 (fun _ h9 => h9) rfl (by decide +kernel) rfl rfl (Nat.le_of_ble_eq_true rfl) dX1_fillGate_27 (fun H locs hP hD hS => ?_)
    have hP : va_P D vwCl (w_X1_fillGate cy a_o a_o_sheet a_o_fixed a_o_open a_o_parts a_p1 a_p1_isTold a_p1_least a_p1_gateOff a_p1_limit a_p1_value a_p1_kind a_p1_most a_p1_wishOff a_p1_use r_o_sheet r_p1_use o_opens (o_height + (1 : Int32)) o_low o_held o_sheet o_fixed o_open p1_wishes p1_least p1_limit p1_use) H := hP
    have hD : va_D A (w_X1_fillGate cy a_o a_o_sheet a_o_fixed a_o_open a_o_parts a_p1 a_p1_isTold a_p1_least a_p1_gateOff a_p1_limit a_p1_value a_p1_kind a_p1_most a_p1_wishOff a_p1_use r_o_sheet r_p1_use o_opens (o_height + (1 : Int32)) o_low o_held o_sheet o_fixed o_open p1_wishes p1_least p1_limit p1_use) := hD
    refine lv_aload_n hx hb dX1_fillGate_30 rfl (lv_at hl 2 rfl) ?_
    refine va_get (D := D) (ci := 4) (v := .ref a_p1_least) (C := RX4) (T := TX4) (N := 10) hx hb hts in_X4 hown hK hP 4 rfl rfl 1 (by decide) fl_131 (fun _ h9 => h9) rfl dX1_fillGate_31 ?_
    refine lv_iload_n hx hb dX1_fillGate_34 rfl (lv_at hl 3 rfl) ?_
    obtain ⟨i3, h⟩ := h
    refine va_zald hx hb hK hP 5 3 rfl rfl i3 dX1_fillGate_35 ?_
    refine lv_if_eq (tgt := 43) hx hb dX1_fillGate_36 (by decide) (fun c4 => ?_) (fun c4 => ?_)
    · have h := h.1 c4
      refine lv_iconst (v := -1) hx hb dX1_fillGate_43 (by decide) ?_
      exact j_44_0 x2 o_height (-1 : Int32) (o_height + (1 : Int32)) o_sheet h _ _ hP hD hS _ (lv_sub hl [1, 2, 3, 0] rfl)
    · have h := h.2 c4
      refine lv_iconst (v := 1) hx hb dX1_fillGate_39 (by decide) ?_
      refine lv_goto (tgt := 44) hx hb dX1_fillGate_40 (by decide) ?_
      exact j_44_0 x2 o_height (1 : Int32) (o_height + (1 : Int32)) o_sheet h _ _ hP hD hS _ (lv_sub hl [1, 2, 3, 0] rfl)
  · have h := h.2 c1
    exact hret (o_height, o_sheet) _ _ _ _ h hP hD hS dX1_fillGate_9
