def ws_X1_fillSheet_12 (o_height : Int32) (o_low : Int64) (o_held : Int32) (o_sheet : Nat → Nat → Int64) (o_fixed : Nat → Int32) (p1_least : Nat → Int32) (p1_limit : Nat → Int32) (p1_value : Nat → Int32) (p1_most : Nat → Int32) (p1_use : Nat → Nat → Int32) (kb : Int32 → Int32 → (Nat → Int32) → Prop) (kx0 : Int32 → (Nat → Int32) → Prop) (post : Int32 → Int32 → Int64 → (Nat → Nat → Int64) → (Nat → Int32) → Prop) (x2 : Int32) (o_opens : Int32) (o_open : Nat → Int32) : Prop :=
  (((4 : Int32) ≤ x2 → kx0 o_opens o_open) ∧
   (¬ (4 : Int32) ≤ x2 → (vp_in x2 4 ∧ (((o_fixed (x2).toNatClampNeg) = (-1 : Int32) → (vp_in o_opens 4 ∧ kb (x2 + (1 : Int32)) (o_opens + (1 : Int32)) (upd o_open (o_opens).toNatClampNeg x2))) ∧
   (¬ (o_fixed (x2).toNatClampNeg) = (-1 : Int32) → kb (x2 + (1 : Int32)) o_opens o_open)))))
def wl_X1_fillSheet_12 (o_height : Int32) (o_low : Int64) (o_held : Int32) (o_sheet : Nat → Nat → Int64) (o_fixed : Nat → Int32) (p1_least : Nat → Int32) (p1_limit : Nat → Int32) (p1_value : Nat → Int32) (p1_most : Nat → Int32) (p1_use : Nat → Nat → Int32) (kx0 : Int32 → (Nat → Int32) → Prop) (post : Int32 → Int32 → Int64 → (Nat → Nat → Int64) → (Nat → Int32) → Prop) : Nat → Int32 → Int32 → (Nat → Int32) → Prop
  | 0, _, _, _ => False
  | n + 1, x2, o_opens, o_open => ws_X1_fillSheet_12 o_height o_low o_held o_sheet o_fixed p1_least p1_limit p1_value p1_most p1_use (wl_X1_fillSheet_12 o_height o_low o_held o_sheet o_fixed p1_least p1_limit p1_value p1_most p1_use kx0 post n) kx0 post x2 o_opens o_open
def ws_X1_fillSheet_70 (o_opens : Int32) (o_height : Int32) (o_low : Int64) (o_held : Int32) (o_fixed : Nat → Int32) (o_open : Nat → Int32) (p1_least : Nat → Int32) (p1_limit : Nat → Int32) (p1_value : Nat → Int32) (p1_most : Nat → Int32) (p1_use : Nat → Nat → Int32) (kb : Int32 → (Nat → Nat → Int64) → Prop) (kx0 : (Nat → Nat → Int64) → Prop) (post : Int32 → Int32 → Int64 → (Nat → Nat → Int64) → (Nat → Int32) → Prop) (x2 : Int32) (o_sheet : Nat → Nat → Int64) : Prop :=
  ((o_height ≤ x2 → kx0 o_sheet) ∧
   (¬ o_height ≤ x2 → (vp_in x2 14 ∧ (wp_J7_fill_d0a16 5 (o_sheet (x2).toNatClampNeg) (0 : Int64) (fun (u9 : Nat → Int64) => kb (x2 + (1 : Int32)) (va_up o_sheet (x2).toNatClampNeg u9))))))
def wl_X1_fillSheet_70 (o_opens : Int32) (o_height : Int32) (o_low : Int64) (o_held : Int32) (o_fixed : Nat → Int32) (o_open : Nat → Int32) (p1_least : Nat → Int32) (p1_limit : Nat → Int32) (p1_value : Nat → Int32) (p1_most : Nat → Int32) (p1_use : Nat → Nat → Int32) (kx0 : (Nat → Nat → Int64) → Prop) (post : Int32 → Int32 → Int64 → (Nat → Nat → Int64) → (Nat → Int32) → Prop) : Nat → Int32 → (Nat → Nat → Int64) → Prop
  | 0, _, _ => False
  | n + 1, x2, o_sheet => ws_X1_fillSheet_70 o_opens o_height o_low o_held o_fixed o_open p1_least p1_limit p1_value p1_most p1_use (wl_X1_fillSheet_70 o_opens o_height o_low o_held o_fixed o_open p1_least p1_limit p1_value p1_most p1_use kx0 post n) kx0 post x2 o_sheet
def ws_X1_fillSheet_96 (o_opens : Int32) (o_height : Int32) (o_low : Int64) (o_held : Int32) (o_fixed : Nat → Int32) (o_open : Nat → Int32) (p1_least : Nat → Int32) (p1_limit : Nat → Int32) (p1_value : Nat → Int32) (p1_most : Nat → Int32) (p1_use : Nat → Nat → Int32) (kb : Int32 → (Nat → Nat → Int64) → Prop) (kx0 : (Nat → Nat → Int64) → Prop) (post : Int32 → Int32 → Int64 → (Nat → Nat → Int64) → (Nat → Int32) → Prop) (x2 : Int32) (o_sheet : Nat → Nat → Int64) : Prop :=
  (((4 : Int32) ≤ x2 → kx0 o_sheet) ∧
   (¬ (4 : Int32) ≤ x2 → (vp_in x2 4 ∧ (((o_fixed (x2).toNatClampNeg) ≤ 0 → kb (x2 + (1 : Int32)) o_sheet) ∧
   (¬ (o_fixed (x2).toNatClampNeg) ≤ 0 → (∀ v15 : Int64, v15 = ((o_sheet ((0 : Int32)).toNatClampNeg ((4 : Int32)).toNatClampNeg) + (((p1_value (x2).toNatClampNeg)).toInt64 * ((o_fixed (x2).toNatClampNeg)).toInt64)) → kb (x2 + (1 : Int32)) (msetJ o_sheet ((0 : Int32)).toNatClampNeg ((4 : Int32)).toNatClampNeg v15)))))))
def wl_X1_fillSheet_96 (o_opens : Int32) (o_height : Int32) (o_low : Int64) (o_held : Int32) (o_fixed : Nat → Int32) (o_open : Nat → Int32) (p1_least : Nat → Int32) (p1_limit : Nat → Int32) (p1_value : Nat → Int32) (p1_most : Nat → Int32) (p1_use : Nat → Nat → Int32) (kx0 : (Nat → Nat → Int64) → Prop) (post : Int32 → Int32 → Int64 → (Nat → Nat → Int64) → (Nat → Int32) → Prop) : Nat → Int32 → (Nat → Nat → Int64) → Prop
  | 0, _, _ => False
  | n + 1, x2, o_sheet => ws_X1_fillSheet_96 o_opens o_height o_low o_held o_fixed o_open p1_least p1_limit p1_value p1_most p1_use (wl_X1_fillSheet_96 o_opens o_height o_low o_held o_fixed o_open p1_least p1_limit p1_value p1_most p1_use kx0 post n) kx0 post x2 o_sheet
def ws_X1_fillSheet_144 (o_opens : Int32) (o_height : Int32) (o_low : Int64) (o_held : Int32) (o_fixed : Nat → Int32) (o_open : Nat → Int32) (p1_least : Nat → Int32) (p1_limit : Nat → Int32) (p1_value : Nat → Int32) (p1_most : Nat → Int32) (p1_use : Nat → Nat → Int32) (kb : Int32 → (Nat → Nat → Int64) → Prop) (kx0 : (Nat → Nat → Int64) → Prop) (post : Int32 → Int32 → Int64 → (Nat → Nat → Int64) → (Nat → Int32) → Prop) (x2 : Int32) (o_sheet : Nat → Nat → Int64) : Prop :=
  ((o_opens ≤ x2 → kx0 o_sheet) ∧
   (¬ o_opens ≤ x2 → (wp_X1_fillWish o_opens o_sheet o_open p1_value p1_most x2 (fun (u18 : Nat → Nat → Int64) => kb (x2 + (1 : Int32)) u18))))
def wl_X1_fillSheet_144 (o_opens : Int32) (o_height : Int32) (o_low : Int64) (o_held : Int32) (o_fixed : Nat → Int32) (o_open : Nat → Int32) (p1_least : Nat → Int32) (p1_limit : Nat → Int32) (p1_value : Nat → Int32) (p1_most : Nat → Int32) (p1_use : Nat → Nat → Int32) (kx0 : (Nat → Nat → Int64) → Prop) (post : Int32 → Int32 → Int64 → (Nat → Nat → Int64) → (Nat → Int32) → Prop) : Nat → Int32 → (Nat → Nat → Int64) → Prop
  | 0, _, _ => False
  | n + 1, x2, o_sheet => ws_X1_fillSheet_144 o_opens o_height o_low o_held o_fixed o_open p1_least p1_limit p1_value p1_most p1_use (wl_X1_fillSheet_144 o_opens o_height o_low o_held o_fixed o_open p1_least p1_limit p1_value p1_most p1_use kx0 post n) kx0 post x2 o_sheet
def ws_X1_fillSheet_166 (o_opens : Int32) (o_low : Int64) (o_held : Int32) (o_fixed : Nat → Int32) (o_open : Nat → Int32) (p1_least : Nat → Int32) (p1_limit : Nat → Int32) (p1_value : Nat → Int32) (p1_most : Nat → Int32) (p1_use : Nat → Nat → Int32) (kb : Int32 → Int32 → (Nat → Nat → Int64) → Prop) (kx0 : Int32 → (Nat → Nat → Int64) → Prop) (post : Int32 → Int32 → Int64 → (Nat → Nat → Int64) → (Nat → Int32) → Prop) (x2 : Int32) (o_height : Int32) (o_sheet : Nat → Nat → Int64) : Prop :=
  (((5 : Int32) ≤ x2 → kx0 o_height o_sheet) ∧
   (¬ (5 : Int32) ≤ x2 → ((((o_held >>> (x2 &&& 31)) &&& (1 : Int32)) = (1 : Int32) → (wp_X1_fillGate o_opens o_height o_sheet o_fixed o_open p1_least p1_limit p1_use x2 (fun (u22 : Int32) (u23 : Nat → Nat → Int64) => kb (x2 + (1 : Int32)) u22 u23))) ∧
   (¬ ((o_held >>> (x2 &&& 31)) &&& (1 : Int32)) = (1 : Int32) → kb (x2 + (1 : Int32)) o_height o_sheet))))
def wl_X1_fillSheet_166 (o_opens : Int32) (o_low : Int64) (o_held : Int32) (o_fixed : Nat → Int32) (o_open : Nat → Int32) (p1_least : Nat → Int32) (p1_limit : Nat → Int32) (p1_value : Nat → Int32) (p1_most : Nat → Int32) (p1_use : Nat → Nat → Int32) (kx0 : Int32 → (Nat → Nat → Int64) → Prop) (post : Int32 → Int32 → Int64 → (Nat → Nat → Int64) → (Nat → Int32) → Prop) : Nat → Int32 → Int32 → (Nat → Nat → Int64) → Prop
  | 0, _, _, _ => False
  | n + 1, x2, o_height, o_sheet => ws_X1_fillSheet_166 o_opens o_low o_held o_fixed o_open p1_least p1_limit p1_value p1_most p1_use (wl_X1_fillSheet_166 o_opens o_low o_held o_fixed o_open p1_least p1_limit p1_value p1_most p1_use kx0 post n) kx0 post x2 o_height o_sheet
def wp_X1_fillSheet  (o_opens : Int32) (o_height : Int32) (o_low : Int64) (o_held : Int32) (o_sheet : Nat → Nat → Int64) (o_fixed : Nat → Int32) (o_open : Nat → Int32) (p1_least : Nat → Int32) (p1_limit : Nat → Int32) (p1_value : Nat → Int32) (p1_most : Nat → Int32) (p1_use : Nat → Nat → Int32)  (post : Int32 → Int32 → Int64 → (Nat → Nat → Int64) → (Nat → Int32) → Prop) : Prop :=
  ∃ n30, wl_X1_fillSheet_12 o_height (1 : Int64) o_held o_sheet o_fixed p1_least p1_limit p1_value p1_most p1_use (fun (o_opens_5 : Int32) (o_open_6 : Nat → Int32) => ∃ n29, wl_X1_fillSheet_70 o_opens_5 ((1 : Int32) + ((2 : Int32) * o_opens_5)) (1 : Int64) o_held o_fixed o_open_6 p1_least p1_limit p1_value p1_most p1_use (fun (o_sheet_11 : Nat → Nat → Int64) => ∃ n28, wl_X1_fillSheet_96 o_opens_5 ((1 : Int32) + ((2 : Int32) * o_opens_5)) (1 : Int64) o_held o_fixed o_open_6 p1_least p1_limit p1_value p1_most p1_use (fun (o_sheet_16 : Nat → Nat → Int64) => ∃ n27, wl_X1_fillSheet_144 o_opens_5 ((1 : Int32) + ((2 : Int32) * o_opens_5)) (1 : Int64) o_held o_fixed o_open_6 p1_least p1_limit p1_value p1_most p1_use (fun (o_sheet_19 : Nat → Nat → Int64) => ∃ n26, wl_X1_fillSheet_166 o_opens_5 (1 : Int64) o_held o_fixed o_open_6 p1_least p1_limit p1_value p1_most p1_use (fun (o_height_24 : Int32) (o_sheet_25 : Nat → Nat → Int64) => post o_opens_5 o_height_24 (1 : Int64) o_sheet_25 o_open_6) post n26 (0 : Int32) ((1 : Int32) + ((2 : Int32) * o_opens_5)) o_sheet_19) post n27 (0 : Int32) o_sheet_16) post n28 (0 : Int32) o_sheet_11) post n29 (0 : Int32) o_sheet) post n30 (0 : Int32) (0 : Int32) o_open
abbrev w_X1_fillSheet (cy : Nat → ClassId) (a_o a_o_sheet a_o_fixed a_o_open a_o_parts a_p1 a_p1_isTold a_p1_least a_p1_gateOff a_p1_limit a_p1_value a_p1_kind a_p1_most a_p1_wishOff a_p1_use : Nat) (r_o_sheet r_p1_use : Nat → Nat) (o_opens : Int32) (o_height : Int32) (o_low : Int64) (o_held : Int32) (o_sheet : Nat → Nat → Int64) (o_fixed : Nat → Int32) (o_open : Nat → Int32) (p1_wishes : Int32) (p1_least : Nat → Int32) (p1_limit : Nat → Int32) (p1_value : Nat → Int32) (p1_most : Nat → Int32) (p1_use : Nat → Nat → Int32) : va_W := [(a_o, .inr (1, [.ref a_o_sheet, .ref a_o_fixed, .ref a_o_open, .ref a_o_parts, .int o_opens, .int o_height, .long o_low, .int o_held])), (a_o_sheet, .inl (cy 5, 14, .inr (.inr (.inr (.inr (mref r_o_sheet 14)))))), (a_o_fixed, .inl (cy 1, 4, .inl o_fixed)), (a_o_open, .inl (cy 1, 4, .inl o_open)), (a_p1, .inr (4, [.ref a_p1_isTold, .ref a_p1_least, .ref a_p1_gateOff, .ref a_p1_limit, .ref a_p1_value, .ref a_p1_kind, .ref a_p1_most, .ref a_p1_wishOff, .ref a_p1_use, .int p1_wishes])), (a_p1_least, .inl (cy 3, 5, .inl p1_least)), (a_p1_limit, .inl (cy 1, 5, .inl p1_limit)), (a_p1_value, .inl (cy 1, 4, .inl p1_value)), (a_p1_most, .inl (cy 1, 4, .inl p1_most)), (a_p1_use, .inl (cy 4, 4, .inr (.inr (.inr (.inr (mref r_p1_use 4))))))] ++ rows14 r_o_sheet (rowJ (cy 2) 5 o_sheet) ++ (rows4 r_p1_use (rowI (cy 1) 5 p1_use) ++ [])
set_option maxRecDepth 20000 in
theorem ggX1_fillSheet_J7_fill_d0a16 : GoodIn wsX1_fillSheet wsJ7_fill_d0a16 := goodIn_r _ [12] (by decide +kernel) (by decide +kernel)
set_option maxRecDepth 20000 in
theorem ggX1_fillSheet_X1_fillGate : GoodIn wsX1_fillSheet wsX1_fillGate := goodIn_r _ [22, 5, 6, 23, 24, 3, 25, 1, 4, 26, 27, 28, 29, 30, 31, 32, 33, 34, 35, 36, 37, 38, 39, 40, 41, 42, 43] (by decide +kernel) (by decide +kernel)
set_option maxRecDepth 20000 in
theorem ggX1_fillSheet_X1_fillWish : GoodIn wsX1_fillSheet wsX1_fillWish := goodIn_r _ [17, 4, 7, 18, 6, 1, 26, 27, 28, 29, 30, 31, 32, 33, 34, 35, 36, 37, 38, 39, 40, 41, 42, 43] (by decide +kernel) (by decide +kernel)
set_option maxRecDepth 20000 in
theorem gX1_fillSheet_J7_fill_d0a16 : GoodIn wsX1_fillSheet (va_wsS RX1 115 yJ7_fill_d0a16 wsJ7_fill_d0a16) := goodIn_app (goodIn_of _ (by decide +kernel)) ggX1_fillSheet_J7_fill_d0a16
set_option maxRecDepth 20000 in
theorem gX1_fillSheet_X1_fillGate : GoodIn wsX1_fillSheet (wsV RX1 128 RX1 yX1_fillGate wsX1_fillGate) := goodIn_app (goodIn_of _ (by decide +kernel)) ggX1_fillSheet_X1_fillGate
set_option maxRecDepth 20000 in
theorem gX1_fillSheet_X1_fillWish : GoodIn wsX1_fillSheet (wsV RX1 124 RX1 yX1_fillWish wsX1_fillWish) := goodIn_app (goodIn_of _ (by decide +kernel)) ggX1_fillSheet_X1_fillWish
set_option maxHeartbeats 4000000 in
set_option maxRecDepth 100000 in
theorem c_X1_fillSheet (l : Launch) (D : va_G) (cy : Nat → ClassId) (a_o a_o_sheet a_o_fixed a_o_open a_o_parts a_p1 a_p1_isTold a_p1_least a_p1_gateOff a_p1_limit a_p1_value a_p1_kind a_p1_most a_p1_wishOff a_p1_use : Nat) (r_o_sheet r_p1_use : Nat → Nat) (sz : Nat)  {o_opens : Int32} {o_height : Int32} {o_low : Int64} {o_held : Int32} {o_sheet : Nat → Nat → Int64} {o_fixed : Nat → Int32} {o_open : Nat → Int32} {p1_wishes : Int32} {p1_least : Nat → Int32} {p1_limit : Nat → Int32} {p1_value : Nat → Int32} {p1_most : Nat → Int32} {p1_use : Nat → Nat → Int32}  {post : Int32 → Int32 → Int64 → (Nat → Nat → Int64) → (Nat → Int32) → Prop} (h : wp_X1_fillSheet o_opens o_height o_low o_held o_sheet o_fixed o_open p1_least p1_limit p1_value p1_most p1_use post) : Met l yX1_fillSheet wsX1_fillSheet ({ frames := 1, cells := 0, slots := 0, locals := 28 }) (va_Pc [.ref a_o, .ref a_p1] (wI D cy sz (w_X1_fillSheet cy a_o a_o_sheet a_o_fixed a_o_open a_o_parts a_p1 a_p1_isTold a_p1_least a_p1_gateOff a_p1_limit a_p1_value a_p1_kind a_p1_most a_p1_wishOff a_p1_use r_o_sheet r_p1_use o_opens o_height o_low o_held o_sheet o_fixed o_open p1_wishes p1_least p1_limit p1_value p1_most p1_use))) (va_Qv (fun (u : Int32 × Int32 × Int64 × (Nat → Nat → Int64) × (Nat → Int32)) => post u.1 u.2.1 u.2.2.1 u.2.2.2.1 u.2.2.2.2) (fun (u : Int32 × Int32 × Int64 × (Nat → Nat → Int64) × (Nat → Int32)) t => wO D cy (va_A (w_X1_fillSheet cy a_o a_o_sheet a_o_fixed a_o_open a_o_parts a_p1 a_p1_isTold a_p1_least a_p1_gateOff a_p1_limit a_p1_value a_p1_kind a_p1_most a_p1_wishOff a_p1_use r_o_sheet r_p1_use o_opens o_height o_low o_held o_sheet o_fixed o_open p1_wishes p1_least p1_limit p1_value p1_most p1_use) sz) (w_X1_fillSheet cy a_o a_o_sheet a_o_fixed a_o_open a_o_parts a_p1 a_p1_isTold a_p1_least a_p1_gateOff a_p1_limit a_p1_value a_p1_kind a_p1_most a_p1_wishOff a_p1_use r_o_sheet r_p1_use u.1 u.2.1 u.2.2.1 o_held u.2.2.2.1 o_fixed u.2.2.2.2 p1_wishes p1_least p1_limit p1_value p1_most p1_use) t) (va_A (w_X1_fillSheet cy a_o a_o_sheet a_o_fixed a_o_open a_o_parts a_p1 a_p1_isTold a_p1_least a_p1_gateOff a_p1_limit a_p1_value a_p1_kind a_p1_most a_p1_wishOff a_p1_use r_o_sheet r_p1_use o_opens o_height o_low o_held o_sheet o_fixed o_open p1_wishes p1_least p1_limit p1_value p1_most p1_use) sz)) 0 0 (va_A (w_X1_fillSheet cy a_o a_o_sheet a_o_fixed a_o_open a_o_parts a_p1 a_p1_isTold a_p1_least a_p1_gateOff a_p1_limit a_p1_value a_p1_kind a_p1_most a_p1_wishOff a_p1_use r_o_sheet r_p1_use o_opens o_height o_low o_held o_sheet o_fixed o_open p1_wishes p1_least p1_limit p1_value p1_most p1_use) sz) := by
  refine contrV (S := Int32 × Int32 × Int64 × (Nat → Nat → Int64) × (Nat → Int32)) (post := fun (u : Int32 × Int32 × Int64 × (Nat → Nat → Int64) × (Nat → Int32)) => post u.1 u.2.1 u.2.2.1 u.2.2.2.1 u.2.2.2.2) (wOut := fun (u : Int32 × Int32 × Int64 × (Nat → Nat → Int64) × (Nat → Int32)) => (w_X1_fillSheet cy a_o a_o_sheet a_o_fixed a_o_open a_o_parts a_p1 a_p1_isTold a_p1_least a_p1_gateOff a_p1_limit a_p1_value a_p1_kind a_p1_most a_p1_wishOff a_p1_use r_o_sheet r_p1_use u.1 u.2.1 u.2.2.1 o_held u.2.2.2.1 o_fixed u.2.2.2.2 p1_wishes p1_least p1_limit p1_value p1_most p1_use)) (cc := cX1_fillSheet) (maxL := 3) (own := RX1) (by decide +kernel) rfl rfl ?_
  intro p e s m args below meth c A Q hx hb hml hown hts hK hN hP hD hS hA hret
  have in_X1 : ∀ w ∈ u_ws RX1 TX1 8, w ∈ wsX1_fillSheet := by decide +kernel
  have fl_30 := hts (.fieldLink RX1 30 "DawnTable$Clearer" "opens" "I") (by decide +kernel)
  have fl_37 := hts (.fieldLink RX1 37 "DawnTable$Clearer" "low" "J") (by decide +kernel)
  have fl_16 := hts (.fieldLink RX1 16 "DawnTable$Clearer" "fixed" "[I") (by decide +kernel)
  have fl_20 := hts (.fieldLink RX1 20 "DawnTable$Clearer" "open" "[I") (by decide +kernel)
  have fl_34 := hts (.fieldLink RX1 34 "DawnTable$Clearer" "height" "I") (by decide +kernel)
  have fl_13 := hts (.fieldLink RX1 13 "DawnTable$Clearer" "sheet" "[[J") (by decide +kernel)
  have in_X4 : ∀ w ∈ u_ws RX4 TX4 10, w ∈ wsX1_fillSheet := by decide +kernel
  have fl_121 := hts (.fieldLink RX1 121 "DawnTable$Table" "value" "[I") (by decide +kernel)
  have fl_41 := hts (.fieldLink RX1 41 "DawnTable$Clearer" "held" "I") (by decide +kernel)
  have l_12 : ∀ (o_height : Int32) (o_low : Int64) (o_sheet : Nat → Nat → Int64), ∀ (kx0 : Int32 → (Nat → Int32) → Prop), (∀ (o_opens : Int32) (o_open : Nat → Int32), kx0 o_opens o_open → ∀ (H : Heap) (locs : List Loc), va_P D vwCl (w_X1_fillSheet cy a_o a_o_sheet a_o_fixed a_o_open a_o_parts a_p1 a_p1_isTold a_p1_least a_p1_gateOff a_p1_limit a_p1_value a_p1_kind a_p1_most a_p1_wishOff a_p1_use r_o_sheet r_p1_use o_opens o_height o_low o_held o_sheet o_fixed o_open p1_wishes p1_least p1_limit p1_value p1_most p1_use) H → va_D A (w_X1_fillSheet cy a_o a_o_sheet a_o_fixed a_o_open a_o_parts a_p1 a_p1_isTold a_p1_least a_p1_gateOff a_p1_limit a_p1_value a_p1_kind a_p1_most a_p1_wishOff a_p1_use r_o_sheet r_p1_use o_opens o_height o_low o_held o_sheet o_fixed o_open p1_wishes p1_least p1_limit p1_value p1_most p1_use) → va_S A s.heap H locs → ∀ (ls : Array Slot), lv_has ls 3 [(0, .ref a_o), (1, .ref a_p1)] → W p l e ({ frames := 1, cells := 0, slots := 0, locals := 28 }) s m args below meth c H locs 0 0 Q (F0 m 56 ls [])) → ∀ (n : Nat) (x2 : Int32) (o_opens : Int32) (o_open : Nat → Int32), wl_X1_fillSheet_12 o_height o_low o_held o_sheet o_fixed p1_least p1_limit p1_value p1_most p1_use kx0 post n x2 o_opens o_open → ∀ (H : Heap) (locs : List Loc), va_P D vwCl (w_X1_fillSheet cy a_o a_o_sheet a_o_fixed a_o_open a_o_parts a_p1 a_p1_isTold a_p1_least a_p1_gateOff a_p1_limit a_p1_value a_p1_kind a_p1_most a_p1_wishOff a_p1_use r_o_sheet r_p1_use o_opens o_height o_low o_held o_sheet o_fixed o_open p1_wishes p1_least p1_limit p1_value p1_most p1_use) H → va_D A (w_X1_fillSheet cy a_o a_o_sheet a_o_fixed a_o_open a_o_parts a_p1 a_p1_isTold a_p1_least a_p1_gateOff a_p1_limit a_p1_value a_p1_kind a_p1_most a_p1_wishOff a_p1_use r_o_sheet r_p1_use o_opens o_height o_low o_held o_sheet o_fixed o_open p1_wishes p1_least p1_limit p1_value p1_most p1_use) → va_S A s.heap H locs → ∀ (ls : Array Slot), lv_has ls 3 [(0, .ref a_o), (1, .ref a_p1), (2, .int x2)] → W p l e ({ frames := 1, cells := 0, slots := 0, locals := 28 }) s m args below meth c H locs 0 0 Q (F0 m 12 ls []) := by
    intro o_height o_low o_sheet kx0 hkx0  n
    induction n with
    | zero => intro x2 o_opens o_open h; exact h.elim
    | succ n hkb =>
      intro x2 o_opens o_open h H locs hP hD hS ls hl
      replace h : ws_X1_fillSheet_12 o_height o_low o_held o_sheet o_fixed p1_least p1_limit p1_value p1_most p1_use (wl_X1_fillSheet_12 o_height o_low o_held o_sheet o_fixed p1_least p1_limit p1_value p1_most p1_use kx0 post n) kx0 post x2 o_opens o_open := h
      generalize wl_X1_fillSheet_12 o_height o_low o_held o_sheet o_fixed p1_least p1_limit p1_value p1_most p1_use kx0 post n = kb at h hkb
      unfold ws_X1_fillSheet_12 at h
      refine lv_iload_n hx hb dX1_fillSheet_12 rfl (lv_at hl 2 rfl) ?_
      refine lv_iconst (v := 4) hx hb dX1_fillSheet_13 (by decide) ?_
      refine lv_icmp_ge (tgt := 56) hx hb dX1_fillSheet_14 (by decide) (fun c1 => ?_) (fun c1 => ?_)
      · have h := h.1 c1
        exact hkx0 o_opens o_open h _ _ hP hD hS _ (lv_sub hl [0, 1] rfl)
      · have h := h.2 c1
        refine lv_aload_n hx hb dX1_fillSheet_17 rfl (lv_at hl 0 rfl) ?_
        refine va_get (D := D) (ci := 1) (v := .ref a_o_fixed) (C := RX1) (T := TX1) (N := 8) hx hb hts in_X1 hown hK hP 0 rfl rfl 1 (by decide) fl_16 (fun _ h9 => h9) rfl dX1_fillSheet_18 ?_
        refine lv_iload_n hx hb dX1_fillSheet_21 rfl (lv_at hl 2 rfl) ?_
        obtain ⟨i2, h⟩ := h
        refine va_iald hx hb hK hP 2 1 rfl rfl i2 dX1_fillSheet_22 ?_
        refine lv_iconst (v := -1) hx hb dX1_fillSheet_23 (by decide) ?_
        refine lv_icmp_eq (tgt := 30) hx hb dX1_fillSheet_24 (by decide) (fun c3 => ?_) (fun c3 => ?_)
        · have h := h.1 c3
          refine lv_aload_n hx hb dX1_fillSheet_30 rfl (lv_at hl 0 rfl) ?_
          refine va_get (D := D) (ci := 1) (v := .ref a_o_open) (C := RX1) (T := TX1) (N := 8) hx hb hts in_X1 hown hK hP 0 rfl rfl 2 (by decide) fl_20 (fun _ h9 => h9) rfl dX1_fillSheet_31 ?_
          refine lv_aload_n hx hb dX1_fillSheet_34 rfl (lv_at hl 0 rfl) ?_
          refine va_get (D := D) (ci := 1) (v := .int o_opens) (C := RX1) (T := TX1) (N := 8) hx hb hts in_X1 hown hK hP 0 rfl rfl 4 (by decide) fl_30 (fun _ h9 => h9) rfl dX1_fillSheet_35 ?_
          refine lv_iload_n hx hb dX1_fillSheet_38 rfl (lv_at hl 2 rfl) ?_
          obtain ⟨i4, h⟩ := h
          refine va_iast hx hb hK hP hD hS 3 1 rfl rfl i4 dX1_fillSheet_39 (fun H locs hP hD hS => ?_)
          have hP : va_P D vwCl (w_X1_fillSheet cy a_o a_o_sheet a_o_fixed a_o_open a_o_parts a_p1 a_p1_isTold a_p1_least a_p1_gateOff a_p1_limit a_p1_value a_p1_kind a_p1_most a_p1_wishOff a_p1_use r_o_sheet r_p1_use o_opens o_height o_low o_held o_sheet o_fixed (upd o_open (o_opens).toNatClampNeg x2) p1_wishes p1_least p1_limit p1_value p1_most p1_use) H := hP
          have hD : va_D A (w_X1_fillSheet cy a_o a_o_sheet a_o_fixed a_o_open a_o_parts a_p1 a_p1_isTold a_p1_least a_p1_gateOff a_p1_limit a_p1_value a_p1_kind a_p1_most a_p1_wishOff a_p1_use r_o_sheet r_p1_use o_opens o_height o_low o_held o_sheet o_fixed (upd o_open (o_opens).toNatClampNeg x2) p1_wishes p1_least p1_limit p1_value p1_most p1_use) := hD
          refine lv_aload_n hx hb dX1_fillSheet_40 rfl (lv_at hl 0 rfl) ?_
          refine lv_dup hx hb dX1_fillSheet_41 rfl ?_
          refine va_get (D := D) (ci := 1) (v := .int o_opens) (C := RX1) (T := TX1) (N := 8) hx hb hts in_X1 hown hK hP 0 rfl rfl 4 (by decide) fl_30 (fun _ h9 => h9) rfl dX1_fillSheet_42 ?_
          refine lv_iconst (v := 1) hx hb dX1_fillSheet_45 (by decide) ?_
          refine lv_iadd hx hb dX1_fillSheet_46 ?_
          refine va_put (D := D) (ci := 1) (v := .int (o_opens + (1 : Int32))) (ty := .int) (C := RX1) (T := TX1) (N := 8) hx hb hts in_X1 tyX1 tyX1_ok nmX1 hown hK hP hD hS 0 rfl rfl 4 (by decide) fl_30 (fun _ h9 => h9) rfl (by decide +kernel) rfl rfl (Nat.le_of_ble_eq_true rfl) dX1_fillSheet_47 (fun H locs hP hD hS => ?_)
          have hP : va_P D vwCl (w_X1_fillSheet cy a_o a_o_sheet a_o_fixed a_o_open a_o_parts a_p1 a_p1_isTold a_p1_least a_p1_gateOff a_p1_limit a_p1_value a_p1_kind a_p1_most a_p1_wishOff a_p1_use r_o_sheet r_p1_use (o_opens + (1 : Int32)) o_height o_low o_held o_sheet o_fixed (upd o_open (o_opens).toNatClampNeg x2) p1_wishes p1_least p1_limit p1_value p1_most p1_use) H := hP
          have hD : va_D A (w_X1_fillSheet cy a_o a_o_sheet a_o_fixed a_o_open a_o_parts a_p1 a_p1_isTold a_p1_least a_p1_gateOff a_p1_limit a_p1_value a_p1_kind a_p1_most a_p1_wishOff a_p1_use r_o_sheet r_p1_use (o_opens + (1 : Int32)) o_height o_low o_held o_sheet o_fixed (upd o_open (o_opens).toNatClampNeg x2) p1_wishes p1_least p1_limit p1_value p1_most p1_use) := hD
          refine lv_iinc (v := (x2 + (1 : Int32))) (lv' := [(2, .int (x2 + (1 : Int32))), (0, .ref a_o), (1, .ref a_p1)]) hx hb dX1_fillSheet_50 hl (k := 2) rfl (congrArg (fun z => x2 + z) (by decide : Int32.ofInt (1) = (1 : Int32))) (by decide) rfl (fun ls hl => ?_)
          refine lv_goto (tgt := 12) hx hb dX1_fillSheet_53 (by decide) ?_
          exact hkb (x2 + (1 : Int32)) (o_opens + (1 : Int32)) (upd o_open (o_opens).toNatClampNeg x2) h _ _ hP hD hS _ (lv_sub hl [1, 2, 0] rfl)
        · have h := h.2 c3
          refine lv_goto (tgt := 50) hx hb dX1_fillSheet_27 (by decide) ?_
          refine lv_iinc (v := (x2 + (1 : Int32))) (lv' := [(2, .int (x2 + (1 : Int32))), (0, .ref a_o), (1, .ref a_p1)]) hx hb dX1_fillSheet_50 hl (k := 2) rfl (congrArg (fun z => x2 + z) (by decide : Int32.ofInt (1) = (1 : Int32))) (by decide) rfl (fun ls hl => ?_)
          refine lv_goto (tgt := 12) hx hb dX1_fillSheet_53 (by decide) ?_
          exact hkb (x2 + (1 : Int32)) o_opens o_open h _ _ hP hD hS _ (lv_sub hl [1, 2, 0] rfl)
  have l_70 : ∀ (o_opens : Int32) (o_height : Int32) (o_low : Int64) (o_open : Nat → Int32), ∀ (kx0 : (Nat → Nat → Int64) → Prop), (∀ (o_sheet : Nat → Nat → Int64), kx0 o_sheet → ∀ (H : Heap) (locs : List Loc), va_P D vwCl (w_X1_fillSheet cy a_o a_o_sheet a_o_fixed a_o_open a_o_parts a_p1 a_p1_isTold a_p1_least a_p1_gateOff a_p1_limit a_p1_value a_p1_kind a_p1_most a_p1_wishOff a_p1_use r_o_sheet r_p1_use o_opens o_height o_low o_held o_sheet o_fixed o_open p1_wishes p1_least p1_limit p1_value p1_most p1_use) H → va_D A (w_X1_fillSheet cy a_o a_o_sheet a_o_fixed a_o_open a_o_parts a_p1 a_p1_isTold a_p1_least a_p1_gateOff a_p1_limit a_p1_value a_p1_kind a_p1_most a_p1_wishOff a_p1_use r_o_sheet r_p1_use o_opens o_height o_low o_held o_sheet o_fixed o_open p1_wishes p1_least p1_limit p1_value p1_most p1_use) → va_S A s.heap H locs → ∀ (ls : Array Slot), lv_has ls 3 [(0, .ref a_o), (1, .ref a_p1)] → W p l e ({ frames := 1, cells := 0, slots := 0, locals := 28 }) s m args below meth c H locs 0 0 Q (F0 m 94 ls [])) → ∀ (n : Nat) (x2 : Int32) (o_sheet : Nat → Nat → Int64), wl_X1_fillSheet_70 o_opens o_height o_low o_held o_fixed o_open p1_least p1_limit p1_value p1_most p1_use kx0 post n x2 o_sheet → ∀ (H : Heap) (locs : List Loc), va_P D vwCl (w_X1_fillSheet cy a_o a_o_sheet a_o_fixed a_o_open a_o_parts a_p1 a_p1_isTold a_p1_least a_p1_gateOff a_p1_limit a_p1_value a_p1_kind a_p1_most a_p1_wishOff a_p1_use r_o_sheet r_p1_use o_opens o_height o_low o_held o_sheet o_fixed o_open p1_wishes p1_least p1_limit p1_value p1_most p1_use) H → va_D A (w_X1_fillSheet cy a_o a_o_sheet a_o_fixed a_o_open a_o_parts a_p1 a_p1_isTold a_p1_least a_p1_gateOff a_p1_limit a_p1_value a_p1_kind a_p1_most a_p1_wishOff a_p1_use r_o_sheet r_p1_use o_opens o_height o_low o_held o_sheet o_fixed o_open p1_wishes p1_least p1_limit p1_value p1_most p1_use) → va_S A s.heap H locs → ∀ (ls : Array Slot), lv_has ls 3 [(0, .ref a_o), (1, .ref a_p1), (2, .int x2)] → W p l e ({ frames := 1, cells := 0, slots := 0, locals := 28 }) s m args below meth c H locs 0 0 Q (F0 m 70 ls []) := by
    intro o_opens o_height o_low o_open kx0 hkx0  n
    induction n with
    | zero => intro x2 o_sheet h; exact h.elim
    | succ n hkb =>
      intro x2 o_sheet h H locs hP hD hS ls hl
      replace h : ws_X1_fillSheet_70 o_opens o_height o_low o_held o_fixed o_open p1_least p1_limit p1_value p1_most p1_use (wl_X1_fillSheet_70 o_opens o_height o_low o_held o_fixed o_open p1_least p1_limit p1_value p1_most p1_use kx0 post n) kx0 post x2 o_sheet := h
      generalize wl_X1_fillSheet_70 o_opens o_height o_low o_held o_fixed o_open p1_least p1_limit p1_value p1_most p1_use kx0 post n = kb at h hkb
      unfold ws_X1_fillSheet_70 at h
      refine lv_iload_n hx hb dX1_fillSheet_70 rfl (lv_at hl 2 rfl) ?_
      refine lv_aload_n hx hb dX1_fillSheet_71 rfl (lv_at hl 0 rfl) ?_
      refine va_get (D := D) (ci := 1) (v := .int o_height) (C := RX1) (T := TX1) (N := 8) hx hb hts in_X1 hown hK hP 0 rfl rfl 5 (by decide) fl_34 (fun _ h9 => h9) rfl dX1_fillSheet_72 ?_
      refine lv_icmp_ge (tgt := 94) hx hb dX1_fillSheet_75 (by decide) (fun c7 => ?_) (fun c7 => ?_)
      · have h := h.1 c7
        exact hkx0 o_sheet h _ _ hP hD hS _ (lv_sub hl [0, 1] rfl)
      · have h := h.2 c7
        refine lv_aload_n hx hb dX1_fillSheet_78 rfl (lv_at hl 0 rfl) ?_
        refine va_get (D := D) (ci := 1) (v := .ref a_o_sheet) (C := RX1) (T := TX1) (N := 8) hx hb hts in_X1 hown hK hP 0 rfl rfl 0 (by decide) fl_13 (fun _ h9 => h9) rfl dX1_fillSheet_79 ?_
        refine lv_iload_n hx hb dX1_fillSheet_82 rfl (lv_at hl 2 rfl) ?_
        obtain ⟨i8, h⟩ := h
        refine mx_ald hx hb hK hP 1 5 rfl rfl i8 dX1_fillSheet_83 ?_
        refine lv_lconst (v := 0) hx hb dX1_fillSheet_84 (by decide) ?_
        have hr10 : (w_X1_fillSheet cy a_o a_o_sheet a_o_fixed a_o_open a_o_parts a_p1 a_p1_isTold a_p1_least a_p1_gateOff a_p1_limit a_p1_value a_p1_kind a_p1_most a_p1_wishOff a_p1_use r_o_sheet r_p1_use o_opens o_height o_low o_held o_sheet o_fixed o_open p1_wishes p1_least p1_limit p1_value p1_most p1_use)[10 + (x2).toNatClampNeg]? = some (r_o_sheet (x2).toNatClampNeg, rowJ (cy 2) 5 o_sheet (x2).toNatClampNeg) := (gJ0 (in_lt i8))
        obtain ⟨hPc, hDc⟩ := cut1 hP hD hr10
        have hFc := free1 hD hS hA hr10
        refine va_callv (va_runS (As := [.ref (r_o_sheet (x2).toNatClampNeg), .long (0 : Int64)]) (rest := []) ⟨hx, hb, hml, hown, hts⟩ (c_J7_fill_d0a16 l D cy (r_o_sheet (x2).toNatClampNeg) 5 _ h) (va_cwS 2 hts gX1_fillSheet_J7_fill_d0a16 rfl rfl rfl (by decide +kernel) ⟨Nat.le_of_ble_eq_true rfl, Nat.le_of_ble_eq_true rfl⟩) (preS hPc hDc hK hN) rfl rfl hl.1 rfl (lv_room (Nat.le_of_ble_eq_true rfl)) dX1_fillSheet_85 ⟨Nat.zero_le _, Nat.zero_le _⟩) hS (fun q _ h => hFc q h) hFc (fun u9 t H1 locs ht hvm h hB hz1 hk1 hS => ?_)
        try dsimp only at h hB
        obtain ⟨hP, hD⟩ := join1 hP hD hr10 hk1 ht hB
        generalize H1 = H at hP hS ⊢
        have hP : va_P D vwCl (w_X1_fillSheet cy a_o a_o_sheet a_o_fixed a_o_open a_o_parts a_p1 a_p1_isTold a_p1_least a_p1_gateOff a_p1_limit a_p1_value a_p1_kind a_p1_most a_p1_wishOff a_p1_use r_o_sheet r_p1_use o_opens o_height o_low o_held (va_up o_sheet (x2).toNatClampNeg u9) o_fixed o_open p1_wishes p1_least p1_limit p1_value p1_most p1_use) H := Eq.mp (congrArg (fun w => va_P D vwCl w H) (pJ0 (in_lt i8))) hP
        have hD : va_D A (w_X1_fillSheet cy a_o a_o_sheet a_o_fixed a_o_open a_o_parts a_p1 a_p1_isTold a_p1_least a_p1_gateOff a_p1_limit a_p1_value a_p1_kind a_p1_most a_p1_wishOff a_p1_use r_o_sheet r_p1_use o_opens o_height o_low o_held (va_up o_sheet (x2).toNatClampNeg u9) o_fixed o_open p1_wishes p1_least p1_limit p1_value p1_most p1_use) := Eq.mp (congrArg (fun w => va_D A w) (pJ0 (in_lt i8))) hD
        refine lv_iinc (v := (x2 + (1 : Int32))) (lv' := [(2, .int (x2 + (1 : Int32))), (0, .ref a_o), (1, .ref a_p1)]) hx hb dX1_fillSheet_88 hl (k := 2) rfl (congrArg (fun z => x2 + z) (by decide : Int32.ofInt (1) = (1 : Int32))) (by decide) rfl (fun ls hl => ?_)
        refine lv_goto (tgt := 70) hx hb dX1_fillSheet_91 (by decide) ?_
        exact hkb (x2 + (1 : Int32)) (va_up o_sheet (x2).toNatClampNeg u9) h _ _ hP hD hS _ (lv_sub hl [1, 2, 0] rfl)
  have l_96 : ∀ (o_opens : Int32) (o_height : Int32) (o_low : Int64) (o_open : Nat → Int32), ∀ (kx0 : (Nat → Nat → Int64) → Prop), (∀ (o_sheet : Nat → Nat → Int64), kx0 o_sheet → ∀ (H : Heap) (locs : List Loc), va_P D vwCl (w_X1_fillSheet cy a_o a_o_sheet a_o_fixed a_o_open a_o_parts a_p1 a_p1_isTold a_p1_least a_p1_gateOff a_p1_limit a_p1_value a_p1_kind a_p1_most a_p1_wishOff a_p1_use r_o_sheet r_p1_use o_opens o_height o_low o_held o_sheet o_fixed o_open p1_wishes p1_least p1_limit p1_value p1_most p1_use) H → va_D A (w_X1_fillSheet cy a_o a_o_sheet a_o_fixed a_o_open a_o_parts a_p1 a_p1_isTold a_p1_least a_p1_gateOff a_p1_limit a_p1_value a_p1_kind a_p1_most a_p1_wishOff a_p1_use r_o_sheet r_p1_use o_opens o_height o_low o_held o_sheet o_fixed o_open p1_wishes p1_least p1_limit p1_value p1_most p1_use) → va_S A s.heap H locs → ∀ (ls : Array Slot), lv_has ls 3 [(0, .ref a_o), (1, .ref a_p1)] → W p l e ({ frames := 1, cells := 0, slots := 0, locals := 28 }) s m args below meth c H locs 0 0 Q (F0 m 142 ls [])) → ∀ (n : Nat) (x2 : Int32) (o_sheet : Nat → Nat → Int64), wl_X1_fillSheet_96 o_opens o_height o_low o_held o_fixed o_open p1_least p1_limit p1_value p1_most p1_use kx0 post n x2 o_sheet → ∀ (H : Heap) (locs : List Loc), va_P D vwCl (w_X1_fillSheet cy a_o a_o_sheet a_o_fixed a_o_open a_o_parts a_p1 a_p1_isTold a_p1_least a_p1_gateOff a_p1_limit a_p1_value a_p1_kind a_p1_most a_p1_wishOff a_p1_use r_o_sheet r_p1_use o_opens o_height o_low o_held o_sheet o_fixed o_open p1_wishes p1_least p1_limit p1_value p1_most p1_use) H → va_D A (w_X1_fillSheet cy a_o a_o_sheet a_o_fixed a_o_open a_o_parts a_p1 a_p1_isTold a_p1_least a_p1_gateOff a_p1_limit a_p1_value a_p1_kind a_p1_most a_p1_wishOff a_p1_use r_o_sheet r_p1_use o_opens o_height o_low o_held o_sheet o_fixed o_open p1_wishes p1_least p1_limit p1_value p1_most p1_use) → va_S A s.heap H locs → ∀ (ls : Array Slot), lv_has ls 3 [(0, .ref a_o), (1, .ref a_p1), (2, .int x2)] → W p l e ({ frames := 1, cells := 0, slots := 0, locals := 28 }) s m args below meth c H locs 0 0 Q (F0 m 96 ls []) := by
    intro o_opens o_height o_low o_open kx0 hkx0  n
    induction n with
    | zero => intro x2 o_sheet h; exact h.elim
    | succ n hkb =>
      intro x2 o_sheet h H locs hP hD hS ls hl
      replace h : ws_X1_fillSheet_96 o_opens o_height o_low o_held o_fixed o_open p1_least p1_limit p1_value p1_most p1_use (wl_X1_fillSheet_96 o_opens o_height o_low o_held o_fixed o_open p1_least p1_limit p1_value p1_most p1_use kx0 post n) kx0 post x2 o_sheet := h
      generalize wl_X1_fillSheet_96 o_opens o_height o_low o_held o_fixed o_open p1_least p1_limit p1_value p1_most p1_use kx0 post n = kb at h hkb
      unfold ws_X1_fillSheet_96 at h
      refine lv_iload_n hx hb dX1_fillSheet_96 rfl (lv_at hl 2 rfl) ?_
      refine lv_iconst (v := 4) hx hb dX1_fillSheet_97 (by decide) ?_
      refine lv_icmp_ge (tgt := 142) hx hb dX1_fillSheet_98 (by decide) (fun c12 => ?_) (fun c12 => ?_)
      · have h := h.1 c12
        exact hkx0 o_sheet h _ _ hP hD hS _ (lv_sub hl [0, 1] rfl)
      · have h := h.2 c12
        refine lv_aload_n hx hb dX1_fillSheet_101 rfl (lv_at hl 0 rfl) ?_
        refine va_get (D := D) (ci := 1) (v := .ref a_o_fixed) (C := RX1) (T := TX1) (N := 8) hx hb hts in_X1 hown hK hP 0 rfl rfl 1 (by decide) fl_16 (fun _ h9 => h9) rfl dX1_fillSheet_102 ?_
        refine lv_iload_n hx hb dX1_fillSheet_105 rfl (lv_at hl 2 rfl) ?_
        obtain ⟨i13, h⟩ := h
        refine va_iald hx hb hK hP 2 1 rfl rfl i13 dX1_fillSheet_106 ?_
        refine lv_if_le (tgt := 136) hx hb dX1_fillSheet_107 (by decide) (fun c14 => ?_) (fun c14 => ?_)
        · have h := h.1 c14
          refine lv_iinc (v := (x2 + (1 : Int32))) (lv' := [(2, .int (x2 + (1 : Int32))), (0, .ref a_o), (1, .ref a_p1)]) hx hb dX1_fillSheet_136 hl (k := 2) rfl (congrArg (fun z => x2 + z) (by decide : Int32.ofInt (1) = (1 : Int32))) (by decide) rfl (fun ls hl => ?_)
          refine lv_goto (tgt := 96) hx hb dX1_fillSheet_139 (by decide) ?_
          exact hkb (x2 + (1 : Int32)) o_sheet h _ _ hP hD hS _ (lv_sub hl [1, 2, 0] rfl)
        · have h := h.2 c14
          refine lv_aload_n hx hb dX1_fillSheet_110 rfl (lv_at hl 0 rfl) ?_
          refine va_get (D := D) (ci := 1) (v := .ref a_o_sheet) (C := RX1) (T := TX1) (N := 8) hx hb hts in_X1 hown hK hP 0 rfl rfl 0 (by decide) fl_13 (fun _ h9 => h9) rfl dX1_fillSheet_111 ?_
          refine lv_iconst (v := 0) hx hb dX1_fillSheet_114 (by decide) ?_
          refine mx_ald hx hb hK hP 1 5 rfl rfl (by unfold vp_in; decide) dX1_fillSheet_115 ?_
          refine lv_iconst (v := 4) hx hb dX1_fillSheet_116 (by decide) ?_
          refine lv_dup2_11 hx hb dX1_fillSheet_117 rfl rfl ?_
          refine va_lald hx hb hK hP (10 + ((0 : Int32)).toNatClampNeg) 2 (gJ0 (by decide)) rfl (by unfold vp_in; decide) dX1_fillSheet_118 ?_
          refine lv_aload_n hx hb dX1_fillSheet_119 rfl (lv_at hl 1 rfl) ?_
          refine va_get (D := D) (ci := 4) (v := .ref a_p1_value) (C := RX4) (T := TX4) (N := 10) hx hb hts in_X4 hown hK hP 4 rfl rfl 4 (by decide) fl_121 (fun _ h9 => h9) rfl dX1_fillSheet_120 ?_
          refine lv_iload_n hx hb dX1_fillSheet_123 rfl (lv_at hl 2 rfl) ?_
          refine va_iald hx hb hK hP 7 1 rfl rfl i13 dX1_fillSheet_124 ?_
          refine lv_i2l hx hb dX1_fillSheet_125 rfl ?_
          refine lv_aload_n hx hb dX1_fillSheet_126 rfl (lv_at hl 0 rfl) ?_
          refine va_get (D := D) (ci := 1) (v := .ref a_o_fixed) (C := RX1) (T := TX1) (N := 8) hx hb hts in_X1 hown hK hP 0 rfl rfl 1 (by decide) fl_16 (fun _ h9 => h9) rfl dX1_fillSheet_127 ?_
          refine lv_iload_n hx hb dX1_fillSheet_130 rfl (lv_at hl 2 rfl) ?_
          refine va_iald hx hb hK hP 2 1 rfl rfl i13 dX1_fillSheet_131 ?_
          refine lv_i2l hx hb dX1_fillSheet_132 rfl ?_
          refine lv_lmul hx hb dX1_fillSheet_133 ?_
          refine lv_ladd hx hb dX1_fillSheet_134 ?_
          refine lv_topl (fun v15 ev15 => ?_)
          have h := h v15 ev15
          refine va_last hx hb hK hP hD hS (10 + ((0 : Int32)).toNatClampNeg) 2 (gJ0 (by decide)) rfl (by unfold vp_in; decide) dX1_fillSheet_135 (fun H locs hP hD hS => ?_)
          have hP : va_P D vwCl (w_X1_fillSheet cy a_o a_o_sheet a_o_fixed a_o_open a_o_parts a_p1 a_p1_isTold a_p1_least a_p1_gateOff a_p1_limit a_p1_value a_p1_kind a_p1_most a_p1_wishOff a_p1_use r_o_sheet r_p1_use o_opens o_height o_low o_held (msetJ o_sheet ((0 : Int32)).toNatClampNeg ((4 : Int32)).toNatClampNeg v15) o_fixed o_open p1_wishes p1_least p1_limit p1_value p1_most p1_use) H := Eq.mp (congrArg (fun w => va_P D vwCl w H) (pJ0 (by decide))) hP
          have hD : va_D A (w_X1_fillSheet cy a_o a_o_sheet a_o_fixed a_o_open a_o_parts a_p1 a_p1_isTold a_p1_least a_p1_gateOff a_p1_limit a_p1_value a_p1_kind a_p1_most a_p1_wishOff a_p1_use r_o_sheet r_p1_use o_opens o_height o_low o_held (msetJ o_sheet ((0 : Int32)).toNatClampNeg ((4 : Int32)).toNatClampNeg v15) o_fixed o_open p1_wishes p1_least p1_limit p1_value p1_most p1_use) := Eq.mp (congrArg (fun w => va_D A w) (pJ0 (by decide))) hD
          refine lv_iinc (v := (x2 + (1 : Int32))) (lv' := [(2, .int (x2 + (1 : Int32))), (0, .ref a_o), (1, .ref a_p1)]) hx hb dX1_fillSheet_136 hl (k := 2) rfl (congrArg (fun z => x2 + z) (by decide : Int32.ofInt (1) = (1 : Int32))) (by decide) rfl (fun ls hl => ?_)
          refine lv_goto (tgt := 96) hx hb dX1_fillSheet_139 (by decide) ?_
          exact hkb (x2 + (1 : Int32)) (msetJ o_sheet ((0 : Int32)).toNatClampNeg ((4 : Int32)).toNatClampNeg v15) h _ _ hP hD hS _ (lv_sub hl [1, 2, 0] rfl)
  have l_144 : ∀ (o_opens : Int32) (o_height : Int32) (o_low : Int64) (o_open : Nat → Int32), ∀ (kx0 : (Nat → Nat → Int64) → Prop), (∀ (o_sheet : Nat → Nat → Int64), kx0 o_sheet → ∀ (H : Heap) (locs : List Loc), va_P D vwCl (w_X1_fillSheet cy a_o a_o_sheet a_o_fixed a_o_open a_o_parts a_p1 a_p1_isTold a_p1_least a_p1_gateOff a_p1_limit a_p1_value a_p1_kind a_p1_most a_p1_wishOff a_p1_use r_o_sheet r_p1_use o_opens o_height o_low o_held o_sheet o_fixed o_open p1_wishes p1_least p1_limit p1_value p1_most p1_use) H → va_D A (w_X1_fillSheet cy a_o a_o_sheet a_o_fixed a_o_open a_o_parts a_p1 a_p1_isTold a_p1_least a_p1_gateOff a_p1_limit a_p1_value a_p1_kind a_p1_most a_p1_wishOff a_p1_use r_o_sheet r_p1_use o_opens o_height o_low o_held o_sheet o_fixed o_open p1_wishes p1_least p1_limit p1_value p1_most p1_use) → va_S A s.heap H locs → ∀ (ls : Array Slot), lv_has ls 3 [(0, .ref a_o), (1, .ref a_p1)] → W p l e ({ frames := 1, cells := 0, slots := 0, locals := 28 }) s m args below meth c H locs 0 0 Q (F0 m 164 ls [])) → ∀ (n : Nat) (x2 : Int32) (o_sheet : Nat → Nat → Int64), wl_X1_fillSheet_144 o_opens o_height o_low o_held o_fixed o_open p1_least p1_limit p1_value p1_most p1_use kx0 post n x2 o_sheet → ∀ (H : Heap) (locs : List Loc), va_P D vwCl (w_X1_fillSheet cy a_o a_o_sheet a_o_fixed a_o_open a_o_parts a_p1 a_p1_isTold a_p1_least a_p1_gateOff a_p1_limit a_p1_value a_p1_kind a_p1_most a_p1_wishOff a_p1_use r_o_sheet r_p1_use o_opens o_height o_low o_held o_sheet o_fixed o_open p1_wishes p1_least p1_limit p1_value p1_most p1_use) H → va_D A (w_X1_fillSheet cy a_o a_o_sheet a_o_fixed a_o_open a_o_parts a_p1 a_p1_isTold a_p1_least a_p1_gateOff a_p1_limit a_p1_value a_p1_kind a_p1_most a_p1_wishOff a_p1_use r_o_sheet r_p1_use o_opens o_height o_low o_held o_sheet o_fixed o_open p1_wishes p1_least p1_limit p1_value p1_most p1_use) → va_S A s.heap H locs → ∀ (ls : Array Slot), lv_has ls 3 [(0, .ref a_o), (1, .ref a_p1), (2, .int x2)] → W p l e ({ frames := 1, cells := 0, slots := 0, locals := 28 }) s m args below meth c H locs 0 0 Q (F0 m 144 ls []) := by
    intro o_opens o_height o_low o_open kx0 hkx0  n
    induction n with
    | zero => intro x2 o_sheet h; exact h.elim
    | succ n hkb =>
      intro x2 o_sheet h H locs hP hD hS ls hl
      replace h : ws_X1_fillSheet_144 o_opens o_height o_low o_held o_fixed o_open p1_least p1_limit p1_value p1_most p1_use (wl_X1_fillSheet_144 o_opens o_height o_low o_held o_fixed o_open p1_least p1_limit p1_value p1_most p1_use kx0 post n) kx0 post x2 o_sheet := h
      generalize wl_X1_fillSheet_144 o_opens o_height o_low o_held o_fixed o_open p1_least p1_limit p1_value p1_most p1_use kx0 post n = kb at h hkb
      unfold ws_X1_fillSheet_144 at h
      refine lv_iload_n hx hb dX1_fillSheet_144 rfl (lv_at hl 2 rfl) ?_
      refine lv_aload_n hx hb dX1_fillSheet_145 rfl (lv_at hl 0 rfl) ?_
      refine va_get (D := D) (ci := 1) (v := .int o_opens) (C := RX1) (T := TX1) (N := 8) hx hb hts in_X1 hown hK hP 0 rfl rfl 4 (by decide) fl_30 (fun _ h9 => h9) rfl dX1_fillSheet_146 ?_
      refine lv_icmp_ge (tgt := 164) hx hb dX1_fillSheet_149 (by decide) (fun c17 => ?_) (fun c17 => ?_)
      · have h := h.1 c17
        exact hkx0 o_sheet h _ _ hP hD hS _ (lv_sub hl [0, 1] rfl)
      · have h := h.2 c17
        refine lv_aload_n hx hb dX1_fillSheet_152 rfl (lv_at hl 0 rfl) ?_
        refine lv_aload_n hx hb dX1_fillSheet_153 rfl (lv_at hl 1 rfl) ?_
        refine lv_iload_n hx hb dX1_fillSheet_154 rfl (lv_at hl 2 rfl) ?_
        have hC : ([0, 1, 3, 4, 7, 8, 10, 11, 12, 13, 14, 15, 16, 17, 18, 19, 20, 21, 22, 23] : List Nat).map (fun i => ((w_X1_fillSheet cy a_o a_o_sheet a_o_fixed a_o_open a_o_parts a_p1 a_p1_isTold a_p1_least a_p1_gateOff a_p1_limit a_p1_value a_p1_kind a_p1_most a_p1_wishOff a_p1_use r_o_sheet r_p1_use o_opens o_height o_low o_held o_sheet o_fixed o_open p1_wishes p1_least p1_limit p1_value p1_most p1_use) : va_W)[i]?) = ((w_X1_fillWish cy a_o a_o_sheet a_o_fixed a_o_open a_o_parts a_p1 a_p1_isTold a_p1_least a_p1_gateOff a_p1_limit a_p1_value a_p1_kind a_p1_most a_p1_wishOff a_p1_use r_o_sheet o_opens o_height o_low o_held o_sheet o_open p1_wishes p1_value p1_most) : va_W).map some := rfl
        obtain ⟨hPc, hDc⟩ := cutC hP hD [0, 1, 3, 4, 7, 8, 10, 11, 12, 13, 14, 15, 16, 17, 18, 19, 20, 21, 22, 23] (by decide) hC
        have hFc := va_free hD hS hA [0, 1, 3, 4, 7, 8, 10, 11, 12, 13, 14, 15, 16, 17, 18, 19, 20, 21, 22, 23] hC
        refine va_callv (va_runV (As := [.ref a_p1, .int x2]) (rest := []) ⟨hx, hb, hml, hown, hts⟩ (c_X1_fillWish l D cy a_o a_o_sheet a_o_fixed a_o_open a_o_parts a_p1 a_p1_isTold a_p1_least a_p1_gateOff a_p1_limit a_p1_value a_p1_kind a_p1_most a_p1_wishOff a_p1_use r_o_sheet _ h) (cwV 2 hts gX1_fillSheet_X1_fillWish rfl rfl rfl (by decide +kernel) ⟨Nat.le_of_ble_eq_true rfl, Nat.le_of_ble_eq_true rfl⟩) (preV hPc hDc hK hN (ci := 1) (q0 := 0) rfl rfl) rfl rfl hl.1 rfl (lv_room (Nat.le_of_ble_eq_true rfl)) dX1_fillSheet_155 ⟨Nat.zero_le _, Nat.zero_le _⟩) hS (fun q _ h => hFc q h) hFc (fun u18 t H1 locs ht hvm h hB hz1 hk1 hS => ?_)
        try dsimp only at h hB
        obtain ⟨hP, hD⟩ := joinT (wd := (w_X1_fillSheet cy a_o a_o_sheet a_o_fixed a_o_open a_o_parts a_p1 a_p1_isTold a_p1_least a_p1_gateOff a_p1_limit a_p1_value a_p1_kind a_p1_most a_p1_wishOff a_p1_use r_o_sheet r_p1_use o_opens o_height o_low o_held u18 o_fixed o_open p1_wishes p1_least p1_limit p1_value p1_most p1_use)) hP hD [0, 1, 3, 4, 7, 8, 10, 11, 12, 13, 14, 15, 16, 17, 18, 19, 20, 21, 22, 23] [2, 5, 6, 9, 24, 25, 26, 27] hC hk1 ht hB rfl rfl (N := 28) rfl (by decide) (by rfl)
        generalize H1 = H at hP hS ⊢
        refine lv_iinc (v := (x2 + (1 : Int32))) (lv' := [(2, .int (x2 + (1 : Int32))), (0, .ref a_o), (1, .ref a_p1)]) hx hb dX1_fillSheet_158 hl (k := 2) rfl (congrArg (fun z => x2 + z) (by decide : Int32.ofInt (1) = (1 : Int32))) (by decide) rfl (fun ls hl => ?_)
        refine lv_goto (tgt := 144) hx hb dX1_fillSheet_161 (by decide) ?_
        exact hkb (x2 + (1 : Int32)) u18 h _ _ hP hD hS _ (lv_sub hl [1, 2, 0] rfl)
  have l_166 : ∀ (o_opens : Int32) (o_low : Int64) (o_open : Nat → Int32), ∀ (kx0 : Int32 → (Nat → Nat → Int64) → Prop), (∀ (o_height : Int32) (o_sheet : Nat → Nat → Int64), kx0 o_height o_sheet → ∀ (H : Heap) (locs : List Loc), va_P D vwCl (w_X1_fillSheet cy a_o a_o_sheet a_o_fixed a_o_open a_o_parts a_p1 a_p1_isTold a_p1_least a_p1_gateOff a_p1_limit a_p1_value a_p1_kind a_p1_most a_p1_wishOff a_p1_use r_o_sheet r_p1_use o_opens o_height o_low o_held o_sheet o_fixed o_open p1_wishes p1_least p1_limit p1_value p1_most p1_use) H → va_D A (w_X1_fillSheet cy a_o a_o_sheet a_o_fixed a_o_open a_o_parts a_p1 a_p1_isTold a_p1_least a_p1_gateOff a_p1_limit a_p1_value a_p1_kind a_p1_most a_p1_wishOff a_p1_use r_o_sheet r_p1_use o_opens o_height o_low o_held o_sheet o_fixed o_open p1_wishes p1_least p1_limit p1_value p1_most p1_use) → va_S A s.heap H locs → ∀ (ls : Array Slot), lv_has ls 3 [] → W p l e ({ frames := 1, cells := 0, slots := 0, locals := 28 }) s m args below meth c H locs 0 0 Q (F0 m 195 ls [])) → ∀ (n : Nat) (x2 : Int32) (o_height : Int32) (o_sheet : Nat → Nat → Int64), wl_X1_fillSheet_166 o_opens o_low o_held o_fixed o_open p1_least p1_limit p1_value p1_most p1_use kx0 post n x2 o_height o_sheet → ∀ (H : Heap) (locs : List Loc), va_P D vwCl (w_X1_fillSheet cy a_o a_o_sheet a_o_fixed a_o_open a_o_parts a_p1 a_p1_isTold a_p1_least a_p1_gateOff a_p1_limit a_p1_value a_p1_kind a_p1_most a_p1_wishOff a_p1_use r_o_sheet r_p1_use o_opens o_height o_low o_held o_sheet o_fixed o_open p1_wishes p1_least p1_limit p1_value p1_most p1_use) H → va_D A (w_X1_fillSheet cy a_o a_o_sheet a_o_fixed a_o_open a_o_parts a_p1 a_p1_isTold a_p1_least a_p1_gateOff a_p1_limit a_p1_value a_p1_kind a_p1_most a_p1_wishOff a_p1_use r_o_sheet r_p1_use o_opens o_height o_low o_held o_sheet o_fixed o_open p1_wishes p1_least p1_limit p1_value p1_most p1_use) → va_S A s.heap H locs → ∀ (ls : Array Slot), lv_has ls 3 [(0, .ref a_o), (1, .ref a_p1), (2, .int x2)] → W p l e ({ frames := 1, cells := 0, slots := 0, locals := 28 }) s m args below meth c H locs 0 0 Q (F0 m 166 ls []) := by
    intro o_opens o_low o_open kx0 hkx0  n
    induction n with
    | zero => intro x2 o_height o_sheet h; exact h.elim
    | succ n hkb =>
      intro x2 o_height o_sheet h H locs hP hD hS ls hl
      replace h : ws_X1_fillSheet_166 o_opens o_low o_held o_fixed o_open p1_least p1_limit p1_value p1_most p1_use (wl_X1_fillSheet_166 o_opens o_low o_held o_fixed o_open p1_least p1_limit p1_value p1_most p1_use kx0 post n) kx0 post x2 o_height o_sheet := h
      generalize wl_X1_fillSheet_166 o_opens o_low o_held o_fixed o_open p1_least p1_limit p1_value p1_most p1_use kx0 post n = kb at h hkb
      unfold ws_X1_fillSheet_166 at h
      refine lv_iload_n hx hb dX1_fillSheet_166 rfl (lv_at hl 2 rfl) ?_
      refine lv_iconst (v := 5) hx hb dX1_fillSheet_167 (by decide) ?_
      refine lv_icmp_ge (tgt := 195) hx hb dX1_fillSheet_168 (by decide) (fun c20 => ?_) (fun c20 => ?_)
      · have h := h.1 c20
        exact hkx0 o_height o_sheet h _ _ hP hD hS _ (lv_sub hl [] rfl)
      · have h := h.2 c20
        refine lv_aload_n hx hb dX1_fillSheet_171 rfl (lv_at hl 0 rfl) ?_
        refine va_get (D := D) (ci := 1) (v := .int o_held) (C := RX1) (T := TX1) (N := 8) hx hb hts in_X1 hown hK hP 0 rfl rfl 7 (by decide) fl_41 (fun _ h9 => h9) rfl dX1_fillSheet_172 ?_
        refine lv_iload_n hx hb dX1_fillSheet_175 rfl (lv_at hl 2 rfl) ?_
        refine lv_ishr hx hb dX1_fillSheet_176 ?_
        refine lv_iconst (v := 1) hx hb dX1_fillSheet_177 (by decide) ?_
        refine lv_iand hx hb dX1_fillSheet_178 ?_
        refine lv_iconst (v := 1) hx hb dX1_fillSheet_179 (by decide) ?_
        refine lv_icmp_ne (tgt := 189) hx hb dX1_fillSheet_180 (by decide) (fun c21 => ?_) (fun c21 => ?_)
        · have h := h.2 c21
          refine lv_iinc (v := (x2 + (1 : Int32))) (lv' := [(2, .int (x2 + (1 : Int32))), (0, .ref a_o), (1, .ref a_p1)]) hx hb dX1_fillSheet_189 hl (k := 2) rfl (congrArg (fun z => x2 + z) (by decide : Int32.ofInt (1) = (1 : Int32))) (by decide) rfl (fun ls hl => ?_)
          refine lv_goto (tgt := 166) hx hb dX1_fillSheet_192 (by decide) ?_
          exact hkb (x2 + (1 : Int32)) o_height o_sheet h _ _ hP hD hS _ (lv_sub hl [1, 2, 0] rfl)
        · have h := h.1 c21
          refine lv_aload_n hx hb dX1_fillSheet_183 rfl (lv_at hl 0 rfl) ?_
          refine lv_aload_n hx hb dX1_fillSheet_184 rfl (lv_at hl 1 rfl) ?_
          refine lv_iload_n hx hb dX1_fillSheet_185 rfl (lv_at hl 2 rfl) ?_
          have hC : ([0, 1, 2, 3, 4, 5, 6, 9, 10, 11, 12, 13, 14, 15, 16, 17, 18, 19, 20, 21, 22, 23, 24, 25, 26, 27] : List Nat).map (fun i => ((w_X1_fillSheet cy a_o a_o_sheet a_o_fixed a_o_open a_o_parts a_p1 a_p1_isTold a_p1_least a_p1_gateOff a_p1_limit a_p1_value a_p1_kind a_p1_most a_p1_wishOff a_p1_use r_o_sheet r_p1_use o_opens o_height o_low o_held o_sheet o_fixed o_open p1_wishes p1_least p1_limit p1_value p1_most p1_use) : va_W)[i]?) = ((w_X1_fillGate cy a_o a_o_sheet a_o_fixed a_o_open a_o_parts a_p1 a_p1_isTold a_p1_least a_p1_gateOff a_p1_limit a_p1_value a_p1_kind a_p1_most a_p1_wishOff a_p1_use r_o_sheet r_p1_use o_opens o_height o_low o_held o_sheet o_fixed o_open p1_wishes p1_least p1_limit p1_use) : va_W).map some := rfl
          obtain ⟨hPc, hDc⟩ := cutC hP hD [0, 1, 2, 3, 4, 5, 6, 9, 10, 11, 12, 13, 14, 15, 16, 17, 18, 19, 20, 21, 22, 23, 24, 25, 26, 27] (by decide) hC
          have hFc := va_free hD hS hA [0, 1, 2, 3, 4, 5, 6, 9, 10, 11, 12, 13, 14, 15, 16, 17, 18, 19, 20, 21, 22, 23, 24, 25, 26, 27] hC
          refine va_callv (va_runV (As := [.ref a_p1, .int x2]) (rest := []) ⟨hx, hb, hml, hown, hts⟩ (c_X1_fillGate l D cy a_o a_o_sheet a_o_fixed a_o_open a_o_parts a_p1 a_p1_isTold a_p1_least a_p1_gateOff a_p1_limit a_p1_value a_p1_kind a_p1_most a_p1_wishOff a_p1_use r_o_sheet r_p1_use _ h) (cwV 2 hts gX1_fillSheet_X1_fillGate rfl rfl rfl (by decide +kernel) ⟨Nat.le_of_ble_eq_true rfl, Nat.le_of_ble_eq_true rfl⟩) (preV hPc hDc hK hN (ci := 1) (q0 := 0) rfl rfl) rfl rfl hl.1 rfl (lv_room (Nat.le_of_ble_eq_true rfl)) dX1_fillSheet_186 ⟨Nat.zero_le _, Nat.zero_le _⟩) hS (fun q _ h => hFc q h) hFc (fun u t H1 locs ht hvm h hB hz1 hk1 hS => ?_)
          obtain ⟨u22, u23⟩ := u
          try dsimp only at h hB
          obtain ⟨hP, hD⟩ := joinT (wd := (w_X1_fillSheet cy a_o a_o_sheet a_o_fixed a_o_open a_o_parts a_p1 a_p1_isTold a_p1_least a_p1_gateOff a_p1_limit a_p1_value a_p1_kind a_p1_most a_p1_wishOff a_p1_use r_o_sheet r_p1_use o_opens u22 o_low o_held u23 o_fixed o_open p1_wishes p1_least p1_limit p1_value p1_most p1_use)) hP hD [0, 1, 2, 3, 4, 5, 6, 9, 10, 11, 12, 13, 14, 15, 16, 17, 18, 19, 20, 21, 22, 23, 24, 25, 26, 27] [7, 8] hC hk1 ht hB rfl rfl (N := 28) rfl (by decide) (by rfl)
          generalize H1 = H at hP hS ⊢
          refine lv_iinc (v := (x2 + (1 : Int32))) (lv' := [(2, .int (x2 + (1 : Int32))), (0, .ref a_o), (1, .ref a_p1)]) hx hb dX1_fillSheet_189 hl (k := 2) rfl (congrArg (fun z => x2 + z) (by decide : Int32.ofInt (1) = (1 : Int32))) (by decide) rfl (fun ls hl => ?_)
          refine lv_goto (tgt := 166) hx hb dX1_fillSheet_192 (by decide) ?_
          exact hkb (x2 + (1 : Int32)) u22 u23 h _ _ hP hD hS _ (lv_sub hl [1, 2, 0] rfl)
  refine ent [.ref a_o, .ref a_p1] (Nat.le_of_ble_eq_true rfl) (fun ls hl => ?_)
  have hl : lv_has ls 3 [(0, .ref a_o), (1, .ref a_p1)] := hl
  unfold wp_X1_fillSheet at h
  refine lv_aload_n hx hb dX1_fillSheet_0 rfl (lv_at hl 0 rfl) ?_
  refine lv_iconst (v := 0) hx hb dX1_fillSheet_1 (by decide) ?_
  refine va_put (D := D) (ci := 1) (v := .int (0 : Int32)) (ty := .int) (C := RX1) (T := TX1) (N := 8) hx hb hts in_X1 tyX1 tyX1_ok nmX1 hown hK hP hD hS 0 rfl rfl 4 (by decide) fl_30 (fun _ h9 => h9) rfl (by decide +kernel) rfl rfl (Nat.le_of_ble_eq_true rfl) dX1_fillSheet_2 (fun H locs hP hD hS => ?_)
  have hP : va_P D vwCl (w_X1_fillSheet cy a_o a_o_sheet a_o_fixed a_o_open a_o_parts a_p1 a_p1_isTold a_p1_least a_p1_gateOff a_p1_limit a_p1_value a_p1_kind a_p1_most a_p1_wishOff a_p1_use r_o_sheet r_p1_use (0 : Int32) o_height o_low o_held o_sheet o_fixed o_open p1_wishes p1_least p1_limit p1_value p1_most p1_use) H := hP
  have hD : va_D A (w_X1_fillSheet cy a_o a_o_sheet a_o_fixed a_o_open a_o_parts a_p1 a_p1_isTold a_p1_least a_p1_gateOff a_p1_limit a_p1_value a_p1_kind a_p1_most a_p1_wishOff a_p1_use r_o_sheet r_p1_use (0 : Int32) o_height o_low o_held o_sheet o_fixed o_open p1_wishes p1_least p1_limit p1_value p1_most p1_use) := hD
  refine lv_aload_n hx hb dX1_fillSheet_5 rfl (lv_at hl 0 rfl) ?_
  refine lv_lconst (v := 1) hx hb dX1_fillSheet_6 (by decide) ?_
  refine va_put (D := D) (ci := 1) (v := .long (1 : Int64)) (ty := .long) (C := RX1) (T := TX1) (N := 8) hx hb hts in_X1 tyX1 tyX1_ok nmX1 hown hK hP hD hS 0 rfl rfl 6 (by decide) fl_37 (fun _ h9 => h9) rfl (by decide +kernel) rfl rfl (Nat.le_of_ble_eq_true rfl) dX1_fillSheet_7 (fun H locs hP hD hS => ?_)
  have hP : va_P D vwCl (w_X1_fillSheet cy a_o a_o_sheet a_o_fixed a_o_open a_o_parts a_p1 a_p1_isTold a_p1_least a_p1_gateOff a_p1_limit a_p1_value a_p1_kind a_p1_most a_p1_wishOff a_p1_use r_o_sheet r_p1_use (0 : Int32) o_height (1 : Int64) o_held o_sheet o_fixed o_open p1_wishes p1_least p1_limit p1_value p1_most p1_use) H := hP
  have hD : va_D A (w_X1_fillSheet cy a_o a_o_sheet a_o_fixed a_o_open a_o_parts a_p1 a_p1_isTold a_p1_least a_p1_gateOff a_p1_limit a_p1_value a_p1_kind a_p1_most a_p1_wishOff a_p1_use r_o_sheet r_p1_use (0 : Int32) o_height (1 : Int64) o_held o_sheet o_fixed o_open p1_wishes p1_least p1_limit p1_value p1_most p1_use) := hD
  refine lv_iconst (v := 0) hx hb dX1_fillSheet_10 (by decide) ?_
  refine lv_istore_n (lv' := [(2, .int (0 : Int32)), (0, .ref a_o), (1, .ref a_p1)]) hx hb dX1_fillSheet_11 rfl hl (by decide) rfl (fun ls hl => ?_)
  obtain ⟨n30, h⟩ := h
  refine l_12 o_height (1 : Int64) o_sheet _ ?_ n30 (0 : Int32) (0 : Int32) o_open h _ _ hP hD hS _ (lv_sub hl [1, 2, 0] rfl)
  · intro o_opens_5 o_open_6 h H locs hP hD hS ls hl
    refine lv_aload_n hx hb dX1_fillSheet_56 rfl (lv_at hl 0 rfl) ?_
    refine lv_iconst (v := 1) hx hb dX1_fillSheet_57 (by decide) ?_
    refine lv_iconst (v := 2) hx hb dX1_fillSheet_58 (by decide) ?_
    refine lv_aload_n hx hb dX1_fillSheet_59 rfl (lv_at hl 0 rfl) ?_
    refine va_get (D := D) (ci := 1) (v := .int o_opens_5) (C := RX1) (T := TX1) (N := 8) hx hb hts in_X1 hown hK hP 0 rfl rfl 4 (by decide) fl_30 (fun _ h9 => h9) rfl dX1_fillSheet_60 ?_
    refine lv_imul hx hb dX1_fillSheet_63 ?_
    refine lv_iadd hx hb dX1_fillSheet_64 ?_
    refine va_put (D := D) (ci := 1) (v := .int ((1 : Int32) + ((2 : Int32) * o_opens_5))) (ty := .int) (C := RX1) (T := TX1) (N := 8) hx hb hts in_X1 tyX1 tyX1_ok nmX1 hown hK hP hD hS 0 rfl rfl 5 (by decide) fl_34 (fun _ h9 => h9) rfl (by decide +kernel) rfl rfl (Nat.le_of_ble_eq_true rfl) dX1_fillSheet_65 (fun H locs hP hD hS => ?_)
    have hP : va_P D vwCl (w_X1_fillSheet cy a_o a_o_sheet a_o_fixed a_o_open a_o_parts a_p1 a_p1_isTold a_p1_least a_p1_gateOff a_p1_limit a_p1_value a_p1_kind a_p1_most a_p1_wishOff a_p1_use r_o_sheet r_p1_use o_opens_5 ((1 : Int32) + ((2 : Int32) * o_opens_5)) (1 : Int64) o_held o_sheet o_fixed o_open_6 p1_wishes p1_least p1_limit p1_value p1_most p1_use) H := hP
    have hD : va_D A (w_X1_fillSheet cy a_o a_o_sheet a_o_fixed a_o_open a_o_parts a_p1 a_p1_isTold a_p1_least a_p1_gateOff a_p1_limit a_p1_value a_p1_kind a_p1_most a_p1_wishOff a_p1_use r_o_sheet r_p1_use o_opens_5 ((1 : Int32) + ((2 : Int32) * o_opens_5)) (1 : Int64) o_held o_sheet o_fixed o_open_6 p1_wishes p1_least p1_limit p1_value p1_most p1_use) := hD
    refine lv_iconst (v := 0) hx hb dX1_fillSheet_68 (by decide) ?_
    refine lv_istore_n (lv' := [(2, .int (0 : Int32)), (0, .ref a_o), (1, .ref a_p1)]) hx hb dX1_fillSheet_69 rfl hl (by decide) rfl (fun ls hl => ?_)
    obtain ⟨n29, h⟩ := h
    refine l_70 o_opens_5 ((1 : Int32) + ((2 : Int32) * o_opens_5)) (1 : Int64) o_open_6 _ ?_ n29 (0 : Int32) o_sheet h _ _ hP hD hS _ (lv_sub hl [1, 2, 0] rfl)
    · intro o_sheet_11 h H locs hP hD hS ls hl
      refine lv_iconst (v := 0) hx hb dX1_fillSheet_94 (by decide) ?_
      refine lv_istore_n (lv' := [(2, .int (0 : Int32)), (0, .ref a_o), (1, .ref a_p1)]) hx hb dX1_fillSheet_95 rfl hl (by decide) rfl (fun ls hl => ?_)
      obtain ⟨n28, h⟩ := h
      refine l_96 o_opens_5 ((1 : Int32) + ((2 : Int32) * o_opens_5)) (1 : Int64) o_open_6 _ ?_ n28 (0 : Int32) o_sheet_11 h _ _ hP hD hS _ (lv_sub hl [1, 2, 0] rfl)
      · intro o_sheet_16 h H locs hP hD hS ls hl
        refine lv_iconst (v := 0) hx hb dX1_fillSheet_142 (by decide) ?_
        refine lv_istore_n (lv' := [(2, .int (0 : Int32)), (0, .ref a_o), (1, .ref a_p1)]) hx hb dX1_fillSheet_143 rfl hl (by decide) rfl (fun ls hl => ?_)
        obtain ⟨n27, h⟩ := h
        refine l_144 o_opens_5 ((1 : Int32) + ((2 : Int32) * o_opens_5)) (1 : Int64) o_open_6 _ ?_ n27 (0 : Int32) o_sheet_16 h _ _ hP hD hS _ (lv_sub hl [1, 2, 0] rfl)
        · intro o_sheet_19 h H locs hP hD hS ls hl
          refine lv_iconst (v := 0) hx hb dX1_fillSheet_164 (by decide) ?_
          refine lv_istore_n (lv' := [(2, .int (0 : Int32)), (0, .ref a_o), (1, .ref a_p1)]) hx hb dX1_fillSheet_165 rfl hl (by decide) rfl (fun ls hl => ?_)
          obtain ⟨n26, h⟩ := h
          refine l_166 o_opens_5 (1 : Int64) o_open_6 _ ?_ n26 (0 : Int32) ((1 : Int32) + ((2 : Int32) * o_opens_5)) o_sheet_19 h _ _ hP hD hS _ (lv_sub hl [1, 2, 0] rfl)
          · intro o_height_24 o_sheet_25 h H locs hP hD hS ls hl
            exact hret (o_opens_5, o_height_24, (1 : Int64), o_sheet_25, o_open_6) _ _ _ _ h hP hD hS dX1_fillSheet_195

def ws_X1_findParts_15 (o_opens : Int32) (o_height : Int32) (o_held : Int32) (o_fixed : Nat → Int32) (o_open : Nat → Int32) (o_parts_holds : Int32) (o_parts_value : Int64) (o_parts_low : Int64) (o_parts_x : Nat → Int64) (p1_least : Nat → Int32) (p1_limit : Nat → Int32) (p1_value : Nat → Int32) (p1_most : Nat → Int32) (p1_use : Nat → Nat → Int32) (kb : Int32 → Int64 → (Nat → Nat → Int64) → Prop) (kx0 : Int64 → (Nat → Nat → Int64) → Prop) (kx1 : Int64 → (Nat → Nat → Int64) → Prop) (kx2 : Int64 → (Nat → Nat → Int64) → Prop) (post : Int32 → Int32 → Int64 → (Nat → Nat → Int64) → (Nat → Int32) → Int32 → Int64 → Int64 → (Nat → Int64) → Prop) (x2 : Int32) (o_low : Int64) (o_sheet : Nat → Nat → Int64) : Prop :=
  (((1000 : Int32) ≤ x2 → kx0 o_low o_sheet) ∧
   (¬ (1000 : Int32) ≤ x2 → (wp_X1_lowestRow o_height o_sheet (fun (r7 : Int32) => ((0 ≤ r7 → (wp_X1_cheapestColumn o_opens o_sheet r7 (fun (r9 : Int32) => ((0 ≤ r9 → (wp_X1_turn o_opens o_height o_low o_sheet r7 r9 (fun (u11 : Int64) (u12 : Nat → Nat → Int64) => kb (x2 + (1 : Int32)) u11 u12))) ∧
   (¬ 0 ≤ r9 → kx1 o_low o_sheet))))) ∧
   (¬ 0 ≤ r7 → kx2 o_low o_sheet))))))
def wl_X1_findParts_15 (o_opens : Int32) (o_height : Int32) (o_held : Int32) (o_fixed : Nat → Int32) (o_open : Nat → Int32) (o_parts_holds : Int32) (o_parts_value : Int64) (o_parts_low : Int64) (o_parts_x : Nat → Int64) (p1_least : Nat → Int32) (p1_limit : Nat → Int32) (p1_value : Nat → Int32) (p1_most : Nat → Int32) (p1_use : Nat → Nat → Int32) (kx0 : Int64 → (Nat → Nat → Int64) → Prop) (kx1 : Int64 → (Nat → Nat → Int64) → Prop) (kx2 : Int64 → (Nat → Nat → Int64) → Prop) (post : Int32 → Int32 → Int64 → (Nat → Nat → Int64) → (Nat → Int32) → Int32 → Int64 → Int64 → (Nat → Int64) → Prop) : Nat → Int32 → Int64 → (Nat → Nat → Int64) → Prop
  | 0, _, _, _ => False
  | n + 1, x2, o_low, o_sheet => ws_X1_findParts_15 o_opens o_height o_held o_fixed o_open o_parts_holds o_parts_value o_parts_low o_parts_x p1_least p1_limit p1_value p1_most p1_use (wl_X1_findParts_15 o_opens o_height o_held o_fixed o_open o_parts_holds o_parts_value o_parts_low o_parts_x p1_least p1_limit p1_value p1_most p1_use kx0 kx1 kx2 post n) kx0 kx1 kx2 post x2 o_low o_sheet
def wp_X1_findParts  (o_opens : Int32) (o_height : Int32) (o_low : Int64) (o_held : Int32) (o_sheet : Nat → Nat → Int64) (o_fixed : Nat → Int32) (o_open : Nat → Int32) (o_parts_holds : Int32) (o_parts_value : Int64) (o_parts_low : Int64) (o_parts_x : Nat → Int64) (p1_least : Nat → Int32) (p1_limit : Nat → Int32) (p1_value : Nat → Int32) (p1_most : Nat → Int32) (p1_use : Nat → Nat → Int32)  (post : Int32 → Int32 → Int64 → (Nat → Nat → Int64) → (Nat → Int32) → Int32 → Int64 → Int64 → (Nat → Int64) → Prop) : Prop :=
  (wp_X1_fillSheet o_opens o_height o_low o_held o_sheet o_fixed o_open p1_least p1_limit p1_value p1_most p1_use (fun (u1 : Int32) (u2 : Int32) (u3 : Int64) (u4 : Nat → Nat → Int64) (u5 : Nat → Int32) => ∃ n23, wl_X1_findParts_15 u1 u2 o_held o_fixed u5 (0 : Int32) o_parts_value o_parts_low o_parts_x p1_least p1_limit p1_value p1_most p1_use (fun (o_low_13 : Int64) (o_sheet_14 : Nat → Nat → Int64) => post u1 u2 o_low_13 o_sheet_14 u5 (0 : Int32) o_parts_value o_parts_low o_parts_x) (fun (o_low_15 : Int64) (o_sheet_16 : Nat → Nat → Int64) => post u1 u2 o_low_15 o_sheet_16 u5 (0 : Int32) o_parts_value o_parts_low o_parts_x) (fun (o_low_17 : Int64) (o_sheet_18 : Nat → Nat → Int64) => (wp_X1_takeParts u1 o_low_17 o_sheet_18 o_fixed u5 (0 : Int32) o_parts_value o_parts_low o_parts_x (fun (u19 : Int32) (u20 : Int64) (u21 : Int64) (u22 : Nat → Int64) => post u1 u2 o_low_17 o_sheet_18 u5 u19 u20 u21 u22))) post n23 (0 : Int32) u3 u4))
abbrev w_X1_findParts (cy : Nat → ClassId) (a_o a_o_sheet a_o_fixed a_o_open a_o_parts a_o_parts_x a_p1 a_p1_isTold a_p1_least a_p1_gateOff a_p1_limit a_p1_value a_p1_kind a_p1_most a_p1_wishOff a_p1_use : Nat) (r_o_sheet r_p1_use : Nat → Nat) (o_opens : Int32) (o_height : Int32) (o_low : Int64) (o_held : Int32) (o_sheet : Nat → Nat → Int64) (o_fixed : Nat → Int32) (o_open : Nat → Int32) (o_parts_holds : Int32) (o_parts_value : Int64) (o_parts_low : Int64) (o_parts_x : Nat → Int64) (p1_wishes : Int32) (p1_least : Nat → Int32) (p1_limit : Nat → Int32) (p1_value : Nat → Int32) (p1_most : Nat → Int32) (p1_use : Nat → Nat → Int32) : va_W := [(a_o, .inr (1, [.ref a_o_sheet, .ref a_o_fixed, .ref a_o_open, .ref a_o_parts, .int o_opens, .int o_height, .long o_low, .int o_held])), (a_o_sheet, .inl (cy 5, 14, .inr (.inr (.inr (.inr (mref r_o_sheet 14)))))), (a_o_fixed, .inl (cy 1, 4, .inl o_fixed)), (a_o_open, .inl (cy 1, 4, .inl o_open)), (a_o_parts, .inr (2, [.ref a_o_parts_x, .int o_parts_holds, .long o_parts_value, .long o_parts_low])), (a_o_parts_x, .inl (cy 2, 4, .inr (.inl o_parts_x))), (a_p1, .inr (4, [.ref a_p1_isTold, .ref a_p1_least, .ref a_p1_gateOff, .ref a_p1_limit, .ref a_p1_value, .ref a_p1_kind, .ref a_p1_most, .ref a_p1_wishOff, .ref a_p1_use, .int p1_wishes])), (a_p1_least, .inl (cy 3, 5, .inl p1_least)), (a_p1_limit, .inl (cy 1, 5, .inl p1_limit)), (a_p1_value, .inl (cy 1, 4, .inl p1_value)), (a_p1_most, .inl (cy 1, 4, .inl p1_most)), (a_p1_use, .inl (cy 4, 4, .inr (.inr (.inr (.inr (mref r_p1_use 4))))))] ++ rows14 r_o_sheet (rowJ (cy 2) 5 o_sheet) ++ (rows4 r_p1_use (rowI (cy 1) 5 p1_use) ++ [])
set_option maxRecDepth 20000 in
theorem ggX1_findParts_X1_cheapestColumn : GoodIn wsX1_findParts wsX1_cheapestColumn := goodIn_r _ [50, 8, 13, 51, 52, 53, 6, 54, 55, 56, 57, 58, 63, 64, 65, 66, 67, 68, 69, 70] (by decide +kernel) (by decide +kernel)
set_option maxRecDepth 20000 in
theorem ggX1_findParts_X1_fillSheet : GoodIn wsX1_findParts wsX1_fillSheet := goodIn_r _ [7, 8, 9, 10, 11, 12, 13, 14, 15, 16, 17, 18, 19, 20, 21, 22, 6, 23, 24, 25, 26, 27, 28, 29, 30, 31, 63, 64, 65, 66, 67, 68, 69, 70, 75, 76, 77, 78, 79, 80, 81, 82, 83, 84] (by decide +kernel) (by decide +kernel)
set_option maxRecDepth 20000 in
theorem ggX1_findParts_X1_lowestRow : GoodIn wsX1_findParts wsX1_lowestRow := goodIn_r _ [35, 12, 13, 63, 64, 65, 66, 67, 68, 69, 70] (by decide +kernel) (by decide +kernel)
set_option maxRecDepth 20000 in
theorem ggX1_findParts_X1_takeParts : GoodIn wsX1_findParts wsX1_takeParts := goodIn_r _ [39, 1, 40, 10, 41, 42, 43, 44, 9, 8, 11, 13, 45, 46, 2, 63, 64, 65, 66, 67, 68, 69, 70, 71, 72, 73, 74] (by decide +kernel) (by decide +kernel)
set_option maxRecDepth 20000 in
theorem ggX1_findParts_X1_turn : GoodIn wsX1_findParts wsX1_turn := goodIn_r _ [62, 13, 9, 12, 8, 16, 17, 18, 19, 63, 64, 65, 66, 67, 68, 69, 70] (by decide +kernel) (by decide +kernel)
set_option maxRecDepth 20000 in
theorem gX1_findParts_X1_cheapestColumn : GoodIn wsX1_findParts (wsV RX1 107 RX1 yX1_cheapestColumn wsX1_cheapestColumn) := goodIn_app (goodIn_of _ (by decide +kernel)) ggX1_findParts_X1_cheapestColumn
set_option maxRecDepth 20000 in
theorem gX1_findParts_X1_fillSheet : GoodIn wsX1_findParts (wsV RX1 97 RX1 yX1_fillSheet wsX1_fillSheet) := goodIn_app (goodIn_of _ (by decide +kernel)) ggX1_findParts_X1_fillSheet
set_option maxRecDepth 20000 in
theorem gX1_findParts_X1_lowestRow : GoodIn wsX1_findParts (wsV RX1 100 RX1 yX1_lowestRow wsX1_lowestRow) := goodIn_app (goodIn_of _ (by decide +kernel)) ggX1_findParts_X1_lowestRow
set_option maxRecDepth 20000 in
theorem gX1_findParts_X1_takeParts : GoodIn wsX1_findParts (wsV RX1 104 RX1 yX1_takeParts wsX1_takeParts) := goodIn_app (goodIn_of _ (by decide +kernel)) ggX1_findParts_X1_takeParts
set_option maxRecDepth 20000 in
theorem gX1_findParts_X1_turn : GoodIn wsX1_findParts (wsV RX1 111 RX1 yX1_turn wsX1_turn) := goodIn_app (goodIn_of _ (by decide +kernel)) ggX1_findParts_X1_turn
set_option maxHeartbeats 4000000 in
set_option maxRecDepth 100000 in
theorem c_X1_findParts (l : Launch) (D : va_G) (cy : Nat → ClassId) (a_o a_o_sheet a_o_fixed a_o_open a_o_parts a_o_parts_x a_p1 a_p1_isTold a_p1_least a_p1_gateOff a_p1_limit a_p1_value a_p1_kind a_p1_most a_p1_wishOff a_p1_use : Nat) (r_o_sheet r_p1_use : Nat → Nat) (sz : Nat)  {o_opens : Int32} {o_height : Int32} {o_low : Int64} {o_held : Int32} {o_sheet : Nat → Nat → Int64} {o_fixed : Nat → Int32} {o_open : Nat → Int32} {o_parts_holds : Int32} {o_parts_value : Int64} {o_parts_low : Int64} {o_parts_x : Nat → Int64} {p1_wishes : Int32} {p1_least : Nat → Int32} {p1_limit : Nat → Int32} {p1_value : Nat → Int32} {p1_most : Nat → Int32} {p1_use : Nat → Nat → Int32}  {post : Int32 → Int32 → Int64 → (Nat → Nat → Int64) → (Nat → Int32) → Int32 → Int64 → Int64 → (Nat → Int64) → Prop} (h : wp_X1_findParts o_opens o_height o_low o_held o_sheet o_fixed o_open o_parts_holds o_parts_value o_parts_low o_parts_x p1_least p1_limit p1_value p1_most p1_use post) : Met l yX1_findParts wsX1_findParts ({ frames := 3, cells := 0, slots := 0, locals := 75 }) (va_Pc [.ref a_o, .ref a_p1] (wI D cy sz (w_X1_findParts cy a_o a_o_sheet a_o_fixed a_o_open a_o_parts a_o_parts_x a_p1 a_p1_isTold a_p1_least a_p1_gateOff a_p1_limit a_p1_value a_p1_kind a_p1_most a_p1_wishOff a_p1_use r_o_sheet r_p1_use o_opens o_height o_low o_held o_sheet o_fixed o_open o_parts_holds o_parts_value o_parts_low o_parts_x p1_wishes p1_least p1_limit p1_value p1_most p1_use))) (va_Qv (fun (u : Int32 × Int32 × Int64 × (Nat → Nat → Int64) × (Nat → Int32) × Int32 × Int64 × Int64 × (Nat → Int64)) => post u.1 u.2.1 u.2.2.1 u.2.2.2.1 u.2.2.2.2.1 u.2.2.2.2.2.1 u.2.2.2.2.2.2.1 u.2.2.2.2.2.2.2.1 u.2.2.2.2.2.2.2.2) (fun (u : Int32 × Int32 × Int64 × (Nat → Nat → Int64) × (Nat → Int32) × Int32 × Int64 × Int64 × (Nat → Int64)) t => wO D cy (va_A (w_X1_findParts cy a_o a_o_sheet a_o_fixed a_o_open a_o_parts a_o_parts_x a_p1 a_p1_isTold a_p1_least a_p1_gateOff a_p1_limit a_p1_value a_p1_kind a_p1_most a_p1_wishOff a_p1_use r_o_sheet r_p1_use o_opens o_height o_low o_held o_sheet o_fixed o_open o_parts_holds o_parts_value o_parts_low o_parts_x p1_wishes p1_least p1_limit p1_value p1_most p1_use) sz) (w_X1_findParts cy a_o a_o_sheet a_o_fixed a_o_open a_o_parts a_o_parts_x a_p1 a_p1_isTold a_p1_least a_p1_gateOff a_p1_limit a_p1_value a_p1_kind a_p1_most a_p1_wishOff a_p1_use r_o_sheet r_p1_use u.1 u.2.1 u.2.2.1 o_held u.2.2.2.1 o_fixed u.2.2.2.2.1 u.2.2.2.2.2.1 u.2.2.2.2.2.2.1 u.2.2.2.2.2.2.2.1 u.2.2.2.2.2.2.2.2 p1_wishes p1_least p1_limit p1_value p1_most p1_use) t) (va_A (w_X1_findParts cy a_o a_o_sheet a_o_fixed a_o_open a_o_parts a_o_parts_x a_p1 a_p1_isTold a_p1_least a_p1_gateOff a_p1_limit a_p1_value a_p1_kind a_p1_most a_p1_wishOff a_p1_use r_o_sheet r_p1_use o_opens o_height o_low o_held o_sheet o_fixed o_open o_parts_holds o_parts_value o_parts_low o_parts_x p1_wishes p1_least p1_limit p1_value p1_most p1_use) sz)) 0 0 (va_A (w_X1_findParts cy a_o a_o_sheet a_o_fixed a_o_open a_o_parts a_o_parts_x a_p1 a_p1_isTold a_p1_least a_p1_gateOff a_p1_limit a_p1_value a_p1_kind a_p1_most a_p1_wishOff a_p1_use r_o_sheet r_p1_use o_opens o_height o_low o_held o_sheet o_fixed o_open o_parts_holds o_parts_value o_parts_low o_parts_x p1_wishes p1_least p1_limit p1_value p1_most p1_use) sz) := by
  refine contrV (S := Int32 × Int32 × Int64 × (Nat → Nat → Int64) × (Nat → Int32) × Int32 × Int64 × Int64 × (Nat → Int64)) (post := fun (u : Int32 × Int32 × Int64 × (Nat → Nat → Int64) × (Nat → Int32) × Int32 × Int64 × Int64 × (Nat → Int64)) => post u.1 u.2.1 u.2.2.1 u.2.2.2.1 u.2.2.2.2.1 u.2.2.2.2.2.1 u.2.2.2.2.2.2.1 u.2.2.2.2.2.2.2.1 u.2.2.2.2.2.2.2.2) (wOut := fun (u : Int32 × Int32 × Int64 × (Nat → Nat → Int64) × (Nat → Int32) × Int32 × Int64 × Int64 × (Nat → Int64)) => (w_X1_findParts cy a_o a_o_sheet a_o_fixed a_o_open a_o_parts a_o_parts_x a_p1 a_p1_isTold a_p1_least a_p1_gateOff a_p1_limit a_p1_value a_p1_kind a_p1_most a_p1_wishOff a_p1_use r_o_sheet r_p1_use u.1 u.2.1 u.2.2.1 o_held u.2.2.2.1 o_fixed u.2.2.2.2.1 u.2.2.2.2.2.1 u.2.2.2.2.2.2.1 u.2.2.2.2.2.2.2.1 u.2.2.2.2.2.2.2.2 p1_wishes p1_least p1_limit p1_value p1_most p1_use)) (cc := cX1_findParts) (maxL := 5) (own := RX1) (by decide +kernel) rfl rfl ?_
  intro p e s m args below meth c A Q hx hb hml hown hts hK hN hP hD hS hA hret
  have in_X1 : ∀ w ∈ u_ws RX1 TX1 8, w ∈ wsX1_findParts := by decide +kernel
  have fl_26 := hts (.fieldLink RX1 26 "DawnTable$Clearer" "parts" "LDawnTable$Clearing;") (by decide +kernel)
  have in_X2 : ∀ w ∈ u_ws RX2 TX2 4, w ∈ wsX1_findParts := by decide +kernel
  have fl_53 := hts (.fieldLink RX1 53 "DawnTable$Clearing" "holds" "Z") (by decide +kernel)
  have l_15 : ∀ (o_opens : Int32) (o_height : Int32) (o_open : Nat → Int32) (o_parts_holds : Int32) (o_parts_value : Int64) (o_parts_low : Int64) (o_parts_x : Nat → Int64), ∀ (kx0 : Int64 → (Nat → Nat → Int64) → Prop), (∀ (o_low : Int64) (o_sheet : Nat → Nat → Int64), kx0 o_low o_sheet → ∀ (H : Heap) (locs : List Loc), va_P D vwCl (w_X1_findParts cy a_o a_o_sheet a_o_fixed a_o_open a_o_parts a_o_parts_x a_p1 a_p1_isTold a_p1_least a_p1_gateOff a_p1_limit a_p1_value a_p1_kind a_p1_most a_p1_wishOff a_p1_use r_o_sheet r_p1_use o_opens o_height o_low o_held o_sheet o_fixed o_open o_parts_holds o_parts_value o_parts_low o_parts_x p1_wishes p1_least p1_limit p1_value p1_most p1_use) H → va_D A (w_X1_findParts cy a_o a_o_sheet a_o_fixed a_o_open a_o_parts a_o_parts_x a_p1 a_p1_isTold a_p1_least a_p1_gateOff a_p1_limit a_p1_value a_p1_kind a_p1_most a_p1_wishOff a_p1_use r_o_sheet r_p1_use o_opens o_height o_low o_held o_sheet o_fixed o_open o_parts_holds o_parts_value o_parts_low o_parts_x p1_wishes p1_least p1_limit p1_value p1_most p1_use) → va_S A s.heap H locs → ∀ (ls : Array Slot), lv_has ls 5 [] → W p l e ({ frames := 3, cells := 0, slots := 0, locals := 75 }) s m args below meth c H locs 0 0 Q (F0 m 62 ls [])) → ∀ (kx1 : Int64 → (Nat → Nat → Int64) → Prop), (∀ (o_low : Int64) (o_sheet : Nat → Nat → Int64), kx1 o_low o_sheet → ∀ (H : Heap) (locs : List Loc), va_P D vwCl (w_X1_findParts cy a_o a_o_sheet a_o_fixed a_o_open a_o_parts a_o_parts_x a_p1 a_p1_isTold a_p1_least a_p1_gateOff a_p1_limit a_p1_value a_p1_kind a_p1_most a_p1_wishOff a_p1_use r_o_sheet r_p1_use o_opens o_height o_low o_held o_sheet o_fixed o_open o_parts_holds o_parts_value o_parts_low o_parts_x p1_wishes p1_least p1_limit p1_value p1_most p1_use) H → va_D A (w_X1_findParts cy a_o a_o_sheet a_o_fixed a_o_open a_o_parts a_o_parts_x a_p1 a_p1_isTold a_p1_least a_p1_gateOff a_p1_limit a_p1_value a_p1_kind a_p1_most a_p1_wishOff a_p1_use r_o_sheet r_p1_use o_opens o_height o_low o_held o_sheet o_fixed o_open o_parts_holds o_parts_value o_parts_low o_parts_x p1_wishes p1_least p1_limit p1_value p1_most p1_use) → va_S A s.heap H locs → ∀ (ls : Array Slot), lv_has ls 5 [] → W p l e ({ frames := 3, cells := 0, slots := 0, locals := 75 }) s m args below meth c H locs 0 0 Q (F0 m 48 ls [])) → ∀ (kx2 : Int64 → (Nat → Nat → Int64) → Prop), (∀ (o_low : Int64) (o_sheet : Nat → Nat → Int64), kx2 o_low o_sheet → ∀ (H : Heap) (locs : List Loc), va_P D vwCl (w_X1_findParts cy a_o a_o_sheet a_o_fixed a_o_open a_o_parts a_o_parts_x a_p1 a_p1_isTold a_p1_least a_p1_gateOff a_p1_limit a_p1_value a_p1_kind a_p1_most a_p1_wishOff a_p1_use r_o_sheet r_p1_use o_opens o_height o_low o_held o_sheet o_fixed o_open o_parts_holds o_parts_value o_parts_low o_parts_x p1_wishes p1_least p1_limit p1_value p1_most p1_use) H → va_D A (w_X1_findParts cy a_o a_o_sheet a_o_fixed a_o_open a_o_parts a_o_parts_x a_p1 a_p1_isTold a_p1_least a_p1_gateOff a_p1_limit a_p1_value a_p1_kind a_p1_most a_p1_wishOff a_p1_use r_o_sheet r_p1_use o_opens o_height o_low o_held o_sheet o_fixed o_open o_parts_holds o_parts_value o_parts_low o_parts_x p1_wishes p1_least p1_limit p1_value p1_most p1_use) → va_S A s.heap H locs → ∀ (ls : Array Slot), lv_has ls 5 [(0, .ref a_o)] → W p l e ({ frames := 3, cells := 0, slots := 0, locals := 75 }) s m args below meth c H locs 0 0 Q (F0 m 31 ls [])) → ∀ (n : Nat) (x2 : Int32) (o_low : Int64) (o_sheet : Nat → Nat → Int64), wl_X1_findParts_15 o_opens o_height o_held o_fixed o_open o_parts_holds o_parts_value o_parts_low o_parts_x p1_least p1_limit p1_value p1_most p1_use kx0 kx1 kx2 post n x2 o_low o_sheet → ∀ (H : Heap) (locs : List Loc), va_P D vwCl (w_X1_findParts cy a_o a_o_sheet a_o_fixed a_o_open a_o_parts a_o_parts_x a_p1 a_p1_isTold a_p1_least a_p1_gateOff a_p1_limit a_p1_value a_p1_kind a_p1_most a_p1_wishOff a_p1_use r_o_sheet r_p1_use o_opens o_height o_low o_held o_sheet o_fixed o_open o_parts_holds o_parts_value o_parts_low o_parts_x p1_wishes p1_least p1_limit p1_value p1_most p1_use) H → va_D A (w_X1_findParts cy a_o a_o_sheet a_o_fixed a_o_open a_o_parts a_o_parts_x a_p1 a_p1_isTold a_p1_least a_p1_gateOff a_p1_limit a_p1_value a_p1_kind a_p1_most a_p1_wishOff a_p1_use r_o_sheet r_p1_use o_opens o_height o_low o_held o_sheet o_fixed o_open o_parts_holds o_parts_value o_parts_low o_parts_x p1_wishes p1_least p1_limit p1_value p1_most p1_use) → va_S A s.heap H locs → ∀ (ls : Array Slot), lv_has ls 5 [(0, .ref a_o), (2, .int x2)] → W p l e ({ frames := 3, cells := 0, slots := 0, locals := 75 }) s m args below meth c H locs 0 0 Q (F0 m 15 ls []) := by
    intro o_opens o_height o_open o_parts_holds o_parts_value o_parts_low o_parts_x kx0 hkx0 kx1 hkx1 kx2 hkx2  n
    induction n with
    | zero => intro x2 o_low o_sheet h; exact h.elim
    | succ n hkb =>
      intro x2 o_low o_sheet h H locs hP hD hS ls hl
      replace h : ws_X1_findParts_15 o_opens o_height o_held o_fixed o_open o_parts_holds o_parts_value o_parts_low o_parts_x p1_least p1_limit p1_value p1_most p1_use (wl_X1_findParts_15 o_opens o_height o_held o_fixed o_open o_parts_holds o_parts_value o_parts_low o_parts_x p1_least p1_limit p1_value p1_most p1_use kx0 kx1 kx2 post n) kx0 kx1 kx2 post x2 o_low o_sheet := h
      generalize wl_X1_findParts_15 o_opens o_height o_held o_fixed o_open o_parts_holds o_parts_value o_parts_low o_parts_x p1_least p1_limit p1_value p1_most p1_use kx0 kx1 kx2 post n = kb at h hkb
      unfold ws_X1_findParts_15 at h
      refine lv_iload_n hx hb dX1_findParts_15 rfl (lv_at hl 1 rfl) ?_
      refine lv_sipush (v := 1000) hx hb dX1_findParts_16 (by decide) ?_
      refine lv_icmp_ge (tgt := 62) hx hb dX1_findParts_19 (by decide) (fun c6 => ?_) (fun c6 => ?_)
      · have h := h.1 c6
        exact hkx0 o_low o_sheet h _ _ hP hD hS _ (lv_sub hl [] rfl)
      · have h := h.2 c6
        refine lv_aload_n hx hb dX1_findParts_22 rfl (lv_at hl 0 rfl) ?_
        have hC : ([0, 1, 12, 13, 14, 15, 16, 17, 18, 19, 20, 21, 22, 23, 24, 25] : List Nat).map (fun i => ((w_X1_findParts cy a_o a_o_sheet a_o_fixed a_o_open a_o_parts a_o_parts_x a_p1 a_p1_isTold a_p1_least a_p1_gateOff a_p1_limit a_p1_value a_p1_kind a_p1_most a_p1_wishOff a_p1_use r_o_sheet r_p1_use o_opens o_height o_low o_held o_sheet o_fixed o_open o_parts_holds o_parts_value o_parts_low o_parts_x p1_wishes p1_least p1_limit p1_value p1_most p1_use) : va_W)[i]?) = ((w_X1_lowestRow cy a_o a_o_sheet a_o_fixed a_o_open a_o_parts r_o_sheet o_opens o_height o_low o_held o_sheet) : va_W).map some := rfl
        obtain ⟨hPc, hDc⟩ := cutC hP hD [0, 1, 12, 13, 14, 15, 16, 17, 18, 19, 20, 21, 22, 23, 24, 25] (by decide) hC
        have hFc := va_free hD hS hA [0, 1, 12, 13, 14, 15, 16, 17, 18, 19, 20, 21, 22, 23, 24, 25] hC
        refine va_calli (va_runV (As := []) (rest := []) ⟨hx, hb, hml, hown, hts⟩ (c_X1_lowestRow l D cy a_o a_o_sheet a_o_fixed a_o_open a_o_parts r_o_sheet _ h) (cwV 0 hts gX1_findParts_X1_lowestRow rfl rfl rfl (by decide +kernel) ⟨Nat.le_of_ble_eq_true rfl, Nat.le_of_ble_eq_true rfl⟩) (preV hPc hDc hK hN (ci := 1) (q0 := 0) rfl rfl) rfl rfl hl.1 rfl (lv_room (Nat.le_of_ble_eq_true rfl)) dX1_findParts_23 ⟨Nat.zero_le _, Nat.zero_le _⟩) hS (fun q _ h => hFc q h) hFc (fun r7 u t H1 locs ht hvm h hB hz1 hk1 hS => ?_)
        try dsimp only at h hB
        obtain ⟨hP, hD⟩ := joinT (wd := (w_X1_findParts cy a_o a_o_sheet a_o_fixed a_o_open a_o_parts a_o_parts_x a_p1 a_p1_isTold a_p1_least a_p1_gateOff a_p1_limit a_p1_value a_p1_kind a_p1_most a_p1_wishOff a_p1_use r_o_sheet r_p1_use o_opens o_height o_low o_held o_sheet o_fixed o_open o_parts_holds o_parts_value o_parts_low o_parts_x p1_wishes p1_least p1_limit p1_value p1_most p1_use)) hP hD [0, 1, 12, 13, 14, 15, 16, 17, 18, 19, 20, 21, 22, 23, 24, 25] [2, 3, 4, 5, 6, 7, 8, 9, 10, 11, 26, 27, 28, 29] hC hk1 ht hB rfl rfl (N := 30) rfl (by decide) (by rfl)
        generalize H1 = H at hP hS ⊢
        refine lv_istore_n (lv' := [(3, .int r7), (0, .ref a_o), (2, .int x2)]) hx hb dX1_findParts_26 rfl hl (by decide) rfl (fun ls hl => ?_)
        refine lv_iload_n hx hb dX1_findParts_27 rfl (lv_at hl 0 rfl) ?_
        refine lv_if_ge (tgt := 36) hx hb dX1_findParts_28 (by decide) (fun c8 => ?_) (fun c8 => ?_)
        · have h := h.1 c8
          refine lv_aload_n hx hb dX1_findParts_36 rfl (lv_at hl 1 rfl) ?_
          refine lv_iload_n hx hb dX1_findParts_37 rfl (lv_at hl 0 rfl) ?_
          have hC : ([0, 1, 12, 13, 14, 15, 16, 17, 18, 19, 20, 21, 22, 23, 24, 25] : List Nat).map (fun i => ((w_X1_findParts cy a_o a_o_sheet a_o_fixed a_o_open a_o_parts a_o_parts_x a_p1 a_p1_isTold a_p1_least a_p1_gateOff a_p1_limit a_p1_value a_p1_kind a_p1_most a_p1_wishOff a_p1_use r_o_sheet r_p1_use o_opens o_height o_low o_held o_sheet o_fixed o_open o_parts_holds o_parts_value o_parts_low o_parts_x p1_wishes p1_least p1_limit p1_value p1_most p1_use) : va_W)[i]?) = ((w_X1_cheapestColumn cy a_o a_o_sheet a_o_fixed a_o_open a_o_parts r_o_sheet o_opens o_height o_low o_held o_sheet) : va_W).map some := rfl
          obtain ⟨hPc, hDc⟩ := cutC hP hD [0, 1, 12, 13, 14, 15, 16, 17, 18, 19, 20, 21, 22, 23, 24, 25] (by decide) hC
          have hFc := va_free hD hS hA [0, 1, 12, 13, 14, 15, 16, 17, 18, 19, 20, 21, 22, 23, 24, 25] hC
          refine va_calli (va_runV (As := [.int r7]) (rest := []) ⟨hx, hb, hml, hown, hts⟩ (c_X1_cheapestColumn l D cy a_o a_o_sheet a_o_fixed a_o_open a_o_parts r_o_sheet _ h) (cwV 1 hts gX1_findParts_X1_cheapestColumn rfl rfl rfl (by decide +kernel) ⟨Nat.le_of_ble_eq_true rfl, Nat.le_of_ble_eq_true rfl⟩) (preV hPc hDc hK hN (ci := 1) (q0 := 0) rfl rfl) rfl rfl hl.1 rfl (lv_room (Nat.le_of_ble_eq_true rfl)) dX1_findParts_38 ⟨Nat.zero_le _, Nat.zero_le _⟩) hS (fun q _ h => hFc q h) hFc (fun r9 u t H1 locs ht hvm h hB hz1 hk1 hS => ?_)
          try dsimp only at h hB
          obtain ⟨hP, hD⟩ := joinT (wd := (w_X1_findParts cy a_o a_o_sheet a_o_fixed a_o_open a_o_parts a_o_parts_x a_p1 a_p1_isTold a_p1_least a_p1_gateOff a_p1_limit a_p1_value a_p1_kind a_p1_most a_p1_wishOff a_p1_use r_o_sheet r_p1_use o_opens o_height o_low o_held o_sheet o_fixed o_open o_parts_holds o_parts_value o_parts_low o_parts_x p1_wishes p1_least p1_limit p1_value p1_most p1_use)) hP hD [0, 1, 12, 13, 14, 15, 16, 17, 18, 19, 20, 21, 22, 23, 24, 25] [2, 3, 4, 5, 6, 7, 8, 9, 10, 11, 26, 27, 28, 29] hC hk1 ht hB rfl rfl (N := 30) rfl (by decide) (by rfl)
          generalize H1 = H at hP hS ⊢
          refine lv_istore (lv' := [(4, .int r9), (3, .int r7), (0, .ref a_o), (2, .int x2)]) hx hb dX1_findParts_41 hl (by decide) rfl (fun ls hl => ?_)
          refine lv_iload hx hb dX1_findParts_43 (lv_at hl 0 rfl) ?_
          refine lv_if_ge (tgt := 49) hx hb dX1_findParts_45 (by decide) (fun c10 => ?_) (fun c10 => ?_)
          · have h := h.1 c10
            refine lv_aload_n hx hb dX1_findParts_49 rfl (lv_at hl 2 rfl) ?_
            refine lv_iload_n hx hb dX1_findParts_50 rfl (lv_at hl 1 rfl) ?_
            refine lv_iload hx hb dX1_findParts_51 (lv_at hl 0 rfl) ?_
            have hC : ([0, 1, 12, 13, 14, 15, 16, 17, 18, 19, 20, 21, 22, 23, 24, 25] : List Nat).map (fun i => ((w_X1_findParts cy a_o a_o_sheet a_o_fixed a_o_open a_o_parts a_o_parts_x a_p1 a_p1_isTold a_p1_least a_p1_gateOff a_p1_limit a_p1_value a_p1_kind a_p1_most a_p1_wishOff a_p1_use r_o_sheet r_p1_use o_opens o_height o_low o_held o_sheet o_fixed o_open o_parts_holds o_parts_value o_parts_low o_parts_x p1_wishes p1_least p1_limit p1_value p1_most p1_use) : va_W)[i]?) = ((w_X1_turn cy a_o a_o_sheet a_o_fixed a_o_open a_o_parts r_o_sheet o_opens o_height o_low o_held o_sheet) : va_W).map some := rfl
            obtain ⟨hPc, hDc⟩ := cutC hP hD [0, 1, 12, 13, 14, 15, 16, 17, 18, 19, 20, 21, 22, 23, 24, 25] (by decide) hC
            have hFc := va_free hD hS hA [0, 1, 12, 13, 14, 15, 16, 17, 18, 19, 20, 21, 22, 23, 24, 25] hC
            refine va_callv (va_runV (As := [.int r7, .int r9]) (rest := []) ⟨hx, hb, hml, hown, hts⟩ (c_X1_turn l D cy a_o a_o_sheet a_o_fixed a_o_open a_o_parts r_o_sheet _ h) (cwV 2 hts gX1_findParts_X1_turn rfl rfl rfl (by decide +kernel) ⟨Nat.le_of_ble_eq_true rfl, Nat.le_of_ble_eq_true rfl⟩) (preV hPc hDc hK hN (ci := 1) (q0 := 0) rfl rfl) rfl rfl hl.1 rfl (lv_room (Nat.le_of_ble_eq_true rfl)) dX1_findParts_53 ⟨Nat.zero_le _, Nat.zero_le _⟩) hS (fun q _ h => hFc q h) hFc (fun u t H1 locs ht hvm h hB hz1 hk1 hS => ?_)
            obtain ⟨u11, u12⟩ := u
            try dsimp only at h hB
            obtain ⟨hP, hD⟩ := joinT (wd := (w_X1_findParts cy a_o a_o_sheet a_o_fixed a_o_open a_o_parts a_o_parts_x a_p1 a_p1_isTold a_p1_least a_p1_gateOff a_p1_limit a_p1_value a_p1_kind a_p1_most a_p1_wishOff a_p1_use r_o_sheet r_p1_use o_opens o_height u11 o_held u12 o_fixed o_open o_parts_holds o_parts_value o_parts_low o_parts_x p1_wishes p1_least p1_limit p1_value p1_most p1_use)) hP hD [0, 1, 12, 13, 14, 15, 16, 17, 18, 19, 20, 21, 22, 23, 24, 25] [2, 3, 4, 5, 6, 7, 8, 9, 10, 11, 26, 27, 28, 29] hC hk1 ht hB rfl rfl (N := 30) rfl (by decide) (by rfl)
            generalize H1 = H at hP hS ⊢
            refine lv_iinc (v := (x2 + (1 : Int32))) (lv' := [(2, .int (x2 + (1 : Int32))), (4, .int r9), (3, .int r7), (0, .ref a_o)]) hx hb dX1_findParts_56 hl (k := 3) rfl (congrArg (fun z => x2 + z) (by decide : Int32.ofInt (1) = (1 : Int32))) (by decide) rfl (fun ls hl => ?_)
            refine lv_goto (tgt := 15) hx hb dX1_findParts_59 (by decide) ?_
            exact hkb (x2 + (1 : Int32)) u11 u12 h _ _ hP hD hS _ (lv_sub hl [3, 0] rfl)
          · have h := h.2 c10
            exact hkx1 o_low o_sheet h _ _ hP hD hS _ (lv_sub hl [] rfl)
        · have h := h.2 c8
          exact hkx2 o_low o_sheet h _ _ hP hD hS _ (lv_sub hl [1] rfl)
  refine ent [.ref a_o, .ref a_p1] (Nat.le_of_ble_eq_true rfl) (fun ls hl => ?_)
  have hl : lv_has ls 5 [(0, .ref a_o), (1, .ref a_p1)] := hl
  unfold wp_X1_findParts at h
  refine lv_aload_n hx hb dX1_findParts_0 rfl (lv_at hl 0 rfl) ?_
  refine lv_aload_n hx hb dX1_findParts_1 rfl (lv_at hl 1 rfl) ?_
  have hC : ([0, 1, 2, 3, 6, 7, 8, 9, 10, 11, 12, 13, 14, 15, 16, 17, 18, 19, 20, 21, 22, 23, 24, 25, 26, 27, 28, 29] : List Nat).map (fun i => ((w_X1_findParts cy a_o a_o_sheet a_o_fixed a_o_open a_o_parts a_o_parts_x a_p1 a_p1_isTold a_p1_least a_p1_gateOff a_p1_limit a_p1_value a_p1_kind a_p1_most a_p1_wishOff a_p1_use r_o_sheet r_p1_use o_opens o_height o_low o_held o_sheet o_fixed o_open o_parts_holds o_parts_value o_parts_low o_parts_x p1_wishes p1_least p1_limit p1_value p1_most p1_use) : va_W)[i]?) = ((w_X1_fillSheet cy a_o a_o_sheet a_o_fixed a_o_open a_o_parts a_p1 a_p1_isTold a_p1_least a_p1_gateOff a_p1_limit a_p1_value a_p1_kind a_p1_most a_p1_wishOff a_p1_use r_o_sheet r_p1_use o_opens o_height o_low o_held o_sheet o_fixed o_open p1_wishes p1_least p1_limit p1_value p1_most p1_use) : va_W).map some := rfl
  obtain ⟨hPc, hDc⟩ := cutC hP hD [0, 1, 2, 3, 6, 7, 8, 9, 10, 11, 12, 13, 14, 15, 16, 17, 18, 19, 20, 21, 22, 23, 24, 25, 26, 27, 28, 29] (by decide) hC
  have hFc := va_free hD hS hA [0, 1, 2, 3, 6, 7, 8, 9, 10, 11, 12, 13, 14, 15, 16, 17, 18, 19, 20, 21, 22, 23, 24, 25, 26, 27, 28, 29] hC
  refine va_callv (va_runV (As := [.ref a_p1]) (rest := []) ⟨hx, hb, hml, hown, hts⟩ (c_X1_fillSheet l D cy a_o a_o_sheet a_o_fixed a_o_open a_o_parts a_p1 a_p1_isTold a_p1_least a_p1_gateOff a_p1_limit a_p1_value a_p1_kind a_p1_most a_p1_wishOff a_p1_use r_o_sheet r_p1_use _ h) (cwV 1 hts gX1_findParts_X1_fillSheet rfl rfl rfl (by decide +kernel) ⟨Nat.le_of_ble_eq_true rfl, Nat.le_of_ble_eq_true rfl⟩) (preV hPc hDc hK hN (ci := 1) (q0 := 0) rfl rfl) rfl rfl hl.1 rfl (lv_room (Nat.le_of_ble_eq_true rfl)) dX1_findParts_2 ⟨Nat.zero_le _, Nat.zero_le _⟩) hS (fun q _ h => hFc q h) hFc (fun u t H1 locs ht hvm h hB hz1 hk1 hS => ?_)
  obtain ⟨u1, u2, u3, u4, u5⟩ := u
  try dsimp only at h hB
  obtain ⟨hP, hD⟩ := joinT (wd := (w_X1_findParts cy a_o a_o_sheet a_o_fixed a_o_open a_o_parts a_o_parts_x a_p1 a_p1_isTold a_p1_least a_p1_gateOff a_p1_limit a_p1_value a_p1_kind a_p1_most a_p1_wishOff a_p1_use r_o_sheet r_p1_use u1 u2 u3 o_held u4 o_fixed u5 o_parts_holds o_parts_value o_parts_low o_parts_x p1_wishes p1_least p1_limit p1_value p1_most p1_use)) hP hD [0, 1, 2, 3, 6, 7, 8, 9, 10, 11, 12, 13, 14, 15, 16, 17, 18, 19, 20, 21, 22, 23, 24, 25, 26, 27, 28, 29] [4, 5] hC hk1 ht hB rfl rfl (N := 30) rfl (by decide) (by rfl)
  generalize H1 = H at hP hS ⊢
  refine lv_aload_n hx hb dX1_findParts_5 rfl (lv_at hl 0 rfl) ?_
  refine va_get (D := D) (ci := 1) (v := .ref a_o_parts) (C := RX1) (T := TX1) (N := 8) hx hb hts in_X1 hown hK hP 0 rfl rfl 3 (by decide) fl_26 (fun _ h9 => h9) rfl dX1_findParts_6 ?_
  refine lv_iconst (v := 0) hx hb dX1_findParts_9 (by decide) ?_
  refine va_put (D := D) (ci := 2) (v := .int (0 : Int32)) (ty := .boolean) (C := RX2) (T := TX2) (N := 4) hx hb hts in_X2 tyX2 tyX2_ok nmX2 hown hK hP hD hS 4 rfl rfl 1 (by decide) fl_53 (fun _ h9 => h9) rfl (by decide +kernel) rfl rfl (Nat.le_of_ble_eq_true rfl) dX1_findParts_10 (fun H locs hP hD hS => ?_)
  have hP : va_P D vwCl (w_X1_findParts cy a_o a_o_sheet a_o_fixed a_o_open a_o_parts a_o_parts_x a_p1 a_p1_isTold a_p1_least a_p1_gateOff a_p1_limit a_p1_value a_p1_kind a_p1_most a_p1_wishOff a_p1_use r_o_sheet r_p1_use u1 u2 u3 o_held u4 o_fixed u5 (0 : Int32) o_parts_value o_parts_low o_parts_x p1_wishes p1_least p1_limit p1_value p1_most p1_use) H := hP
  have hD : va_D A (w_X1_findParts cy a_o a_o_sheet a_o_fixed a_o_open a_o_parts a_o_parts_x a_p1 a_p1_isTold a_p1_least a_p1_gateOff a_p1_limit a_p1_value a_p1_kind a_p1_most a_p1_wishOff a_p1_use r_o_sheet r_p1_use u1 u2 u3 o_held u4 o_fixed u5 (0 : Int32) o_parts_value o_parts_low o_parts_x p1_wishes p1_least p1_limit p1_value p1_most p1_use) := hD
  refine lv_iconst (v := 0) hx hb dX1_findParts_13 (by decide) ?_
  refine lv_istore_n (lv' := [(2, .int (0 : Int32)), (0, .ref a_o), (1, .ref a_p1)]) hx hb dX1_findParts_14 rfl hl (by decide) rfl (fun ls hl => ?_)
  obtain ⟨n23, h⟩ := h
  refine l_15 u1 u2 u5 (0 : Int32) o_parts_value o_parts_low o_parts_x _ ?_ _ ?_ _ ?_ n23 (0 : Int32) u3 u4 h _ _ hP hD hS _ (lv_sub hl [1, 0] rfl)
  · intro o_low_13 o_sheet_14 h H locs hP hD hS ls hl
    exact hret (u1, u2, o_low_13, o_sheet_14, u5, (0 : Int32), o_parts_value, o_parts_low, o_parts_x) _ _ _ _ h hP hD hS dX1_findParts_62
  · intro o_low_15 o_sheet_16 h H locs hP hD hS ls hl
    exact hret (u1, u2, o_low_15, o_sheet_16, u5, (0 : Int32), o_parts_value, o_parts_low, o_parts_x) _ _ _ _ h hP hD hS dX1_findParts_48
  · intro o_low_17 o_sheet_18 h H locs hP hD hS ls hl
    refine lv_aload_n hx hb dX1_findParts_31 rfl (lv_at hl 0 rfl) ?_
    have hC : ([0, 1, 2, 3, 4, 5, 12, 13, 14, 15, 16, 17, 18, 19, 20, 21, 22, 23, 24, 25] : List Nat).map (fun i => ((w_X1_findParts cy a_o a_o_sheet a_o_fixed a_o_open a_o_parts a_o_parts_x a_p1 a_p1_isTold a_p1_least a_p1_gateOff a_p1_limit a_p1_value a_p1_kind a_p1_most a_p1_wishOff a_p1_use r_o_sheet r_p1_use u1 u2 o_low_17 o_held o_sheet_18 o_fixed u5 (0 : Int32) o_parts_value o_parts_low o_parts_x p1_wishes p1_least p1_limit p1_value p1_most p1_use) : va_W)[i]?) = ((w_X1_takeParts cy a_o a_o_sheet a_o_fixed a_o_open a_o_parts a_o_parts_x r_o_sheet u1 u2 o_low_17 o_held o_sheet_18 o_fixed u5 (0 : Int32) o_parts_value o_parts_low o_parts_x) : va_W).map some := rfl
    obtain ⟨hPc, hDc⟩ := cutC hP hD [0, 1, 2, 3, 4, 5, 12, 13, 14, 15, 16, 17, 18, 19, 20, 21, 22, 23, 24, 25] (by decide) hC
    have hFc := va_free hD hS hA [0, 1, 2, 3, 4, 5, 12, 13, 14, 15, 16, 17, 18, 19, 20, 21, 22, 23, 24, 25] hC
    refine va_callv (va_runV (As := []) (rest := []) ⟨hx, hb, hml, hown, hts⟩ (c_X1_takeParts l D cy a_o a_o_sheet a_o_fixed a_o_open a_o_parts a_o_parts_x r_o_sheet _ h) (cwV 0 hts gX1_findParts_X1_takeParts rfl rfl rfl (by decide +kernel) ⟨Nat.le_of_ble_eq_true rfl, Nat.le_of_ble_eq_true rfl⟩) (preV hPc hDc hK hN (ci := 1) (q0 := 0) rfl rfl) rfl rfl hl.1 rfl (lv_room (Nat.le_of_ble_eq_true rfl)) dX1_findParts_32 ⟨Nat.zero_le _, Nat.zero_le _⟩) hS (fun q _ h => hFc q h) hFc (fun u t H1 locs ht hvm h hB hz1 hk1 hS => ?_)
    obtain ⟨u19, u20, u21, u22⟩ := u
    try dsimp only at h hB
    obtain ⟨hP, hD⟩ := joinT (wd := (w_X1_findParts cy a_o a_o_sheet a_o_fixed a_o_open a_o_parts a_o_parts_x a_p1 a_p1_isTold a_p1_least a_p1_gateOff a_p1_limit a_p1_value a_p1_kind a_p1_most a_p1_wishOff a_p1_use r_o_sheet r_p1_use u1 u2 o_low_17 o_held o_sheet_18 o_fixed u5 u19 u20 u21 u22 p1_wishes p1_least p1_limit p1_value p1_most p1_use)) hP hD [0, 1, 2, 3, 4, 5, 12, 13, 14, 15, 16, 17, 18, 19, 20, 21, 22, 23, 24, 25] [6, 7, 8, 9, 10, 11, 26, 27, 28, 29] hC hk1 ht hB rfl rfl (N := 30) rfl (by decide) (by rfl)
    generalize H1 = H at hP hS ⊢
    exact hret (u1, u2, o_low_17, o_sheet_18, u5, u19, u20, u21, u22) _ _ _ _ h hP hD hS dX1_findParts_35

def wj_X1_firstSplit_50  (x2 : Int32) (x3 : Int64) (o_parts_low : Int64) (o_parts_x : Nat → Int64) (p1_wishes : Int32) (p1_kind : Nat → Int32) (p1_most : Nat → Int32) (kb : Int32 → Prop) (kx0 : Prop) (kx1 : Int32 → Prop) (kx2 : Int32 → Prop) (post : Int32 → Prop) : Prop :=
  (vp_in x2 4 ∧ (((p1_kind (x2).toNatClampNeg) = (2 : Int32) → ((x3 = (0 : Int64) → kb (x2 + (1 : Int32))) ∧
   (¬ x3 = (0 : Int64) → ((x3 = (((p1_most (x2).toNatClampNeg)).toInt64 * o_parts_low) → kb (x2 + (1 : Int32))) ∧
   (¬ x3 = (((p1_most (x2).toNatClampNeg)).toInt64 * o_parts_low) → kx1 x2))))) ∧
   (¬ (p1_kind (x2).toNatClampNeg) = (2 : Int32) → kb (x2 + (1 : Int32)))))
def ws_X1_firstSplit_2 (o_parts_low : Int64) (o_parts_x : Nat → Int64) (p1_wishes : Int32) (p1_kind : Nat → Int32) (p1_most : Nat → Int32) (kb : Int32 → Prop) (kx0 : Prop) (kx1 : Int32 → Prop) (kx2 : Int32 → Prop) (post : Int32 → Prop) (x2 : Int32) : Prop :=
  ((p1_wishes ≤ x2 → kx0) ∧
   (¬ p1_wishes ≤ x2 → (vp_in x2 4 ∧ (((p1_kind (x2).toNatClampNeg) = (1 : Int32) → (¬ (if (1 : Int64) < o_parts_low then o_parts_low else (1 : Int64)) = 0 ∧ ((((o_parts_x (x2).toNatClampNeg) - (o_parts_x (x2).toNatClampNeg) / (if (1 : Int64) < o_parts_low then o_parts_low else (1 : Int64)) * (if (1 : Int64) < o_parts_low then o_parts_low else (1 : Int64))) = (0 : Int64) → wj_X1_firstSplit_50 x2 (o_parts_x (x2).toNatClampNeg) o_parts_low o_parts_x p1_wishes p1_kind p1_most kb kx0 kx1 kx2 post) ∧
   (¬ ((o_parts_x (x2).toNatClampNeg) - (o_parts_x (x2).toNatClampNeg) / (if (1 : Int64) < o_parts_low then o_parts_low else (1 : Int64)) * (if (1 : Int64) < o_parts_low then o_parts_low else (1 : Int64))) = (0 : Int64) → kx2 x2)))) ∧
   (¬ (p1_kind (x2).toNatClampNeg) = (1 : Int32) → wj_X1_firstSplit_50 x2 (o_parts_x (x2).toNatClampNeg) o_parts_low o_parts_x p1_wishes p1_kind p1_most kb kx0 kx1 kx2 post)))))
def wl_X1_firstSplit_2 (o_parts_low : Int64) (o_parts_x : Nat → Int64) (p1_wishes : Int32) (p1_kind : Nat → Int32) (p1_most : Nat → Int32) (kx0 : Prop) (kx1 : Int32 → Prop) (kx2 : Int32 → Prop) (post : Int32 → Prop) : Nat → Int32 → Prop
  | 0, _ => False
  | n + 1, x2 => ws_X1_firstSplit_2 o_parts_low o_parts_x p1_wishes p1_kind p1_most (wl_X1_firstSplit_2 o_parts_low o_parts_x p1_wishes p1_kind p1_most kx0 kx1 kx2 post n) kx0 kx1 kx2 post x2
def wp_X1_firstSplit  (o_parts_low : Int64) (o_parts_x : Nat → Int64) (p1_wishes : Int32) (p1_kind : Nat → Int32) (p1_most : Nat → Int32)  (post : Int32 → Prop) : Prop :=
  ∃ n12, wl_X1_firstSplit_2 o_parts_low o_parts_x p1_wishes p1_kind p1_most (post (-1 : Int32)) (fun (x2_10 : Int32) => post x2_10) (fun (x2_11 : Int32) => post x2_11) post n12 (0 : Int32)
abbrev w_X1_firstSplit (cy : Nat → ClassId) (a_o a_o_sheet a_o_fixed a_o_open a_o_parts a_o_parts_x a_p1 a_p1_isTold a_p1_least a_p1_gateOff a_p1_limit a_p1_value a_p1_kind a_p1_most a_p1_wishOff a_p1_use : Nat) (o_opens : Int32) (o_height : Int32) (o_low : Int64) (o_held : Int32) (o_parts_holds : Int32) (o_parts_value : Int64) (o_parts_low : Int64) (o_parts_x : Nat → Int64) (p1_wishes : Int32) (p1_kind : Nat → Int32) (p1_most : Nat → Int32) : va_W := [(a_o, .inr (1, [.ref a_o_sheet, .ref a_o_fixed, .ref a_o_open, .ref a_o_parts, .int o_opens, .int o_height, .long o_low, .int o_held])), (a_o_parts, .inr (2, [.ref a_o_parts_x, .int o_parts_holds, .long o_parts_value, .long o_parts_low])), (a_o_parts_x, .inl (cy 2, 4, .inr (.inl o_parts_x))), (a_p1, .inr (4, [.ref a_p1_isTold, .ref a_p1_least, .ref a_p1_gateOff, .ref a_p1_limit, .ref a_p1_value, .ref a_p1_kind, .ref a_p1_most, .ref a_p1_wishOff, .ref a_p1_use, .int p1_wishes])), (a_p1_kind, .inl (cy 1, 4, .inl p1_kind)), (a_p1_most, .inl (cy 1, 4, .inl p1_most))]
set_option maxHeartbeats 4000000 in
set_option maxRecDepth 100000 in
theorem c_X1_firstSplit (l : Launch) (D : va_G) (cy : Nat → ClassId) (a_o a_o_sheet a_o_fixed a_o_open a_o_parts a_o_parts_x a_p1 a_p1_isTold a_p1_least a_p1_gateOff a_p1_limit a_p1_value a_p1_kind a_p1_most a_p1_wishOff a_p1_use : Nat) (sz : Nat)  {o_opens : Int32} {o_height : Int32} {o_low : Int64} {o_held : Int32} {o_parts_holds : Int32} {o_parts_value : Int64} {o_parts_low : Int64} {o_parts_x : Nat → Int64} {p1_wishes : Int32} {p1_kind : Nat → Int32} {p1_most : Nat → Int32}  {post : Int32 → Prop} (h : wp_X1_firstSplit o_parts_low o_parts_x p1_wishes p1_kind p1_most post) : Met l yX1_firstSplit wsX1_firstSplit ({ frames := 1, cells := 0, slots := 0, locals := 40 }) (va_Pc [.ref a_o, .ref a_p1] (wI D cy sz (w_X1_firstSplit cy a_o a_o_sheet a_o_fixed a_o_open a_o_parts a_o_parts_x a_p1 a_p1_isTold a_p1_least a_p1_gateOff a_p1_limit a_p1_value a_p1_kind a_p1_most a_p1_wishOff a_p1_use o_opens o_height o_low o_held o_parts_holds o_parts_value o_parts_low o_parts_x p1_wishes p1_kind p1_most))) (va_Qi (fun (r : Int32) (u : Unit) => post r ) (fun (u : Unit) t => wO D cy (va_A (w_X1_firstSplit cy a_o a_o_sheet a_o_fixed a_o_open a_o_parts a_o_parts_x a_p1 a_p1_isTold a_p1_least a_p1_gateOff a_p1_limit a_p1_value a_p1_kind a_p1_most a_p1_wishOff a_p1_use o_opens o_height o_low o_held o_parts_holds o_parts_value o_parts_low o_parts_x p1_wishes p1_kind p1_most) sz) (w_X1_firstSplit cy a_o a_o_sheet a_o_fixed a_o_open a_o_parts a_o_parts_x a_p1 a_p1_isTold a_p1_least a_p1_gateOff a_p1_limit a_p1_value a_p1_kind a_p1_most a_p1_wishOff a_p1_use o_opens o_height o_low o_held o_parts_holds o_parts_value o_parts_low o_parts_x p1_wishes p1_kind p1_most) t) (va_A (w_X1_firstSplit cy a_o a_o_sheet a_o_fixed a_o_open a_o_parts a_o_parts_x a_p1 a_p1_isTold a_p1_least a_p1_gateOff a_p1_limit a_p1_value a_p1_kind a_p1_most a_p1_wishOff a_p1_use o_opens o_height o_low o_held o_parts_holds o_parts_value o_parts_low o_parts_x p1_wishes p1_kind p1_most) sz)) 0 0 (va_A (w_X1_firstSplit cy a_o a_o_sheet a_o_fixed a_o_open a_o_parts a_o_parts_x a_p1 a_p1_isTold a_p1_least a_p1_gateOff a_p1_limit a_p1_value a_p1_kind a_p1_most a_p1_wishOff a_p1_use o_opens o_height o_low o_held o_parts_holds o_parts_value o_parts_low o_parts_x p1_wishes p1_kind p1_most) sz) := by
  refine contrI (S := Unit) (post := fun (r : Int32) (u : Unit) => post r ) (wOut := fun (u : Unit) => (w_X1_firstSplit cy a_o a_o_sheet a_o_fixed a_o_open a_o_parts a_o_parts_x a_p1 a_p1_isTold a_p1_least a_p1_gateOff a_p1_limit a_p1_value a_p1_kind a_p1_most a_p1_wishOff a_p1_use o_opens o_height o_low o_held o_parts_holds o_parts_value o_parts_low o_parts_x p1_wishes p1_kind p1_most)) (cc := cX1_firstSplit) (maxL := 5) (own := RX1) (by decide +kernel) rfl rfl ?_
  intro p e s m args below meth c A Q hx hb hml hown hts hK hN hP hD hS hA hret
  have in_X4 : ∀ w ∈ u_ws RX4 TX4 10, w ∈ wsX1_firstSplit := by decide +kernel
  have fl_44 := hts (.fieldLink RX1 44 "DawnTable$Table" "wishes" "I") (by decide +kernel)
  have in_X1 : ∀ w ∈ u_ws RX1 TX1 8, w ∈ wsX1_firstSplit := by decide +kernel
  have fl_26 := hts (.fieldLink RX1 26 "DawnTable$Clearer" "parts" "LDawnTable$Clearing;") (by decide +kernel)
  have in_X2 : ∀ w ∈ u_ws RX2 TX2 4, w ∈ wsX1_firstSplit := by decide +kernel
  have fl_80 := hts (.fieldLink RX1 80 "DawnTable$Clearing" "x" "[J") (by decide +kernel)
  have fl_77 := hts (.fieldLink RX1 77 "DawnTable$Table" "kind" "[I") (by decide +kernel)
  have fl_94 := hts (.fieldLink RX1 94 "DawnTable$Table" "most" "[I") (by decide +kernel)
  have fl_84 := hts (.fieldLink RX1 84 "DawnTable$Clearing" "low" "J") (by decide +kernel)
  have j_50_0 : ∀ (x2 : Int32) (x3 : Int64), ∀ (kb : Int32 → Prop), (∀ (x2 : Int32), kb x2 → ∀ (H : Heap) (locs : List Loc), va_P D vwCl (w_X1_firstSplit cy a_o a_o_sheet a_o_fixed a_o_open a_o_parts a_o_parts_x a_p1 a_p1_isTold a_p1_least a_p1_gateOff a_p1_limit a_p1_value a_p1_kind a_p1_most a_p1_wishOff a_p1_use o_opens o_height o_low o_held o_parts_holds o_parts_value o_parts_low o_parts_x p1_wishes p1_kind p1_most) H → va_D A (w_X1_firstSplit cy a_o a_o_sheet a_o_fixed a_o_open a_o_parts a_o_parts_x a_p1 a_p1_isTold a_p1_least a_p1_gateOff a_p1_limit a_p1_value a_p1_kind a_p1_most a_p1_wishOff a_p1_use o_opens o_height o_low o_held o_parts_holds o_parts_value o_parts_low o_parts_x p1_wishes p1_kind p1_most) → va_S A s.heap H locs → ∀ (ls : Array Slot), lv_has ls 5 [(0, .ref a_o), (1, .ref a_p1), (2, .int x2)] → W p l e ({ frames := 1, cells := 0, slots := 0, locals := 40 }) s m args below meth c H locs 0 0 Q (F0 m 2 ls [])) → ∀ (kx0 : Prop), (kx0  → ∀ (H : Heap) (locs : List Loc), va_P D vwCl (w_X1_firstSplit cy a_o a_o_sheet a_o_fixed a_o_open a_o_parts a_o_parts_x a_p1 a_p1_isTold a_p1_least a_p1_gateOff a_p1_limit a_p1_value a_p1_kind a_p1_most a_p1_wishOff a_p1_use o_opens o_height o_low o_held o_parts_holds o_parts_value o_parts_low o_parts_x p1_wishes p1_kind p1_most) H → va_D A (w_X1_firstSplit cy a_o a_o_sheet a_o_fixed a_o_open a_o_parts a_o_parts_x a_p1 a_p1_isTold a_p1_least a_p1_gateOff a_p1_limit a_p1_value a_p1_kind a_p1_most a_p1_wishOff a_p1_use o_opens o_height o_low o_held o_parts_holds o_parts_value o_parts_low o_parts_x p1_wishes p1_kind p1_most) → va_S A s.heap H locs → ∀ (ls : Array Slot), lv_has ls 5 [] → W p l e ({ frames := 1, cells := 0, slots := 0, locals := 40 }) s m args below meth c H locs 0 0 Q (F0 m 94 ls [])) → ∀ (kx1 : Int32 → Prop), (∀ (x2 : Int32), kx1 x2 → ∀ (H : Heap) (locs : List Loc), va_P D vwCl (w_X1_firstSplit cy a_o a_o_sheet a_o_fixed a_o_open a_o_parts a_o_parts_x a_p1 a_p1_isTold a_p1_least a_p1_gateOff a_p1_limit a_p1_value a_p1_kind a_p1_most a_p1_wishOff a_p1_use o_opens o_height o_low o_held o_parts_holds o_parts_value o_parts_low o_parts_x p1_wishes p1_kind p1_most) H → va_D A (w_X1_firstSplit cy a_o a_o_sheet a_o_fixed a_o_open a_o_parts a_o_parts_x a_p1 a_p1_isTold a_p1_least a_p1_gateOff a_p1_limit a_p1_value a_p1_kind a_p1_most a_p1_wishOff a_p1_use o_opens o_height o_low o_held o_parts_holds o_parts_value o_parts_low o_parts_x p1_wishes p1_kind p1_most) → va_S A s.heap H locs → ∀ (ls : Array Slot), lv_has ls 5 [(2, .int x2)] → W p l e ({ frames := 1, cells := 0, slots := 0, locals := 40 }) s m args below meth c H locs 0 0 Q (F0 m 86 ls [])) → ∀ (kx2 : Int32 → Prop), (∀ (x2 : Int32), kx2 x2 → ∀ (H : Heap) (locs : List Loc), va_P D vwCl (w_X1_firstSplit cy a_o a_o_sheet a_o_fixed a_o_open a_o_parts a_o_parts_x a_p1 a_p1_isTold a_p1_least a_p1_gateOff a_p1_limit a_p1_value a_p1_kind a_p1_most a_p1_wishOff a_p1_use o_opens o_height o_low o_held o_parts_holds o_parts_value o_parts_low o_parts_x p1_wishes p1_kind p1_most) H → va_D A (w_X1_firstSplit cy a_o a_o_sheet a_o_fixed a_o_open a_o_parts a_o_parts_x a_p1 a_p1_isTold a_p1_least a_p1_gateOff a_p1_limit a_p1_value a_p1_kind a_p1_most a_p1_wishOff a_p1_use o_opens o_height o_low o_held o_parts_holds o_parts_value o_parts_low o_parts_x p1_wishes p1_kind p1_most) → va_S A s.heap H locs → ∀ (ls : Array Slot), lv_has ls 5 [(2, .int x2)] → W p l e ({ frames := 1, cells := 0, slots := 0, locals := 40 }) s m args below meth c H locs 0 0 Q (F0 m 48 ls [])) → wj_X1_firstSplit_50  x2 x3 o_parts_low o_parts_x p1_wishes p1_kind p1_most kb kx0 kx1 kx2 post → ∀ (H : Heap) (locs : List Loc), va_P D vwCl (w_X1_firstSplit cy a_o a_o_sheet a_o_fixed a_o_open a_o_parts a_o_parts_x a_p1 a_p1_isTold a_p1_least a_p1_gateOff a_p1_limit a_p1_value a_p1_kind a_p1_most a_p1_wishOff a_p1_use o_opens o_height o_low o_held o_parts_holds o_parts_value o_parts_low o_parts_x p1_wishes p1_kind p1_most) H → va_D A (w_X1_firstSplit cy a_o a_o_sheet a_o_fixed a_o_open a_o_parts a_o_parts_x a_p1 a_p1_isTold a_p1_least a_p1_gateOff a_p1_limit a_p1_value a_p1_kind a_p1_most a_p1_wishOff a_p1_use o_opens o_height o_low o_held o_parts_holds o_parts_value o_parts_low o_parts_x p1_wishes p1_kind p1_most) → va_S A s.heap H locs → ∀ (ls : Array Slot), lv_has ls 5 [(0, .ref a_o), (1, .ref a_p1), (2, .int x2), (3, .long x3)] → W p l e ({ frames := 1, cells := 0, slots := 0, locals := 40 }) s m args below meth c H locs 0 0 Q (F0 m 50 ls []) := by
    intro x2 x3 kb hkb kx0 hkx0 kx1 hkx1 kx2 hkx2  h H locs hP hD hS ls hl
    unfold wj_X1_firstSplit_50 at h
    refine lv_aload_n hx hb dX1_firstSplit_50 rfl (lv_at hl 1 rfl) ?_
    refine va_get (D := D) (ci := 4) (v := .ref a_p1_kind) (C := RX4) (T := TX4) (N := 10) hx hb hts in_X4 hown hK hP 3 rfl rfl 5 (by decide) fl_77 (fun _ h9 => h9) rfl dX1_firstSplit_51 ?_
    refine lv_iload_n hx hb dX1_firstSplit_54 rfl (lv_at hl 2 rfl) ?_
    obtain ⟨i4, h⟩ := h
    refine va_iald hx hb hK hP 4 1 rfl rfl i4 dX1_firstSplit_55 ?_
    refine lv_iconst (v := 2) hx hb dX1_firstSplit_56 (by decide) ?_
    refine lv_icmp_ne (tgt := 88) hx hb dX1_firstSplit_57 (by decide) (fun c5 => ?_) (fun c5 => ?_)
    · have h := h.2 c5
      refine lv_iinc (v := (x2 + (1 : Int32))) (lv' := [(2, .int (x2 + (1 : Int32))), (0, .ref a_o), (1, .ref a_p1), (3, .long x3)]) hx hb dX1_firstSplit_88 hl (k := 2) rfl (congrArg (fun z => x2 + z) (by decide : Int32.ofInt (1) = (1 : Int32))) (by decide) rfl (fun ls hl => ?_)
      refine lv_goto (tgt := 2) hx hb dX1_firstSplit_91 (by decide) ?_
      exact hkb (x2 + (1 : Int32)) h _ _ hP hD hS _ (lv_sub hl [1, 2, 0] rfl)
    · have h := h.1 c5
      refine lv_lload_n hx hb dX1_firstSplit_60 rfl (lv_at hl 3 rfl) ?_
      refine lv_lconst (v := 0) hx hb dX1_firstSplit_61 (by decide) ?_
      refine W.lcmp hx hb dX1_firstSplit_62 ?_
      refine lv_if_eq (tgt := 88) hx hb dX1_firstSplit_63 (by decide) (fun c6 => ?_) (fun c6 => ?_)
      · have h := h.1 (lc_eq.mp c6)
        refine lv_iinc (v := (x2 + (1 : Int32))) (lv' := [(2, .int (x2 + (1 : Int32))), (0, .ref a_o), (1, .ref a_p1), (3, .long x3)]) hx hb dX1_firstSplit_88 hl (k := 2) rfl (congrArg (fun z => x2 + z) (by decide : Int32.ofInt (1) = (1 : Int32))) (by decide) rfl (fun ls hl => ?_)
        refine lv_goto (tgt := 2) hx hb dX1_firstSplit_91 (by decide) ?_
        exact hkb (x2 + (1 : Int32)) h _ _ hP hD hS _ (lv_sub hl [1, 2, 0] rfl)
      · have h := h.2 (fun z => c6 (lc_eq.mpr z))
        refine lv_lload_n hx hb dX1_firstSplit_66 rfl (lv_at hl 3 rfl) ?_
        refine lv_aload_n hx hb dX1_firstSplit_67 rfl (lv_at hl 1 rfl) ?_
        refine va_get (D := D) (ci := 4) (v := .ref a_p1_most) (C := RX4) (T := TX4) (N := 10) hx hb hts in_X4 hown hK hP 3 rfl rfl 6 (by decide) fl_94 (fun _ h9 => h9) rfl dX1_firstSplit_68 ?_
        refine lv_iload_n hx hb dX1_firstSplit_71 rfl (lv_at hl 2 rfl) ?_
        refine va_iald hx hb hK hP 5 1 rfl rfl i4 dX1_firstSplit_72 ?_
        refine lv_i2l hx hb dX1_firstSplit_73 rfl ?_
        refine lv_aload_n hx hb dX1_firstSplit_74 rfl (lv_at hl 0 rfl) ?_
        refine va_get (D := D) (ci := 1) (v := .ref a_o_parts) (C := RX1) (T := TX1) (N := 8) hx hb hts in_X1 hown hK hP 0 rfl rfl 3 (by decide) fl_26 (fun _ h9 => h9) rfl dX1_firstSplit_75 ?_
        refine va_get (D := D) (ci := 2) (v := .long o_parts_low) (C := RX2) (T := TX2) (N := 4) hx hb hts in_X2 hown hK hP 1 rfl rfl 3 (by decide) fl_84 (fun _ h9 => h9) rfl dX1_firstSplit_78 ?_
        refine lv_lmul hx hb dX1_firstSplit_81 ?_
        refine W.lcmp hx hb dX1_firstSplit_82 ?_
        refine lv_if_eq (tgt := 88) hx hb dX1_firstSplit_83 (by decide) (fun c7 => ?_) (fun c7 => ?_)
        · have h := h.1 (lc_eq.mp c7)
          refine lv_iinc (v := (x2 + (1 : Int32))) (lv' := [(2, .int (x2 + (1 : Int32))), (0, .ref a_o), (1, .ref a_p1), (3, .long x3)]) hx hb dX1_firstSplit_88 hl (k := 2) rfl (congrArg (fun z => x2 + z) (by decide : Int32.ofInt (1) = (1 : Int32))) (by decide) rfl (fun ls hl => ?_)
          refine lv_goto (tgt := 2) hx hb dX1_firstSplit_91 (by decide) ?_
          exact hkb (x2 + (1 : Int32)) h _ _ hP hD hS _ (lv_sub hl [1, 2, 0] rfl)
        · have h := h.2 (fun z => c7 (lc_eq.mpr z))
          exact hkx1 x2 h _ _ hP hD hS _ (lv_sub hl [2] rfl)
  have l_2 : ∀ (kx0 : Prop), (kx0  → ∀ (H : Heap) (locs : List Loc), va_P D vwCl (w_X1_firstSplit cy a_o a_o_sheet a_o_fixed a_o_open a_o_parts a_o_parts_x a_p1 a_p1_isTold a_p1_least a_p1_gateOff a_p1_limit a_p1_value a_p1_kind a_p1_most a_p1_wishOff a_p1_use o_opens o_height o_low o_held o_parts_holds o_parts_value o_parts_low o_parts_x p1_wishes p1_kind p1_most) H → va_D A (w_X1_firstSplit cy a_o a_o_sheet a_o_fixed a_o_open a_o_parts a_o_parts_x a_p1 a_p1_isTold a_p1_least a_p1_gateOff a_p1_limit a_p1_value a_p1_kind a_p1_most a_p1_wishOff a_p1_use o_opens o_height o_low o_held o_parts_holds o_parts_value o_parts_low o_parts_x p1_wishes p1_kind p1_most) → va_S A s.heap H locs → ∀ (ls : Array Slot), lv_has ls 5 [] → W p l e ({ frames := 1, cells := 0, slots := 0, locals := 40 }) s m args below meth c H locs 0 0 Q (F0 m 94 ls [])) → ∀ (kx1 : Int32 → Prop), (∀ (x2 : Int32), kx1 x2 → ∀ (H : Heap) (locs : List Loc), va_P D vwCl (w_X1_firstSplit cy a_o a_o_sheet a_o_fixed a_o_open a_o_parts a_o_parts_x a_p1 a_p1_isTold a_p1_least a_p1_gateOff a_p1_limit a_p1_value a_p1_kind a_p1_most a_p1_wishOff a_p1_use o_opens o_height o_low o_held o_parts_holds o_parts_value o_parts_low o_parts_x p1_wishes p1_kind p1_most) H → va_D A (w_X1_firstSplit cy a_o a_o_sheet a_o_fixed a_o_open a_o_parts a_o_parts_x a_p1 a_p1_isTold a_p1_least a_p1_gateOff a_p1_limit a_p1_value a_p1_kind a_p1_most a_p1_wishOff a_p1_use o_opens o_height o_low o_held o_parts_holds o_parts_value o_parts_low o_parts_x p1_wishes p1_kind p1_most) → va_S A s.heap H locs → ∀ (ls : Array Slot), lv_has ls 5 [(2, .int x2)] → W p l e ({ frames := 1, cells := 0, slots := 0, locals := 40 }) s m args below meth c H locs 0 0 Q (F0 m 86 ls [])) → ∀ (kx2 : Int32 → Prop), (∀ (x2 : Int32), kx2 x2 → ∀ (H : Heap) (locs : List Loc), va_P D vwCl (w_X1_firstSplit cy a_o a_o_sheet a_o_fixed a_o_open a_o_parts a_o_parts_x a_p1 a_p1_isTold a_p1_least a_p1_gateOff a_p1_limit a_p1_value a_p1_kind a_p1_most a_p1_wishOff a_p1_use o_opens o_height o_low o_held o_parts_holds o_parts_value o_parts_low o_parts_x p1_wishes p1_kind p1_most) H → va_D A (w_X1_firstSplit cy a_o a_o_sheet a_o_fixed a_o_open a_o_parts a_o_parts_x a_p1 a_p1_isTold a_p1_least a_p1_gateOff a_p1_limit a_p1_value a_p1_kind a_p1_most a_p1_wishOff a_p1_use o_opens o_height o_low o_held o_parts_holds o_parts_value o_parts_low o_parts_x p1_wishes p1_kind p1_most) → va_S A s.heap H locs → ∀ (ls : Array Slot), lv_has ls 5 [(2, .int x2)] → W p l e ({ frames := 1, cells := 0, slots := 0, locals := 40 }) s m args below meth c H locs 0 0 Q (F0 m 48 ls [])) → ∀ (n : Nat) (x2 : Int32), wl_X1_firstSplit_2 o_parts_low o_parts_x p1_wishes p1_kind p1_most kx0 kx1 kx2 post n x2 → ∀ (H : Heap) (locs : List Loc), va_P D vwCl (w_X1_firstSplit cy a_o a_o_sheet a_o_fixed a_o_open a_o_parts a_o_parts_x a_p1 a_p1_isTold a_p1_least a_p1_gateOff a_p1_limit a_p1_value a_p1_kind a_p1_most a_p1_wishOff a_p1_use o_opens o_height o_low o_held o_parts_holds o_parts_value o_parts_low o_parts_x p1_wishes p1_kind p1_most) H → va_D A (w_X1_firstSplit cy a_o a_o_sheet a_o_fixed a_o_open a_o_parts a_o_parts_x a_p1 a_p1_isTold a_p1_least a_p1_gateOff a_p1_limit a_p1_value a_p1_kind a_p1_most a_p1_wishOff a_p1_use o_opens o_height o_low o_held o_parts_holds o_parts_value o_parts_low o_parts_x p1_wishes p1_kind p1_most) → va_S A s.heap H locs → ∀ (ls : Array Slot), lv_has ls 5 [(0, .ref a_o), (1, .ref a_p1), (2, .int x2)] → W p l e ({ frames := 1, cells := 0, slots := 0, locals := 40 }) s m args below meth c H locs 0 0 Q (F0 m 2 ls []) := by
    intro  kx0 hkx0 kx1 hkx1 kx2 hkx2  n
    induction n with
    | zero => intro x2 h; exact h.elim
    | succ n hkb =>
      intro x2 h H locs hP hD hS ls hl
      replace h : ws_X1_firstSplit_2 o_parts_low o_parts_x p1_wishes p1_kind p1_most (wl_X1_firstSplit_2 o_parts_low o_parts_x p1_wishes p1_kind p1_most kx0 kx1 kx2 post n) kx0 kx1 kx2 post x2 := h
      generalize wl_X1_firstSplit_2 o_parts_low o_parts_x p1_wishes p1_kind p1_most kx0 kx1 kx2 post n = kb at h hkb
      unfold ws_X1_firstSplit_2 at h
      refine lv_iload_n hx hb dX1_firstSplit_2 rfl (lv_at hl 2 rfl) ?_
      refine lv_aload_n hx hb dX1_firstSplit_3 rfl (lv_at hl 1 rfl) ?_
      refine va_get (D := D) (ci := 4) (v := .int p1_wishes) (C := RX4) (T := TX4) (N := 10) hx hb hts in_X4 hown hK hP 3 rfl rfl 9 (by decide) fl_44 (fun _ h9 => h9) rfl dX1_firstSplit_4 ?_
      refine lv_icmp_ge (tgt := 94) hx hb dX1_firstSplit_7 (by decide) (fun c1 => ?_) (fun c1 => ?_)
      · have h := h.1 c1
        exact hkx0 h _ _ hP hD hS _ (lv_sub hl [] rfl)
      · have h := h.2 c1
        refine lv_aload_n hx hb dX1_firstSplit_10 rfl (lv_at hl 0 rfl) ?_
        refine va_get (D := D) (ci := 1) (v := .ref a_o_parts) (C := RX1) (T := TX1) (N := 8) hx hb hts in_X1 hown hK hP 0 rfl rfl 3 (by decide) fl_26 (fun _ h9 => h9) rfl dX1_firstSplit_11 ?_
        refine va_get (D := D) (ci := 2) (v := .ref a_o_parts_x) (C := RX2) (T := TX2) (N := 4) hx hb hts in_X2 hown hK hP 1 rfl rfl 0 (by decide) fl_80 (fun _ h9 => h9) rfl dX1_firstSplit_14 ?_
        refine lv_iload_n hx hb dX1_firstSplit_17 rfl (lv_at hl 2 rfl) ?_
        obtain ⟨i2, h⟩ := h
        refine va_lald hx hb hK hP 2 2 rfl rfl i2 dX1_firstSplit_18 ?_
        refine lv_lstore_n (lv' := [(3, .long (o_parts_x (x2).toNatClampNeg)), (0, .ref a_o), (1, .ref a_p1), (2, .int x2)]) hx hb dX1_firstSplit_19 rfl hl (by decide) rfl (fun ls hl => ?_)
        refine lv_aload_n hx hb dX1_firstSplit_20 rfl (lv_at hl 2 rfl) ?_
        refine va_get (D := D) (ci := 4) (v := .ref a_p1_kind) (C := RX4) (T := TX4) (N := 10) hx hb hts in_X4 hown hK hP 3 rfl rfl 5 (by decide) fl_77 (fun _ h9 => h9) rfl dX1_firstSplit_21 ?_
        refine lv_iload_n hx hb dX1_firstSplit_24 rfl (lv_at hl 3 rfl) ?_
        refine va_iald hx hb hK hP 4 1 rfl rfl i2 dX1_firstSplit_25 ?_
        refine lv_iconst (v := 1) hx hb dX1_firstSplit_26 (by decide) ?_
        refine lv_icmp_ne (tgt := 50) hx hb dX1_firstSplit_27 (by decide) (fun c3 => ?_) (fun c3 => ?_)
        · have h := h.2 c3
          exact j_50_0 x2 (o_parts_x (x2).toNatClampNeg) kb hkb kx0 hkx0 kx1 hkx1 kx2 hkx2 h _ _ hP hD hS _ (lv_sub hl [1, 2, 3, 0] rfl)
        · have h := h.1 c3
          refine lv_lload_n hx hb dX1_firstSplit_30 rfl (lv_at hl 0 rfl) ?_
          refine lv_aload_n hx hb dX1_firstSplit_31 rfl (lv_at hl 1 rfl) ?_
          refine va_get (D := D) (ci := 1) (v := .ref a_o_parts) (C := RX1) (T := TX1) (N := 8) hx hb hts in_X1 hown hK hP 0 rfl rfl 3 (by decide) fl_26 (fun _ h9 => h9) rfl dX1_firstSplit_32 ?_
          refine va_get (D := D) (ci := 2) (v := .long o_parts_low) (C := RX2) (T := TX2) (N := 4) hx hb hts in_X2 hown hK hP 1 rfl rfl 3 (by decide) fl_84 (fun _ h9 => h9) rfl dX1_firstSplit_35 ?_
          refine lv_lconst (v := 1) hx hb dX1_firstSplit_38 (by decide) ?_
          refine va_mmax_long hx hb (hml.trans hl.1.symm) hown (hts (.methodLink RX1 85 Lib.MathLoose.max_long.x) (by decide +kernel)) (hts (.static Lib.MathLoose.max_long.x) (by decide +kernel)) (hts (.initialized "java/lang/Math") (by decide +kernel)) (hts (.code Lib.MathLoose.max_long.x Lib.MathLoose.max_long.code 4 (some .long)) (by decide +kernel)) (Nat.le_of_ble_eq_true rfl) (Nat.le_of_ble_eq_true rfl) (Nat.le_of_ble_eq_true rfl) (Nat.le_of_ble_eq_true rfl) dX1_firstSplit_39 ?_
          obtain ⟨z8, h⟩ := h
          refine lv_lrem hx hb dX1_firstSplit_42 z8 ?_
          refine lv_lconst (v := 0) hx hb dX1_firstSplit_43 (by decide) ?_
          refine W.lcmp hx hb dX1_firstSplit_44 ?_
          refine lv_if_eq (tgt := 50) hx hb dX1_firstSplit_45 (by decide) (fun c9 => ?_) (fun c9 => ?_)
          · have h := h.1 (lc_eq.mp c9)
            exact j_50_0 x2 (o_parts_x (x2).toNatClampNeg) kb hkb kx0 hkx0 kx1 hkx1 kx2 hkx2 h _ _ hP hD hS _ (lv_sub hl [1, 2, 3, 0] rfl)
          · have h := h.2 (fun z => c9 (lc_eq.mpr z))
            exact hkx2 x2 h _ _ hP hD hS _ (lv_sub hl [3] rfl)
  refine ent [.ref a_o, .ref a_p1] (Nat.le_of_ble_eq_true rfl) (fun ls hl => ?_)
  have hl : lv_has ls 5 [(0, .ref a_o), (1, .ref a_p1)] := hl
  unfold wp_X1_firstSplit at h
  refine lv_iconst (v := 0) hx hb dX1_firstSplit_0 (by decide) ?_
  refine lv_istore_n (lv' := [(2, .int (0 : Int32)), (0, .ref a_o), (1, .ref a_p1)]) hx hb dX1_firstSplit_1 rfl hl (by decide) rfl (fun ls hl => ?_)
  obtain ⟨n12, h⟩ := h
  refine l_2  _ ?_ _ ?_ _ ?_ n12 (0 : Int32) h _ _ hP hD hS _ (lv_sub hl [1, 2, 0] rfl)
  · intro  h H locs hP hD hS ls hl
    refine lv_iconst (v := -1) hx hb dX1_firstSplit_94 (by decide) ?_
    exact hret (-1 : Int32) () _ _ _ _ h hP hD hS dX1_firstSplit_95
  · intro x2_10 h H locs hP hD hS ls hl
    refine lv_iload_n hx hb dX1_firstSplit_86 rfl (lv_at hl 0 rfl) ?_
    exact hret x2_10 () _ _ _ _ h hP hD hS dX1_firstSplit_87
  · intro x2_11 h H locs hP hD hS ls hl
    refine lv_iload_n hx hb dX1_firstSplit_48 rfl (lv_at hl 0 rfl) ?_
    exact hret x2_11 () _ _ _ _ h hP hD hS dX1_firstSplit_49
