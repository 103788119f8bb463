def wp_X6_bit   (x0 : Int32) (post : Int32 → Prop) : Prop :=
  ((x0 = 0 → post (0 : Int32)) ∧
   (¬ x0 = 0 → post (1 : Int32)))
def ws_X4_letterOf_4 (x1 : Int32) (o_isTold : Nat → Int32) (kb : Int32 → Int32 → Prop) (kx0 : Prop) (kx1 : Int32 → Prop) (post : Int32 → Prop) (x2 : Int32) (x3 : Int32) : Prop :=
  (((5 : Int32) ≤ x3 → kx0) ∧
   (¬ (5 : Int32) ≤ x3 → (vp_in x3 5 ∧ (((o_isTold (x3).toNatClampNeg) = 0 → kb x2 (x3 + (1 : Int32))) ∧
   (¬ (o_isTold (x3).toNatClampNeg) = 0 → ((x2 = x1 → kx1 x3) ∧
   (¬ x2 = x1 → kb (x2 + (1 : Int32)) (x3 + (1 : Int32)))))))))
def wl_X4_letterOf_4 (x1 : Int32) (o_isTold : Nat → Int32) (kx0 : Prop) (kx1 : Int32 → Prop) (post : Int32 → Prop) : Nat → Int32 → Int32 → Prop
  | 0, _, _ => False
  | n + 1, x2, x3 => ws_X4_letterOf_4 x1 o_isTold (wl_X4_letterOf_4 x1 o_isTold kx0 kx1 post n) kx0 kx1 post x2 x3
def wp_X4_letterOf  (o_isTold : Nat → Int32) (x1 : Int32) (post : Int32 → Prop) : Prop :=
  ∃ n6, wl_X4_letterOf_4 x1 o_isTold (post (-1 : Int32)) (fun (x3_5 : Int32) => post x3_5) post n6 (0 : Int32) (0 : Int32)
def ws_X4_heldGates_4 (o_isTold : Nat → Int32) (o_gateOff : Nat → Int32) (kb : Int32 → Int32 → Prop) (kx0 : Int32 → Prop) (post : Int32 → Prop) (x1 : Int32) (x2 : Int32) : Prop :=
  (((5 : Int32) ≤ x2 → kx0 x1) ∧
   (¬ (5 : Int32) ≤ x2 → (vp_in x2 5 ∧ (((o_isTold (x2).toNatClampNeg) = 0 → kb x1 (x2 + (1 : Int32))) ∧
   (¬ (o_isTold (x2).toNatClampNeg) = 0 → (((o_gateOff (x2).toNatClampNeg) = 0 → kb (x1 ||| ((1 : Int32) <<< (x2 &&& 31))) (x2 + (1 : Int32))) ∧
   (¬ (o_gateOff (x2).toNatClampNeg) = 0 → kb x1 (x2 + (1 : Int32)))))))))
def wl_X4_heldGates_4 (o_isTold : Nat → Int32) (o_gateOff : Nat → Int32) (kx0 : Int32 → Prop) (post : Int32 → Prop) : Nat → Int32 → Int32 → Prop
  | 0, _, _ => False
  | n + 1, x1, x2 => ws_X4_heldGates_4 o_isTold o_gateOff (wl_X4_heldGates_4 o_isTold o_gateOff kx0 post n) kx0 post x1 x2
def wp_X4_heldGates  (o_isTold : Nat → Int32) (o_gateOff : Nat → Int32)  (post : Int32 → Prop) : Prop :=
  ∃ n6, wl_X4_heldGates_4 o_isTold o_gateOff (fun (x1_5 : Int32) => post x1_5) post n6 (0 : Int32) (0 : Int32)
def ws_X4_gates_4 (o_isTold : Nat → Int32) (kb : Int32 → Int32 → Prop) (kx0 : Int32 → Prop) (post : Int32 → Prop) (x1 : Int32) (x2 : Int32) : Prop :=
  (((5 : Int32) ≤ x2 → kx0 x1) ∧
   (¬ (5 : Int32) ≤ x2 → (vp_in x2 5 ∧ (wp_X6_bit (o_isTold (x2).toNatClampNeg) (fun (r3 : Int32) => kb (x1 + r3) (x2 + (1 : Int32)))))))
def wl_X4_gates_4 (o_isTold : Nat → Int32) (kx0 : Int32 → Prop) (post : Int32 → Prop) : Nat → Int32 → Int32 → Prop
  | 0, _, _ => False
  | n + 1, x1, x2 => ws_X4_gates_4 o_isTold (wl_X4_gates_4 o_isTold kx0 post n) kx0 post x1 x2
def wp_X4_gates  (o_isTold : Nat → Int32)  (post : Int32 → Prop) : Prop :=
  ∃ n5, wl_X4_gates_4 o_isTold (fun (x1_4 : Int32) => post x1_4) post n5 (0 : Int32) (0 : Int32)
def wj_X4_gatesOff_33  (x2 : Int32) (s0 : Int32) (s1 : Int32) (o_isTold : Nat → Int32) (o_gateOff : Nat → Int32) (kb : Int32 → Int32 → Prop) (kx0 : Int32 → Prop) (post : Int32 → Prop) : Prop :=
  (wp_X6_bit s1 (fun (r4 : Int32) => kb (s0 + r4) (x2 + (1 : Int32))))
def ws_X4_gatesOff_4 (o_isTold : Nat → Int32) (o_gateOff : Nat → Int32) (kb : Int32 → Int32 → Prop) (kx0 : Int32 → Prop) (post : Int32 → Prop) (x1 : Int32) (x2 : Int32) : Prop :=
  (((5 : Int32) ≤ x2 → kx0 x1) ∧
   (¬ (5 : Int32) ≤ x2 → (vp_in x2 5 ∧ (((o_isTold (x2).toNatClampNeg) = 0 → wj_X4_gatesOff_33 x2 x1 (0 : Int32) o_isTold o_gateOff kb kx0 post) ∧
   (¬ (o_isTold (x2).toNatClampNeg) = 0 → (((o_gateOff (x2).toNatClampNeg) = 0 → wj_X4_gatesOff_33 x2 x1 (0 : Int32) o_isTold o_gateOff kb kx0 post) ∧
   (¬ (o_gateOff (x2).toNatClampNeg) = 0 → wj_X4_gatesOff_33 x2 x1 (1 : Int32) o_isTold o_gateOff kb kx0 post)))))))
def wl_X4_gatesOff_4 (o_isTold : Nat → Int32) (o_gateOff : Nat → Int32) (kx0 : Int32 → Prop) (post : Int32 → Prop) : Nat → Int32 → Int32 → Prop
  | 0, _, _ => False
  | n + 1, x1, x2 => ws_X4_gatesOff_4 o_isTold o_gateOff (wl_X4_gatesOff_4 o_isTold o_gateOff kx0 post n) kx0 post x1 x2
def wp_X4_gatesOff  (o_isTold : Nat → Int32) (o_gateOff : Nat → Int32)  (post : Int32 → Prop) : Prop :=
  ∃ n7, wl_X4_gatesOff_4 o_isTold o_gateOff (fun (x1_6 : Int32) => post x1_6) post n7 (0 : Int32) (0 : Int32)
def ws_X4_wishesOff_4 (o_wishes : Int32) (o_wishOff : Nat → Int32) (kb : Int32 → Int32 → Prop) (kx0 : Int32 → Prop) (post : Int32 → Prop) (x1 : Int32) (x2 : Int32) : Prop :=
  ((o_wishes ≤ x2 → kx0 x1) ∧
   (¬ o_wishes ≤ x2 → (vp_in x2 4 ∧ (wp_X6_bit (o_wishOff (x2).toNatClampNeg) (fun (r3 : Int32) => kb (x1 + r3) (x2 + (1 : Int32)))))))
def wl_X4_wishesOff_4 (o_wishes : Int32) (o_wishOff : Nat → Int32) (kx0 : Int32 → Prop) (post : Int32 → Prop) : Nat → Int32 → Int32 → Prop
  | 0, _, _ => False
  | n + 1, x1, x2 => ws_X4_wishesOff_4 o_wishes o_wishOff (wl_X4_wishesOff_4 o_wishes o_wishOff kx0 post n) kx0 post x1 x2
def wp_X4_wishesOff  (o_wishes : Int32) (o_wishOff : Nat → Int32)  (post : Int32 → Prop) : Prop :=
  ∃ n5, wl_X4_wishesOff_4 o_wishes o_wishOff (fun (x1_4 : Int32) => post x1_4) post n5 (0 : Int32) (0 : Int32)
def wj_X4_unpartedWishes_27  (x2 : Int32) (s0 : Int32) (s1 : Int32) (o_wishes : Int32) (o_kind : Nat → Int32) (kb : Int32 → Int32 → Prop) (kx0 : Int32 → Prop) (post : Int32 → Prop) : Prop :=
  (wp_X6_bit s1 (fun (r4 : Int32) => kb (s0 + r4) (x2 + (1 : Int32))))
def ws_X4_unpartedWishes_4 (o_wishes : Int32) (o_kind : Nat → Int32) (kb : Int32 → Int32 → Prop) (kx0 : Int32 → Prop) (post : Int32 → Prop) (x1 : Int32) (x2 : Int32) : Prop :=
  ((o_wishes ≤ x2 → kx0 x1) ∧
   (¬ o_wishes ≤ x2 → (vp_in x2 4 ∧ (((o_kind (x2).toNatClampNeg) = 0 → wj_X4_unpartedWishes_27 x2 x1 (0 : Int32) o_wishes o_kind kb kx0 post) ∧
   (¬ (o_kind (x2).toNatClampNeg) = 0 → wj_X4_unpartedWishes_27 x2 x1 (1 : Int32) o_wishes o_kind kb kx0 post)))))
def wl_X4_unpartedWishes_4 (o_wishes : Int32) (o_kind : Nat → Int32) (kx0 : Int32 → Prop) (post : Int32 → Prop) : Nat → Int32 → Int32 → Prop
  | 0, _, _ => False
  | n + 1, x1, x2 => ws_X4_unpartedWishes_4 o_wishes o_kind (wl_X4_unpartedWishes_4 o_wishes o_kind kx0 post n) kx0 post x1 x2
def wp_X4_unpartedWishes  (o_wishes : Int32) (o_kind : Nat → Int32)  (post : Int32 → Prop) : Prop :=
  ∃ n6, wl_X4_unpartedWishes_4 o_wishes o_kind (fun (x1_5 : Int32) => post x1_5) post n6 (0 : Int32) (0 : Int32)
def wj_X4_narrowWishes_41  (x1 : Int32) (x2 : Int32) (x4 : Int32) (s0 : Int32) (s1 : Int32) (o_wishes : Int32) (o_use : Nat → Nat → Int32) (kb : Int32 → Int32 → Prop) (kx0 : Int32 → Prop) (post : Int32 → Prop) : Prop :=
  (wp_X6_bit s1 (fun (r6 : Int32) => kb (s0 + r6) (x4 + (1 : Int32))))
def ws_X4_narrowWishes_17 (x1 : Int32) (x2 : Int32) (o_wishes : Int32) (o_use : Nat → Nat → Int32) (kb : Int32 → Int32 → Prop) (kx0 : Int32 → Prop) (post : Int32 → Prop) (x3 : Int32) (x4 : Int32) : Prop :=
  (((5 : Int32) ≤ x4 → kx0 x3) ∧
   (¬ (5 : Int32) ≤ x4 → (vp_in x2 4 ∧ (vp_in x4 5 ∧ (((o_use (x2).toNatClampNeg (x4).toNatClampNeg) ≤ 0 → wj_X4_narrowWishes_41 x1 x2 x4 x3 (0 : Int32) o_wishes o_use kb kx0 post) ∧
   (¬ (o_use (x2).toNatClampNeg (x4).toNatClampNeg) ≤ 0 → wj_X4_narrowWishes_41 x1 x2 x4 x3 (1 : Int32) o_wishes o_use kb kx0 post))))))
def wl_X4_narrowWishes_17 (x1 : Int32) (x2 : Int32) (o_wishes : Int32) (o_use : Nat → Nat → Int32) (kx0 : Int32 → Prop) (post : Int32 → Prop) : Nat → Int32 → Int32 → Prop
  | 0, _, _ => False
  | n + 1, x3, x4 => ws_X4_narrowWishes_17 x1 x2 o_wishes o_use (wl_X4_narrowWishes_17 x1 x2 o_wishes o_use kx0 post n) kx0 post x3 x4
def wj_X4_narrowWishes_63  (x2 : Int32) (s0 : Int32) (s1 : Int32) (o_wishes : Int32) (o_use : Nat → Nat → Int32) (kb : Int32 → Int32 → Prop) (kx0 : Int32 → Prop) (post : Int32 → Prop) : Prop :=
  (wp_X6_bit s1 (fun (r9 : Int32) => kb (s0 + r9) (x2 + (1 : Int32))))
def ws_X4_narrowWishes_4 (o_wishes : Int32) (o_use : Nat → Nat → Int32) (kb : Int32 → Int32 → Prop) (kx0 : Int32 → Prop) (post : Int32 → Prop) (x1 : Int32) (x2 : Int32) : Prop :=
  ((o_wishes ≤ x2 → kx0 x1) ∧
   (¬ o_wishes ≤ x2 → ∃ n10, wl_X4_narrowWishes_17 x1 x2 o_wishes o_use (fun (x3_7 : Int32) => (((1 : Int32) < x3_7 → wj_X4_narrowWishes_63 x2 x1 (0 : Int32) o_wishes o_use kb kx0 post) ∧
   (¬ (1 : Int32) < x3_7 → wj_X4_narrowWishes_63 x2 x1 (1 : Int32) o_wishes o_use kb kx0 post))) post n10 (0 : Int32) (0 : Int32)))
def wl_X4_narrowWishes_4 (o_wishes : Int32) (o_use : Nat → Nat → Int32) (kx0 : Int32 → Prop) (post : Int32 → Prop) : Nat → Int32 → Int32 → Prop
  | 0, _, _ => False
  | n + 1, x1, x2 => ws_X4_narrowWishes_4 o_wishes o_use (wl_X4_narrowWishes_4 o_wishes o_use kx0 post n) kx0 post x1 x2
def wp_X4_narrowWishes  (o_wishes : Int32) (o_use : Nat → Nat → Int32)  (post : Int32 → Prop) : Prop :=
  ∃ n12, wl_X4_narrowWishes_4 o_wishes o_use (fun (x1_11 : Int32) => post x1_11) post n12 (0 : Int32) (0 : Int32)
def ws_X4_empty_7 (o_wishes : Int32) (kb : Int32 → (Nat → Int32) → (Nat → Int32) → Prop) (kx0 : (Nat → Int32) → (Nat → Int32) → Prop) (post : Int32 → (Nat → Int32) → (Nat → Int32) → Prop) (x1 : Int32) (o_isTold : Nat → Int32) (o_gateOff : Nat → Int32) : Prop :=
  (((5 : Int32) ≤ x1 → kx0 o_isTold o_gateOff) ∧
   (¬ (5 : Int32) ≤ x1 → (vp_in x1 5 ∧ kb (x1 + (1 : Int32)) (upd o_isTold (x1).toNatClampNeg (vp_nar .boolean (0 : Int32))) (upd o_gateOff (x1).toNatClampNeg (vp_nar .boolean (0 : Int32))))))
def wl_X4_empty_7 (o_wishes : Int32) (kx0 : (Nat → Int32) → (Nat → Int32) → Prop) (post : Int32 → (Nat → Int32) → (Nat → Int32) → Prop) : Nat → Int32 → (Nat → Int32) → (Nat → Int32) → Prop
  | 0, _, _, _ => False
  | n + 1, x1, o_isTold, o_gateOff => ws_X4_empty_7 o_wishes (wl_X4_empty_7 o_wishes kx0 post n) kx0 post x1 o_isTold o_gateOff
def wp_X4_empty  (o_wishes : Int32) (o_isTold : Nat → Int32) (o_gateOff : Nat → Int32)  (post : Int32 → (Nat → Int32) → (Nat → Int32) → Prop) : Prop :=
  ∃ n5, wl_X4_empty_7 (0 : Int32) (fun (o_isTold_3 : Nat → Int32) (o_gateOff_4 : Nat → Int32) => post (0 : Int32) o_isTold_3 o_gateOff_4) post n5 (0 : Int32) o_isTold o_gateOff
def wp_X4_addGate  (o_isTold : Nat → Int32) (o_least : Nat → Int32) (o_gateOff : Nat → Int32) (o_limit : Nat → Int32) (x1 : Int32) (x2 : Int32) (x3 : Int32) (post : (Nat → Int32) → (Nat → Int32) → (Nat → Int32) → (Nat → Int32) → Prop) : Prop :=
  ((x1 < 0 → post o_isTold o_least o_gateOff o_limit) ∧
   (¬ x1 < 0 → ((x1 < (5 : Int32) → (vp_in x1 5 ∧ post (upd o_isTold (x1).toNatClampNeg (vp_nar .boolean (1 : Int32))) (upd o_least (x1).toNatClampNeg (vp_nar .boolean x2)) (upd o_gateOff (x1).toNatClampNeg (vp_nar .boolean (0 : Int32))) (upd o_limit (x1).toNatClampNeg x3))) ∧
   (¬ x1 < (5 : Int32) → post o_isTold o_least o_gateOff o_limit))))
def wp_J13_compare_74951   (x0 : Int64) (x2 : Int64) (post : Int32 → Prop) : Prop :=
  ((x2 ≤ x0 → ((x0 = x2 → post (0 : Int32)) ∧
   (¬ x0 = x2 → post (1 : Int32)))) ∧
   (¬ x2 ≤ x0 → post (-1 : Int32)))
def wp_J6_bitCount_0f7a4   (x0 : Int32) (post : Int32 → Prop) : Prop :=
  (∀ v1 : Int32, v1 = (x0 - (((x0).toUInt32 >>> (((1 : Int32)).toUInt32 &&& Int32.toUInt32 31)).toInt32 &&& (1431655765 : Int32))) → (∀ v2 : Int32, v2 = ((v1 &&& (858993459 : Int32)) + (((v1).toUInt32 >>> (((2 : Int32)).toUInt32 &&& Int32.toUInt32 31)).toInt32 &&& (858993459 : Int32))) → (∀ v3 : Int32, v3 = ((v2 + ((v2).toUInt32 >>> (((4 : Int32)).toUInt32 &&& Int32.toUInt32 31)).toInt32) &&& (252645135 : Int32)) → (∀ v4 : Int32, v4 = (v3 + ((v3).toUInt32 >>> (((8 : Int32)).toUInt32 &&& Int32.toUInt32 31)).toInt32) → (∀ v5 : Int32, v5 = (v4 + ((v4).toUInt32 >>> (((16 : Int32)).toUInt32 &&& Int32.toUInt32 31)).toInt32) → post (v5 &&& (63 : Int32)))))))
def wp_J9_floorDiv_f86c9   (x0 : Int64) (x2 : Int64) (post : Int64 → Prop) : Prop :=
  (¬ x2 = 0 ∧ (((0 : Int64) ≤ (x0 ^^^ x2) → post (x0 / x2)) ∧
   (¬ (0 : Int64) ≤ (x0 ^^^ x2) → ((((x0 / x2) * x2) = x0 → post (x0 / x2)) ∧
   (¬ ((x0 / x2) * x2) = x0 → post ((x0 / x2) - (1 : Int64)))))))
def ws_J7_fill_d0a16_6 (n_p0 : Nat) (x1 : Int64) (x4 : Int32) (kb : Int32 → (Nat → Int64) → Prop) (kx0 : (Nat → Int64) → Prop) (post : (Nat → Int64) → Prop) (x3 : Int32) (p0 : Nat → Int64) : Prop :=
  ((x4 ≤ x3 → kx0 p0) ∧
   (¬ x4 ≤ x3 → (vp_in x3 n_p0 ∧ kb (x3 + (1 : Int32)) (vp_updL p0 (x3).toNatClampNeg x1))))
def wl_J7_fill_d0a16_6 (n_p0 : Nat) (x1 : Int64) (x4 : Int32) (kx0 : (Nat → Int64) → Prop) (post : (Nat → Int64) → Prop) : Nat → Int32 → (Nat → Int64) → Prop
  | 0, _, _ => False
  | n + 1, x3, p0 => ws_J7_fill_d0a16_6 n_p0 x1 x4 (wl_J7_fill_d0a16_6 n_p0 x1 x4 kx0 post n) kx0 post x3 p0
def wp_J7_fill_d0a16 (n_p0 : Nat) (p0 : Nat → Int64) (x1 : Int64) (post : (Nat → Int64) → Prop) : Prop :=
  ∃ n4, wl_J7_fill_d0a16_6 n_p0 x1 (Int32.ofNat n_p0) (fun (p0_3 : Nat → Int64) => post p0_3) post n4 (0 : Int32) p0
def ws_J7_fill_53178_5 (n_p0 : Nat) (x1 : Int32) (x3 : Int32) (kb : Int32 → (Nat → Int32) → Prop) (kx0 : (Nat → Int32) → Prop) (post : (Nat → Int32) → Prop) (x2 : Int32) (p0 : Nat → Int32) : Prop :=
  ((x3 ≤ x2 → kx0 p0) ∧
   (¬ x3 ≤ x2 → (vp_in x2 n_p0 ∧ kb (x2 + (1 : Int32)) (upd p0 (x2).toNatClampNeg x1))))
def wl_J7_fill_53178_5 (n_p0 : Nat) (x1 : Int32) (x3 : Int32) (kx0 : (Nat → Int32) → Prop) (post : (Nat → Int32) → Prop) : Nat → Int32 → (Nat → Int32) → Prop
  | 0, _, _ => False
  | n + 1, x2, p0 => ws_J7_fill_53178_5 n_p0 x1 x3 (wl_J7_fill_53178_5 n_p0 x1 x3 kx0 post n) kx0 post x2 p0
def wp_J7_fill_53178 (n_p0 : Nat) (p0 : Nat → Int32) (x1 : Int32) (post : (Nat → Int32) → Prop) : Prop :=
  ∃ n4, wl_J7_fill_53178_5 n_p0 x1 (Int32.ofNat n_p0) (fun (p0_3 : Nat → Int32) => post p0_3) post n4 (0 : Int32) p0
def wp_X4_addWish  (o_wishes : Int32) (o_value : Nat → Int32) (o_kind : Nat → Int32) (o_most : Nat → Int32) (o_wishOff : Nat → Int32) (o_use : Nat → Nat → Int32) (x1 : Int32) (x2 : Int32) (x3 : Int32) (post : Int32 → (Nat → Int32) → (Nat → Int32) → (Nat → Int32) → (Nat → Int32) → (Nat → Nat → Int32) → Prop) : Prop :=
  ((o_wishes < (4 : Int32) → (vp_in o_wishes 4 ∧ (wp_J7_fill_53178 5 (o_use (o_wishes).toNatClampNeg) (0 : Int32) (fun (u3 : Nat → Int32) => post (o_wishes + (1 : Int32)) (upd o_value (o_wishes).toNatClampNeg x1) (upd o_kind (o_wishes).toNatClampNeg x2) (upd o_most (o_wishes).toNatClampNeg x3) (upd o_wishOff (o_wishes).toNatClampNeg (vp_nar .boolean (0 : Int32))) (va_up o_use (o_wishes).toNatClampNeg u3))))) ∧
   (¬ o_wishes < (4 : Int32) → post o_wishes o_value o_kind o_most o_wishOff o_use))
def wp_X5_forget  (o_x : Nat → Int64) (o_price : Nat → Int64)  (post : (Nat → Int64) → (Nat → Int64) → Prop) : Prop :=
  (wp_J7_fill_d0a16 4 o_x (0 : Int64) (fun (u1 : Nat → Int64) => (wp_J7_fill_d0a16 5 o_price (0 : Int64) (fun (u2 : Nat → Int64) => post u1 u2))))
def wp_X5_canTell   (x0 : Int32) (x1 : Int32) (post : Int32 → Prop) : Prop :=
  ((x0 < (-999 : Int32) → post (0 : Int32)) ∧
   (¬ x0 < (-999 : Int32) → (((999 : Int32) < x0 → post (0 : Int32)) ∧
   (¬ (999 : Int32) < x0 → ((x1 < (1 : Int32) → post (0 : Int32)) ∧
   (¬ x1 < (1 : Int32) → (((12 : Int32) < x1 → post (0 : Int32)) ∧
   (¬ (12 : Int32) < x1 → post (1 : Int32)))))))))
def wp_X5_scaled   (x0 : Int32) (x1 : Int32) (post : Int64 → Prop) : Prop :=
  ((x1 = 0 → post (0 : Int64)) ∧
   (¬ x1 = 0 → (¬ x1 = 0 ∧ post ((x0).toInt64 * (((27720 : Int32) / x1)).toInt64))))
def wj_X5_withinBounds_34  (x2 : Int32) (s0 : Int64) (o_x : Nat → Int64) (p1_wishes : Int32) (p1_most : Nat → Int32) (p1_wishOff : Nat → Int32) (kb : Int32 → Prop) (kx0 : Prop) (kx1 : Prop) (post : Int32 → Prop) : Prop :=
  (vp_in x2 4 ∧ (((o_x (x2).toNatClampNeg) < (0 : Int64) → kx1) ∧
   (¬ (o_x (x2).toNatClampNeg) < (0 : Int64) → (((o_x (x2).toNatClampNeg) ≤ s0 → kb (x2 + (1 : Int32))) ∧
   (¬ (o_x (x2).toNatClampNeg) ≤ s0 → kx1)))))
def ws_X5_withinBounds_2 (o_x : Nat → Int64) (p1_wishes : Int32) (p1_most : Nat → Int32) (p1_wishOff : Nat → Int32) (kb : Int32 → Prop) (kx0 : Prop) (kx1 : Prop) (post : Int32 → Prop) (x2 : Int32) : Prop :=
  ((p1_wishes ≤ x2 → kx0) ∧
   (¬ p1_wishes ≤ x2 → (vp_in x2 4 ∧ (((p1_wishOff (x2).toNatClampNeg) = 0 → wj_X5_withinBounds_34 x2 (((p1_most (x2).toNatClampNeg)).toInt64 * (27720 : Int64)) o_x p1_wishes p1_most p1_wishOff kb kx0 kx1 post) ∧
   (¬ (p1_wishOff (x2).toNatClampNeg) = 0 → wj_X5_withinBounds_34 x2 (0 : Int64) o_x p1_wishes p1_most p1_wishOff kb kx0 kx1 post)))))
def wl_X5_withinBounds_2 (o_x : Nat → Int64) (p1_wishes : Int32) (p1_most : Nat → Int32) (p1_wishOff : Nat → Int32) (kx0 : Prop) (kx1 : Prop) (post : Int32 → Prop) : Nat → Int32 → Prop
  | 0, _ => False
  | n + 1, x2 => ws_X5_withinBounds_2 o_x p1_wishes p1_most p1_wishOff (wl_X5_withinBounds_2 o_x p1_wishes p1_most p1_wishOff kx0 kx1 post n) kx0 kx1 post x2
def wp_X5_withinBounds  (o_x : Nat → Int64) (p1_wishes : Int32) (p1_most : Nat → Int32) (p1_wishOff : Nat → Int32)  (post : Int32 → Prop) : Prop :=
  ∃ n7, wl_X5_withinBounds_2 o_x p1_wishes p1_most p1_wishOff (post (1 : Int32)) (post (0 : Int32)) post n7 (0 : Int32)
def ws_X5_gatesHold_40 (x2 : Int32) (x3 : Int32) (o_x : Nat → Int64) (p1_wishes : Int32) (p1_isTold : Nat → Int32) (p1_least : Nat → Int32) (p1_gateOff : Nat → Int32) (p1_limit : Nat → Int32) (p1_use : Nat → Nat → Int32) (kb : Int64 → Int32 → Prop) (kx0 : Int64 → Prop) (post : Int32 → Prop) (x4 : Int64) (x6 : Int32) : Prop :=
  ((p1_wishes ≤ x6 → kx0 x4) ∧
   (¬ p1_wishes ≤ x6 → (vp_in x6 4 ∧ (vp_in x3 5 ∧ (∀ v9 : Int64, v9 = (x4 + (((p1_use (x6).toNatClampNeg (x3).toNatClampNeg)).toInt64 * (o_x (x6).toNatClampNeg))) → kb v9 (x6 + (1 : Int32)))))))
def wl_X5_gatesHold_40 (x2 : Int32) (x3 : Int32) (o_x : Nat → Int64) (p1_wishes : Int32) (p1_isTold : Nat → Int32) (p1_least : Nat → Int32) (p1_gateOff : Nat → Int32) (p1_limit : Nat → Int32) (p1_use : Nat → Nat → Int32) (kx0 : Int64 → Prop) (post : Int32 → Prop) : Nat → Int64 → Int32 → Prop
  | 0, _, _ => False
  | n + 1, x4, x6 => ws_X5_gatesHold_40 x2 x3 o_x p1_wishes p1_isTold p1_least p1_gateOff p1_limit p1_use (wl_X5_gatesHold_40 x2 x3 o_x p1_wishes p1_isTold p1_least p1_gateOff p1_limit p1_use kx0 post n) kx0 post x4 x6
def ws_X5_gatesHold_7 (x2 : Int32) (o_x : Nat → Int64) (p1_wishes : Int32) (p1_isTold : Nat → Int32) (p1_least : Nat → Int32) (p1_gateOff : Nat → Int32) (p1_limit : Nat → Int32) (p1_use : Nat → Nat → Int32) (kb : Int32 → Prop) (kx0 : Prop) (kx1 : Prop) (post : Int32 → Prop) (x3 : Int32) : Prop :=
  (((5 : Int32) ≤ x3 → kx0) ∧
   (¬ (5 : Int32) ≤ x3 → ((((x2 >>> (x3 &&& 31)) &&& (1 : Int32)) = 0 → kb (x3 + (1 : Int32))) ∧
   (¬ ((x2 >>> (x3 &&& 31)) &&& (1 : Int32)) = 0 → (vp_in x3 5 ∧ (∀ v5 : Int64, v5 = ((-(((p1_limit (x3).toNatClampNeg)).toInt64)) * (27720 : Int64)) → ∃ n15, wl_X5_gatesHold_40 x2 x3 o_x p1_wishes p1_isTold p1_least p1_gateOff p1_limit p1_use (fun (x4_10 : Int64) => (vp_in x3 5 ∧ (((p1_least (x3).toNatClampNeg) = 0 → ((x4_10 ≤ (0 : Int64) → kb (x3 + (1 : Int32))) ∧
   (¬ x4_10 ≤ (0 : Int64) → kx1))) ∧
   (¬ (p1_least (x3).toNatClampNeg) = 0 → (((0 : Int64) ≤ x4_10 → kb (x3 + (1 : Int32))) ∧
   (¬ (0 : Int64) ≤ x4_10 → kx1)))))) post n15 v5 (0 : Int32)))))))
def wl_X5_gatesHold_7 (x2 : Int32) (o_x : Nat → Int64) (p1_wishes : Int32) (p1_isTold : Nat → Int32) (p1_least : Nat → Int32) (p1_gateOff : Nat → Int32) (p1_limit : Nat → Int32) (p1_use : Nat → Nat → Int32) (kx0 : Prop) (kx1 : Prop) (post : Int32 → Prop) : Nat → Int32 → Prop
  | 0, _ => False
  | n + 1, x3 => ws_X5_gatesHold_7 x2 o_x p1_wishes p1_isTold p1_least p1_gateOff p1_limit p1_use (wl_X5_gatesHold_7 x2 o_x p1_wishes p1_isTold p1_least p1_gateOff p1_limit p1_use kx0 kx1 post n) kx0 kx1 post x3
def wp_X5_gatesHold  (o_x : Nat → Int64) (p1_wishes : Int32) (p1_isTold : Nat → Int32) (p1_least : Nat → Int32) (p1_gateOff : Nat → Int32) (p1_limit : Nat → Int32) (p1_use : Nat → Nat → Int32)  (post : Int32 → Prop) : Prop :=
  (wp_X4_heldGates p1_isTold p1_gateOff (fun (r1 : Int32) => ∃ n16, wl_X5_gatesHold_7 r1 o_x p1_wishes p1_isTold p1_least p1_gateOff p1_limit p1_use (post (1 : Int32)) (post (0 : Int32)) post n16 (0 : Int32)))
def wj_X5_pricesFit_43  (x2 : Int32) (x3 : Int64) (o_price : Nat → Int64) (p1_isTold : Nat → Int32) (p1_least : Nat → Int32) (p1_gateOff : Nat → Int32) (kb : Int32 → Prop) (kx0 : Prop) (kx1 : Prop) (kx2 : Prop) (post : Int32 → Prop) : Prop :=
  (vp_in x2 5 ∧ (((p1_least (x2).toNatClampNeg) = 0 → (((0 : Int64) ≤ x3 → kb (x2 + (1 : Int32))) ∧
   (¬ (0 : Int64) ≤ x3 → kx1))) ∧
   (¬ (p1_least (x2).toNatClampNeg) = 0 → ((x3 ≤ (0 : Int64) → kb (x2 + (1 : Int32))) ∧
   (¬ x3 ≤ (0 : Int64) → kx1)))))
def ws_X5_pricesFit_2 (o_price : Nat → Int64) (p1_isTold : Nat → Int32) (p1_least : Nat → Int32) (p1_gateOff : Nat → Int32) (kb : Int32 → Prop) (kx0 : Prop) (kx1 : Prop) (kx2 : Prop) (post : Int32 → Prop) (x2 : Int32) : Prop :=
  (((5 : Int32) ≤ x2 → kx0) ∧
   (¬ (5 : Int32) ≤ x2 → (vp_in x2 5 ∧ (((p1_isTold (x2).toNatClampNeg) = 0 → kb (x2 + (1 : Int32))) ∧
   (¬ (p1_isTold (x2).toNatClampNeg) = 0 → (((p1_gateOff (x2).toNatClampNeg) = 0 → wj_X5_pricesFit_43 x2 (o_price (x2).toNatClampNeg) o_price p1_isTold p1_least p1_gateOff kb kx0 kx1 kx2 post) ∧
   (¬ (p1_gateOff (x2).toNatClampNeg) = 0 → (((o_price (x2).toNatClampNeg) = (0 : Int64) → wj_X5_pricesFit_43 x2 (o_price (x2).toNatClampNeg) o_price p1_isTold p1_least p1_gateOff kb kx0 kx1 kx2 post) ∧
   (¬ (o_price (x2).toNatClampNeg) = (0 : Int64) → kx2)))))))))
def wl_X5_pricesFit_2 (o_price : Nat → Int64) (p1_isTold : Nat → Int32) (p1_least : Nat → Int32) (p1_gateOff : Nat → Int32) (kx0 : Prop) (kx1 : Prop) (kx2 : Prop) (post : Int32 → Prop) : Nat → Int32 → Prop
  | 0, _ => False
  | n + 1, x2 => ws_X5_pricesFit_2 o_price p1_isTold p1_least p1_gateOff (wl_X5_pricesFit_2 o_price p1_isTold p1_least p1_gateOff kx0 kx1 kx2 post n) kx0 kx1 kx2 post x2
def wp_X5_pricesFit  (o_price : Nat → Int64) (p1_isTold : Nat → Int32) (p1_least : Nat → Int32) (p1_gateOff : Nat → Int32)  (post : Int32 → Prop) : Prop :=
  ∃ n10, wl_X5_pricesFit_2 o_price p1_isTold p1_least p1_gateOff (post (1 : Int32)) (post (0 : Int32)) (post (0 : Int32)) post n10 (0 : Int32)
def ws_X5_rest_15 (x2 : Int32) (o_price : Nat → Int64) (p1_value : Nat → Int32) (p1_use : Nat → Nat → Int32) (kb : Int64 → Int32 → Prop) (kx0 : Int64 → Prop) (post : Int64 → Prop) (x3 : Int64) (x5 : Int32) : Prop :=
  (((5 : Int32) ≤ x5 → kx0 x3) ∧
   (¬ (5 : Int32) ≤ x5 → (vp_in x2 4 ∧ (vp_in x5 5 ∧ (∀ v5 : Int64, v5 = (x3 - (((p1_use (x2).toNatClampNeg (x5).toNatClampNeg)).toInt64 * (o_price (x5).toNatClampNeg))) → kb v5 (x5 + (1 : Int32)))))))
def wl_X5_rest_15 (x2 : Int32) (o_price : Nat → Int64) (p1_value : Nat → Int32) (p1_use : Nat → Nat → Int32) (kx0 : Int64 → Prop) (post : Int64 → Prop) : Nat → Int64 → Int32 → Prop
  | 0, _, _ => False
  | n + 1, x3, x5 => ws_X5_rest_15 x2 o_price p1_value p1_use (wl_X5_rest_15 x2 o_price p1_value p1_use kx0 post n) kx0 post x3 x5
def wp_X5_rest  (o_price : Nat → Int64) (p1_value : Nat → Int32) (p1_use : Nat → Nat → Int32) (x2 : Int32) (post : Int64 → Prop) : Prop :=
  (vp_in x2 4 ∧ ∃ n7, wl_X5_rest_15 x2 o_price p1_value p1_use (fun (x3_6 : Int64) => post (if (0 : Int64) < x3_6 then x3_6 else (0 : Int64))) post n7 (((p1_value (x2).toNatClampNeg)).toInt64 * (27720 : Int64)) (0 : Int32))
def ws_X5_sumsMeet_5 (o_x : Nat → Int64) (o_price : Nat → Int64) (p1_wishes : Int32) (p1_isTold : Nat → Int32) (p1_limit : Nat → Int32) (p1_value : Nat → Int32) (p1_most : Nat → Int32) (p1_wishOff : Nat → Int32) (p1_use : Nat → Nat → Int32) (kb : Int64 → Int32 → Prop) (kx0 : Int64 → Prop) (post : Int32 → Prop) (x2 : Int64) (x4 : Int32) : Prop :=
  ((p1_wishes ≤ x4 → kx0 x2) ∧
   (¬ p1_wishes ≤ x4 → (vp_in x4 4 ∧ (∀ v3 : Int64, v3 = (x2 - (((p1_value (x4).toNatClampNeg)).toInt64 * (o_x (x4).toNatClampNeg))) → (((p1_wishOff (x4).toNatClampNeg) = 0 → (wp_X5_rest o_price p1_value p1_use x4 (fun (r5 : Int64) => kb (v3 + (((p1_most (x4).toNatClampNeg)).toInt64 * r5)) (x4 + (1 : Int32))))) ∧
   (¬ (p1_wishOff (x4).toNatClampNeg) = 0 → kb v3 (x4 + (1 : Int32))))))))
def wl_X5_sumsMeet_5 (o_x : Nat → Int64) (o_price : Nat → Int64) (p1_wishes : Int32) (p1_isTold : Nat → Int32) (p1_limit : Nat → Int32) (p1_value : Nat → Int32) (p1_most : Nat → Int32) (p1_wishOff : Nat → Int32) (p1_use : Nat → Nat → Int32) (kx0 : Int64 → Prop) (post : Int32 → Prop) : Nat → Int64 → Int32 → Prop
  | 0, _, _ => False
  | n + 1, x2, x4 => ws_X5_sumsMeet_5 o_x o_price p1_wishes p1_isTold p1_limit p1_value p1_most p1_wishOff p1_use (wl_X5_sumsMeet_5 o_x o_price p1_wishes p1_isTold p1_limit p1_value p1_most p1_wishOff p1_use kx0 post n) kx0 post x2 x4
def ws_X5_sumsMeet_71 (o_x : Nat → Int64) (o_price : Nat → Int64) (p1_wishes : Int32) (p1_isTold : Nat → Int32) (p1_limit : Nat → Int32) (p1_value : Nat → Int32) (p1_most : Nat → Int32) (p1_wishOff : Nat → Int32) (p1_use : Nat → Nat → Int32) (kb : Int64 → Int32 → Prop) (kx0 : Int64 → Prop) (post : Int32 → Prop) (x2 : Int64) (x4 : Int32) : Prop :=
  (((5 : Int32) ≤ x4 → kx0 x2) ∧
   (¬ (5 : Int32) ≤ x4 → (vp_in x4 5 ∧ (((p1_isTold (x4).toNatClampNeg) = 0 → kb x2 (x4 + (1 : Int32))) ∧
   (¬ (p1_isTold (x4).toNatClampNeg) = 0 → (∀ v10 : Int64, v10 = (x2 + (((p1_limit (x4).toNatClampNeg)).toInt64 * (o_price (x4).toNatClampNeg))) → kb v10 (x4 + (1 : Int32))))))))
def wl_X5_sumsMeet_71 (o_x : Nat → Int64) (o_price : Nat → Int64) (p1_wishes : Int32) (p1_isTold : Nat → Int32) (p1_limit : Nat → Int32) (p1_value : Nat → Int32) (p1_most : Nat → Int32) (p1_wishOff : Nat → Int32) (p1_use : Nat → Nat → Int32) (kx0 : Int64 → Prop) (post : Int32 → Prop) : Nat → Int64 → Int32 → Prop
  | 0, _, _ => False
  | n + 1, x2, x4 => ws_X5_sumsMeet_71 o_x o_price p1_wishes p1_isTold p1_limit p1_value p1_most p1_wishOff p1_use (wl_X5_sumsMeet_71 o_x o_price p1_wishes p1_isTold p1_limit p1_value p1_most p1_wishOff p1_use kx0 post n) kx0 post x2 x4
def wp_X5_sumsMeet  (o_x : Nat → Int64) (o_price : Nat → Int64) (p1_wishes : Int32) (p1_isTold : Nat → Int32) (p1_limit : Nat → Int32) (p1_value : Nat → Int32) (p1_most : Nat → Int32) (p1_wishOff : Nat → Int32) (p1_use : Nat → Nat → Int32)  (post : Int32 → Prop) : Prop :=
  ∃ n14, wl_X5_sumsMeet_5 o_x o_price p1_wishes p1_isTold p1_limit p1_value p1_most p1_wishOff p1_use (fun (x2_6 : Int64) => ∃ n13, wl_X5_sumsMeet_71 o_x o_price p1_wishes p1_isTold p1_limit p1_value p1_most p1_wishOff p1_use (fun (x2_11 : Int64) => ((x2_11 = (0 : Int64) → post (1 : Int32)) ∧
   (¬ x2_11 = (0 : Int64) → post (0 : Int32)))) post n13 x2_6 (0 : Int32)) post n14 (0 : Int64) (0 : Int32)
def wp_X0_forget  (o_low : Nat → Int64)  (post : (Nat → Int64) → Prop) : Prop :=
  (wp_J7_fill_d0a16 100 o_low (0 : Int64) (fun (u1 : Nat → Int64) => post u1))
def wp_X0_keep  (o_up : Nat → Int64) (o_low : Nat → Int64) (x1 : Int32) (x2 : Int64) (x4 : Int64) (post : (Nat → Int64) → (Nat → Int64) → Prop) : Prop :=
  ((x1 < 0 → post o_up o_low) ∧
   (¬ x1 < 0 → ((x1 ≤ (99 : Int32) → (vp_in x1 100 ∧ post (vp_updL o_up (x1).toNatClampNeg x2) (vp_updL o_low (x1).toNatClampNeg x4))) ∧
   (¬ x1 ≤ (99 : Int32) → post o_up o_low))))
def wj_X0_nextToAsk_96  (x1 : Int32) (x2 : Int32) (x3 : Int32) (s0 : Int32) (o_up : Nat → Int64) (o_low : Nat → Int64) (kb : Int32 → Int32 → Prop) (kx0 : Prop) (kx1 : Int32 → Int32 → Prop) (post : Int32 → Prop) : Prop :=
  (((x3 - x2) ≤ (1 : Int32) → kb x3 (x3 + (1 : Int32))) ∧
   (¬ (x3 - x2) ≤ (1 : Int32) → ((s0 = 0 → kx1 x2 x3) ∧
   (¬ s0 = 0 → kb x3 (x3 + (1 : Int32))))))
def ws_X0_nextToAsk_42 (x1 : Int32) (o_up : Nat → Int64) (o_low : Nat → Int64) (kb : Int32 → Int32 → Prop) (kx0 : Prop) (kx1 : Int32 → Int32 → Prop) (post : Int32 → Prop) (x2 : Int32) (x3 : Int32) : Prop :=
  ((x1 < x3 → kx0) ∧
   (¬ x1 < x3 → (vp_in x3 100 ∧ (((o_low (x3).toNatClampNeg) = (0 : Int64) → kb x2 (x3 + (1 : Int32))) ∧
   (¬ (o_low (x3).toNatClampNeg) = (0 : Int64) → (vp_in x2 100 ∧ ((((o_up (x2).toNatClampNeg) * (o_low (x3).toNatClampNeg)) = ((o_up (x3).toNatClampNeg) * (o_low (x2).toNatClampNeg)) → wj_X0_nextToAsk_96 x1 x2 x3 (1 : Int32) o_up o_low kb kx0 kx1 post) ∧
   (¬ ((o_up (x2).toNatClampNeg) * (o_low (x3).toNatClampNeg)) = ((o_up (x3).toNatClampNeg) * (o_low (x2).toNatClampNeg)) → wj_X0_nextToAsk_96 x1 x2 x3 (0 : Int32) o_up o_low kb kx0 kx1 post))))))))
def wl_X0_nextToAsk_42 (x1 : Int32) (o_up : Nat → Int64) (o_low : Nat → Int64) (kx0 : Prop) (kx1 : Int32 → Int32 → Prop) (post : Int32 → Prop) : Nat → Int32 → Int32 → Prop
  | 0, _, _ => False
  | n + 1, x2, x3 => ws_X0_nextToAsk_42 x1 o_up o_low (wl_X0_nextToAsk_42 x1 o_up o_low kx0 kx1 post n) kx0 kx1 post x2 x3
def wp_X0_nextToAsk  (o_up : Nat → Int64) (o_low : Nat → Int64) (x1 : Int32) (post : Int32 → Prop) : Prop :=
  ((x1 < 0 → post (-1 : Int32)) ∧
   (¬ x1 < 0 → ((x1 ≤ (99 : Int32) → (((o_low ((0 : Int32)).toNatClampNeg) = (0 : Int64) → post (0 : Int32)) ∧
   (¬ (o_low ((0 : Int32)).toNatClampNeg) = (0 : Int64) → (vp_in x1 100 ∧ (((o_low (x1).toNatClampNeg) = (0 : Int64) → post x1) ∧
   (¬ (o_low (x1).toNatClampNeg) = (0 : Int64) → ∃ n15, wl_X0_nextToAsk_42 x1 o_up o_low (post (-1 : Int32)) (fun (x2_13 : Int32) (x3_14 : Int32) => post ((x2_13 + x3_14) / (2 : Int32))) post n15 (0 : Int32) (1 : Int32))))))) ∧
   (¬ x1 ≤ (99 : Int32) → post (-1 : Int32)))))
def ws_X0_greatest_4 (x1 : Int32) (o_up : Nat → Int64) (o_low : Nat → Int64) (kb : Int32 → Int32 → Prop) (kx0 : Int32 → Prop) (post : Int32 → Prop) (x2 : Int32) (x3 : Int32) : Prop :=
  ((x1 ≤ x3 → kx0 x2) ∧
   (¬ x1 ≤ x3 → (((99 : Int32) < x3 → kx0 x2) ∧
   (¬ (99 : Int32) < x3 → (vp_in x3 100 ∧ (((o_low (x3).toNatClampNeg) = (0 : Int64) → kb x2 (x3 + (1 : Int32))) ∧
   (¬ (o_low (x3).toNatClampNeg) = (0 : Int64) → (vp_in x2 100 ∧ (∀ v6 : Int64, v6 = ((((x1 - x3)).toInt64 * (o_up (x3).toNatClampNeg)) * (o_low (x2).toNatClampNeg)) → ((v6 ≤ ((((x1 - x2)).toInt64 * (o_up (x2).toNatClampNeg)) * (o_low (x3).toNatClampNeg)) → kb x2 (x3 + (1 : Int32))) ∧
   (¬ v6 ≤ ((((x1 - x2)).toInt64 * (o_up (x2).toNatClampNeg)) * (o_low (x3).toNatClampNeg)) → kb x3 (x3 + (1 : Int32)))))))))))))
def wl_X0_greatest_4 (x1 : Int32) (o_up : Nat → Int64) (o_low : Nat → Int64) (kx0 : Int32 → Prop) (post : Int32 → Prop) : Nat → Int32 → Int32 → Prop
  | 0, _, _ => False
  | n + 1, x2, x3 => ws_X0_greatest_4 x1 o_up o_low (wl_X0_greatest_4 x1 o_up o_low kx0 post n) kx0 post x2 x3
def wp_X0_greatest  (o_up : Nat → Int64) (o_low : Nat → Int64) (x1 : Int32) (post : Int32 → Prop) : Prop :=
  ∃ n9, wl_X0_greatest_4 x1 o_up o_low (fun (x2_8 : Int32) => post x2_8) post n9 (0 : Int32) (1 : Int32)
def wp_X2_copyOf  (o_holds : Int32) (o_value : Int64) (o_low : Int64) (o_x : Nat → Int64) (p1_holds : Int32) (p1_value : Int64) (p1_low : Int64) (p1_x : Nat → Int64)  (post : Int32 → Int64 → Int64 → (Nat → Int64) → Prop) : Prop :=
  (narrow .boolean (.int p1_holds) = .int p1_holds ∧ post p1_holds p1_value p1_low (va_cpy p1_x o_x ((0 : Int32)).toNatClampNeg ((0 : Int32)).toNatClampNeg ((4 : Int32)).toNatClampNeg))
def ws_X2_beats_36 (o_holds : Int32) (o_value : Int64) (o_low : Int64) (o_x : Nat → Int64) (p1_holds : Int32) (p1_value : Int64) (p1_low : Int64) (p1_x : Nat → Int64) (kb : Int32 → Int32 → Prop) (kx0 : Int32 → Prop) (post : Int32 → Prop) (x2 : Int32) (x3 : Int32) : Prop :=
  (((4 : Int32) ≤ x3 → kx0 x2) ∧
   (¬ (4 : Int32) ≤ x3 → ((x2 = 0 → (vp_in x3 4 ∧ (wp_J13_compare_74951 ((p1_x (x3).toNatClampNeg) * o_low) ((o_x (x3).toNatClampNeg) * p1_low) (fun (r6 : Int32) => kb r6 (x3 + (1 : Int32)))))) ∧
   (¬ x2 = 0 → kx0 x2))))
def wl_X2_beats_36 (o_holds : Int32) (o_value : Int64) (o_low : Int64) (o_x : Nat → Int64) (p1_holds : Int32) (p1_value : Int64) (p1_low : Int64) (p1_x : Nat → Int64) (kx0 : Int32 → Prop) (post : Int32 → Prop) : Nat → Int32 → Int32 → Prop
  | 0, _, _ => False
  | n + 1, x2, x3 => ws_X2_beats_36 o_holds o_value o_low o_x p1_holds p1_value p1_low p1_x (wl_X2_beats_36 o_holds o_value o_low o_x p1_holds p1_value p1_low p1_x kx0 post n) kx0 post x2 x3
def wj_X2_beats_77  (x2 : Int32) (o_holds : Int32) (o_value : Int64) (o_low : Int64) (o_x : Nat → Int64) (p1_holds : Int32) (p1_value : Int64) (p1_low : Int64) (p1_x : Nat → Int64) (post : Int32 → Prop) : Prop :=
  ((o_holds = 0 → post (0 : Int32)) ∧
   (¬ o_holds = 0 → ((x2 ≤ 0 → post (0 : Int32)) ∧
   (¬ x2 ≤ 0 → post (1 : Int32)))))
def wp_X2_beats  (o_holds : Int32) (o_value : Int64) (o_low : Int64) (o_x : Nat → Int64) (p1_holds : Int32) (p1_value : Int64) (p1_low : Int64) (p1_x : Nat → Int64)  (post : Int32 → Prop) : Prop :=
  ((p1_holds = 0 → (narrow .boolean (.int o_holds) = .int o_holds ∧ post o_holds)) ∧
   (¬ p1_holds = 0 → (wp_J13_compare_74951 (o_value * p1_low) (p1_value * o_low) (fun (r2 : Int32) => ∃ n10, wl_X2_beats_36 o_holds o_value o_low o_x p1_holds p1_value p1_low p1_x (fun (x2_7 : Int32) => wj_X2_beats_77 x2_7 o_holds o_value o_low o_x p1_holds p1_value p1_low p1_x post) post n10 r2 (0 : Int32)))))
def ws_X3_put_25 (x1 : Int64) (kb : Int32 → Int32 → (Nat → Int32) → Prop) (kx0 : Int32 → (Nat → Int32) → Prop) (post : Int32 → Int32 → (Nat → Int32) → Prop) (x4 : Int32) (o_length : Int32) (o_text : Nat → Int32) : Prop :=
  ((x4 < 0 → kx0 o_length o_text) ∧
   (¬ x4 < 0 → (∀ v4 : Int32, v4 = ((((x1).toUInt64 >>> ((((8 : Int32) * x4)).toInt64.toUInt64 &&& Int64.toUInt64 63)).toInt64).toInt32).toInt8.toInt32 → (vp_in o_length 300 ∧ kb (x4 + (-1 : Int32)) (o_length + (1 : Int32)) (upd o_text (o_length).toNatClampNeg (vp_nar .byte v4))))))
def wl_X3_put_25 (x1 : Int64) (kx0 : Int32 → (Nat → Int32) → Prop) (post : Int32 → Int32 → (Nat → Int32) → Prop) : Nat → Int32 → Int32 → (Nat → Int32) → Prop
  | 0, _, _, _ => False
  | n + 1, x4, o_length, o_text => ws_X3_put_25 x1 (wl_X3_put_25 x1 kx0 post n) kx0 post x4 o_length o_text
def wp_X3_put  (o_length : Int32) (o_text : Nat → Int32) (x1 : Int64) (x3 : Int32) (post : Int32 → Int32 → (Nat → Int32) → Prop) : Prop :=
  ((x3 < (1 : Int32) → post (-3 : Int32) o_length o_text) ∧
   (¬ x3 < (1 : Int32) → ((x3 ≤ ((300 : Int32) - o_length) → ∃ n8, wl_X3_put_25 x1 (fun (o_length_6 : Int32) (o_text_7 : Nat → Int32) => post o_length_6 o_length_6 o_text_7) post n8 (x3 - (1 : Int32)) o_length o_text) ∧
   (¬ x3 ≤ ((300 : Int32) - o_length) → post (-3 : Int32) o_length o_text))))
def wp_X3_isDigit   (x0 : Int32) (post : Int32 → Prop) : Prop :=
  ((x0 < (48 : Int32) → post (0 : Int32)) ∧
   (¬ x0 < (48 : Int32) → (((57 : Int32) < x0 → post (0 : Int32)) ∧
   (¬ (57 : Int32) < x0 → post (1 : Int32)))))
def wp_X3_isSmall   (x0 : Int32) (post : Int32 → Prop) : Prop :=
  ((x0 < (97 : Int32) → post (0 : Int32)) ∧
   (¬ x0 < (97 : Int32) → (((122 : Int32) < x0 → post (0 : Int32)) ∧
   (¬ (122 : Int32) < x0 → post (1 : Int32)))))
def wp_X3_setKind  (o_token : Int32) (o_number : Int32) (x1 : Int32) (post : Int32 → Int32 → Prop) : Prop :=
  post (9 : Int32) x1
def wj_X3_readSign_26  (x1 : Int32) (o_at : Int32) (o_token : Int32) (o_number : Int32) (post : Int32 → Int32 → Int32 → Prop) : Prop :=
  ((x1 < (65 : Int32) → post o_at o_token o_number) ∧
   (¬ x1 < (65 : Int32) → (((70 : Int32) ≤ x1 → post o_at o_token o_number) ∧
   (¬ (70 : Int32) ≤ x1 → post o_at (3 : Int32) (x1 - (65 : Int32))))))
def wp_X3_readSign  (o_at : Int32) (o_token : Int32) (o_number : Int32) (x1 : Int32) (post : Int32 → Int32 → Int32 → Prop) : Prop :=
  ((x1 = (59 : Int32) → wj_X3_readSign_26 x1 (o_at + (1 : Int32)) (2 : Int32) o_number post) ∧
   (¬ x1 = (59 : Int32) → wj_X3_readSign_26 x1 (o_at + (1 : Int32)) (1 : Int32) o_number post))
def wj_X3_readDigits_105  (s0 : Int32) (o_length : Int32) (o_at : Int32) (o_start : Int32) (o_token : Int32) (o_number : Int32) (o_text : Nat → Int32) (post : Int32 → Int32 → Int32 → Prop) : Prop :=
  ((s0 = 0 → ((o_number ≤ (999 : Int32) → post o_at (4 : Int32) o_number) ∧
   (¬ o_number ≤ (999 : Int32) → post o_at (1 : Int32) o_number))) ∧
   (¬ s0 = 0 → post o_at (1 : Int32) o_number))
def wj_X3_readDigits_73  (o_length : Int32) (o_at : Int32) (o_start : Int32) (o_token : Int32) (o_number : Int32) (o_text : Nat → Int32) (post : Int32 → Int32 → Int32 → Prop) : Prop :=
  (vp_in o_start 300 ∧ (((o_text (o_start).toNatClampNeg) = (48 : Int32) → (((o_at - o_start) ≤ (1 : Int32) → wj_X3_readDigits_105 (0 : Int32) o_length o_at o_start o_token o_number o_text post) ∧
   (¬ (o_at - o_start) ≤ (1 : Int32) → wj_X3_readDigits_105 (1 : Int32) o_length o_at o_start o_token o_number o_text post))) ∧
   (¬ (o_text (o_start).toNatClampNeg) = (48 : Int32) → wj_X3_readDigits_105 (0 : Int32) o_length o_at o_start o_token o_number o_text post)))
def wj_X3_readDigits_60_b  (o_length : Int32) (o_at : Int32) (o_start : Int32) (o_token : Int32) (o_number : Int32) (o_text : Nat → Int32) (kb : Int32 → Int32 → Prop) (kx0 : Int32 → Int32 → Prop) (post : Int32 → Int32 → Int32 → Prop) : Prop :=
  kb (o_at + (1 : Int32)) o_number
def ws_X3_readDigits_0 (o_length : Int32) (o_start : Int32) (o_token : Int32) (o_text : Nat → Int32) (kb : Int32 → Int32 → Prop) (kx0 : Int32 → Int32 → Prop) (post : Int32 → Int32 → Int32 → Prop) (o_at : Int32) (o_number : Int32) : Prop :=
  ((o_length ≤ o_at → kx0 o_at o_number) ∧
   (¬ o_length ≤ o_at → (vp_in o_at 300 ∧ (wp_X3_isDigit (o_text (o_at).toNatClampNeg) (fun (r13 : Int32) => ((r13 = 0 → kx0 o_at o_number) ∧
   (¬ r13 = 0 → (((999 : Int32) < o_number → wj_X3_readDigits_60_b o_length o_at o_start o_token o_number o_text kb kx0 post) ∧
   (¬ (999 : Int32) < o_number → (∀ v16 : Int32, v16 = (((o_number * (10 : Int32)) + (o_text (o_at).toNatClampNeg)) - (48 : Int32)) → wj_X3_readDigits_60_b o_length o_at o_start o_token v16 o_text kb kx0 post))))))))))
def wl_X3_readDigits_0 (o_length : Int32) (o_start : Int32) (o_token : Int32) (o_text : Nat → Int32) (kx0 : Int32 → Int32 → Prop) (post : Int32 → Int32 → Int32 → Prop) : Nat → Int32 → Int32 → Prop
  | 0, _, _ => False
  | n + 1, o_at, o_number => ws_X3_readDigits_0 o_length o_start o_token o_text (wl_X3_readDigits_0 o_length o_start o_token o_text kx0 post n) kx0 post o_at o_number
def wj_X3_readDigits_60  (o_length : Int32) (o_at : Int32) (o_start : Int32) (o_token : Int32) (o_number : Int32) (o_text : Nat → Int32) (post : Int32 → Int32 → Int32 → Prop) : Prop :=
  ∃ n19, wl_X3_readDigits_0 o_length o_start o_token o_text (fun (o_at_17 : Int32) (o_number_18 : Int32) => wj_X3_readDigits_73 o_length o_at_17 o_start o_token o_number_18 o_text post) post n19 (o_at + (1 : Int32)) o_number
def wp_X3_readDigits  (o_length : Int32) (o_at : Int32) (o_start : Int32) (o_token : Int32) (o_number : Int32) (o_text : Nat → Int32)  (post : Int32 → Int32 → Int32 → Prop) : Prop :=
  ((o_length ≤ o_at → wj_X3_readDigits_73 o_length o_at o_start o_token o_number o_text post) ∧
   (¬ o_length ≤ o_at → (vp_in o_at 300 ∧ (wp_X3_isDigit (o_text (o_at).toNatClampNeg) (fun (r8 : Int32) => ((r8 = 0 → wj_X3_readDigits_73 o_length o_at o_start o_token o_number o_text post) ∧
   (¬ r8 = 0 → (((999 : Int32) < o_number → wj_X3_readDigits_60 o_length o_at o_start o_token o_number o_text post) ∧
   (¬ (999 : Int32) < o_number → (∀ v20 : Int32, v20 = (((o_number * (10 : Int32)) + (o_text (o_at).toNatClampNeg)) - (48 : Int32)) → wj_X3_readDigits_60 o_length o_at o_start o_token v20 o_text post))))))))))
def ws_X3_isWord_20 (k1 : Nat) (o_at : Int32) (o_start : Int32) (o_text : Nat → Int32) (kb : Int32 → Prop) (kx0 : Prop) (kx1 : Prop) (post : Int32 → Prop) (x2 : Int32) : Prop :=
  (((Int32.ofNat (slen.getD k1 0)) ≤ x2 → kx0) ∧
   (¬ (Int32.ofNat (slen.getD k1 0)) ≤ x2 → (vp_in (o_start + x2) 300 ∧ (vp_in x2 (slen.getD k1 0) ∧ (((o_text ((o_start + x2)).toNatClampNeg) = (sch k1 (x2).toNatClampNeg &&& 255) → kb (x2 + (1 : Int32))) ∧
   (¬ (o_text ((o_start + x2)).toNatClampNeg) = (sch k1 (x2).toNatClampNeg &&& 255) → kx1))))))
def wl_X3_isWord_20 (k1 : Nat) (o_at : Int32) (o_start : Int32) (o_text : Nat → Int32) (kx0 : Prop) (kx1 : Prop) (post : Int32 → Prop) : Nat → Int32 → Prop
  | 0, _ => False
  | n + 1, x2 => ws_X3_isWord_20 k1 o_at o_start o_text (wl_X3_isWord_20 k1 o_at o_start o_text kx0 kx1 post n) kx0 kx1 post x2
def wp_X3_isWord  (o_at : Int32) (o_start : Int32) (o_text : Nat → Int32) (k1 : Nat) (post : Int32 → Prop) : Prop :=
  (((o_at - o_start) = (Int32.ofNat (slen.getD k1 0)) → ∃ n9, wl_X3_isWord_20 k1 o_at o_start o_text (post (1 : Int32)) (post (0 : Int32)) post n9 (0 : Int32)) ∧
   (¬ (o_at - o_start) = (Int32.ofNat (slen.getD k1 0)) → post (0 : Int32)))
def wj_X3_readWord_39  (o_length : Int32) (o_at : Int32) (o_start : Int32) (o_token : Int32) (o_number : Int32) (o_text : Nat → Int32) (post : Int32 → Int32 → Int32 → Prop) : Prop :=
  (wp_X3_isWord o_at o_start o_text 0 (fun (r2 : Int32) => ((r2 = 0 → (wp_X3_isWord o_at o_start o_text 1 (fun (r4 : Int32) => ((r4 = 0 → (wp_X3_isWord o_at o_start o_text 2 (fun (r6 : Int32) => ((r6 = 0 → (wp_X3_isWord o_at o_start o_text 3 (fun (r8 : Int32) => ((r8 = 0 → (wp_X3_isWord o_at o_start o_text 4 (fun (r10 : Int32) => ((r10 = 0 → (wp_X3_isWord o_at o_start o_text 5 (fun (r12 : Int32) => ((r12 = 0 → (wp_X3_isWord o_at o_start o_text 6 (fun (r14 : Int32) => ((r14 = 0 → post o_at (1 : Int32) o_number) ∧
   (¬ r14 = 0 → (wp_X3_setKind (1 : Int32) o_number (2 : Int32) (fun (u16 : Int32) (u17 : Int32) => post o_at u16 u17))))))) ∧
   (¬ r12 = 0 → (wp_X3_setKind (1 : Int32) o_number (1 : Int32) (fun (u18 : Int32) (u19 : Int32) => post o_at u18 u19))))))) ∧
   (¬ r10 = 0 → (wp_X3_setKind (1 : Int32) o_number (0 : Int32) (fun (u20 : Int32) (u21 : Int32) => post o_at u20 u21))))))) ∧
   (¬ r8 = 0 → post o_at (8 : Int32) o_number))))) ∧
   (¬ r6 = 0 → post o_at (7 : Int32) o_number))))) ∧
   (¬ r4 = 0 → post o_at (6 : Int32) o_number))))) ∧
   (¬ r2 = 0 → post o_at (5 : Int32) o_number))))
def ws_X3_readWord_0 (o_length : Int32) (o_start : Int32) (o_token : Int32) (o_number : Int32) (o_text : Nat → Int32) (kb : Int32 → Prop) (kx0 : Int32 → Prop) (post : Int32 → Int32 → Int32 → Prop) (o_at : Int32) : Prop :=
  ((o_length ≤ o_at → kx0 o_at) ∧
   (¬ o_length ≤ o_at → (vp_in o_at 300 ∧ (wp_X3_isSmall (o_text (o_at).toNatClampNeg) (fun (r27 : Int32) => ((r27 = 0 → kx0 o_at) ∧
   (¬ r27 = 0 → kb (o_at + (1 : Int32)))))))))
def wl_X3_readWord_0 (o_length : Int32) (o_start : Int32) (o_token : Int32) (o_number : Int32) (o_text : Nat → Int32) (kx0 : Int32 → Prop) (post : Int32 → Int32 → Int32 → Prop) : Nat → Int32 → Prop
  | 0, _ => False
  | n + 1, o_at => ws_X3_readWord_0 o_length o_start o_token o_number o_text (wl_X3_readWord_0 o_length o_start o_token o_number o_text kx0 post n) kx0 post o_at
def wp_X3_readWord  (o_length : Int32) (o_at : Int32) (o_start : Int32) (o_token : Int32) (o_number : Int32) (o_text : Nat → Int32)  (post : Int32 → Int32 → Int32 → Prop) : Prop :=
  ((o_length ≤ o_at → wj_X3_readWord_39 o_length o_at o_start o_token o_number o_text post) ∧
   (¬ o_length ≤ o_at → (vp_in o_at 300 ∧ (wp_X3_isSmall (o_text (o_at).toNatClampNeg) (fun (r23 : Int32) => ((r23 = 0 → wj_X3_readWord_39 o_length o_at o_start o_token o_number o_text post) ∧
   (¬ r23 = 0 → ∃ n30, wl_X3_readWord_0 o_length o_start o_token o_number o_text (fun (o_at_29 : Int32) => wj_X3_readWord_39 o_length o_at_29 o_start o_token o_number o_text post) post n30 (o_at + (1 : Int32)))))))))
def wj_X3_next_38  (o_length : Int32) (o_at : Int32) (o_start : Int32) (o_token : Int32) (o_number : Int32) (o_text : Nat → Int32) (post : Int32 → Int32 → Int32 → Int32 → Prop) : Prop :=
  ((o_at < o_length → (vp_in o_at 300 ∧ (wp_X3_isDigit (o_text (o_at).toNatClampNeg) (fun (r4 : Int32) => ((r4 = 0 → (wp_X3_isSmall (o_text (o_at).toNatClampNeg) (fun (r6 : Int32) => ((r6 = 0 → (wp_X3_readSign o_at o_token (0 : Int32) (o_text (o_at).toNatClampNeg) (fun (u8 : Int32) (u9 : Int32) (u10 : Int32) => post u8 o_at u9 u10))) ∧
   (¬ r6 = 0 → (wp_X3_readWord o_length o_at o_at o_token (0 : Int32) o_text (fun (u11 : Int32) (u12 : Int32) (u13 : Int32) => post u11 o_at u12 u13))))))) ∧
   (¬ r4 = 0 → (wp_X3_readDigits o_length o_at o_at o_token (0 : Int32) o_text (fun (u14 : Int32) (u15 : Int32) (u16 : Int32) => post u14 o_at u15 u16)))))))) ∧
   (¬ o_at < o_length → post o_at o_at (0 : Int32) (0 : Int32)))
def ws_X3_next_0 (o_length : Int32) (o_start : Int32) (o_token : Int32) (o_number : Int32) (o_text : Nat → Int32) (kb : Int32 → Prop) (kx0 : Int32 → Prop) (post : Int32 → Int32 → Int32 → Int32 → Prop) (o_at : Int32) : Prop :=
  ((o_length ≤ o_at → kx0 o_at) ∧
   (¬ o_length ≤ o_at → (vp_in o_at 300 ∧ (((o_text (o_at).toNatClampNeg) = (32 : Int32) → kb (o_at + (1 : Int32))) ∧
   (¬ (o_text (o_at).toNatClampNeg) = (32 : Int32) → kx0 o_at)))))
def wl_X3_next_0 (o_length : Int32) (o_start : Int32) (o_token : Int32) (o_number : Int32) (o_text : Nat → Int32) (kx0 : Int32 → Prop) (post : Int32 → Int32 → Int32 → Int32 → Prop) : Nat → Int32 → Prop
  | 0, _ => False
  | n + 1, o_at => ws_X3_next_0 o_length o_start o_token o_number o_text (wl_X3_next_0 o_length o_start o_token o_number o_text kx0 post n) kx0 post o_at
def wp_X3_next  (o_length : Int32) (o_at : Int32) (o_start : Int32) (o_token : Int32) (o_number : Int32) (o_text : Nat → Int32)  (post : Int32 → Int32 → Int32 → Int32 → Prop) : Prop :=
  ((o_length ≤ o_at → wj_X3_next_38 o_length o_at o_start o_token o_number o_text post) ∧
   (¬ o_length ≤ o_at → (vp_in o_at 300 ∧ (((o_text (o_at).toNatClampNeg) = (32 : Int32) → ∃ n23, wl_X3_next_0 o_length o_start o_token o_number o_text (fun (o_at_22 : Int32) => wj_X3_next_38 o_length o_at_22 o_start o_token o_number o_text post) post n23 (o_at + (1 : Int32))) ∧
   (¬ (o_text (o_at).toNatClampNeg) = (32 : Int32) → wj_X3_next_38 o_length o_at o_start o_token o_number o_text post)))))
def wp_X3_readsNumber  (o_length : Int32) (o_at : Int32) (o_start : Int32) (o_token : Int32) (o_number : Int32) (o_text : Nat → Int32) (x1 : Int32) (x2 : Int32) (post : Int32 → Int32 → Int32 → Int32 → Int32 → Prop) : Prop :=
  (wp_X3_next o_length o_at o_start o_token o_number o_text (fun (u1 : Int32) (u2 : Int32) (u3 : Int32) (u4 : Int32) => ((u3 = (4 : Int32) → ((u4 < x1 → post (0 : Int32) u1 u2 u3 u4) ∧
   (¬ u4 < x1 → ((x2 < u4 → post (0 : Int32) u1 u2 u3 u4) ∧
   (¬ x2 < u4 → post (1 : Int32) u1 u2 u3 u4))))) ∧
   (¬ u3 = (4 : Int32) → post (0 : Int32) u1 u2 u3 u4))))
def ws_X3_readsUses_24 (y2 : Int32) (o_length : Int32) (o_text : Nat → Int32) (p1_wishes : Int32) (p1_isTold : Nat → Int32) (kb : Int32 → Int32 → Int32 → Int32 → Int32 → (Nat → Nat → Int32) → Prop) (kx0 : Int32 → Int32 → Int32 → Int32 → (Nat → Nat → Int32) → Prop) (kx1 : Int32 → Int32 → Int32 → Int32 → (Nat → Nat → Int32) → Prop) (kx2 : Int32 → Int32 → Int32 → Int32 → (Nat → Nat → Int32) → Prop) (kx3 : Int32 → Int32 → Int32 → Int32 → (Nat → Nat → Int32) → Prop) (post : Int32 → Int32 → Int32 → Int32 → Int32 → (Nat → Nat → Int32) → Prop) (x3 : Int32) (o_at : Int32) (o_start : Int32) (o_token : Int32) (o_number : Int32) (p1_use : Nat → Nat → Int32) : Prop :=
  (((5 : Int32) < x3 → kx0 o_at o_start o_token o_number p1_use) ∧
   (¬ (5 : Int32) < x3 → (wp_X3_next o_length o_at o_start o_token o_number o_text (fun (u4 : Int32) (u5 : Int32) (u6 : Int32) (u7 : Int32) => ((u6 = (2 : Int32) → kx3 u4 u5 u6 u7 p1_use) ∧
   (¬ u6 = (2 : Int32) → ((u6 = (3 : Int32) → (vp_in u7 5 ∧ (((p1_isTold (u7).toNatClampNeg) = 0 → kx1 u4 u5 u6 u7 p1_use) ∧
   (¬ (p1_isTold (u7).toNatClampNeg) = 0 → (vp_in y2 4 ∧ (((p1_use (y2).toNatClampNeg (u7).toNatClampNeg) ≤ 0 → (wp_X3_readsNumber o_length u4 u5 u6 u7 o_text (1 : Int32) (9 : Int32) (fun (r18 : Int32) (u14 : Int32) (u15 : Int32) (u16 : Int32) (u17 : Int32) => ((r18 = 0 → kx2 u14 u15 u16 u17 p1_use) ∧
   (¬ r18 = 0 → kb (x3 + (1 : Int32)) u14 u15 u16 u17 (msetI p1_use (y2).toNatClampNeg (u7).toNatClampNeg u17)))))) ∧
   (¬ (p1_use (y2).toNatClampNeg (u7).toNatClampNeg) ≤ 0 → kx1 u4 u5 u6 u7 p1_use))))))) ∧
   (¬ u6 = (3 : Int32) → kx1 u4 u5 u6 u7 p1_use))))))))
def wl_X3_readsUses_24 (y2 : Int32) (o_length : Int32) (o_text : Nat → Int32) (p1_wishes : Int32) (p1_isTold : Nat → Int32) (kx0 : Int32 → Int32 → Int32 → Int32 → (Nat → Nat → Int32) → Prop) (kx1 : Int32 → Int32 → Int32 → Int32 → (Nat → Nat → Int32) → Prop) (kx2 : Int32 → Int32 → Int32 → Int32 → (Nat → Nat → Int32) → Prop) (kx3 : Int32 → Int32 → Int32 → Int32 → (Nat → Nat → Int32) → Prop) (post : Int32 → Int32 → Int32 → Int32 → Int32 → (Nat → Nat → Int32) → Prop) : Nat → Int32 → Int32 → Int32 → Int32 → Int32 → (Nat → Nat → Int32) → Prop
  | 0, _, _, _, _, _, _ => False
  | n + 1, x3, o_at, o_start, o_token, o_number, p1_use => ws_X3_readsUses_24 y2 o_length o_text p1_wishes p1_isTold (wl_X3_readsUses_24 y2 o_length o_text p1_wishes p1_isTold kx0 kx1 kx2 kx3 post n) kx0 kx1 kx2 kx3 post x3 o_at o_start o_token o_number p1_use
def wp_X3_readsUses  (o_length : Int32) (o_at : Int32) (o_start : Int32) (o_token : Int32) (o_number : Int32) (o_text : Nat → Int32) (p1_wishes : Int32) (p1_isTold : Nat → Int32) (p1_use : Nat → Nat → Int32)  (post : Int32 → Int32 → Int32 → Int32 → Int32 → (Nat → Nat → Int32) → Prop) : Prop :=
  (((1 : Int32) ≤ p1_wishes → (vp_in (p1_wishes - (1 : Int32)) 4 ∧ ∃ n40, wl_X3_readsUses_24 (p1_wishes - (1 : Int32)) o_length o_text p1_wishes p1_isTold (fun (o_at_20 : Int32) (o_start_21 : Int32) (o_token_22 : Int32) (o_number_23 : Int32) (p1_use_24 : Nat → Nat → Int32) => post (0 : Int32) o_at_20 o_start_21 o_token_22 o_number_23 p1_use_24) (fun (o_at_25 : Int32) (o_start_26 : Int32) (o_token_27 : Int32) (o_number_28 : Int32) (p1_use_29 : Nat → Nat → Int32) => post (0 : Int32) o_at_25 o_start_26 o_token_27 o_number_28 p1_use_29) (fun (o_at_30 : Int32) (o_start_31 : Int32) (o_token_32 : Int32) (o_number_33 : Int32) (p1_use_34 : Nat → Nat → Int32) => post (0 : Int32) o_at_30 o_start_31 o_token_32 o_number_33 p1_use_34) (fun (o_at_35 : Int32) (o_start_36 : Int32) (o_token_37 : Int32) (o_number_38 : Int32) (p1_use_39 : Nat → Nat → Int32) => post (1 : Int32) o_at_35 o_start_36 o_token_37 o_number_38 p1_use_39) post n40 (0 : Int32) o_at o_start o_token o_number p1_use)) ∧
   (¬ (1 : Int32) ≤ p1_wishes → post (0 : Int32) o_at o_start o_token o_number p1_use))
def wp_X3_readsWish  (o_length : Int32) (o_at : Int32) (o_start : Int32) (o_token : Int32) (o_number : Int32) (o_text : Nat → Int32) (p1_wishes : Int32) (p1_value : Nat → Int32) (p1_kind : Nat → Int32) (p1_most : Nat → Int32) (p1_wishOff : Nat → Int32) (p1_use : Nat → Nat → Int32)  (post : Int32 → Int32 → Int32 → Int32 → Int32 → Int32 → (Nat → Int32) → (Nat → Int32) → (Nat → Int32) → (Nat → Int32) → (Nat → Nat → Int32) → Prop) : Prop :=
  ((p1_wishes < (4 : Int32) → (wp_X3_readsNumber o_length o_at o_start o_token o_number o_text (0 : Int32) (99 : Int32) (fun (r6 : Int32) (u2 : Int32) (u3 : Int32) (u4 : Int32) (u5 : Int32) => ((r6 = 0 → post (0 : Int32) u2 u3 u4 u5 p1_wishes p1_value p1_kind p1_most p1_wishOff p1_use) ∧
   (¬ r6 = 0 → (wp_X3_next o_length u2 u3 u4 u5 o_text (fun (u8 : Int32) (u9 : Int32) (u10 : Int32) (u11 : Int32) => ((u10 = (9 : Int32) → (wp_X3_readsNumber o_length u8 u9 u10 u11 o_text (1 : Int32) (12 : Int32) (fun (r17 : Int32) (u13 : Int32) (u14 : Int32) (u15 : Int32) (u16 : Int32) => ((r17 = 0 → post (0 : Int32) u13 u14 u15 u16 p1_wishes p1_value p1_kind p1_most p1_wishOff p1_use) ∧
   (¬ r17 = 0 → (wp_X4_addWish p1_wishes p1_value p1_kind p1_most p1_wishOff p1_use u5 u11 u16 (fun (u19 : Int32) (u20 : Nat → Int32) (u21 : Nat → Int32) (u22 : Nat → Int32) (u23 : Nat → Int32) (u24 : Nat → Nat → Int32) => post (1 : Int32) u13 u14 u15 u16 u19 u20 u21 u22 u23 u24))))))) ∧
   (¬ u10 = (9 : Int32) → post (0 : Int32) u8 u9 u10 u11 p1_wishes p1_value p1_kind p1_most p1_wishOff p1_use))))))))) ∧
   (¬ p1_wishes < (4 : Int32) → post (0 : Int32) o_at o_start o_token o_number p1_wishes p1_value p1_kind p1_most p1_wishOff p1_use))
def wj_X3_readsGate_69  (x2 : Int32) (s0 : Int32) (o_length : Int32) (o_at : Int32) (o_start : Int32) (o_token : Int32) (o_number : Int32) (o_text : Nat → Int32) (p1_isTold : Nat → Int32) (p1_least : Nat → Int32) (p1_gateOff : Nat → Int32) (p1_limit : Nat → Int32) (post : Int32 → Int32 → Int32 → Int32 → Int32 → (Nat → Int32) → (Nat → Int32) → (Nat → Int32) → (Nat → Int32) → Prop) : Prop :=
  (wp_X3_readsNumber o_length o_at o_start o_token o_number o_text (0 : Int32) (99 : Int32) (fun (r18 : Int32) (u14 : Int32) (u15 : Int32) (u16 : Int32) (u17 : Int32) => ((r18 = 0 → post (0 : Int32) u14 u15 u16 u17 p1_isTold p1_least p1_gateOff p1_limit) ∧
   (¬ r18 = 0 → (wp_X3_next o_length u14 u15 u16 u17 o_text (fun (u20 : Int32) (u21 : Int32) (u22 : Int32) (u23 : Int32) => ((u22 = (2 : Int32) → (wp_X4_addGate p1_isTold p1_least p1_gateOff p1_limit x2 s0 u17 (fun (u25 : Nat → Int32) (u26 : Nat → Int32) (u27 : Nat → Int32) (u28 : Nat → Int32) => post (1 : Int32) u20 u21 u22 u23 u25 u26 u27 u28))) ∧
   (¬ u22 = (2 : Int32) → post (0 : Int32) u20 u21 u22 u23 p1_isTold p1_least p1_gateOff p1_limit))))))))
def wj_X3_readsGate_55  (x2 : Int32) (o_length : Int32) (o_at : Int32) (o_start : Int32) (o_token : Int32) (o_number : Int32) (o_text : Nat → Int32) (p1_isTold : Nat → Int32) (p1_least : Nat → Int32) (p1_gateOff : Nat → Int32) (p1_limit : Nat → Int32) (post : Int32 → Int32 → Int32 → Int32 → Int32 → (Nat → Int32) → (Nat → Int32) → (Nat → Int32) → (Nat → Int32) → Prop) : Prop :=
  ((o_token = (8 : Int32) → wj_X3_readsGate_69 x2 (1 : Int32) o_length o_at o_start o_token o_number o_text p1_isTold p1_least p1_gateOff p1_limit post) ∧
   (¬ o_token = (8 : Int32) → wj_X3_readsGate_69 x2 (0 : Int32) o_length o_at o_start o_token o_number o_text p1_isTold p1_least p1_gateOff p1_limit post))
def wp_X3_readsGate  (o_length : Int32) (o_at : Int32) (o_start : Int32) (o_token : Int32) (o_number : Int32) (o_text : Nat → Int32) (p1_isTold : Nat → Int32) (p1_least : Nat → Int32) (p1_gateOff : Nat → Int32) (p1_limit : Nat → Int32)  (post : Int32 → Int32 → Int32 → Int32 → Int32 → (Nat → Int32) → (Nat → Int32) → (Nat → Int32) → (Nat → Int32) → Prop) : Prop :=
  (wp_X3_next o_length o_at o_start o_token o_number o_text (fun (u1 : Int32) (u2 : Int32) (u3 : Int32) (u4 : Int32) => ((u3 = (3 : Int32) → (vp_in u4 5 ∧ (((p1_isTold (u4).toNatClampNeg) = 0 → (wp_X3_next o_length u1 u2 u3 u4 o_text (fun (u8 : Int32) (u9 : Int32) (u10 : Int32) (u11 : Int32) => ((u10 = (7 : Int32) → wj_X3_readsGate_55 u4 o_length u8 u9 u10 u11 o_text p1_isTold p1_least p1_gateOff p1_limit post) ∧
   (¬ u10 = (7 : Int32) → ((u10 = (8 : Int32) → wj_X3_readsGate_55 u4 o_length u8 u9 u10 u11 o_text p1_isTold p1_least p1_gateOff p1_limit post) ∧
   (¬ u10 = (8 : Int32) → post (0 : Int32) u8 u9 u10 u11 p1_isTold p1_least p1_gateOff p1_limit))))))) ∧
   (¬ (p1_isTold (u4).toNatClampNeg) = 0 → post (0 : Int32) u1 u2 u3 u4 p1_isTold p1_least p1_gateOff p1_limit)))) ∧
   (¬ u3 = (3 : Int32) → post (0 : Int32) u1 u2 u3 u4 p1_isTold p1_least p1_gateOff p1_limit))))
def wj_X3_read_77  (x2 : Int32) (s0 : Int32) (o_length : Int32) (o_at : Int32) (o_start : Int32) (o_token : Int32) (o_number : Int32) (o_text : Nat → Int32) (p1_wishes : Int32) (p1_isTold : Nat → Int32) (p1_least : Nat → Int32) (p1_gateOff : Nat → Int32) (p1_limit : Nat → Int32) (p1_value : Nat → Int32) (p1_kind : Nat → Int32) (p1_most : Nat → Int32) (p1_wishOff : Nat → Int32) (p1_use : Nat → Nat → Int32) (kb : Int32 → Int32 → Int32 → Int32 → Int32 → Int32 → (Nat → Int32) → (Nat → Int32) → (Nat → Int32) → (Nat → Int32) → (Nat → Int32) → (Nat → Int32) → (Nat → Int32) → (Nat → Int32) → (Nat → Nat → Int32) → Prop) (kx0 : Int32 → Int32 → Int32 → Int32 → Int32 → (Nat → Int32) → (Nat → Int32) → (Nat → Int32) → (Nat → Int32) → (Nat → Int32) → (Nat → Int32) → (Nat → Int32) → (Nat → Int32) → (Nat → Nat → Int32) → Prop) (kx1 : Int32 → Int32 → Int32 → Int32 → Int32 → (Nat → Int32) → (Nat → Int32) → (Nat → Int32) → (Nat → Int32) → (Nat → Int32) → (Nat → Int32) → (Nat → Int32) → (Nat → Int32) → (Nat → Nat → Int32) → Prop) (kx2 : Int32 → Int32 → Int32 → Int32 → Int32 → Int32 → (Nat → Int32) → (Nat → Int32) → (Nat → Int32) → (Nat → Int32) → (Nat → Int32) → (Nat → Int32) → (Nat → Int32) → (Nat → Int32) → (Nat → Nat → Int32) → Prop) (post : Int32 → Int32 → Int32 → Int32 → Int32 → Int32 → (Nat → Int32) → (Nat → Int32) → (Nat → Int32) → (Nat → Int32) → (Nat → Int32) → (Nat → Int32) → (Nat → Int32) → (Nat → Int32) → (Nat → Nat → Int32) → Prop) : Prop :=
  ((s0 = 0 → kx1 o_at o_start o_token o_number p1_wishes p1_isTold p1_least p1_gateOff p1_limit p1_value p1_kind p1_most p1_wishOff p1_use) ∧
   (¬ s0 = 0 → kb (x2 + (1 : Int32)) o_at o_start o_token o_number p1_wishes p1_isTold p1_least p1_gateOff p1_limit p1_value p1_kind p1_most p1_wishOff p1_use))
def ws_X3_read_11 (o_length : Int32) (o_text : Nat → Int32) (kb : Int32 → Int32 → Int32 → Int32 → Int32 → Int32 → (Nat → Int32) → (Nat → Int32) → (Nat → Int32) → (Nat → Int32) → (Nat → Int32) → (Nat → Int32) → (Nat → Int32) → (Nat → Int32) → (Nat → Nat → Int32) → Prop) (kx0 : Int32 → Int32 → Int32 → Int32 → Int32 → (Nat → Int32) → (Nat → Int32) → (Nat → Int32) → (Nat → Int32) → (Nat → Int32) → (Nat → Int32) → (Nat → Int32) → (Nat → Int32) → (Nat → Nat → Int32) → Prop) (kx1 : Int32 → Int32 → Int32 → Int32 → Int32 → (Nat → Int32) → (Nat → Int32) → (Nat → Int32) → (Nat → Int32) → (Nat → Int32) → (Nat → Int32) → (Nat → Int32) → (Nat → Int32) → (Nat → Nat → Int32) → Prop) (kx2 : Int32 → Int32 → Int32 → Int32 → Int32 → Int32 → (Nat → Int32) → (Nat → Int32) → (Nat → Int32) → (Nat → Int32) → (Nat → Int32) → (Nat → Int32) → (Nat → Int32) → (Nat → Int32) → (Nat → Nat → Int32) → Prop) (post : Int32 → Int32 → Int32 → Int32 → Int32 → Int32 → (Nat → Int32) → (Nat → Int32) → (Nat → Int32) → (Nat → Int32) → (Nat → Int32) → (Nat → Int32) → (Nat → Int32) → (Nat → Int32) → (Nat → Nat → Int32) → Prop) (x2 : Int32) (o_at : Int32) (o_start : Int32) (o_token : Int32) (o_number : Int32) (p1_wishes : Int32) (p1_isTold : Nat → Int32) (p1_least : Nat → Int32) (p1_gateOff : Nat → Int32) (p1_limit : Nat → Int32) (p1_value : Nat → Int32) (p1_kind : Nat → Int32) (p1_most : Nat → Int32) (p1_wishOff : Nat → Int32) (p1_use : Nat → Nat → Int32) : Prop :=
  (((300 : Int32) < x2 → kx0 o_at o_start o_token o_number p1_wishes p1_isTold p1_least p1_gateOff p1_limit p1_value p1_kind p1_most p1_wishOff p1_use) ∧
   (¬ (300 : Int32) < x2 → (wp_X3_next o_length o_at o_start o_token o_number o_text (fun (u5 : Int32) (u6 : Int32) (u7 : Int32) (u8 : Int32) => ((u7 = 0 → kx2 x2 u5 u6 u7 u8 p1_wishes p1_isTold p1_least p1_gateOff p1_limit p1_value p1_kind p1_most p1_wishOff p1_use) ∧
   (¬ u7 = 0 → ((u7 = (5 : Int32) → (wp_X3_readsGate o_length u5 u6 u7 u8 o_text p1_isTold p1_least p1_gateOff p1_limit (fun (r40 : Int32) (u32 : Int32) (u33 : Int32) (u34 : Int32) (u35 : Int32) (u36 : Nat → Int32) (u37 : Nat → Int32) (u38 : Nat → Int32) (u39 : Nat → Int32) => wj_X3_read_77 x2 r40 o_length u32 u33 u34 u35 o_text p1_wishes u36 u37 u38 u39 p1_value p1_kind p1_most p1_wishOff p1_use kb kx0 kx1 kx2 post))) ∧
   (¬ u7 = (5 : Int32) → ((u7 = (6 : Int32) → (wp_X3_readsWish o_length u5 u6 u7 u8 o_text p1_wishes p1_value p1_kind p1_most p1_wishOff p1_use (fun (r23 : Int32) (u13 : Int32) (u14 : Int32) (u15 : Int32) (u16 : Int32) (u17 : Int32) (u18 : Nat → Int32) (u19 : Nat → Int32) (u20 : Nat → Int32) (u21 : Nat → Int32) (u22 : Nat → Nat → Int32) => ((r23 = 0 → wj_X3_read_77 x2 (0 : Int32) o_length u13 u14 u15 u16 o_text u17 p1_isTold p1_least p1_gateOff p1_limit u18 u19 u20 u21 u22 kb kx0 kx1 kx2 post) ∧
   (¬ r23 = 0 → (wp_X3_readsUses o_length u13 u14 u15 u16 o_text u17 p1_isTold u22 (fun (r30 : Int32) (u25 : Int32) (u26 : Int32) (u27 : Int32) (u28 : Int32) (u29 : Nat → Nat → Int32) => ((r30 = 0 → wj_X3_read_77 x2 (0 : Int32) o_length u25 u26 u27 u28 o_text u17 p1_isTold p1_least p1_gateOff p1_limit u18 u19 u20 u21 u29 kb kx0 kx1 kx2 post) ∧
   (¬ r30 = 0 → wj_X3_read_77 x2 (1 : Int32) o_length u25 u26 u27 u28 o_text u17 p1_isTold p1_least p1_gateOff p1_limit u18 u19 u20 u21 u29 kb kx0 kx1 kx2 post))))))))) ∧
   (¬ u7 = (6 : Int32) → wj_X3_read_77 x2 (0 : Int32) o_length u5 u6 u7 u8 o_text p1_wishes p1_isTold p1_least p1_gateOff p1_limit p1_value p1_kind p1_most p1_wishOff p1_use kb kx0 kx1 kx2 post))))))))))
def wl_X3_read_11 (o_length : Int32) (o_text : Nat → Int32) (kx0 : Int32 → Int32 → Int32 → Int32 → Int32 → (Nat → Int32) → (Nat → Int32) → (Nat → Int32) → (Nat → Int32) → (Nat → Int32) → (Nat → Int32) → (Nat → Int32) → (Nat → Int32) → (Nat → Nat → Int32) → Prop) (kx1 : Int32 → Int32 → Int32 → Int32 → Int32 → (Nat → Int32) → (Nat → Int32) → (Nat → Int32) → (Nat → Int32) → (Nat → Int32) → (Nat → Int32) → (Nat → Int32) → (Nat → Int32) → (Nat → Nat → Int32) → Prop) (kx2 : Int32 → Int32 → Int32 → Int32 → Int32 → Int32 → (Nat → Int32) → (Nat → Int32) → (Nat → Int32) → (Nat → Int32) → (Nat → Int32) → (Nat → Int32) → (Nat → Int32) → (Nat → Int32) → (Nat → Nat → Int32) → Prop) (post : Int32 → Int32 → Int32 → Int32 → Int32 → Int32 → (Nat → Int32) → (Nat → Int32) → (Nat → Int32) → (Nat → Int32) → (Nat → Int32) → (Nat → Int32) → (Nat → Int32) → (Nat → Int32) → (Nat → Nat → Int32) → Prop) : Nat → Int32 → Int32 → Int32 → Int32 → Int32 → Int32 → (Nat → Int32) → (Nat → Int32) → (Nat → Int32) → (Nat → Int32) → (Nat → Int32) → (Nat → Int32) → (Nat → Int32) → (Nat → Int32) → (Nat → Nat → Int32) → Prop
  | 0, _, _, _, _, _, _, _, _, _, _, _, _, _, _, _ => False
  | n + 1, x2, o_at, o_start, o_token, o_number, p1_wishes, p1_isTold, p1_least, p1_gateOff, p1_limit, p1_value, p1_kind, p1_most, p1_wishOff, p1_use => ws_X3_read_11 o_length o_text (wl_X3_read_11 o_length o_text kx0 kx1 kx2 post n) kx0 kx1 kx2 post x2 o_at o_start o_token o_number p1_wishes p1_isTold p1_least p1_gateOff p1_limit p1_value p1_kind p1_most p1_wishOff p1_use
def wp_X3_read  (o_length : Int32) (o_at : Int32) (o_start : Int32) (o_token : Int32) (o_number : Int32) (o_text : Nat → Int32) (p1_wishes : Int32) (p1_isTold : Nat → Int32) (p1_least : Nat → Int32) (p1_gateOff : Nat → Int32) (p1_limit : Nat → Int32) (p1_value : Nat → Int32) (p1_kind : Nat → Int32) (p1_most : Nat → Int32) (p1_wishOff : Nat → Int32) (p1_use : Nat → Nat → Int32)  (post : Int32 → Int32 → Int32 → Int32 → Int32 → Int32 → (Nat → Int32) → (Nat → Int32) → (Nat → Int32) → (Nat → Int32) → (Nat → Int32) → (Nat → Int32) → (Nat → Int32) → (Nat → Int32) → (Nat → Nat → Int32) → Prop) : Prop :=
  (wp_X4_empty p1_wishes p1_isTold p1_gateOff (fun (u1 : Int32) (u2 : Nat → Int32) (u3 : Nat → Int32) => ∃ n84, wl_X3_read_11 o_length o_text (fun (o_at_41 : Int32) (o_start_42 : Int32) (o_token_43 : Int32) (o_number_44 : Int32) (p1_wishes_45 : Int32) (p1_isTold_46 : Nat → Int32) (p1_least_47 : Nat → Int32) (p1_gateOff_48 : Nat → Int32) (p1_limit_49 : Nat → Int32) (p1_value_50 : Nat → Int32) (p1_kind_51 : Nat → Int32) (p1_most_52 : Nat → Int32) (p1_wishOff_53 : Nat → Int32) (p1_use_54 : Nat → Nat → Int32) => post ((-10 : Int32) - o_length) o_at_41 o_start_42 o_token_43 o_number_44 p1_wishes_45 p1_isTold_46 p1_least_47 p1_gateOff_48 p1_limit_49 p1_value_50 p1_kind_51 p1_most_52 p1_wishOff_53 p1_use_54) (fun (o_at_55 : Int32) (o_start_56 : Int32) (o_token_57 : Int32) (o_number_58 : Int32) (p1_wishes_59 : Int32) (p1_isTold_60 : Nat → Int32) (p1_least_61 : Nat → Int32) (p1_gateOff_62 : Nat → Int32) (p1_limit_63 : Nat → Int32) (p1_value_64 : Nat → Int32) (p1_kind_65 : Nat → Int32) (p1_most_66 : Nat → Int32) (p1_wishOff_67 : Nat → Int32) (p1_use_68 : Nat → Nat → Int32) => post ((-10 : Int32) - o_start_56) o_at_55 o_start_56 o_token_57 o_number_58 p1_wishes_59 p1_isTold_60 p1_least_61 p1_gateOff_62 p1_limit_63 p1_value_64 p1_kind_65 p1_most_66 p1_wishOff_67 p1_use_68) (fun (x2_69 : Int32) (o_at_70 : Int32) (o_start_71 : Int32) (o_token_72 : Int32) (o_number_73 : Int32) (p1_wishes_74 : Int32) (p1_isTold_75 : Nat → Int32) (p1_least_76 : Nat → Int32) (p1_gateOff_77 : Nat → Int32) (p1_limit_78 : Nat → Int32) (p1_value_79 : Nat → Int32) (p1_kind_80 : Nat → Int32) (p1_most_81 : Nat → Int32) (p1_wishOff_82 : Nat → Int32) (p1_use_83 : Nat → Nat → Int32) => post x2_69 o_at_70 o_start_71 o_token_72 o_number_73 p1_wishes_74 p1_isTold_75 p1_least_76 p1_gateOff_77 p1_limit_78 p1_value_79 p1_kind_80 p1_most_81 p1_wishOff_82 p1_use_83) post n84 (0 : Int32) (0 : Int32) o_start o_token o_number u1 u2 p1_least u3 p1_limit p1_value p1_kind p1_most p1_wishOff p1_use))
