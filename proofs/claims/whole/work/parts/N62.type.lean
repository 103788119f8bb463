/-! type -/
theorem byte_bv (b : BitVec 64) (s : Nat) (hs : s ≤ 56) : ((b >>> s).signExtend 32).signExtend 8 = (((b.sshiftRight s) &&& 255#64).signExtend 32).signExtend 8 := by
  apply BitVec.eq_of_getLsbD_eq
  intro i hi
  have e255 : (255#64).getLsbD i = true := by
    rcases (by omega : i = 0 ∨ i = 1 ∨ i = 2 ∨ i = 3 ∨ i = 4 ∨ i = 5 ∨ i = 6 ∨ i = 7) with e | e | e | e | e | e | e | e <;> subst e <;> decide
  simp only [BitVec.getLsbD_signExtend, BitVec.getLsbD_and, BitVec.getLsbD_ushiftRight, BitVec.getLsbD_sshiftRight, e255]
  have h1 : i < 32 := by omega
  have h2 : i < 64 := by omega
  have h3 : s + i < 64 := by omega
  have h4 : ¬ 64 ≤ i := by omega
  simp [hi, h1, h2, h3, h4]
theorem byte_eq (x : Int64) {k : Nat} (hk : k < 8) : (((x.toUInt64 >>> ((8 * nI k).toInt64.toUInt64 &&& Int64.toUInt64 63)).toInt64).toInt32).toInt8.toInt32 = ((((x >>> ((8 * nI k).toInt64 &&& 63)) &&& 255)).toInt32).toInt8.toInt32 := by
  refine congrArg Int8.toInt32 (Int8.toBitVec_inj.mp ?_)
  rcases (by omega : k = 0 ∨ k = 1 ∨ k = 2 ∨ k = 3 ∨ k = 4 ∨ k = 5 ∨ k = 6 ∨ k = 7) with e | e | e | e | e | e | e | e <;> subst e
  · exact byte_bv x.toBitVec 0 (by omega)
  · exact byte_bv x.toBitVec 8 (by omega)
  · exact byte_bv x.toBitVec 16 (by omega)
  · exact byte_bv x.toBitVec 24 (by omega)
  · exact byte_bv x.toBitVec 32 (by omega)
  · exact byte_bv x.toBitVec 40 (by omega)
  · exact byte_bv x.toBitVec 48 (by omega)
  · exact byte_bv x.toBitVec 56 (by omega)
def bt (x : Int64) (k : Nat) : Int32 := vp_nar .byte (((((x >>> ((8 * nI k).toInt64 &&& 63)) &&& 255)).toInt32).toInt8.toInt32)
/-- the text after k bytes more -/
def tyT (x : Int64) : Nat → Nat → (Nat → Int32) → (Nat → Int32)
  | 0, _, t => t
  | k + 1, L, t => tyT x k (L + 1) (upd t L (bt x k))
theorem tyT_eq (x : Int64) : ∀ (k L : Nat) (t t' : Nat → Int32), (∀ j, j < L → t j = t' j) → ∀ j, j < L + k → tyT x k L t j = tyT x k L t' j := by
  intro k
  induction k with
  | zero => intro L t t' h j hj; exact h j (by omega)
  | succ k ih =>
    intro L t t' h j hj
    unfold tyT
    refine ih (L + 1) _ _ (fun i hi => ?_) j (by omega)
    by_cases e : i = L
    · subst e; rw [pk_us, pk_us]
    · rw [pk_un e, pk_un e]; exact h i (by omega)
theorem nI_s1 (k : Nat) : nI k + (-1 : Int32) = nI k - 1 := by
  rw [Int32.sub_eq_add_neg]
theorem nI_p1 (k : Nat) : nI (k + 1) - (1 : Int32) = nI k := by
  rw [← nI_1 k, Int32.add_sub_cancel]
theorem put_loop (x : Int64) {kx : Int32 → (Nat → Int32) → Prop} {post : Int32 → Int32 → (Nat → Int32) → Prop} : ∀ (k L : Nat) (t : Nat → Int32), k ≤ 8 → L + k ≤ 300 → kx (nI (L + k)) (tyT x k L t) → ∃ n, wl_X3_put_25 x kx post n (nI k - 1) (nI L) t := by
  intro k
  induction k with
  | zero =>
    intro L t _ _ h
    refine ⟨1, ?_⟩
    show ws_X3_put_25 _ _ _ _ _ _ _
    unfold ws_X3_put_25
    exact br_t (by decide) h
  | succ k ih =>
    intro L t h8 h h2
    obtain ⟨n, hn⟩ := ih (L + 1) (upd t L (bt x k)) (by omega) (by omega) (by rw [show L + 1 + k = L + (k + 1) by omega]; exact h2)
    refine ⟨n + 1, ?_⟩
    show ws_X3_put_25 _ _ _ _ _ _ _
    unfold ws_X3_put_25
    rw [nI_p1]
    refine br_f (nI_pos (by omega)) ?_
    intro v hv
    have cl : (nI L).toNatClampNeg = L := nI_clamp (by omega)
    rw [byte_eq x (by omega)] at hv
    rw [hv, nI_s1, cl, nI_1 L]
    exact ⟨vp_in_nI (by omega) (by omega), hn⟩
theorem typ_loop (x : Int64) {kx : Int32 → (Nat → Int32) → Prop} {post : Int32 → Int32 → (Nat → Int32) → Prop} : ∀ (k L : Nat) (t : Nat → Int32), k ≤ 8 → L + k ≤ 300 → kx (nI (L + k)) (tyT x k L t) → ∃ n, wl_X7_type_34 x kx post n (nI k - 1) (nI L) t := by
  intro k
  induction k with
  | zero =>
    intro L t _ _ h
    refine ⟨1, ?_⟩
    show ws_X7_type_34 _ _ _ _ _ _ _
    unfold ws_X7_type_34
    exact br_t (by decide) h
  | succ k ih =>
    intro L t h8 h h2
    obtain ⟨n, hn⟩ := ih (L + 1) (upd t L (bt x k)) (by omega) (by omega) (by rw [show L + 1 + k = L + (k + 1) by omega]; exact h2)
    refine ⟨n + 1, ?_⟩
    show ws_X7_type_34 _ _ _ _ _ _ _
    unfold ws_X7_type_34
    rw [nI_p1]
    refine br_f (nI_pos (by omega)) ?_
    intro v hv
    have cl : (nI L).toNatClampNeg = L := nI_clamp (by omega)
    rw [hv, nI_s1, cl, nI_1 L]
    exact ⟨vp_in_nI (by omega) (by omega), hn⟩
/-- both texts -/
def TX (L : Nat) (len typed : Int32) (tc tm : Nat → Int32) : Prop := L ≤ 300 ∧ len = nI L ∧ typed = nI L ∧ ∀ j, j < L → tc j = tm j
theorem eq_type {L : Nat} {len typed : Int32} {tc tm : Nat → Int32} (h : TX L len typed tc tm) (x1 : Int64) (x3 : Int32) : ∃ (r : Int32) (L' : Nat) (T' : Nat → Int32), L' ≤ 300 ∧
    wp_X6_type len tc x1 x3 (fun y len' tc' => y = r ∧ len' = nI L' ∧ ∀ j, j < L' → tc' j = T' j) ∧ wp_X7_type typed tm x1 x3 (fun y ty' tm' => y = r ∧ ty' = nI L' ∧ ∀ j, j < L' → tm' j = T' j) := by
  obtain ⟨hL, h1, h2, h3⟩ := h
  subst h1
  subst h2
  have z1 : (1 : Int32) = iI 1 := rfl
  have z8 : (8 : Int32) = iI 8 := rfl
  by_cases ok : 1 ≤ x3.toInt ∧ x3.toInt ≤ 8
  · obtain ⟨k, hk, ek⟩ := toInt_nI (x := x3) (n := 9) (by omega) (by omega) (by omega)
    subst ek
    rw [nI_toInt (by omega)] at ok
    have n1 : ¬ nI k < (1 : Int32) := by rw [show (1 : Int32) = nI 1 from rfl, nI_ltI (by omega) (by omega)]; omega
    have le8 : nI k ≤ (8 : Int32) := nI_le (b := 8) (by omega) (by omega)
    by_cases fit : L + k ≤ 300
    · refine ⟨nI (L + k), L + k, tyT x1 k L tc, fit, ?_, ?_⟩
      · unfold wp_X6_type wp_X3_put
        have f1 : nI k ≤ 300 - nI L := by
          rw [show (300 : Int32) = iI 300 from rfl, nI_iI, nI_iI, iI_sub, iI_le (by unfold rI; omega) (by unfold rI; omega)]
          omega
        exact br_f n1 (br_t le8 (br_f n1 (br_t f1 (put_loop x1 k L tc (by omega) fit ⟨rfl, rfl, fun j _ => rfl⟩))))
      · unfold wp_X7_type
        have f1 : nI L + nI k ≤ (300 : Int32) := by
          rw [show (300 : Int32) = iI 300 from rfl, nI_iI, nI_iI, iI_add, iI_le (by unfold rI; omega) (by unfold rI; omega)]
          omega
        rw [lI_1, show (8 : Int64) = lI 8 from rfl]
        refine sp_inX ⟨by omega, by omega⟩ ⟨by omega, by omega⟩ (fun _ _ => br_f (by decide) (br_t f1 (typ_loop x1 k L tm (by omega) fit ⟨rfl, rfl, fun j hj => ?_⟩))) (fun n => absurd (by rw [nI_toInt (by omega)]; exact ok) n)
        exact (tyT_eq x1 k L tc tm h3 j hj).symm
    · refine ⟨-3, L, tc, hL, ?_, ?_⟩
      · unfold wp_X6_type wp_X3_put
        have f1 : ¬ nI k ≤ 300 - nI L := by
          rw [show (300 : Int32) = iI 300 from rfl, nI_iI, nI_iI, iI_sub, iI_le (by unfold rI; omega) (by unfold rI; omega)]
          omega
        exact br_f n1 (br_t le8 (br_f n1 (br_f f1 ⟨rfl, rfl, fun j _ => rfl⟩)))
      · unfold wp_X7_type
        have f1 : ¬ nI L + nI k ≤ (300 : Int32) := by
          rw [show (300 : Int32) = iI 300 from rfl, nI_iI, nI_iI, iI_add, iI_le (by unfold rI; omega) (by unfold rI; omega)]
          omega
        rw [lI_1, show (8 : Int64) = lI 8 from rfl]
        exact sp_inX ⟨by omega, by omega⟩ ⟨by omega, by omega⟩ (fun _ _ => br_f (by decide) (br_f f1 ⟨rfl, rfl, fun j hj => (h3 j hj).symm⟩)) (fun n => absurd (by rw [nI_toInt (by omega)]; exact ok) n)
  · refine ⟨-1, L, tc, hL, ?_, ?_⟩
    · unfold wp_X6_type
      rw [z1, lt_k x3 (by unfold rI; omega), z8, le_k x3 (by unfold rI; omega)]
      exact br_c (fun _ => ⟨rfl, rfl, fun j _ => rfl⟩) (fun z => br_c (fun y => absurd ⟨by omega, y⟩ ok) (fun _ => ⟨rfl, rfl, fun j _ => rfl⟩))
    · unfold wp_X7_type
      rw [lI_1, show (8 : Int64) = lI 8 from rfl]
      exact sp_inX ⟨by omega, by omega⟩ ⟨by omega, by omega⟩ (fun a b => absurd ⟨a, b⟩ ok) (fun n => br_t rfl ⟨rfl, rfl, fun j hj => (h3 j hj).symm⟩)
