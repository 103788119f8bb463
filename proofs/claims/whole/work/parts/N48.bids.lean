/-! the bids of lie -/
section BIDS
variable {t : Nat} {A G : Nat → Int} {up low : Nat → Int64}
/-- what was asked is kept -/
def KB (A G : Nat → Int) (up low : Nat → Int64) (j : Nat) : Prop := up j = lI (A j) ∧ low j = lI (G j) ∧ 0 ≤ A j ∧ A j ≤ 2000000 ∧ 0 < G j ∧ G j ≤ 157464
theorem KB_n {j : Nat} (h : KB A G up low j) : low j ≠ 0 := by
  obtain ⟨h1, h2, h3, h4, h5, h6⟩ := h
  rw [h2, lI_0]
  intro e
  rw [lI_eq ⟨by omega, by omega⟩ ⟨by omega, by omega⟩] at e
  omega
theorem sp_nextToAsk (ht : t ≤ 99) (H : ∀ j, j < t → low j = 0 ∨ KB A G up low j) {post : Int32 → Prop} (h1 : ∀ r, r < t → low r = 0 → post (nI r))
    (h0 : (t = 0 ∨ (KB A G up low 0 ∧ KB A G up low (t - 1) ∧ ∀ a b, a < b → b < t → KB A G up low a → KB A G up low b → (∀ c, a < c → c < b → low c = 0) → b - a ≤ 1 ∨ A a * G b = A b * G a)) → post (-1)) : wp_X0_nextToAsk up low (nI t - (1 : Int32)) post := by
  unfold wp_X0_nextToAsk
  rcases Nat.eq_zero_or_pos t with e | tp
  · subst e
    exact br_t (by decide) (h0 (Or.inl rfl))
  · have e1 : nI t - (1 : Int32) = nI (t - 1) := by
      rw [nI_iI, nI_iI, show (1 : Int32) = iI 1 from rfl, iI_sub]
      exact congrArg iI (by omega)
    have c1 : (nI (t - 1)).toNatClampNeg = t - 1 := nI_clamp (by omega)
    have c0 : (0 : Int32).toNatClampNeg = 0 := rfl
    rw [e1, c1, c0]
    refine br_f (nI_pos (by omega)) (br_t (nI_le (b := 99) (by omega) (by omega)) (br_c (fun z => h1 0 tp z) (fun z0 => ⟨vp_in_nI (by omega) (by omega), br_c (fun z => h1 (t - 1) (by omega) z) (fun z1 => ?_)⟩)))
    have k0 : KB A G up low 0 := by
      rcases H 0 tp with y | y
      · exact absurd y z0
      · exact y
    have k1 : KB A G up low (t - 1) := by
      rcases H (t - 1) (by omega) with y | y
      · exact absurd y z1
      · exact y
    refine pk_loop (σ := Int32) (fun n i s => wl_X0_nextToAsk_42 (nI (t - 1)) up low _ _ post n s (nI i)) (fun i s => 1 ≤ i ∧ ∃ p, s = nI p ∧ p < i ∧ KB A G up low p ∧ (∀ c, p < c → c < i → low c = 0) ∧ ∀ a b, a < b → b < i → KB A G up low a → KB A G up low b → (∀ c, a < c → c < b → low c = 0) → b - a ≤ 1 ∨ A a * G b = A b * G a) t 1 0 (by omega) ⟨by omega, 0, rfl, by omega, k0, fun c c1 c2 => by omega, fun a b a1 a2 => by omega⟩ (fun n s hs => ?_) (fun n i s hi hs kk => ?_)
    · show ws_X0_nextToAsk_42 _ _ _ _ _ _ _ _ _
      unfold ws_X0_nextToAsk_42
      obtain ⟨_, p, q1, q2, q3, q4, q5⟩ := hs
      exact br_t (nI_lt (by omega) (by omega)) (h0 (Or.inr ⟨k0, k1, q5⟩))
    · show ws_X0_nextToAsk_42 _ _ _ _ _ _ _ _ _
      unfold ws_X0_nextToAsk_42
      obtain ⟨i1, p, q1, q2, q3, q4, q5⟩ := hs
      subst q1
      have ci : (nI i).toNatClampNeg = i := nI_clamp (by omega)
      have cp : (nI p).toNatClampNeg = p := nI_clamp (by omega)
      refine br_f (by rw [nI_ltI (by omega) (by omega)]; omega) ⟨vp_in_nI (by omega) (by omega), ?_⟩
      rw [ci, cp, nI_1 i]
      refine br_c (fun z => ?_) (fun z => ⟨vp_in_nI (by omega) (by omega), ?_⟩)
      · refine kk (nI p) ⟨by omega, p, rfl, by omega, q3, fun c c1 c2 => ?_, fun a b a1 a2 a3 a4 a5 => ?_⟩
        · by_cases e : c = i
          · subst e; exact z
          · exact q4 c c1 (by omega)
        · by_cases e : b = i
          · subst e; exact absurd z (KB_n a4)
          · exact q5 a b a1 (by omega) a3 a4 a5
      · have ki : KB A G up low i := by
          rcases H i hi with y | y
          · exact absurd y z
          · exact y
        have go : (i - p ≤ 1 ∨ A p * G i = A i * G p) → ∃ p, nI i = nI p ∧ p < i + 1 ∧ KB A G up low p ∧ (∀ c, p < c → c < i + 1 → low c = 0) ∧ ∀ a b, a < b → b < i + 1 → KB A G up low a → KB A G up low b → (∀ c, a < c → c < b → low c = 0) → b - a ≤ 1 ∨ A a * G b = A b * G a := fun ok => by
          refine ⟨i, rfl, by omega, ki, fun c c1 c2 => by omega, fun a b a1 a2 a3 a4 a5 => ?_⟩
          by_cases e : b = i
          · subst e
            have ea : a = p := by
              rcases Nat.lt_trichotomy a p with y | y | y
              · exact absurd (a5 p y q2) (KB_n q3)
              · exact y
              · exact absurd (q4 a y a1) (KB_n a3)
            subst ea
            exact ok
          · exact q5 a b a1 (by omega) a3 a4 a5
        have lp : up p * low i = up i * low p ↔ A p * G i = A i * G p := by
          obtain ⟨p1, p2, p3, p4, p5, p6⟩ := q3
          obtain ⟨r1, r2, r3, r4, r5, r6⟩ := ki
          have m1 := ab_mul (x := A p) (X := 2000000) (y := G i) (Y := 157464) (by omega) (by omega) (by omega) (by omega)
          have m2 := ab_mul (x := A i) (X := 2000000) (y := G p) (Y := 157464) (by omega) (by omega) (by omega) (by omega)
          rw [p1, p2, r1, r2, lI_mul, lI_mul]
          exact lI_eq ⟨by omega, by omega⟩ ⟨by omega, by omega⟩
        refine br_c (fun y => ?_) (fun y => ?_)
        · unfold wj_X0_nextToAsk_96
          rw [nI_1 i]
          have y' := lp.mp y
          exact br_c (fun _ => kk (nI i) ⟨by omega, go (Or.inr y')⟩) (fun _ => br_f (by decide) (kk (nI i) ⟨by omega, go (Or.inr y')⟩))
        · unfold wj_X0_nextToAsk_96
          rw [nI_1 i]
          refine br_c (fun x => kk (nI i) ⟨by omega, go (Or.inl ((nI_d1 (by omega) (by omega)).mp x))⟩) (fun x => br_t rfl ?_)
          rw [nI_d1 (by omega) (by omega)] at x
          show post ((nI p + nI i) / 2)
          rw [nI_half (by omega)]
          exact h1 ((p + i) / 2) (by omega) (q4 _ (by omega) (by omega))
/-- a / b < c / d and so on -/
theorem fr_le_le {a b c d e f : Int} (b0 : 0 < b) (d0 : 0 < d) (f0 : 0 < f) (h1 : a * d ≤ c * b) (h2 : c * f ≤ e * d) : a * f ≤ e * b := by
  have m1 := Int.mul_le_mul_of_nonneg_right h1 (Int.le_of_lt f0)
  have m2 := Int.mul_le_mul_of_nonneg_right h2 (Int.le_of_lt b0)
  have z1 : a * d * f = d * (a * f) := by grind
  have z2 : e * d * b = d * (e * b) := by grind
  have z3 : c * b * f = c * f * b := by grind
  exact Int.le_of_mul_le_mul_left (a := d) (by omega) d0
theorem fr_le_lt {a b c d e f : Int} (b0 : 0 < b) (d0 : 0 < d) (f0 : 0 < f) (h1 : a * d ≤ c * b) (h2 : c * f < e * d) : a * f < e * b := by
  have m1 := Int.mul_le_mul_of_nonneg_right h1 (Int.le_of_lt f0)
  have m2 := Int.mul_lt_mul_of_pos_right h2 b0
  have z1 : a * d * f = d * (a * f) := by grind
  have z2 : e * d * b = d * (e * b) := by grind
  have z3 : c * b * f = c * f * b := by grind
  exact Int.lt_of_mul_lt_mul_left (a := d) (by omega) (by omega)
theorem fr_lt_le {a b c d e f : Int} (b0 : 0 < b) (d0 : 0 < d) (f0 : 0 < f) (h1 : a * d < c * b) (h2 : c * f ≤ e * d) : a * f < e * b := by
  have m1 := Int.mul_lt_mul_of_pos_right h1 f0
  have m2 := Int.mul_le_mul_of_nonneg_right h2 (Int.le_of_lt b0)
  have z1 : a * d * f = d * (a * f) := by grind
  have z2 : e * d * b = d * (e * b) := by grind
  have z3 : c * b * f = c * f * b := by grind
  exact Int.lt_of_mul_lt_mul_left (a := d) (by omega) (by omega)
theorem gain_l {t j : Nat} {a : Int} {x : Int64} (hj : j ≤ t) (ht : t ≤ 99) (hx : x = lI a) : (nI t - nI j).toInt64 * x = lI (((t : Int) - j) * a) := by
  rw [hx, nI_iI, nI_iI, iI_sub, iI_l (by unfold rI; omega), lI_mul]
theorem sp_greatest (ht : t ≤ 99) (H : ∀ j, j < t → low j = 0 ∨ KB A G up low j) (k0 : 0 < t → KB A G up low 0) {post : Int32 → Prop} (h : ∀ k : Nat, (t = 0 → k = 0) → (0 < t → k < t ∧ KB A G up low k ∧ ∀ j, j < t → KB A G up low j → ((t : Int) - j) * A j * G k ≤ ((t : Int) - k) * A k * G j ∧ (j < k → ((t : Int) - j) * A j * G k < ((t : Int) - k) * A k * G j)) → post (nI k)) : wp_X0_greatest up low (nI t) post := by
  unfold wp_X0_greatest
  rcases Nat.eq_zero_or_pos t with e | tp
  · subst e
    refine ⟨1, ?_⟩
    show ws_X0_greatest_4 _ _ _ _ _ _ _ _
    unfold ws_X0_greatest_4
    exact br_t (by decide) (h 0 (fun _ => rfl) (fun z => absurd z (by omega)))
  · refine pk_loop (σ := Int32) (fun n i s => wl_X0_greatest_4 (nI t) up low _ post n s (nI i)) (fun i s => 1 ≤ i ∧ ∃ k : Nat, s = nI k ∧ k < i ∧ KB A G up low k ∧ ∀ j : Nat, j < i → KB A G up low j → ((t : Int) - j) * A j * G k ≤ ((t : Int) - k) * A k * G j ∧ (j < k → ((t : Int) - j) * A j * G k < ((t : Int) - k) * A k * G j)) t 1 0 (by omega) ⟨by omega, 0, rfl, by omega, k0 tp, fun j hj _ => ?_⟩ (fun n s hs => ?_) (fun n i s hi hs kk => ?_)
    · have : j = 0 := by omega
      subst this
      exact ⟨Int.le_refl _, fun z => absurd z (by omega)⟩
    · show ws_X0_greatest_4 _ _ _ _ _ _ _ _
      unfold ws_X0_greatest_4
      obtain ⟨_, k, q1, q2, q3, q4⟩ := hs
      subst q1
      exact br_t (nI_le (Nat.le_refl _) (by omega)) (h k (fun z => by omega) (fun _ => ⟨q2, q3, q4⟩))
    · show ws_X0_greatest_4 _ _ _ _ _ _ _ _
      unfold ws_X0_greatest_4
      obtain ⟨i1, k, q1, q2, q3, q4⟩ := hs
      subst q1
      have ci : (nI i).toNatClampNeg = i := nI_clamp (by omega)
      have ck : (nI k).toNatClampNeg = k := nI_clamp (by omega)
      refine br_f (nI_ge hi (by omega)) (br_f (fun y => absurd ((nI_ltI (a := 99) (by omega) (by omega)).mp y) (by omega)) ⟨vp_in_nI (by omega) (by omega), ?_⟩)
      rw [ci, ck, nI_1 i]
      refine br_c (fun z => ?_) (fun z => ⟨vp_in_nI (by omega) (by omega), ?_⟩)
      · refine kk (nI k) ⟨by omega, k, rfl, by omega, q3, fun j hj kj => ?_⟩
        by_cases e : j = i
        · subst e; exact absurd z (KB_n kj)
        · exact q4 j (by omega) kj
      · have ki : KB A G up low i := by
          rcases H i hi with y | y
          · exact absurd y z
          · exact y
        intro v hv
        have q3' := q3
        have ki' := ki
        obtain ⟨p1, p2, p3, p4, p5, p6⟩ := q3
        obtain ⟨r1, r2, r3, r4, r5, r6⟩ := ki
        have n1 : (0 : Int) ≤ (t : Int) - i ∧ (t : Int) - i ≤ 99 := by omega
        have n2 : (0 : Int) ≤ (t : Int) - k ∧ (t : Int) - k ≤ 99 := by omega
        have m1 := ab_mul (x := (t : Int) - i) (X := 99) (y := A i) (Y := 2000000) (by omega) (by omega) (by omega) (by omega)
        have m2 := ab_mul (x := (t : Int) - k) (X := 99) (y := A k) (Y := 2000000) (by omega) (by omega) (by omega) (by omega)
        have m3 := ab_mul (x := ((t : Int) - i) * A i) (X := 99 * 2000000) (y := G k) (Y := 157464) (by omega) (by omega) (by omega) (by omega)
        have m4 := ab_mul (x := ((t : Int) - k) * A k) (X := 99 * 2000000) (y := G i) (Y := 157464) (by omega) (by omega) (by omega) (by omega)
        rw [gain_l (by omega) ht r1, p2, lI_mul] at hv
        rw [hv, gain_l (by omega) ht p1, r2, lI_mul, lI_le ⟨by omega, by omega⟩ ⟨by omega, by omega⟩]
        refine br_c (fun y => ?_) (fun y => ?_)
        · refine kk (nI k) ⟨by omega, k, rfl, by omega, q3', fun j hj kj => ?_⟩
          by_cases e : j = i
          · subst e; exact ⟨y, fun z => absurd z (by omega)⟩
          · exact q4 j (by omega) kj
        · refine kk (nI i) ⟨by omega, i, rfl, by omega, ki', fun j hj kj => ?_⟩
          by_cases e : j = i
          · subst e; exact ⟨Int.le_refl _, fun z => absurd z (by omega)⟩
          · have a := fr_le_lt kj.2.2.2.2.1 p5 r5 (q4 j (by omega) kj).1 (show ((t : Int) - k) * A k * G i < ((t : Int) - i) * A i * G k by omega)
            exact ⟨by omega, fun _ => a⟩
end BIDS
