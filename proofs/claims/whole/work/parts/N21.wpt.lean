/-! a turn of the sheet -/
theorem sp_turn {k h r c : Nat} (hk : k ≤ 4) (hh : h ≤ 14) (hr : r < h) (hc : c < k) {T : Nat → Nat → Int64} {P Q : Nat → Nat → Int} {low : Int}
    (hT : ∀ i, i < h → ∀ j, (j < k ∨ j = 4) → T i j = lI (P i j)) (hl : 0 < low) (hl2 : low ≤ 200000) (hp : 0 < P r c) (hp2 : P r c ≤ 200000)
    (hQ : ∀ i, i < h → i ≠ r → ∀ j, (j < k ∨ j = 4) → j ≠ c → low * Q i j = P r c * P i j - P i c * P r j ∧ -2000000000 ≤ Q i j ∧ Q i j ≤ 2000000000) {post : Int64 → (Nat → Nat → Int64) → Prop}
    (hpost : ∀ T' : Nat → Nat → Int64, (∀ i, i < h → i ≠ r → ∀ j, (j < k ∨ j = 4) → T' i j = if j = c then lI (P i c) else lI (Q i j)) → (∀ j, (j < k ∨ j = 4) → T' r j = if j = c then lI (P r c) else lI 0) → post (lI (P r c)) T') : wp_X1_turn (nI k) (nI h) (lI low) T (nI r) (nI c) post := by
  have rlow : rL low := ⟨by omega, by omega⟩
  have r0 : rL 0 := ⟨by omega, by omega⟩
  have rpc : rL (P r c) := ⟨by omega, by omega⟩
  have lne : ¬ lI low = 0 := by rw [lI_0, lI_eq rlow r0]; omega
  have tc4 : ((4 : Int32)).toNatClampNeg = 4 := rfl
  have dv : ∀ i, i < h → i ≠ r → ∀ j, (j < k ∨ j = 4) → j ≠ c → (lI (P r c) * lI (P i j) - lI (P i c) * lI (P r j)) / lI low = lI (Q i j) := by
    intro i hi ni j hj nj
    obtain ⟨e, b1, b2⟩ := hQ i hi ni j hj nj
    rw [lI_mul, lI_mul, lI_sub, ← e]
    have := ab_mul (x := low) (X := 200000) (by omega) hl2 b1 b2
    exact lI_exact (by omega) ⟨by omega, by omega⟩ rlow
  unfold wp_X1_turn
  refine ⟨vp_in_nI (by omega) (by omega), vp_in_nI (by omega) (by omega), ?_⟩
  rw [nI_clamp (by omega), nI_clamp (by omega), hT r hr c (Or.inl hc), lI_0]
  refine br_f (by rw [lI_le rlow r0]; omega) (br_t (by rw [lI_lt r0 rpc]; exact hp) ?_)
  refine pk_loop (σ := Nat → Nat → Int64) (fun n i s => wl_X1_turn_32 (nI r) (nI c) (nI r) (lI (P r c)) (nI k) (nI h) (lI low) _ post n (nI i) s)
    (fun i s => ∀ a b, s a b = if a < i ∧ a ≠ r ∧ b ≠ c ∧ (b < k ∨ b = 4) then lI (Q a b) else T a b) h 0 T (Nat.zero_le _) (fun a b => by rw [if_neg (by omega)]) (fun n s hs => ?_) (fun n i s hi hs kk => ?_)
  · show ws_X1_turn_32 _ _ _ _ _ _ _ _ _ _ _ _
    unfold ws_X1_turn_32
    refine br_t (nI_le (Nat.le_refl h) (by omega)) ⟨vp_in_nI (by omega) (by omega), ?_⟩
    refine sp_fillL (by omega) (fun u u1 u2 => ⟨vp_in_nI (by omega) (by omega), ?_⟩)
    intro f hf
    refine hpost f (fun i hi ni j hj => ?_) (fun j hj => ?_)
    · rw [hf, msJ, if_neg (by rintro ⟨a, _⟩; exact ni a), va_up_ne _ _ ni, hs i j]
      by_cases e : j = c
      · subst e
        rw [if_neg (by omega), if_pos rfl]
        exact hT i hi j hj
      · rw [if_pos ⟨hi, ni, e, hj⟩, if_neg e]
    · rw [hf, msJ]
      by_cases e : j = c
      · subst e
        rw [if_pos ⟨rfl, rfl⟩, if_pos rfl]
      · rw [if_neg (by rintro ⟨_, b⟩; exact e b), if_neg e, va_up_self, u1 j (by omega)]
  · show ws_X1_turn_32 _ _ _ _ _ _ _ _ _ _ _ _
    unfold ws_X1_turn_32
    refine br_f (nI_ge hi (by omega)) ?_
    by_cases e : i = r
    · subst e
      refine br_t rfl ?_
      rw [nI_1]
      refine kk s (fun a b => ?_)
      rw [hs a b]
      by_cases g : a < i ∧ a ≠ i ∧ b ≠ c ∧ (b < k ∨ b = 4)
      · rw [if_pos g, if_pos (by omega)]
      · rw [if_neg g, if_neg (by omega)]
    · refine br_f (by rw [nI_eq (by omega) (by omega)]; exact e) ⟨vp_in_nI (by omega) (by omega), vp_in_nI (by omega) (by omega), ?_⟩
      rw [nI_clamp (by omega), nI_clamp (by omega), nI_clamp (by omega)]
      have sic : s i c = lI (P i c) := by rw [hs i c, if_neg (by omega)]; exact hT i hi c (Or.inl hc)
      rw [sic]
      refine pk_loop (σ := Nat → Nat → Int64) (fun n j u => wl_X1_turn_68 (nI r) (nI c) (nI r) (lI (P r c)) (nI i) (nI i) (lI (P i c)) (nI k) (nI h) (lI low) _ post n (nI j) u)
        (fun j u => ∀ a b, u a b = if a = i ∧ b < j ∧ b ≠ c then lI (Q i b) else s a b) k 0 s (Nat.zero_le _) (fun a b => by rw [if_neg (by omega)]) (fun n u hu => ?_) (fun n j u hj hu k2 => ?_)
      · show ws_X1_turn_68 _ _ _ _ _ _ _ _ _ _ _ _ _ _ _
        unfold ws_X1_turn_68
        refine br_t (nI_le (Nat.le_refl k) (by omega)) ⟨vp_in_nI (by omega) (by omega), vp_in_nI (by omega) (by omega), lne, ?_⟩
        have ui4 : u i 4 = lI (P i 4) := by
          rw [hu i 4, if_neg (by omega), hs i 4, if_neg (by omega)]
          exact hT i hi 4 (Or.inr rfl)
        have ur4 : u r 4 = lI (P r 4) := by
          rw [hu r 4, if_neg (by omega), hs r 4, if_neg (by omega)]
          exact hT r hr 4 (Or.inr rfl)
        rw [tc4, ui4, ur4, dv i hi e 4 (Or.inr rfl) (by omega), nI_1]
        intro v hv
        refine kk _ (fun a b => ?_)
        rw [hv, msJ]
        by_cases g1 : a = i
        · subst g1
          by_cases g2 : b = 4
          · subst g2
            rw [if_pos ⟨rfl, rfl⟩, if_pos ⟨by omega, e, by omega, Or.inr rfl⟩]
          · rw [if_neg (by omega), hu a b]
            by_cases g3 : b < k ∧ b ≠ c
            · rw [if_pos ⟨rfl, g3⟩, if_pos ⟨by omega, e, g3.2, Or.inl g3.1⟩]
            · rw [if_neg (by omega), if_neg (by omega), hs a b, if_neg (by omega)]
        · rw [if_neg (by omega), hu a b, if_neg (by omega), hs a b]
          by_cases g3 : a < i ∧ a ≠ r ∧ b ≠ c ∧ (b < k ∨ b = 4)
          · rw [if_pos g3, if_pos (by omega)]
          · rw [if_neg g3, if_neg (by omega)]
      · show ws_X1_turn_68 _ _ _ _ _ _ _ _ _ _ _ _ _ _ _
        unfold ws_X1_turn_68
        refine br_f (nI_ge hj (by omega)) ?_
        by_cases ej : j = c
        · subst ej
          refine br_t rfl ?_
          rw [nI_1 j]
          refine k2 u (fun a b => ?_)
          rw [hu a b]
          by_cases g : a = i ∧ b < j ∧ b ≠ j
          · rw [if_pos g, if_pos (by omega)]
          · rw [if_neg g, if_neg (by omega)]
        · refine br_f (by rw [nI_eq (by omega) (by omega)]; exact ej) ⟨vp_in_nI (by omega) (by omega), vp_in_nI (by omega) (by omega), vp_in_nI (by omega) (by omega), lne, ?_⟩
          have uij : u i j = lI (P i j) := by
            rw [hu i j, if_neg (by omega), hs i j, if_neg (by omega)]
            exact hT i hi j (Or.inl hj)
          have urj : u r j = lI (P r j) := by
            rw [hu r j, if_neg (by omega), hs r j, if_neg (by omega)]
            exact hT r hr j (Or.inl hj)
          rw [nI_clamp (by omega), nI_clamp (by omega), nI_clamp (by omega), uij, urj, dv i hi e j (Or.inl hj) ej, nI_1 j]
          intro v hv
          refine k2 _ (fun a b => ?_)
          rw [hv, msJ]
          by_cases g1 : a = i ∧ b = j
          · rw [if_pos g1, if_pos (by omega), g1.2]
          · rw [if_neg g1, hu a b]
            by_cases g2 : a = i ∧ b < j ∧ b ≠ c
            · rw [if_pos g2, if_pos (by omega)]
            · rw [if_neg g2, if_neg (by omega)]
/-! the point of a sheet is taken -/
theorem sp_takeParts {k : Nat} {f : Nat → Int} {o : Nat → Nat} (E : Enum f k o) {fx opn : Nat → Int32} (hf : ∀ w, w < 4 → fx w = iI (f w) ∧ -1 ≤ f w ∧ f w ≤ 12) (ho : ∀ j, j < k → opn j = nI (o j)) {T : Nat → Nat → Int64} {low : Int} {X : Nat → Int} {v0 l0 : Int64} {h0 : Int32} {x0 : Nat → Int64}
    (hX : ∀ j, j < k → T (1 + j) 4 = lI (X (o j))) (hfx : ∀ w, w < 4 → f w ≠ -1 → X w = f w * low) {post : Int32 → Int64 → Int64 → (Nat → Int64) → Prop}
    (hpost : ∀ u : Nat → Int64, (∀ w, w < 4 → u w = lI (X w)) → post 1 (T 0 4) (lI low) u) : wp_X1_takeParts (nI k) (lI low) T fx opn h0 v0 l0 x0 post := by
  obtain ⟨hk, e1, e2, e3⟩ := E
  unfold wp_X1_takeParts
  refine pk_loop (σ := Nat → Int64) (fun n i s => wl_X1_takeParts_2 (nI k) (lI low) T fx opn h0 v0 l0 _ post n (nI i) s) (fun i s => ∀ w, w < i → f w ≠ -1 → s w = lI (X w)) 4 0 x0 (by omega) (fun w hw => by omega) (fun n s hs => ?_) (fun n i s hi hs kk => ?_)
  · show ws_X1_takeParts_2 _ _ _ _ _ _ _ _ _ _ _ _ _
    unfold ws_X1_takeParts_2
    refine br_t (by decide) ?_
    refine pk_loop (σ := Nat → Int64) (fun n i s => wl_X1_takeParts_40 (nI k) (lI low) T fx opn h0 v0 l0 _ post n (nI i) s) (fun i u => (∀ w, w < 4 → f w ≠ -1 → u w = lI (X w)) ∧ ∀ j, j < i → u (o j) = lI (X (o j))) k 0 s (Nat.zero_le _) ⟨hs, fun j hj => by omega⟩ (fun n u hu => ?_) (fun n i u hi hu kk => ?_)
    · show ws_X1_takeParts_40 _ _ _ _ _ _ _ _ _ _ _ _ _
      unfold ws_X1_takeParts_40
      refine br_t (nI_le (Nat.le_refl k) (by omega)) ?_
      intro v hv
      rw [hv]
      refine hpost u (fun w hw => ?_)
      by_cases q : f w = -1
      · obtain ⟨j, hj, ej⟩ := e3 w hw q
        have := hu.2 j hj
        rw [ej] at this
        exact this
      · exact hu.1 w hw q
    · show ws_X1_takeParts_40 _ _ _ _ _ _ _ _ _ _ _ _ _
      unfold ws_X1_takeParts_40
      have oi := e1 i hi
      have one : (1 : Int32) = nI 1 := rfl
      refine br_f (nI_ge hi (by omega)) ⟨vp_in_nI (by omega) (by omega), ?_⟩
      rw [nI_clamp (by omega), ho i hi, nI_clamp (by omega), nI_1, one, nI_add, nI_clamp (by omega)]
      refine ⟨vp_in_nI (by omega) (by omega), ?_⟩
      intro v hv
      refine ⟨vp_in_nI (by omega) (by omega), kk _ ⟨fun w hw q => ?_, fun j hj => ?_⟩⟩
      · have : w ≠ o i := fun e => q (e ▸ oi.2)
        rw [pk_uLn this]
        exact hu.1 w hw q
      · have hv2 : v = lI (X (o i)) := by rw [hv]; exact hX i hi
        by_cases e : o j = o i
        · rw [e, pk_uLs]; exact hv2
        · rw [pk_uLn e]
          refine hu.2 j ?_
          rcases Nat.lt_or_ge j i with q | q
          · exact q
          · have : j = i := by omega
            subst this
            exact absurd rfl e
  · show ws_X1_takeParts_2 _ _ _ _ _ _ _ _ _ _ _ _ _
    unfold ws_X1_takeParts_2
    obtain ⟨w1, w2, w3⟩ := hf i hi
    refine br_f (nI_ge (b := 4) hi (by omega)) ⟨vp_in_nI (by omega) (by omega), ?_⟩
    rw [nI_clamp (by omega), nI_1, w1]
    intro v hv
    refine kk _ (fun w hw q => ?_)
    by_cases e : w = i
    · subst e
      rw [pk_uLs, hv, iI_0]
      rw [if_neg (by rw [iI_lt ⟨by omega, by omega⟩ ⟨by omega, by omega⟩]; omega)]
      rw [iI_l ⟨by omega, by omega⟩, lI_mul, hfx w hi q]
    · rw [pk_uLn e]
      exact hs w (by omega) q
