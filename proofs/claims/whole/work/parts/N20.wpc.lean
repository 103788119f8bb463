/-! the Clearer's methods: what they do to a sheet -/
theorem msJ (M : Nat → Nat → Int64) (k j : Nat) (x : Int64) (i l : Nat) : msetJ M k j x i l = if i = k ∧ l = j then x else M i l := by
  show va_up M k (vp_updL (M k) j x) i l = _
  by_cases h : i = k
  · subst h
    rw [va_up_self]
    by_cases g : l = j
    · subst g
      rw [pk_uLs, if_pos ⟨rfl, rfl⟩]
    · rw [pk_uLn g, if_neg (fun z => g z.2)]
  · rw [va_up_ne _ _ h, if_neg (fun z => h z.1)]
theorem sp_fillL {n : Nat} (hn : n < 1000) {p0 : Nat → Int64} {v : Int64} {post : (Nat → Int64) → Prop} (h : ∀ u : Nat → Int64, (∀ j, j < n → u j = v) → (∀ j, n ≤ j → u j = p0 j) → post u) : wp_J7_fill_d0a16 n p0 v post := by
  unfold wp_J7_fill_d0a16
  refine pk_loop (σ := Nat → Int64) (fun m i s => wl_J7_fill_d0a16_6 n v (Int32.ofNat n) (fun p => post p) post m (nI i) s) (fun i u => (∀ j, j < i → u j = v) ∧ ∀ j, i ≤ j → u j = p0 j) n 0 p0 (Nat.zero_le _) ⟨fun j hj => absurd hj (Nat.not_lt_zero j), fun j _ => rfl⟩ (fun m s hs => ?_) (fun m i s hi hs k => ?_)
  · show ws_J7_fill_d0a16_6 _ _ _ _ _ _ _ _
    unfold ws_J7_fill_d0a16_6
    exact br_t (nI_le (Nat.le_refl n) (by omega)) (h s hs.1 hs.2)
  · show ws_J7_fill_d0a16_6 _ _ _ _ _ _ _ _
    unfold ws_J7_fill_d0a16_6
    refine br_f (nI_ge hi (by omega)) ⟨vp_in_nI hi (by omega), ?_⟩
    rw [nI_1, nI_clamp (by omega)]
    refine k _ ⟨fun j hj => ?_, fun j hj => ?_⟩
    · by_cases e : j = i
      · subst e; exact pk_uLs
      · rw [pk_uLn e]; exact hs.1 j (by omega)
    · rw [pk_uLn (by omega)]; exact hs.2 j (by omega)
theorem sp_compare {a b : Int} (ha : rL a) (hb : rL b) {post : Int32 → Prop} (h1 : b < a → post 1) (h0 : a = b → post 0) (hm : a < b → post (-1)) : wp_J13_compare_74951 (lI a) (lI b) post := by
  unfold wp_J13_compare_74951
  refine br_c (fun c => ?_) (fun c => ?_)
  · rw [lI_le hb ha] at c
    refine br_c (fun q => ?_) (fun q => ?_)
    · exact h0 ((lI_eq ha hb).mp q)
    · rw [lI_eq ha hb] at q
      exact h1 (by omega)
  · rw [lI_le hb ha] at c
    exact hm (by omega)
theorem sp_lowestRow {h : Nat} (h1 : 1 ≤ h) (hh : h ≤ 14) {T : Nat → Nat → Int64} {C : Nat → Int} (hC : ∀ i, i < h → T i 4 = lI (C i) ∧ rL (C i)) {post : Int32 → Prop}
    (p0 : (∀ i, 1 ≤ i → i < h → 0 ≤ C i) → post (-1)) (p1 : ∀ r, 1 ≤ r → r < h → C r < 0 → post (nI r)) : wp_X1_lowestRow (nI h) T post := by
  unfold wp_X1_lowestRow
  refine pk_loop (σ := Int32 × Int64) (fun n i s => wl_X1_lowestRow_7 (nI h) T (fun x => post x) post n s.1 s.2 (nI i)) (fun i s => 1 ≤ i ∧ ∃ z : Int, s.2 = lI z ∧ rL z ∧ ((s.1 = -1 ∧ z = 0 ∧ ∀ k, 1 ≤ k → k < i → 0 ≤ C k) ∨ (∃ r, 1 ≤ r ∧ r < i ∧ s.1 = nI r ∧ C r = z ∧ z < 0))) h 1 (-1, 0) h1 ⟨Nat.le_refl 1, 0, rfl, rL_of (by omega) (by omega), Or.inl ⟨rfl, rfl, fun k a b => by omega⟩⟩ (fun n s hs => ?_) (fun n i s hi hs k => ?_)
  · show ws_X1_lowestRow_7 _ _ _ _ _ _ _ _
    unfold ws_X1_lowestRow_7
    refine br_t (nI_le (Nat.le_refl h) (by omega)) ?_
    obtain ⟨_, z, e1, e2, e3⟩ := hs
    rcases e3 with ⟨q1, q2, q3⟩ | ⟨r, r1, r2, r3, r4, r5⟩
    · rw [q1]; exact p0 q3
    · rw [r3]; exact p1 r r1 r2 (by omega)
  · show ws_X1_lowestRow_7 _ _ _ _ _ _ _ _
    unfold ws_X1_lowestRow_7
    refine br_f (nI_ge hi (by omega)) ⟨vp_in_nI (by omega) (by omega), ?_⟩
    rw [nI_clamp (by omega), nI_1]
    obtain ⟨i1, z, e1, e2, e3⟩ := hs
    obtain ⟨t1, t2⟩ := hC i hi
    have t1 : T i ((4 : Int32)).toNatClampNeg = lI (C i) := t1
    rw [t1, e1]
    refine br_c (fun q => ?_) (fun q => ?_)
    · rw [lI_lt t2 e2] at q
      have zneg : z ≤ 0 := by rcases e3 with ⟨_, q2, _⟩ | ⟨r, _, _, _, _, r5⟩ <;> omega
      exact k (nI i, lI (C i)) ⟨by omega, C i, rfl, t2, Or.inr ⟨i, i1, by omega, rfl, rfl, by omega⟩⟩
    · rw [lI_lt t2 e2] at q
      refine k (s.1, lI z) ⟨by omega, z, rfl, e2, ?_⟩
      rcases e3 with ⟨q1, q2, q3⟩ | ⟨r, r1, r2, r3, r4, r5⟩
      · refine Or.inl ⟨q1, q2, fun k a b => ?_⟩
        by_cases e : k = i
        · subst e; omega
        · exact q3 k a (by omega)
      · exact Or.inr ⟨r, r1, by omega, r3, r4, r5⟩
/-! which of two columns costs less -/
def posk (c : Nat → Int) (n : Nat) : Prop := ∃ i, i ≤ n ∧ 0 < c i ∧ ∀ k, k < i → c k = 0
theorem LXP_posk (D : Nat → Int) : LXP D ↔ posk D 4 := by
  unfold LXP posk
  constructor
  · intro h
    rcases h with h | ⟨z0, h | ⟨z1, h | ⟨z2, h | ⟨z3, h⟩⟩⟩⟩
    · exact ⟨0, by omega, h, fun k hk => by omega⟩
    · exact ⟨1, by omega, h, fun k hk => by
        have : k = 0 := by omega
        subst this; exact z0⟩
    · exact ⟨2, by omega, h, fun k hk => by
        rcases (by omega : k = 0 ∨ k = 1) with e | e <;> subst e <;> assumption⟩
    · exact ⟨3, by omega, h, fun k hk => by
        rcases (by omega : k = 0 ∨ k = 1 ∨ k = 2) with e | e | e <;> subst e <;> assumption⟩
    · exact ⟨4, by omega, h, fun k hk => by
        rcases (by omega : k = 0 ∨ k = 1 ∨ k = 2 ∨ k = 3) with e | e | e | e <;> subst e <;> assumption⟩
  · intro ⟨i, hi, hp, hz⟩
    rcases (by omega : i = 0 ∨ i = 1 ∨ i = 2 ∨ i = 3 ∨ i = 4) with e | e | e | e | e
    · subst e; exact Or.inl hp
    · subst e; exact Or.inr ⟨hz 0 (by omega), Or.inl hp⟩
    · subst e; exact Or.inr ⟨hz 0 (by omega), Or.inr ⟨hz 1 (by omega), Or.inl hp⟩⟩
    · subst e; exact Or.inr ⟨hz 0 (by omega), Or.inr ⟨hz 1 (by omega), Or.inr ⟨hz 2 (by omega), Or.inl hp⟩⟩⟩
    · subst e; exact Or.inr ⟨hz 0 (by omega), Or.inr ⟨hz 1 (by omega), Or.inr ⟨hz 2 (by omega), Or.inr ⟨hz 3 (by omega), hp⟩⟩⟩⟩
/-- fewer numbers: those beyond are 0 -/
theorem posk_LXP {c : Nat → Int} {n : Nat} (hn : n ≤ 4) : posk c n ↔ LXP (fun i => if i ≤ n then c i else 0) := by
  rw [LXP_posk]
  constructor
  · intro ⟨i, hi, hp, hz⟩
    exact ⟨i, by omega, by dsimp only; rw [if_pos hi]; exact hp, fun k hk => by dsimp only; rw [if_pos (by omega)]; exact hz k hk⟩
  · intro ⟨i, hi, hp, hz⟩
    dsimp only at hp hz
    by_cases q : i ≤ n
    · rw [if_pos q] at hp
      exact ⟨i, q, hp, fun k hk => by have := hz k hk; rw [if_pos (by omega)] at this; exact this⟩
    · rw [if_neg q] at hp
      omega
/-- the wishes that are open, as they stand -/
def Enum (f : Nat → Int) (k : Nat) (o : Nat → Nat) : Prop := k ≤ 4 ∧ (∀ j, j < k → o j < 4 ∧ f (o j) = -1) ∧ (∀ i j, i < j → j < k → o i < o j) ∧ (∀ w, w < 4 → f w = -1 → ∃ j, j < k ∧ o j = w)
theorem LXP_enum {f : Nat → Int} {k : Nat} {o : Nat → Nat} (E : Enum f k o) {c D : Nat → Int} (h0 : c 0 = D 0) (h1 : ∀ j, j < k → c (j + 1) = D (o j + 1)) (hz : ∀ w, w < 4 → f w ≠ -1 → D (w + 1) = 0) : posk c k ↔ LXP D := by
  rw [LXP_posk]
  obtain ⟨hk, e1, e2, e3⟩ := E
  constructor
  · intro ⟨i, hi, hp, hq⟩
    rcases Nat.eq_zero_or_pos i with e | e
    · subst e
      exact ⟨0, by omega, by rw [← h0]; exact hp, fun k hk => by omega⟩
    · have g := h1 (i - 1) (by omega)
      rw [Nat.sub_add_cancel e] at g
      have l := (e1 (i - 1) (by omega)).1
      refine ⟨o (i - 1) + 1, by omega, by rw [← g]; exact hp, fun m hm => ?_⟩
      rcases Nat.eq_zero_or_pos m with e' | e'
      · subst e'
        rw [← h0]
        exact hq 0 e
      · by_cases fo : f (m - 1) = -1
        · obtain ⟨j, hj, ej⟩ := e3 (m - 1) (by omega) fo
          have lt : j < i - 1 := by
            rcases Nat.lt_or_ge j (i - 1) with q | q
            · exact q
            · rcases Nat.eq_or_lt_of_le q with q | q
              · rw [q] at hm; omega
              · have := e2 (i - 1) j q hj
                omega
          have := hq (j + 1) (by omega)
          rw [h1 j hj, ej, Nat.sub_add_cancel e'] at this
          exact this
        · have := hz (m - 1) (by omega) fo
          rw [Nat.sub_add_cancel e'] at this
          exact this
  · intro ⟨i, hi, hp, hq⟩
    rcases Nat.eq_zero_or_pos i with e | e
    · subst e
      exact ⟨0, by omega, by rw [h0]; exact hp, fun k hk => by omega⟩
    · by_cases fo : f (i - 1) = -1
      · obtain ⟨j, hj, ej⟩ := e3 (i - 1) (by omega) fo
        have g := h1 j hj
        rw [ej, Nat.sub_add_cancel e] at g
        refine ⟨j + 1, by omega, by rw [g]; exact hp, fun m hm => ?_⟩
        rcases Nat.eq_zero_or_pos m with e' | e'
        · subst e'
          rw [h0]
          exact hq 0 e
        · have g2 := h1 (m - 1) (by omega)
          rw [Nat.sub_add_cancel e'] at g2
          rw [g2]
          have := e2 (m - 1) j (by omega) hj
          exact hq (o (m - 1) + 1) (by omega)
      · have := hz (i - 1) (by omega) fo
        rw [Nat.sub_add_cancel e] at this
        omega
theorem sp_isCheaper {k h r j t : Nat} (hk : k ≤ 4) (hkh : k < h) (hh : h ≤ 14) (hr : r < h) (hj : j < k) (ht : t < k) {T : Nat → Nat → Int64} {P : Nat → Nat → Int} (hT : ∀ i, i < h → ∀ j, j < k → T i j = lI (P i j) ∧ -4000000 ≤ P i j ∧ P i j ≤ 4000000) {post : Int32 → Prop}
    (p1 : posk (fun i => if i = 0 then P 0 j * P r t - P 0 t * P r j else P i t * P r j - P i j * P r t) k → post 1) (p0 : ¬ posk (fun i => if i = 0 then P 0 j * P r t - P 0 t * P r j else P i t * P r j - P i j * P r t) k → post 0) : wp_X1_isCheaper (nI k) T (nI r) (nI j) (nI t) post := by
  have rl : ∀ a b c d, a < h → b < k → c < h → d < k → rL (P a b * P c d) := fun a b c d h1 h2 h3 h4 => by
    have q1 := (hT a h1 b h2).2
    have q2 := (hT c h3 d h4).2
    have q3 := ab_mul q1.1 q1.2 q2.1 q2.2
    exact ⟨by omega, by omega⟩
  unfold wp_X1_isCheaper
  refine ⟨vp_in_nI (by omega) (by omega), vp_in_nI (by omega) (by omega), vp_in_nI (by omega) (by omega), ?_⟩
  have c0 : ((0 : Int32)).toNatClampNeg = 0 := rfl
  rw [nI_clamp (by omega), nI_clamp (by omega), nI_clamp (by omega), c0, (hT 0 (by omega) j hj).1, (hT r hr t ht).1, (hT 0 (by omega) t ht).1, (hT r hr j hj).1, lI_mul, lI_mul]
  generalize hc : (fun i => if i = 0 then P 0 j * P r t - P 0 t * P r j else P i t * P r j - P i j * P r t) = c at p1 p0
  have e0 : c 0 = P 0 j * P r t - P 0 t * P r j := by rw [← hc]; rfl
  have ei : ∀ i, 1 ≤ i → c i = P i t * P r j - P i j * P r t := fun i hi => by
    rw [← hc]
    exact if_neg (by omega)
  have loop : ∀ x : Int32, ((x = 0 ∧ ∀ k, k < 1 → c k = 0) ∨ (x = 1 ∧ posk c k) ∨ (x = -1 ∧ ¬ posk c k)) → ∃ n, wl_X1_isCheaper_50 (nI j) (nI t) (lI (P r j)) (lI (P r t)) (nI k) T (fun x => wj_X1_isCheaper_99 x (nI k) T post) post n x (nI 1) := by
    intro x hx
    refine pk_loop (σ := Int32) (fun n i s => wl_X1_isCheaper_50 (nI j) (nI t) (lI (P r j)) (lI (P r t)) (nI k) T (fun x => wj_X1_isCheaper_99 x (nI k) T post) post n s (nI i)) (fun i s => 1 ≤ i ∧ ((s = 0 ∧ ∀ k, k < i → c k = 0) ∨ (s = 1 ∧ posk c k) ∨ (s = -1 ∧ ¬ posk c k))) (k + 1) 1 x (by omega) ⟨Nat.le_refl 1, hx⟩ (fun n s hs => ?_) (fun n i s hi hs kk => ?_)
    · show ws_X1_isCheaper_50 _ _ _ _ _ _ _ _ _ _ _
      unfold ws_X1_isCheaper_50
      refine br_t (nI_lt (by omega) (by omega)) ?_
      unfold wj_X1_isCheaper_99
      rcases hs.2 with ⟨q1, q2⟩ | ⟨q1, q2⟩ | ⟨q1, q2⟩
      · rw [q1]
        refine br_t (by decide) (p0 (fun ⟨i, a, b, _⟩ => ?_))
        have := q2 i (by omega)
        omega
      · rw [q1]
        exact br_f (by decide) (p1 q2)
      · rw [q1]
        exact br_t (by decide) (p0 q2)
    · show ws_X1_isCheaper_50 _ _ _ _ _ _ _ _ _ _ _
      unfold ws_X1_isCheaper_50
      refine br_f (nI_nlt (by omega) (by omega)) ?_
      rcases hs.2 with ⟨q1, q2⟩ | ⟨q1, q2⟩ | ⟨q1, q2⟩
      · rw [q1]
        refine br_t rfl ⟨vp_in_nI (by omega) (by omega), vp_in_nI (by omega) (by omega), vp_in_nI (by omega) (by omega), ?_⟩
        have ce := ei i hs.1
        rw [nI_clamp (by omega), nI_clamp (by omega), nI_clamp (by omega), (hT i (by omega) t ht).1, (hT i (by omega) j hj).1, lI_mul, lI_mul, nI_1]
        refine sp_compare (rl _ _ _ _ (by omega) ht hr hj) (rl _ _ _ _ (by omega) hj hr ht) (fun q => ?_) (fun q => ?_) (fun q => ?_)
        · exact kk 1 ⟨by omega, Or.inr (Or.inl ⟨rfl, i, by omega, by omega, q2⟩)⟩
        · refine kk 0 ⟨by omega, Or.inl ⟨rfl, fun m hm => ?_⟩⟩
          by_cases e : m = i
          · subst e; omega
          · exact q2 m (by omega)
        · refine kk (-1) ⟨by omega, Or.inr (Or.inr ⟨rfl, fun ⟨m, a, b, z⟩ => ?_⟩)⟩
          rcases Nat.lt_trichotomy m i with g | g | g
          · have := q2 m g; omega
          · subst g; omega
          · have := z i g; omega
      · rw [q1]
        refine br_f (by decide) ?_
        unfold wj_X1_isCheaper_99
        exact br_f (by decide) (p1 q2)
      · rw [q1]
        refine br_f (by decide) ?_
        unfold wj_X1_isCheaper_99
        exact br_t (by decide) (p0 q2)
  refine sp_compare (rl _ _ _ _ (by omega) hj hr ht) (rl _ _ _ _ (by omega) ht hr hj) (fun q => ?_) (fun q => ?_) (fun q => ?_)
  · exact loop 1 (Or.inr (Or.inl ⟨rfl, 0, by omega, by omega, fun k hk => by omega⟩))
  · refine loop 0 (Or.inl ⟨rfl, fun m hm => ?_⟩)
    have : m = 0 := by omega
    subst this
    omega
  · refine loop (-1) (Or.inr (Or.inr ⟨rfl, fun ⟨m, a, b, z⟩ => ?_⟩))
    rcases Nat.eq_zero_or_pos m with e | e
    · subst e; omega
    · have := z 0 e; omega
/-- what column j costs at row i, against the lift R -/
def uc (P : Nat → Nat → Int) (k j : Nat) : Nat → Int := fun i => if i = 0 then P 0 j else if i ≤ k then - P i j else 0
theorem cheap_LXP {P : Nat → Nat → Int} {k r j t : Nat} (hk : k ≤ 4) : posk (fun i => if i = 0 then P 0 j * P r t - P 0 t * P r j else P i t * P r j - P i j * P r t) k ↔ LXP (fun i => uc P k j i * P r t - uc P k t i * P r j) := by
  rw [posk_LXP hk]
  have e : ∀ i, (if i ≤ k then (if i = 0 then P 0 j * P r t - P 0 t * P r j else P i t * P r j - P i j * P r t) else 0) = uc P k j i * P r t - uc P k t i * P r j := fun i => by
    unfold uc
    by_cases a : i = 0
    · subst a
      simp
    · by_cases b : i ≤ k
      · rw [if_pos b, if_neg a, if_neg a, if_neg a, if_pos b, if_pos b]
        grind
      · rw [if_neg b, if_neg a, if_neg a, if_neg b, if_neg b]
        omega
  constructor
  · intro h
    exact LXP_eqv h (fun i _ => (e i).symm)
  · intro h
    exact LXP_eqv h (fun i _ => e i)
theorem sp_cheapest {k h r : Nat} (hk : k ≤ 4) (hkh : k < h) (hh : h ≤ 14) (hr : r < h) {T : Nat → Nat → Int64} {P : Nat → Nat → Int} (hT : ∀ i, i < h → ∀ j, j < k → T i j = lI (P i j) ∧ -4000000 ≤ P i j ∧ P i j ≤ 4000000) {post : Int32 → Prop}
    (p0 : (∀ j, j < k → P r j ≤ 0) → post (-1)) (p1 : ∀ c, c < k → 0 < P r c → (∀ j, j < k → 0 < P r j → ¬ LXP (fun i => uc P k j i * P r c - uc P k c i * P r j)) → post (nI c)) : wp_X1_cheapestColumn (nI k) T (nI r) post := by
  have rl : ∀ j, j < k → rL (P r j) := fun j hj => by
    have := (hT r hr j hj).2
    exact ⟨by omega, by omega⟩
  have r0 : rL 0 := ⟨by omega, by omega⟩
  unfold wp_X1_cheapestColumn
  refine pk_loop (σ := Int32) (fun n i s => wl_X1_cheapestColumn_4 (nI r) (nI k) T (fun x => post x) post n s (nI i)) (fun i s => (s = -1 ∧ ∀ j, j < i → P r j ≤ 0) ∨ (∃ c, c < i ∧ s = nI c ∧ 0 < P r c ∧ ∀ j, j < i → 0 < P r j → ¬ LXP (fun q => uc P k j q * P r c - uc P k c q * P r j))) k 0 (-1) (Nat.zero_le _) (Or.inl ⟨rfl, fun j hj => by omega⟩) (fun n s hs => ?_) (fun n i s hi hs kk => ?_)
  · show ws_X1_cheapestColumn_4 _ _ _ _ _ _ _ _
    unfold ws_X1_cheapestColumn_4
    refine br_t (nI_le (Nat.le_refl k) (by omega)) ?_
    rcases hs with ⟨q1, q2⟩ | ⟨c, c1, c2, c3, c4⟩
    · rw [q1]; exact p0 q2
    · rw [c2]; exact p1 c c1 c3 c4
  · show ws_X1_cheapestColumn_4 _ _ _ _ _ _ _ _
    unfold ws_X1_cheapestColumn_4
    refine br_f (nI_ge hi (by omega)) ⟨vp_in_nI (by omega) (by omega), vp_in_nI (by omega) (by omega), ?_⟩
    rw [nI_clamp (by omega), nI_clamp (by omega), (hT r hr i hi).1, nI_1, lI_0]
    refine br_c (fun q => ?_) (fun q => ?_)
    · rw [lI_lt r0 (rl i hi)] at q
      rcases hs with ⟨q1, q2⟩ | ⟨c, c1, c2, c3, c4⟩
      · rw [q1]
        refine br_t (by decide) (kk (nI i) (Or.inr ⟨i, by omega, rfl, q, fun j hj pj => ?_⟩))
        by_cases e : j = i
        · subst e
          exact fun z => LXP_nz z (fun q _ => by (try dsimp only); omega)
        · have := q2 j (by omega); omega
      · rw [c2]
        refine br_f (nI_pos (by omega)) ?_
        refine sp_isCheaper hk hkh hh hr hi (by omega) hT (fun z => ?_) (fun z => ?_)
        · rw [cheap_LXP hk] at z
          refine br_f (by decide) (kk (nI i) (Or.inr ⟨i, by omega, rfl, q, fun j hj pj => ?_⟩))
          by_cases e : j = i
          · subst e
            exact fun z => LXP_nz z (fun q _ => by (try dsimp only); omega)
          · intro y
            have n1 := c4 j (by omega) pj
            have a1 := (LXP_smul (w := fun q => P r c * (uc P k j q * P r i - uc P k i q * P r j)) c3 (fun i _ => rfl)).mpr y
            have a2 := (LXP_smul (w := fun q => P r j * (uc P k i q * P r c - uc P k c q * P r i)) pj (fun i _ => rfl)).mpr z
            have a3 := LXP_sum (w := fun m => P r i * (uc P k j m * P r c - uc P k c m * P r j)) a1 a2 (fun m _ => by (try dsimp only); grind)
            exact n1 ((LXP_smul q (fun i _ => rfl)).mp a3)
        · rw [cheap_LXP hk] at z
          refine br_t rfl (kk (nI c) (Or.inr ⟨c, by omega, rfl, c3, fun j hj pj => ?_⟩))
          by_cases e : j = i
          · subst e; exact z
          · exact c4 j (by omega) pj
    · rw [lI_lt r0 (rl i hi)] at q
      refine kk s ?_
      rcases hs with ⟨q1, q2⟩ | ⟨c, c1, c2, c3, c4⟩
      · refine Or.inl ⟨q1, fun j hj => ?_⟩
        by_cases e : j = i
        · subst e; omega
        · exact q2 j (by omega)
      · refine Or.inr ⟨c, by omega, c2, c3, fun j hj pj => ?_⟩
        by_cases e : j = i
        · subst e; omega
        · exact c4 j (by omega) pj
