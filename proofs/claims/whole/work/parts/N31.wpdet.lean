/-! the determinant's steps -/
theorem ix4 (r c : Nat) : (4 : Int32) * nI r + nI c = nI (4 * r + c) := by
  rw [show (4 : Int32) = nI 4 from rfl, pk_mul, nI_add]
theorem mn_rL {n k : Nat} (hn : n ≤ 4) {A : Nat → Nat → Int} (hA : ∀ r, r < n → ∀ c, c < n → -540 ≤ A r c ∧ A r c ≤ 540) (hk : k < n) {r c : Nat} (hr : r < n) (hc : c < n) : -2040733440000 ≤ mn k A r c ∧ mn k A r c ≤ 2040733440000 := by
  obtain ⟨h0, h1, h2, h3⟩ := mn_le hn hA hk hr hc
  rcases (by omega : k = 0 ∨ k = 1 ∨ k = 2 ∨ k = 3) with e | e | e | e
  · have := h0 e; omega
  · have := h1 e; omega
  · have := h2 e; omega
  · exact h3 e
theorem lst_mn {n k : Nat} (hn : n ≤ 4) {A : Nat → Nat → Int} (hA : ∀ r, r < n → ∀ c, c < n → -540 ≤ A r c ∧ A r c ≤ 540) (hk : k + 1 < n) {r c : Nat} (hr : r < n) (hc : c < n) : rL (lst_ k A) ∧ rL (lst_ k A * mn (k + 1) A r c) := by
  rcases (by omega : k = 0 ∨ k = 1 ∨ k = 2) with e | e | e
  · subst e
    have a := (mn_le hn hA (by omega : 1 < n) hr hc).2.1 rfl
    show rL (lst_ 0 A) ∧ rL (lst_ 0 A * mn 1 A r c)
    have l : lst_ 0 A = 1 := rfl
    rw [l]
    exact ⟨⟨by omega, by omega⟩, ⟨by omega, by omega⟩⟩
  · subst e
    have a := (mn_le hn hA (by omega : 2 < n) hr hc).2.2.1 rfl
    have b := (mn_le hn hA (by omega : 0 < n) (by omega : 0 < n) (by omega : 0 < n)).1 rfl
    show rL (lst_ 1 A) ∧ rL (lst_ 1 A * mn 2 A r c)
    have l : lst_ 1 A = mn 0 A 0 0 := rfl
    rw [l]
    have := ab_mul b.1 b.2 a.1 a.2
    exact ⟨⟨by omega, by omega⟩, ⟨by omega, by omega⟩⟩
  · subst e
    have a := (mn_le hn hA (by omega : 3 < n) hr hc).2.2.2 rfl
    have b := (mn_le hn hA (by omega : 1 < n) (by omega : 1 < n) (by omega : 1 < n)).2.1 rfl
    show rL (lst_ 2 A) ∧ rL (lst_ 2 A * mn 3 A r c)
    have l : lst_ 2 A = mn 1 A 1 1 := rfl
    rw [l]
    have := ab_mul b.1 b.2 a.1 a.2
    exact ⟨⟨by omega, by omega⟩, ⟨by omega, by omega⟩⟩
theorem sp_det132 {n k : Nat} (hk : k < n) (hn : n ≤ 4) {A : Nat → Nat → Int} (hA : ∀ r, r < n → ∀ c, c < n → -540 ≤ A r c ∧ A r c ≤ 540) {m : Nat → Int64} (hm : ∀ r c, k ≤ r → r < n → k ≤ c → c < n → m (4 * r + c) = lI (mn k A r c)) (hl : lst_ k A ≠ 0) {x2 : Int64}
    {kb : Int64 → Int64 → Int32 → (Nat → Int64) → Prop} {kx0 : Int64 → Int64 → (Nat → Int64) → Prop} {kx1 : (Nat → Int64) → Prop} {post : Int64 → (Nat → Int64) → Prop}
    (hkb : ∀ m' : Nat → Int64, (∀ r c, k + 1 ≤ r → r < n → k + 1 ≤ c → c < n → m' (4 * r + c) = lI (mn (k + 1) A r c)) → kb x2 (lI (mn k A k k)) (nI (k + 1)) m') :
    wj_X7_determinant_132 (nI n) x2 (lI (lst_ k A)) (nI k) m kb kx0 kx1 post := by
  unfold wj_X7_determinant_132
  have ekk : (4 : Int32) * nI k + nI k = nI (4 * k + k) := ix4 k k
  have ckk : (nI (4 * k + k)).toNatClampNeg = 4 * k + k := nI_clamp (by omega)
  rw [ekk, ckk, nI_1 k]
  refine pk_loop (σ := Nat → Int64) (fun q i s => wl_X7_determinant_138 (nI n) x2 (lI (lst_ k A)) (nI k) _ post q (nI i) s) (fun i s => k + 1 ≤ i ∧ ∀ a b, a < 4 → b < 4 → s (4 * a + b) = if k + 1 ≤ a ∧ a < i ∧ k + 1 ≤ b ∧ b < n then lI (mn (k + 1) A a b) else m (4 * a + b)) n (k + 1) m (by omega) ⟨Nat.le_refl _, fun a b _ _ => by rw [if_neg (by omega)]⟩ (fun q s hs => ?_) (fun q i s hi hs kk => ?_)
  · show ws_X7_determinant_138 _ _ _ _ _ _ _ _ _
    unfold ws_X7_determinant_138
    refine br_t (nI_le (Nat.le_refl n) (by omega)) ⟨vp_in_nI (by omega) (by omega), ?_⟩
    rw [hs.2 k k (by omega) (by omega), if_neg (by omega), hm k k (by omega) hk (by omega) hk]
    refine hkb s (fun r c r1 r2 c1 c2 => ?_)
    rw [hs.2 r c (by omega) (by omega), if_pos ⟨r1, r2, c1, c2⟩]
  · show ws_X7_determinant_138 _ _ _ _ _ _ _ _ _
    unfold ws_X7_determinant_138
    refine br_f (nI_ge hi (by omega)) ?_
    rw [nI_1 k, nI_1 i]
    refine pk_loop (σ := Nat → Int64) (fun q j u => wl_X7_determinant_150 (nI n) x2 (lI (lst_ k A)) (nI k) (nI i) _ post q (nI j) u) (fun j u => k + 1 ≤ j ∧ ∀ a b, a < 4 → b < 4 → u (4 * a + b) = if a = i ∧ k + 1 ≤ b ∧ b < j then lI (mn (k + 1) A a b) else s (4 * a + b)) n (k + 1) s (by omega) ⟨Nat.le_refl _, fun a b _ _ => by rw [if_neg (by omega)]⟩ (fun q u hu => ?_) (fun q j u hj hu k2 => ?_)
    · show ws_X7_determinant_150 _ _ _ _ _ _ _ _ _ _
      unfold ws_X7_determinant_150
      refine br_t (nI_le (Nat.le_refl n) (by omega)) (kk u ⟨by omega, fun a b ha hb => ?_⟩)
      rw [hu.2 a b ha hb]
      by_cases e : a = i
      · subst e
        by_cases g : k + 1 ≤ b ∧ b < n
        · rw [if_pos ⟨rfl, g⟩, if_pos (by omega)]
        · rw [if_neg (by omega), if_neg (by omega), hs.2 a b ha hb, if_neg (by omega)]
      · rw [if_neg (by omega), hs.2 a b ha hb]
        by_cases g : k + 1 ≤ a ∧ a < i ∧ k + 1 ≤ b ∧ b < n
        · rw [if_pos g, if_pos (by omega)]
        · rw [if_neg g, if_neg (by omega)]
    · show ws_X7_determinant_150 _ _ _ _ _ _ _ _ _ _
      unfold ws_X7_determinant_150
      have k1 := hs.1
      have k1' := hu.1
      have c1 : (nI (4 * i + j)).toNatClampNeg = 4 * i + j := nI_clamp (by omega)
      have c2 : (nI (4 * i + k)).toNatClampNeg = 4 * i + k := nI_clamp (by omega)
      have c3 : (nI (4 * k + j)).toNatClampNeg = 4 * k + j := nI_clamp (by omega)
      have u1 : u (4 * i + j) = lI (mn k A i j) := by
        rw [hu.2 i j (by omega) (by omega), if_neg (by omega), hs.2 i j (by omega) (by omega), if_neg (by omega)]
        exact hm i j (by omega) hi (by omega) hj
      have u2 : u (4 * i + k) = lI (mn k A i k) := by
        rw [hu.2 i k (by omega) (by omega), if_neg (by omega), hs.2 i k (by omega) (by omega), if_neg (by omega)]
        exact hm i k (by omega) hi (by omega) hk
      have u3 : u (4 * k + j) = lI (mn k A k j) := by
        rw [hu.2 k j (by omega) (by omega), if_neg (by omega), hs.2 k j (by omega) (by omega), if_neg (by omega)]
        exact hm k j (by omega) hk (by omega) hj
      have u4 : u (4 * k + k) = lI (mn k A k k) := by
        rw [hu.2 k k (by omega) (by omega), if_neg (by omega), hs.2 k k (by omega) (by omega), if_neg (by omega)]
        exact hm k k (by omega) hk (by omega) hk
      obtain ⟨l1, l2⟩ := lst_mn hn hA (by omega : k + 1 < n) hi hj
      refine br_f (nI_ge hj (by omega)) ?_
      rw [ix4, ix4, ix4, ix4, c1, c2, c3, ckk, u1, u2, u3, u4, nI_1 j]
      refine ⟨vp_in_nI (by omega) (by omega), vp_in_nI (by omega) (by omega), vp_in_nI (by omega) (by omega), vp_in_nI (by omega) (by omega), ?_, ?_⟩
      · rw [lI_0, lI_eq l1 ⟨by omega, by omega⟩]
        exact hl
      · have dv : (lI (mn k A i j) * lI (mn k A k k) - lI (mn k A i k) * lI (mn k A k j)) / lI (lst_ k A) = lI (mn (k + 1) A i j) := by
          rw [lI_mul, lI_mul, lI_sub, ← bareiss (by omega) A i j]
          exact lI_exact hl l2 l1
        rw [dv]
        intro v hv
        refine k2 _ ⟨by omega, fun a b ha hb => ?_⟩
        by_cases e : a = i ∧ b = j
        · rw [e.1, e.2, pk_uLs, if_pos (by omega)]
          exact hv
        · rw [pk_uLn (by omega), hu.2 a b ha hb]
          by_cases g : a = i ∧ k + 1 ≤ b ∧ b < j
          · rw [if_pos g, if_pos (by omega)]
          · rw [if_neg g, if_neg (by omega)]
theorem sp_determinant {n : Nat} (h1 : 1 ≤ n) (hn : n ≤ 4) {A : Nat → Nat → Int} (hA : ∀ r, r < n → ∀ c, c < n → -540 ≤ A r c ∧ A r c ≤ 540) {m : Nat → Int64} (hm : ∀ r, r < n → ∀ c, c < n → m (4 * r + c) = lI (A r c)) {post : Int64 → (Nat → Int64) → Prop} (hpost : ∀ u, post (lI (DET n A)) u) : wp_X7_determinant m (nI n) post := by
  unfold wp_X7_determinant
  refine pk_loop (σ := Int64 × Int64 × (Nat → Int64)) (fun q i s => wl_X7_determinant_8 (nI n) _ _ post q s.1 s.2.1 (nI i) s.2.2) (fun k s => ∃ (A' : Nat → Nat → Int) (sg : Int), (sg = 1 ∨ sg = -1) ∧ s.1 = lI sg ∧ sg * DET n A' = DET n A ∧ (∀ r, r < n → ∀ c, c < n → -540 ≤ A' r c ∧ A' r c ≤ 540) ∧ s.2.1 = lI (lst_ k A') ∧ lst_ k A' ≠ 0 ∧ ∀ r c, k ≤ r → r < n → k ≤ c → c < n → s.2.2 (4 * r + c) = lI (mn k A' r c)) n 0 (1, 1, m) (Nat.zero_le _)
    ⟨A, 1, Or.inl rfl, rfl, by omega, hA, rfl, (show (1 : Int) ≠ 0 by decide), fun r c _ hr _ hc => hm r hr c hc⟩ (fun q s hs => ?_) (fun q k s hk hs kk => ?_)
  · show ws_X7_determinant_8 _ _ _ _ _ _ _ _ _
    unfold ws_X7_determinant_8
    refine br_t (nI_le (Nat.le_refl n) (by omega)) ?_
    obtain ⟨A', sg, g1, g2, g3, g4, g5, g6, g7⟩ := hs
    rw [g2, g5, lI_mul]
    have e : lst_ n A' = DET n A' := by
      rw [DET_mn h1 hn]
      unfold lst_
      rw [if_neg (by omega)]
    rw [e, g3]
    exact hpost _
  · show ws_X7_determinant_8 _ _ _ _ _ _ _ _ _
    unfold ws_X7_determinant_8
    obtain ⟨A', sg, g1, g2, g3, g4, g5, g6, g7⟩ := hs
    obtain ⟨s1, s2, s3⟩ := s
    dsimp only at g2 g5 g7 ⊢
    subst g2
    subst g5
    refine br_f (nI_ge hk (by omega)) ?_
    refine pk_loop (σ := Unit) (fun q p _ => wl_X7_determinant_18 (nI n) (lI sg) (lI (lst_ k A')) (nI k) s3 _ post q (nI p)) (fun p _ => k ≤ p ∧ ∀ r, k ≤ r → r < p → mn k A' r k = 0) n k () (by omega) ⟨Nat.le_refl k, fun r a b => by omega⟩ (fun q _ hz => ?_) (fun q p _ hp hz k3 => ?_)
    · show ws_X7_determinant_18 _ _ _ _ _ _ _ _ _
      unfold ws_X7_determinant_18
      refine br_t (nI_le (Nat.le_refl n) (by omega)) ?_
      unfold wj_X7_determinant_47
      refine br_t rfl ?_
      have z := DET_zero hn hk A' g6 hz.2
      rw [z, Int.mul_zero] at g3
      have := hpost s3
      rw [← g3] at this
      exact this
    · show ws_X7_determinant_18 _ _ _ _ _ _ _ _ _
      unfold ws_X7_determinant_18
      have c1 : (nI (4 * p + k)).toNatClampNeg = 4 * p + k := nI_clamp (by omega)
      have b := mn_rL hn g4 hk hp hk
      refine br_f (nI_ge hp (by omega)) ?_
      rw [ix4 p k, c1, g7 p k hz.1 hp (by omega) hk, nI_1 p]
      refine ⟨vp_in_nI (by omega) (by omega), br_c (fun z => ?_) (fun z => ?_)⟩
      · rw [lI_0, lI_eq ⟨by omega, by omega⟩ ⟨by omega, by omega⟩] at z
        refine k3 () ⟨by omega, fun r a b => ?_⟩
        by_cases e : r = p
        · subst e; exact z
        · exact hz.2 r a (by omega)
      · rw [lI_0, lI_eq ⟨by omega, by omega⟩ ⟨by omega, by omega⟩] at z
        unfold wj_X7_determinant_47
        refine br_f (by rw [nI_eq (by omega) (by omega)]; omega) ?_
        have lnext : ∀ B : Nat → Nat → Int, lst_ (k + 1) B = mn k B k k := fun B => by
          unfold lst_
          rw [if_neg (by omega)]
          rfl
        by_cases e : p = k
        · subst e
          refine br_t rfl ?_
          refine sp_det132 hk hn g4 g7 g6 (fun m' hm' => kk (lI sg, lI (mn p A' p p), m') ⟨A', sg, g1, rfl, g3, g4, by rw [lnext], by rw [lnext]; exact z, hm'⟩)
        · refine br_f (by rw [nI_eq (by omega) (by omega)]; exact e) ?_
          refine pk_loop (σ := Nat → Int64) (fun q i u => wl_X7_determinant_65 (nI n) (lI sg) (lI (lst_ k A')) (nI k) (nI p) _ post q (nI i) u) (fun i u => ∀ a b, a < 4 → b < 4 → u (4 * a + b) = if b < i then (if a = k then s3 (4 * p + b) else if a = p then s3 (4 * k + b) else s3 (4 * a + b)) else s3 (4 * a + b)) n 0 s3 (Nat.zero_le _) (fun a b _ _ => by rw [if_neg (by omega)]) (fun q u hu => ?_) (fun q i u hi hu k4 => ?_)
          · show ws_X7_determinant_65 _ _ _ _ _ _ _ _ _ _
            unfold ws_X7_determinant_65
            refine br_t (nI_le (Nat.le_refl n) (by omega)) ?_
            have kp : k < p := by have := hz.1; omega
            have ls := lst_swp (by omega) kp A'
            have gs : ∀ r, r < n → ∀ c, c < n → -540 ≤ swp A' k p r c ∧ swp A' k p r c ≤ 540 := fun r hr c hc => by
              unfold swp
              split
              · exact g4 p hp c hc
              · split
                · exact g4 k hk c hc
                · exact g4 r hr c hc
            have hkk : mn k (swp A' k p) k k = mn k A' p k := by rw [mn_swp (by omega) kp, if_pos rfl]
            rw [← ls, lI_neg]
            refine sp_det132 hk hn gs (fun r c r1 r2 c1 c2 => ?_) (by rw [ls]; exact g6) (fun m' hm' => kk (lI (-sg), lI (mn k (swp A' k p) k k), m') ⟨swp A' k p, -sg, by omega, rfl, ?_, gs, by rw [lnext], by rw [lnext, hkk]; exact z, hm'⟩)
            · rw [hu r c (by omega) (by omega), if_pos c2, mn_swp (by omega) kp]
              by_cases e1 : r = k
              · rw [if_pos e1, if_pos e1]
                exact g7 p c (by omega) hp c1 c2
              · rw [if_neg e1, if_neg e1]
                by_cases e2 : r = p
                · rw [if_pos e2, if_pos e2]
                  exact g7 k c (by omega) hk c1 c2
                · rw [if_neg e2, if_neg e2]
                  exact g7 r c r1 r2 c1 c2
            · rw [DET_swp hn kp hp, ← g3]
              grind
          · show ws_X7_determinant_65 _ _ _ _ _ _ _ _ _ _
            unfold ws_X7_determinant_65
            have d1 : (nI (4 * p + i)).toNatClampNeg = 4 * p + i := nI_clamp (by omega)
            have d2 : (nI (4 * k + i)).toNatClampNeg = 4 * k + i := nI_clamp (by omega)
            refine br_f (nI_ge hi (by omega)) ?_
            rw [ix4 p i, ix4 k i, d1, d2, nI_1 i]
            refine ⟨vp_in_nI (by omega) (by omega), vp_in_nI (by omega) (by omega), fun y1 e1 y2 e2 => ?_⟩
            refine k4 y2 (fun a b ha hb => ?_)
            have o1 := hu p i (by omega) (by omega)
            have o2 := hu k i (by omega) (by omega)
            rw [if_neg (by omega)] at o1 o2
            rw [e2]
            by_cases q1 : a = k ∧ b = i
            · rw [q1.1, q1.2, pk_uLs, if_pos (by omega), if_pos rfl]
              exact o1
            · rw [pk_uLn (by omega), e1]
              by_cases q2 : a = p ∧ b = i
              · rw [q2.1, q2.2, pk_uLs, if_pos (by omega), if_neg e, if_pos rfl]
                exact o2
              · rw [pk_uLn (by omega), hu a b ha hb]
                by_cases q3 : b < i
                · rw [if_pos q3, if_pos (by omega : b < i + 1)]
                · rw [if_neg q3]
                  by_cases q4 : b < i + 1
                  · rw [if_pos q4, if_neg (by omega), if_neg (by omega)]
                  · rw [if_neg q4]
/-! a system solved -/
theorem sp_solved {n : Nat} (hn : n ≤ 4) {A : Nat → Nat → Int} {rg : Nat → Int} {c0 : Int} (hc0 : c0 = -1 ∨ (0 ≤ c0 ∧ c0 < n)) {row right m : Nat → Int64} (hA : ∀ r, r < n → ∀ c, c < n → row (4 * r + c) = lI (A r c) ∧ -540 ≤ A r c ∧ A r c ≤ 540) (hr : ∀ r, r < n → right r = lI (rg r) ∧ -540 ≤ rg r ∧ rg r ≤ 540) {post : Int64 → (Nat → Int64) → Prop}
    (hpost : ∀ u, post (lI (DET n (fun r c => if (c : Int) = c0 then rg r else A r c))) u) : wp_X7_solved row right m (nI n) (iI c0) post := by
  have rc : rI c0 := ⟨by omega, by omega⟩
  unfold wp_X7_solved
  refine pk_loop (σ := Nat → Int64) (fun q i s => wl_X7_solved_2 (nI n) (iI c0) row right _ post q (nI i) s) (fun i s => ∀ r, r < i → ∀ c, c < n → s (4 * r + c) = lI (if (c : Int) = c0 then rg r else A r c)) n 0 m (Nat.zero_le _) (fun r hr => by omega) (fun q s hs => ?_) (fun q i s hi hs kk => ?_)
  · show ws_X7_solved_2 _ _ _ _ _ _ _ _ _
    unfold ws_X7_solved_2
    refine br_t (nI_le (Nat.le_refl n) (by omega)) ?_
    by_cases z : n = 0
    · subst z
      refine br_t rfl ?_
      have e : DET 0 (fun r c => if (c : Int) = c0 then rg r else A r c) = 1 := by
        simp [DET, dt, D4, PA]
      have := hpost s
      rw [e] at this
      exact this
    · refine br_f (nI_ne0 (by omega) (by omega)) (sp_determinant (by omega) hn (fun r hr' c hc => ?_) (fun r hr' c hc => hs r hr' c hc) hpost)
      (try dsimp only)
      split
      · exact (hr r hr').2
      · exact (hA r hr' c hc).2
  · show ws_X7_solved_2 _ _ _ _ _ _ _ _ _
    unfold ws_X7_solved_2
    refine br_f (nI_ge hi (by omega)) ?_
    rw [nI_1 i]
    refine pk_loop (σ := Nat → Int64) (fun q j u => wl_X7_solved_10 (nI n) (iI c0) (nI i) row right _ post q (nI j) u) (fun j u => (∀ r, r < i → ∀ c, c < n → u (4 * r + c) = lI (if (c : Int) = c0 then rg r else A r c)) ∧ ∀ c, c < j → u (4 * i + c) = lI (if (c : Int) = c0 then rg i else A i c)) n 0 s (Nat.zero_le _) ⟨hs, fun c hc => by omega⟩ (fun q u hu => ?_) (fun q j u hj hu k2 => ?_)
    · show ws_X7_solved_10 _ _ _ _ _ _ _ _ _ _
      unfold ws_X7_solved_10
      refine br_t (nI_le (Nat.le_refl n) (by omega)) (kk u (fun r hr' c hc => ?_))
      by_cases e : r = i
      · subst e; exact hu.2 c hc
      · exact hu.1 r (by omega) c hc
    · show ws_X7_solved_10 _ _ _ _ _ _ _ _ _ _
      unfold ws_X7_solved_10
      have c1 : (nI (4 * i + j)).toNatClampNeg = 4 * i + j := nI_clamp (by omega)
      have c2 : (nI i).toNatClampNeg = i := nI_clamp (by omega)
      have c3 : nI j = iI (j : Int) := nI_iI j
      have nxt : ∀ (v : Int64), v = lI (if (j : Int) = c0 then rg i else A i j) → (∀ r, r < i → ∀ c, c < n → vp_updL u (4 * i + j) v (4 * r + c) = lI (if (c : Int) = c0 then rg r else A r c)) ∧ ∀ c, c < j + 1 → vp_updL u (4 * i + j) v (4 * i + c) = lI (if (c : Int) = c0 then rg i else A i c) := fun v hv => by
        refine ⟨fun r hr' c hc => ?_, fun c hc => ?_⟩
        · rw [pk_uLn (by omega)]
          exact hu.1 r hr' c hc
        · by_cases e : c = j
          · subst e
            rw [pk_uLs]
            exact hv
          · rw [pk_uLn (by omega)]
            exact hu.2 c (by omega)
      refine br_f (nI_ge hj (by omega)) ?_
      rw [ix4 i j]
      refine br_c (fun z => ?_) (fun z => ?_)
      · rw [c3, iI_eq ⟨by omega, by omega⟩ rc] at z
        refine ⟨vp_in_nI (by omega) (by omega), ?_⟩
        unfold wj_X7_solved_52
        rw [c1, c2, nI_1 j]
        exact ⟨vp_in_nI (by omega) (by omega), k2 _ (nxt _ (by rw [if_pos z]; exact (hr i hi).1))⟩
      · rw [c3, iI_eq ⟨by omega, by omega⟩ rc] at z
        refine ⟨vp_in_nI (by omega) (by omega), ?_⟩
        unfold wj_X7_solved_52
        rw [c1, nI_1 j]
        exact ⟨vp_in_nI (by omega) (by omega), k2 _ (nxt _ (by rw [if_neg z]; exact (hA i hi j hj).1))⟩
