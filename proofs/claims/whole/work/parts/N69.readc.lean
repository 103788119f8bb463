/-! the class reads a table: the loop of the items -/
section RDC
variable {L : Nat} {τ : Nat → Int} {t : Nat → Int32} {told lst : Nat → Bool} {lim : Nat → Int} {nW : Nat} {V kd M' : Nat → Int} {us : Nat → Nat → Int} {wi : Int32} {it le gof li va kn mo wo : Nat → Int32} {u : Nat → Nat → Int32} {row : Nat → Int}
theorem sp_read (B : TB L τ t) {lst0 : Nat → Bool} (T0 : ∀ i' g', (∀ l, l < 5 → i' l = 0) → (∀ l, l < 5 → g' l = 0) → TD (fun _ => false) lst0 lim 0 V kd M' us 0 i' le g' li va kn mo wo u) {x0 x1 x2 x3 : Int32} {post : Int32 → Int32 → Int32 → Int32 → Int32 → Int32 → (Nat → Int32) → (Nat → Int32) → (Nat → Int32) → (Nat → Int32) → (Nat → Int32) → (Nat → Int32) → (Nat → Int32) → (Nat → Int32) → (Nat → Nat → Int32) → Prop}
    (h0 : ∀ s y1 y2 y3 y4 told' lst' lim' nW' V' kd' M'' us' wi' it' le' gof' li' va' kn' mo' wo' u', rI' L τ 301 0 0 (fun _ => false) lst0 lim 0 V kd M' us = .inl s → s ≤ 300 → TD told' lst' lim' nW' V' kd' M'' us' wi' it' le' gof' li' va' kn' mo' wo' u' → post (-10 - nI s) y1 y2 y3 y4 wi' it' le' gof' li' va' kn' mo' wo' u')
    (h1 : ∀ k y1 y2 y3 y4 told' lst' lim' nW' V' kd' M'' us' wi' it' le' gof' li' va' kn' mo' wo' u', rI' L τ 301 0 0 (fun _ => false) lst0 lim 0 V kd M' us = .inr (k, told', lst', lim', nW', V', kd', M'', us') → k ≤ 300 → TD told' lst' lim' nW' V' kd' M'' us' wi' it' le' gof' li' va' kn' mo' wo' u' → post (nI k) y1 y2 y3 y4 wi' it' le' gof' li' va' kn' mo' wo' u') :
    wp_X3_read (nI L) x0 x1 x2 x3 t wi it le gof li va kn mo wo u post := by
  have hL := B.1
  generalize hO : rI' L τ 301 0 0 (fun _ => false) lst0 lim 0 V kd M' us = O at h0 h1
  unfold wp_X3_read
  refine sp_empty (fun i0 g0 hi0 hg0 => ?_)
  refine pk_loop (σ := Int32 × Int32 × Int32 × Int32 × Int32 × (Nat → Int32) × (Nat → Int32) × (Nat → Int32) × (Nat → Int32) × (Nat → Int32) × (Nat → Int32) × (Nat → Int32) × (Nat → Int32) × (Nat → Nat → Int32))
    (fun n i s => wl_X3_read_11 (nI L) t _ _ _ post n (nI i) s.1 s.2.1 s.2.2.1 s.2.2.2.1 s.2.2.2.2.1 s.2.2.2.2.2.1 s.2.2.2.2.2.2.1 s.2.2.2.2.2.2.2.1 s.2.2.2.2.2.2.2.2.1 s.2.2.2.2.2.2.2.2.2.1 s.2.2.2.2.2.2.2.2.2.2.1 s.2.2.2.2.2.2.2.2.2.2.2.1 s.2.2.2.2.2.2.2.2.2.2.2.2.1 s.2.2.2.2.2.2.2.2.2.2.2.2.2)
    (fun i s => ∃ a told' lst' lim' nW' V' kd' M'' us', s.1 = nI a ∧ i ≤ a ∧ a ≤ L ∧ TD told' lst' lim' nW' V' kd' M'' us' s.2.2.2.2.1 s.2.2.2.2.2.1 s.2.2.2.2.2.2.1 s.2.2.2.2.2.2.2.1 s.2.2.2.2.2.2.2.2.1 s.2.2.2.2.2.2.2.2.2.1 s.2.2.2.2.2.2.2.2.2.2.1 s.2.2.2.2.2.2.2.2.2.2.2.1 s.2.2.2.2.2.2.2.2.2.2.2.2.1 s.2.2.2.2.2.2.2.2.2.2.2.2.2 ∧ O = rI' L τ (301 - i) i a told' lst' lim' nW' V' kd' M'' us')
    301 0 (0, x1, x2, x3, 0, i0, le, g0, li, va, kn, mo, wo, u) (by omega) ⟨0, _, _, _, _, _, _, _, _, rfl, Nat.le_refl _, Nat.zero_le _, T0 i0 g0 hi0 hg0, hO.symm⟩ (fun n s hs => ?_) (fun n i s hi hs kk => ?_)
  · obtain ⟨a, _, _, _, _, _, _, _, _, _, a1, a2, _⟩ := hs
    omega
  · obtain ⟨y0, y1, y2, y3, wi, it, le, gof, li, va, kn, mo, wo, u⟩ := s
    obtain ⟨a, told, lst, lim, nW, V, kd, M', us, e0, ia, aL, T, eO⟩ := hs
    (try dsimp only at e0 T)
    subst e0
    clear T0 hi0 hg0 hO
    show ws_X3_read_11 _ _ _ _ _ _ _ _ _ _ _ _ _ _ _ _ _ _ _ _ _ _
    unfold ws_X3_read_11
    dsimp only
    obtain ⟨s1, s2, s3, s4, s5, s6, s7, s8⟩ := tk_sure (τ := τ) aL
    refine br_f (show ¬ nI 300 < nI i from fun q => by rw [nI_ltI (by omega) (by omega)] at q; omega) ?_
    rw [show 301 - i = (300 - i) + 1 by omega] at eO
    unfold rI' at eO
    refine sp_nextC B aL (fun z hz => ?_)
    rw [show (0 : Int32) = nI 0 from rfl, show (5 : Int32) = nI 5 from rfl, show (6 : Int32) = nI 6 from rfl, nI_eq (by omega) (by omega), nI_eq (by omega) (by omega), nI_eq (by omega) (by omega)]
    refine br_c (fun c => ?_) (fun c => ?_)
    · rw [if_pos c] at eO
      exact h1 _ _ _ _ _ _ _ _ _ _ _ _ _ _ _ _ _ _ _ _ _ _ _ eO (by omega) T
    rw [if_neg c] at eO
    have lt := s5 c
    refine br_c (fun d => ?_) (fun d => ?_)
    · rw [if_pos d] at eO
      unfold wj_X3_read_77
      refine sp_readsGate B T (by omega) (fun s w1 w2 w3 g sl => br_t rfl ?_) (fun l b n' e g l1 l2 w2 w3 w4 i' l' g' m' T' => br_f (by decide) ?_)
      · rw [g] at eO
        exact h0 _ _ _ _ _ _ _ _ _ _ _ _ _ _ _ _ _ _ _ _ _ _ _ eO (by omega) T
      · rw [g] at eO
        rw [nI_1 i]
        exact kk (nI e, w2, w3, w4, wi, i', l', g', m', va, kn, mo, wo, u) ⟨e, _, _, _, _, _, _, _, _, rfl, by omega, l2, T', by rw [eO, show 301 - (i + 1) = 300 - i by omega]⟩
    · rw [if_neg d] at eO
      refine br_c (fun f => ?_) (fun f => ?_)
      · unfold wj_X3_read_77
        refine sp_readsWish B T (by omega) (fun n4 => br_t rfl (br_t rfl ?_)) (fun n4 s w1 w2 w3 g sl => br_t rfl (br_t rfl ?_)) (fun n4 m1 m2 m3 m4 m5 w2 w3 w4 va' kn' mo' wo' u' T' => br_f (by decide) ?_)
        · rw [if_neg (fun q => n4 q.2)] at eO
          exact h0 _ _ _ _ _ _ _ _ _ _ _ _ _ _ _ _ _ _ _ _ _ _ _ eO (by omega) T
        · rw [if_pos ⟨f, n4⟩, g] at eO
          exact h0 _ _ _ _ _ _ _ _ _ _ _ _ _ _ _ _ _ _ _ _ _ _ _ eO (by omega) T
        · rw [if_pos ⟨f, n4⟩] at eO
          have eW : wsI L τ told (te L τ a) = uI L τ told 6 (te L τ (te L τ (te L τ (te L τ a)))) (fun _ => 0) := by
            unfold wsI
            rw [if_pos m1, if_pos m2, if_pos m3]
          rw [eW] at eO
          refine sp_readsUses B n4 T' m4 (fun s row w1 w2 w3 u2 g sl T2 => br_t rfl (br_t rfl ?_)) (fun e row w2 w3 w4 u2 g l1 l2 T2 => br_f (by decide) (br_f (by decide) ?_))
          · rw [g] at eO
            exact h0 _ _ _ _ _ _ _ _ _ _ _ _ _ _ _ _ _ _ _ _ _ _ _ eO (by omega) T2
          · rw [g] at eO
            rw [nI_1 i]
            exact kk (nI e, w2, w3, w4, nI (nW + 1), it, le, gof, li, va', kn', mo', wo', u2) ⟨e, _, _, _, _, _, _, _, _, rfl, by omega, l2, T2, by rw [eO, show 301 - (i + 1) = 300 - i by omega]⟩
      · unfold wj_X3_read_77
        rw [if_neg (fun q => f q.1)] at eO
        exact br_t rfl (h0 _ _ _ _ _ _ _ _ _ _ _ _ _ _ _ _ _ _ _ _ _ _ _ eO (by omega) T)
end RDC
