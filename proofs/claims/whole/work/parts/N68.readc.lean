/-! the class reads a table: wishes, uses, all items -/
theorem msI (M : Nat → Nat → Int32) (k j : Nat) (x : Int32) (i l : Nat) : msetI M k j x i l = if i = k ∧ l = j then x else M i l := by
  show va_up M k (upd (M k) j x) i l = _
  by_cases h : i = k
  · subst h
    rw [va_up_self]
    by_cases g : l = j
    · subst g
      rw [pk_us, if_pos ⟨rfl, rfl⟩]
    · rw [pk_un g, if_neg (fun z => g z.2)]
  · rw [va_up_ne _ _ h, if_neg (fun z => h z.1)]
theorem sp_fillI {n : Nat} (hn : n < 1000) {p0 : Nat → Int32} {v : Int32} {post : (Nat → Int32) → Prop} (h : ∀ u : Nat → Int32, (∀ j, j < n → u j = v) → (∀ j, n ≤ j → u j = p0 j) → post u) : wp_J7_fill_53178 n p0 v post := by
  unfold wp_J7_fill_53178
  refine pk_loop (σ := Nat → Int32) (fun m i s => wl_J7_fill_53178_5 n v (Int32.ofNat n) (fun p => post p) post m (nI i) s) (fun i u => (∀ j, j < i → u j = v) ∧ ∀ j, i ≤ j → u j = p0 j) n 0 p0 (Nat.zero_le _) ⟨fun j hj => absurd hj (Nat.not_lt_zero j), fun j _ => rfl⟩ (fun m s hs => ?_) (fun m i s hi hs k => ?_)
  · show ws_J7_fill_53178_5 _ _ _ _ _ _ _ _
    unfold ws_J7_fill_53178_5
    exact br_t (nI_le (Nat.le_refl n) (by omega)) (h s hs.1 hs.2)
  · show ws_J7_fill_53178_5 _ _ _ _ _ _ _ _
    unfold ws_J7_fill_53178_5
    refine br_f (nI_ge hi (by omega)) ⟨vp_in_nI hi (by omega), ?_⟩
    rw [nI_1, nI_clamp (by omega)]
    refine k _ ⟨fun j hj => ?_, fun j hj => ?_⟩
    · by_cases e : j = i
      · subst e; exact pk_us ..
      · rw [pk_un e]; exact hs.1 j (by omega)
    · rw [pk_un (by omega)]; exact hs.2 j (by omega)
/-- how many letters have a use -/
def cU (row : Nat → Int) : Nat := (if row 0 = 0 then 0 else 1) + (if row 1 = 0 then 0 else 1) + (if row 2 = 0 then 0 else 1) + (if row 3 = 0 then 0 else 1) + (if row 4 = 0 then 0 else 1)
theorem cU_le (row : Nat → Int) : cU row ≤ 5 := by
  unfold cU
  have q : ∀ x : Int, (if x = 0 then (0 : Nat) else 1) ≤ 1 := fun x => by split <;> omega
  have := q (row 0); have := q (row 1); have := q (row 2); have := q (row 3); have := q (row 4)
  omega
theorem cU_up {row : Nat → Int} {l : Nat} {x : Int} (hl : l < 5) (h : row l = 0) (hx : x ≠ 0) : cU (up1 row l x) = cU row + 1 := by
  unfold cU
  rcases (by omega : l = 0 ∨ l = 1 ∨ l = 2 ∨ l = 3 ∨ l = 4) with rfl | rfl | rfl | rfl | rfl
  · rw [up1_s, up1_n (by decide), up1_n (by decide), up1_n (by decide), up1_n (by decide), if_pos h, if_neg hx]; try omega
  · rw [up1_s, up1_n (by decide), up1_n (by decide), up1_n (by decide), up1_n (by decide), if_pos h, if_neg hx]; try omega
  · rw [up1_s, up1_n (by decide), up1_n (by decide), up1_n (by decide), up1_n (by decide), if_pos h, if_neg hx]; try omega
  · rw [up1_s, up1_n (by decide), up1_n (by decide), up1_n (by decide), up1_n (by decide), if_pos h, if_neg hx]; try omega
  · rw [up1_s, up1_n (by decide), up1_n (by decide), up1_n (by decide), up1_n (by decide), if_pos h, if_neg hx]; try omega
section RDC
variable {L : Nat} {τ : Nat → Int} {t : Nat → Int32} {told lst : Nat → Bool} {lim : Nat → Int} {nW : Nat} {V kd M' : Nat → Int} {us : Nat → Nat → Int} {wi : Int32} {it le gof li va kn mo wo : Nat → Int32} {u : Nat → Nat → Int32} {row : Nat → Int}
theorem TD_use (hn : nW < 4) (T : TD told lst lim (nW + 1) V kd M' (up1 us nW row) wi it le gof li va kn mo wo u) {l : Nat} (hl : l < 5) (hd : told l = true) {x : Int} (x0 : 0 ≤ x) (x9 : x ≤ 9) : TD told lst lim (nW + 1) V kd M' (up1 us nW (up1 row l x)) wi it le gof li va kn mo wo (msetI u nW l (iI x)) := by
  obtain ⟨⟨t1, t2, t3, t4, t5⟩, t6⟩ := T
  refine ⟨⟨t1, t2, t3, fun w hw => ?_, fun w hw i hi nt => ?_⟩, t6⟩
  · obtain ⟨a1, a2, a3, a4, a5, a6, a7, a8, a9, a10, a11⟩ := t4 w hw
    refine ⟨a1, a2, a3, a4, a5, a6, a7, a8, a9, a10, fun i hi => ?_⟩
    rw [msI]
    have b := a11 i hi
    by_cases e : w = nW
    · subst e
      rw [up1_s] at b ⊢
      by_cases q : i = l
      · subst q
        rw [if_pos ⟨rfl, rfl⟩, up1_s]
        exact ⟨rfl, x0, x9⟩
      · rw [if_neg (fun z => q z.2), up1_n q]
        exact b
    · rw [if_neg (fun z => e z.1)]
      rw [up1_n e] at b ⊢
      exact b
  · have b := t5 w hw i hi nt
    by_cases e : w = nW
    · subst e
      rw [up1_s] at b ⊢
      by_cases q : i = l
      · subst q
        exact absurd hd nt
      · rw [up1_n q]
        exact b
    · rw [up1_n e] at b ⊢
      exact b
theorem sp_readsUses (B : TB L τ t) (hn : nW < 4) (T : TD told lst lim (nW + 1) V kd M' (up1 us nW (fun _ => 0)) wi it le gof li va kn mo wo u) {x1 x2 x3 : Int32} {a : Nat} (ha : a ≤ L) {post : Int32 → Int32 → Int32 → Int32 → Int32 → (Nat → Nat → Int32) → Prop} (h0 : ∀ s row y1 y2 y3 u', uI L τ told 6 a (fun _ => 0) = .inl s → s ≤ 300 → TD told lst lim (nW + 1) V kd M' (up1 us nW row) wi it le gof li va kn mo wo u' → post 0 y1 (nI s) y2 y3 u') (h1 : ∀ e row y2 y3 y4 u', uI L τ told 6 a (fun _ => 0) = .inr (e, row) → a < e → e ≤ L → TD told lst lim (nW + 1) V kd M' (up1 us nW row) wi it le gof li va kn mo wo u' → post 1 (nI e) y2 y3 y4 u') : wp_X3_readsUses (nI L) (nI a) x1 x2 x3 t (nI (nW + 1)) it u post := by
  have hL := B.1
  generalize hO : uI L τ told 6 a (fun _ => 0) = O at h0 h1
  unfold wp_X3_readsUses
  rw [show (nI (nW + 1) - (1 : Int32)) = nI nW from nI_p1 nW]
  refine br_t (nI_le (a := 1) (by omega) (by omega)) ⟨vp_in_nI hn (by omega), ?_⟩
  refine pk_loop (σ := Int32 × Int32 × Int32 × Int32 × (Nat → Nat → Int32)) (fun n i s => wl_X3_readsUses_24 (nI nW) (nI L) t (nI (nW + 1)) it _ _ _ _ post n (nI i) s.1 s.2.1 s.2.2.1 s.2.2.2.1 s.2.2.2.2) (fun i s => ∃ b row, s.1 = nI b ∧ a ≤ b ∧ b ≤ L ∧ cU row = i ∧ TD told lst lim (nW + 1) V kd M' (up1 us nW row) wi it le gof li va kn mo wo s.2.2.2.2 ∧ O = uI L τ told (6 - i) b row) 6 0 (nI a, x1, x2, x3, u) (by omega) ⟨a, fun _ => 0, rfl, Nat.le_refl _, ha, rfl, T, hO.symm⟩ (fun n s hs => ?_) (fun n i s hi hs kk => ?_)
  · obtain ⟨b, row, _, _, _, c, _⟩ := hs
    have := cU_le row
    omega
  · obtain ⟨y0, y1, y2, y3, u'⟩ := s
    obtain ⟨b, row, e0, ab, bL, ec, T', eU⟩ := hs
    (try dsimp only at e0 T')
    subst e0
    have cU' := cU_le row
    show ws_X3_readsUses_24 _ _ _ _ _ _ _ _ _ _ _ _ _ _ _ _ _
    unfold ws_X3_readsUses_24
    obtain ⟨s1, s2, s3, s4, s5, s6, s7, s8⟩ := tk_sure (τ := τ) bL
    refine br_f (show ¬ nI 5 < nI i from fun q => by rw [nI_ltI (by omega) (by omega)] at q; omega) ?_
    rw [show 6 - i = (5 - i) + 1 by omega] at eU
    unfold uI at eU
    refine sp_nextC B bL (fun z hz => ?_)
    rw [show (2 : Int32) = nI 2 from rfl, nI_eq (by omega) (by omega), show (3 : Int32) = nI 3 from rfl, nI_eq (by omega) (by omega)]
    refine br_c (fun c => ?_) (fun c => ?_)
    · rw [if_pos c] at eU
      exact h1 _ _ _ _ _ _ eU (by have := s5 (by omega); omega) s3 T'
    rw [if_neg c] at eU
    refine br_c (fun d => ?_) (fun d => ?_)
    · have v := s6 d
      obtain ⟨l, hl⟩ : ∃ l : Nat, (l : Int) = tv L τ b := ⟨(tv L τ b).toNat, by omega⟩
      have vl : (tv L τ b).toNat = l := by omega
      have ez : z = nI l := by rw [hz (Or.inl d), ← hl, nI_iI]
      subst ez
      rw [vl] at eU
      have cl : (nI l).toNatClampNeg = l := nI_clamp (by omega)
      have cw : (nI nW).toNatClampNeg = nW := nI_clamp (by omega)
      obtain ⟨i1, i2, i3⟩ := T'.1.2.2.1 l (by omega)
      obtain ⟨_, _, _, _, _, _, _, _, _, _, w11⟩ := T'.1.2.2.2.1 nW hn
      obtain ⟨w1, w2, w3⟩ := w11 l (by omega)
      rw [up1_s] at w1 w2 w3
      refine ⟨vp_in_nI (by omega) (by omega), ?_⟩
      dsimp only
      rw [cl, cw, w1, show (0 : Int32) = iI 0 from rfl, iI_le (by unfold rI; omega) (by unfold rI; omega)]
      refine br_c (fun g => ?_) (fun g => ?_)
      · have nt : told l = false := by
          cases e : told l
          · rfl
          · have := i2.mpr e
            rw [g] at this
            exact absurd this (by decide)
        rw [if_neg (fun q => by rw [nt] at q; exact absurd q.2.1 (by decide))] at eU
        exact h0 _ _ _ _ _ _ eU (by omega) T'
      · have td : told l = true := i2.mp (by rcases i1 with y | y; exact absurd y g; exact y)
        refine ⟨vp_in_nI hn (by omega), br_c (fun m => ?_) (fun m => ?_)⟩
        · rw [if_pos ⟨d, td, by omega⟩] at eU
          obtain ⟨p1, p2, p3, p4, p5, p6, p7, p8⟩ := tk_sure (τ := τ) (L := L) (a := te L τ b) (by omega)
          refine sp_readsNumber (x := 1) (y := 9) B (by omega) (by unfold rI; omega) (by unfold rI; omega) (fun w => br_f (by decide) ?_) (fun z w => br_t rfl ?_)
          · rw [if_pos w] at eU
            rw [nI_1 i]
            refine kk (nI (te L τ (te L τ b)), nI (ts L τ (te L τ b)), nI (tc L τ (te L τ b)), iI (tv L τ (te L τ b)), msetI u' nW l (iI (tv L τ (te L τ b)))) ⟨te L τ (te L τ b), up1 row l (tv L τ (te L τ b)), rfl, by omega, p3, ?_, ?_, ?_⟩
            · rw [cU_up (by omega) (by omega) (by have := w.2.1; omega), ec]
            · exact TD_use hn T' (by omega) td (by have := w.2.1; omega) w.2.2
            · rw [eU, show 6 - (i + 1) = 5 - i by omega]
          · rw [if_neg w] at eU
            exact h0 _ _ _ _ _ _ eU (by omega) T'
        · rw [if_neg (fun q => m (by rw [q.2.2]; decide))] at eU
          exact h0 _ _ _ _ _ _ eU (by omega) T'
    · rw [if_neg (fun q => d q.1)] at eU
      exact h0 _ _ _ _ _ _ eU (by omega) T'
theorem TD_addW (T : TD told lst lim nW V kd M' us wi it le gof li va kn mo wo u) (hn : nW < 4) {v k m : Int} (v0 : 0 ≤ v) (v1 : v ≤ 99) (k0 : 0 ≤ k) (k1 : k ≤ 2) (m0 : 0 ≤ m) (m1 : m ≤ 12) {f : Nat → Int32} (hf : ∀ j, j < 5 → f j = 0) : TD told lst lim (nW + 1) (up1 V nW v) (up1 kd nW k) (up1 M' nW m) (up1 us nW (fun _ => 0)) (nI (nW + 1)) it le gof li (upd va nW (iI v)) (upd kn nW (iI k)) (upd mo nW (iI m)) (upd wo nW 0) (va_up u nW f) := by
  obtain ⟨⟨t1, t2, t3, t4, t5⟩, t6⟩ := T
  refine ⟨⟨rfl, by omega, t3, fun w hw => ?_, fun w hw i hi nt => ?_⟩, fun w hw => ?_⟩
  · by_cases e : w = nW
    · subst e
      rw [pk_us, pk_us, pk_us, pk_us, up1_s, up1_s, up1_s, up1_s, va_up_self]
      exact ⟨rfl, v0, v1, Or.inl rfl, rfl, k0, k1, rfl, m0, m1, fun l hl => ⟨by rw [hf l hl]; rfl, by omega, by omega⟩⟩
    · rw [pk_un e, pk_un e, pk_un e, pk_un e, up1_n e, up1_n e, up1_n e, up1_n e, va_up_ne _ _ e]
      exact t4 w hw
  · by_cases e : w = nW
    · subst e
      rw [up1_s]
    · rw [up1_n e]
      exact t5 w (by omega) i hi nt
  · by_cases e : w = nW
    · subst e
      rw [pk_us]
    · rw [pk_un e]
      exact t6 w (by omega)
theorem sp_readsWish (B : TB L τ t) (T : TD told lst lim nW V kd M' us wi it le gof li va kn mo wo u) {x1 x2 x3 : Int32} {a : Nat} (ha : a ≤ L) {post : Int32 → Int32 → Int32 → Int32 → Int32 → Int32 → (Nat → Int32) → (Nat → Int32) → (Nat → Int32) → (Nat → Int32) → (Nat → Nat → Int32) → Prop} (h4 : ¬ nW < 4 → post 0 (nI a) x1 x2 x3 wi va kn mo wo u) (h0 : nW < 4 → ∀ s y1 y2 y3, wsI L τ told a = .inl s → s ≤ 300 → post 0 y1 (nI s) y2 y3 wi va kn mo wo u) (h1 : nW < 4 → nbw L τ a 0 99 → tc L τ (te L τ a) = 9 → nbw L τ (te L τ (te L τ a)) 1 12 → te L τ (te L τ (te L τ a)) ≤ L → a < te L τ (te L τ (te L τ a)) → ∀ y2 y3 y4 va' kn' mo' wo' u', TD told lst lim (nW + 1) (up1 V nW (tv L τ a)) (up1 kd nW (tv L τ (te L τ a))) (up1 M' nW (tv L τ (te L τ (te L τ a)))) (up1 us nW (fun _ => 0)) (nI (nW + 1)) it le gof li va' kn' mo' wo' u' → post 1 (nI (te L τ (te L τ (te L τ a)))) y2 y3 y4 (nI (nW + 1)) va' kn' mo' wo' u') : wp_X3_readsWish (nI L) (nI a) x1 x2 x3 t wi va kn mo wo u post := by
  have hL := B.1
  have ew := T.1.1
  have nW4 := T.1.2.1
  obtain ⟨s1, s2, s3, s4, s5, s6, s7, s8⟩ := tk_sure (τ := τ) ha
  obtain ⟨p1, p2, p3, p4, p5, p6, p7, p8⟩ := tk_sure (τ := τ) (L := L) (a := te L τ a) (by omega)
  obtain ⟨q1, q2, q3, q4, q5, q6, q7, q8⟩ := tk_sure (τ := τ) (L := L) (a := te L τ (te L τ a)) (by omega)
  unfold wp_X3_readsWish
  rw [show (wi < (4 : Int32)) = (nI nW < nI 4) by rw [ew]; rfl, nI_ltI (by omega) (by omega)]
  refine br_c (fun c => ?_) h4
  have g0 := h0 c
  have g1 := h1 c
  unfold wsI at g0
  refine sp_readsNumber (x := 0) (y := 99) B (by omega) (by unfold rI; omega) (by unfold rI; omega) (fun w => br_f (by decide) ?_) (fun z w => br_t rfl (g0 _ _ _ _ (if_neg w) (by omega)))
  rw [if_pos w] at g0
  refine sp_nextC B (by omega) (fun z hz => ?_)
  rw [show (9 : Int32) = nI 9 from rfl, nI_eq (by omega) (by omega)]
  refine br_c (fun d => ?_) (fun d => g0 _ _ _ _ (if_neg d) (by omega))
  rw [if_pos d] at g0
  have k8 := p8 d
  refine sp_readsNumber (x := 1) (y := 12) B (by omega) (by unfold rI; omega) (by unfold rI; omega) (fun y => br_f (by decide) ?_) (fun z y => br_t rfl (g0 _ _ _ _ (if_neg y) (by omega)))
  unfold wp_X4_addWish
  rw [ew, hz (Or.inr (Or.inr d))]
  refine br_t (nI_lt (b := 4) c (by omega)) ⟨vp_in_nI c (by omega), ?_⟩
  rw [nI_clamp (by omega), nI_1, nar_0]
  refine sp_fillI (by omega) (fun f hf _ => ?_)
  have y5 := q5 (by have := y.1; omega)
  exact g1 w d y q3 (by omega) _ _ _ _ _ _ _ _ (TD_addW T c (by have := w.2.1; omega) w.2.2 k8.1 k8.2 (by have := y.2.1; omega) y.2.2 hf)
theorem sp_empty {post : Int32 → (Nat → Int32) → (Nat → Int32) → Prop} (h : ∀ i' g', (∀ l, l < 5 → i' l = 0) → (∀ l, l < 5 → g' l = 0) → post 0 i' g') : wp_X4_empty wi it gof post := by
  unfold wp_X4_empty
  refine pk_loop (σ := (Nat → Int32) × (Nat → Int32)) (fun n i s => wl_X4_empty_7 0 (fun a b => post 0 a b) post n (nI i) s.1 s.2) (fun i s => (∀ l, l < i → s.1 l = 0) ∧ ∀ l, l < i → s.2 l = 0) 5 0 (it, gof) (by omega) ⟨fun l hl => by omega, fun l hl => by omega⟩ (fun n s hs => ?_) (fun n i s hi hs kk => ?_)
  · show ws_X4_empty_7 _ _ _ _ _ _ _
    unfold ws_X4_empty_7
    exact br_t (by decide) (h _ _ hs.1 hs.2)
  · obtain ⟨a, b⟩ := s
    show ws_X4_empty_7 _ _ _ _ _ _ _
    unfold ws_X4_empty_7
    refine br_f (nI_ge (b := 5) hi (by omega)) ⟨vp_in_nI hi (by omega), ?_⟩
    rw [nI_1, nI_clamp (by omega), nar_0]
    refine kk (upd a i 0, upd b i 0) ⟨fun l hl => ?_, fun l hl => ?_⟩
    · show upd a i 0 l = 0
      by_cases e : l = i
      · subst e; exact pk_us ..
      · rw [pk_un e]; exact hs.1 l (by omega)
    · show upd b i 0 l = 0
      by_cases e : l = i
      · subst e; exact pk_us ..
      · rw [pk_un e]; exact hs.2 l (by omega)
end RDC
