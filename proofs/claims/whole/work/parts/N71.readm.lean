/-! the reference reads a wish -/
section RDM
variable {L : Nat} {τ : Nat → Int} {t : Nat → Int32} {A S O W : Int32} {told lst : Nat → Bool} {lim : Nat → Int} {dG dC dW dK dM dU : Nat → Int32} {nW : Nat} {V kd M' : Nat → Int} {us : Nat → Nat → Int}
def DW (nW : Nat) (V kd M' : Nat → Int) (us : Nat → Nat → Int) (dW dK dM dU : Nat → Int32) : Prop := ∀ w, w < nW → dW w = iI (V w) ∧ dK w = iI (kd w) ∧ dM w = iI (M' w) ∧ ∀ l, l < 5 → dU (5 * w + l) = iI (us w l)
theorem loop99 (hn : nW < 4) {A S O W F D : Int32} {dG dW dK dM : Nat → Int32} {kx : (Nat → Int32) → Prop} {post : Int32 → Int32 → Int32 → Int32 → Int32 → Int32 → (Nat → Int32) → (Nat → Int32) → (Nat → Int32) → (Nat → Int32) → Prop} (h : ∀ d, (∀ l, l < 5 → d (5 * nW + l) = 0) → (∀ j, j < 5 * nW → d j = dU j) → kx d) : ∃ n, wl_X7_readWish_99 (nI nW) (nI L) A S O W F D t dG dW dK dM kx post n 0 dU := by
  refine pk_loop (σ := Nat → Int32) (fun n i s => wl_X7_readWish_99 (nI nW) (nI L) A S O W F D t dG dW dK dM kx post n (nI i) s) (fun i s => (∀ l, l < i → s (5 * nW + l) = 0) ∧ ∀ j, j < 5 * nW → s j = dU j) 5 0 dU (by omega) ⟨fun l hl => by omega, fun _ _ => rfl⟩ (fun n s hs => ?_) (fun n i s hi hs kk => ?_)
  · show ws_X7_readWish_99 _ _ _ _ _ _ _ _ _ _ _ _ _ _ _ _ _ _
    unfold ws_X7_readWish_99
    exact br_t (by decide) (h s hs.1 hs.2)
  · show ws_X7_readWish_99 _ _ _ _ _ _ _ _ _ _ _ _ _ _ _ _ _ _
    unfold ws_X7_readWish_99
    refine br_f (nI_ge (b := 5) hi (by omega)) ?_
    rw [ix5, nI_1, nI_clamp (by omega)]
    refine ⟨vp_in_nI (by omega) (by omega), kk _ ⟨fun l hl => ?_, fun j hj => ?_⟩⟩
    · by_cases e : l = i
      · subst e; exact pk_us ..
      · rw [pk_un (by omega)]; exact hs.1 l (by omega)
    · rw [pk_un (by omega)]; exact hs.2 j hj
theorem loop121F {x D F : Int32} (hF : F ≠ -9) {kx : Int32 → Int32 → Int32 → Int32 → Int32 → (Nat → Int32) → Prop} {post : Int32 → Int32 → Int32 → Int32 → Int32 → Int32 → (Nat → Int32) → (Nat → Int32) → (Nat → Int32) → (Nat → Int32) → Prop} (h : kx A S O W F dU) : ∃ n, wl_X7_readWish_121 x (nI L) D t dG dW dK dM kx post n A S O W F dU := by
  refine ⟨1, ?_⟩
  show ws_X7_readWish_121 _ _ _ _ _ _ _ _ _ _ _ _ _ _ _ _ _
  unfold ws_X7_readWish_121
  exact br_f hF h
theorem loop121 (B : TB L τ t) (hn : nW < 4) (D : DG told lst lim dG dC) {c : Nat} (hc : c ≤ L) (T : TA L τ c A S O W) {x : Int32} (hz : ∀ l, l < 5 → dU (5 * nW + l) = 0) {kx : Int32 → Int32 → Int32 → Int32 → Int32 → (Nat → Int32) → Prop} {post : Int32 → Int32 → Int32 → Int32 → Int32 → Int32 → (Nat → Int32) → (Nat → Int32) → (Nat → Int32) → (Nat → Int32) → Prop}
    (h0 : ∀ s y1 y2 y3 y4 d, uI L τ told 6 c (fun _ => 0) = .inl s → s ≤ 300 → kx y1 y2 y3 y4 (nI s) d)
    (h1 : ∀ b row A' S' O' W' d, uI L τ told 6 c (fun _ => 0) = .inr (te L τ b, row) → c ≤ b → b ≤ L → tc L τ b = 2 → TA L τ b A' S' O' W' → (∀ l, l < 5 → d (5 * nW + l) = iI (row l)) → (∀ j, j < 5 * nW → d j = dU j) → kx A' S' O' W' (-9) d) :
    ∃ n, wl_X7_readWish_121 (nI nW) (nI L) x t dG dW dK dM kx post n A S O W (-9) dU := by
  have hL := B.1
  generalize hO : uI L τ told 6 c (fun _ => 0) = R at h0 h1
  refine pk_loop (σ := Int32 × Int32 × Int32 × Int32 × Int32 × (Nat → Int32)) (fun n _ s => wl_X7_readWish_121 (nI nW) (nI L) x t dG dW dK dM kx post n s.1 s.2.1 s.2.2.1 s.2.2.2.1 s.2.2.2.2.1 s.2.2.2.2.2)
    (fun i s => (∃ b row, TA L τ b s.1 s.2.1 s.2.2.1 s.2.2.2.1 ∧ s.2.2.2.2.1 = -9 ∧ c ≤ b ∧ b ≤ L ∧ cU row = i ∧ (∀ l, l < 5 → 0 ≤ row l ∧ row l ≤ 9) ∧ (∀ l, l < 5 → s.2.2.2.2.2 (5 * nW + l) = iI (row l)) ∧ (∀ j, j < 5 * nW → s.2.2.2.2.2 j = dU j) ∧ R = uI L τ told (6 - i) b row) ∨ (∃ q, s.2.2.2.2.1 = nI q ∧ q ≤ 300 ∧ R = .inl q ∧ i ≤ 6))
    7 0 (A, S, O, W, -9, dU) (by omega) (Or.inl ⟨c, fun _ => 0, T, rfl, Nat.le_refl _, hc, rfl, fun _ _ => ⟨Int.le_refl 0, show (0 : Int) ≤ 9 by decide⟩, hz, fun _ _ => rfl, hO.symm⟩) (fun n s hs => ?_) (fun n i s hi hs kk => ?_)
  · rcases hs with ⟨b, row, _, _, _, _, e, _⟩ | ⟨q, _, _, _, e⟩
    · have := cU_le row
      omega
    · omega
  · obtain ⟨A, S, O, W, F, d⟩ := s
    show ws_X7_readWish_121 _ _ _ _ _ _ _ _ _ _ _ _ _ _ _ _ _
    unfold ws_X7_readWish_121
    dsimp only
    rcases hs with ⟨b, row, T, eF, cb, bL, ec, rr, hd, hk, eR⟩ | ⟨q, eF, q3, eR, _⟩
    · (try dsimp only at T eF hd hk)
      subst eF
      have cl5 := cU_le row
      obtain ⟨t1, t2, t3, t4⟩ := id T
      obtain ⟨s1, s2, s3, s4, s5, s6, s7, s8⟩ := tk_sure (τ := τ) bL
      rw [show 6 - i = (5 - i) + 1 by omega] at eR
      unfold uI at eR
      refine br_t rfl ?_
      rw [show (O = (4 : Int32)) = (nI (srt (tc L τ b)) = nI 4) by rw [t3]; rfl, so_iff (by omega), srt_4, show (O = (2 : Int32)) = (nI (srt (tc L τ b)) = nI 2) by rw [t3]; rfl, so_iff (by omega), srt_2]
      refine br_c (fun c2 => ?_) (fun c2 => ?_)
      · rw [if_pos c2] at eR
        exact h1 _ _ _ _ _ _ _ eR cb bL c2 T hd hk
      rw [if_neg c2] at eR
      have bad : R = .inl (ts L τ b) → wj_X7_readWish_182 (nI nW) 0 (nI L) A S O W (-9) x t dG dW dK dM d (wl_X7_readWish_121 (nI nW) (nI L) x t dG dW dK dM kx post n) kx post := fun e => by
        have hF := nF (s := ts L τ b) (by omega)
        unfold wj_X7_readWish_182
        exact sp_due0 T (sp_numberF hF (br_f hF (kk (A, S, O, W, nI (ts L τ b), d) (Or.inr ⟨_, rfl, by omega, e, by omega⟩))))
      refine br_c (fun c3 => ?_) (fun c3 => bad (by rw [eR, if_neg (fun q => c3 q.1)]))
      have v := s6 c3
      obtain ⟨l, hl⟩ : ∃ l : Nat, (l : Int) = tv L τ b := ⟨(tv L τ b).toNat, by omega⟩
      have vl : (tv L τ b).toNat = l := by omega
      have ez : W = nI l := by rw [t4.1 (Or.inl c3), ← hl, nI_iI]
      subst ez
      rw [vl] at eR
      have cl : (nI l).toNatClampNeg = l := nI_clamp (by omega)
      have cx : (nI (5 * nW + l)).toNatClampNeg = 5 * nW + l := nI_clamp (by omega)
      obtain ⟨w2, w3⟩ := rr l (by omega)
      refine ⟨vp_in_nI (by omega) (by omega), ?_⟩
      rw [ix5, cx, cl, DG_yes D (by omega), hd l (by omega), show (0 : Int32) = iI 0 from rfl, iI_eq (by unfold rI; omega) (by unfold rI; omega)]
      refine br_c (fun nt => bad (by rw [eR, if_neg (fun q => by rw [nt] at q; exact absurd q.2.1 (by decide))])) (fun nt => ?_)
      have td : told l = true := by
        cases e : told l
        · exact absurd e nt
        · rfl
      refine ⟨vp_in_nI (by omega) (by omega), br_c (fun z => ?_) (fun z => bad (by rw [eR, if_neg (fun q => z q.2.2)]))⟩
      rw [if_pos ⟨c3, td, z⟩] at eR
      obtain ⟨p1, p2, p3, p4, p5, p6, p7, p8⟩ := tk_sure (τ := τ) (L := L) (a := te L τ b) (by omega)
      unfold wj_X7_readWish_182
      refine sp_due1 B bL T (by decide) (fun A2 S2 O2 W2 T2 => ?_)
      refine sp_numberM (x := 1) (y := 9) B (by omega) T2 (by unfold rI; omega) (by unfold rI; omega) (fun w A3 S3 O3 W3 T3 => br_t rfl ?_) (fun w => ?_)
      · rw [if_pos w] at eR
        have wx := w.2.1
        have wy := w.2.2
        rw [ix5, cx]
        refine ⟨vp_in_nI (by omega) (by omega), kk (A3, S3, O3, W3, -9, upd d (5 * nW + l) (iI (tv L τ (te L τ b)))) (Or.inl ⟨te L τ (te L τ b), up1 row l (tv L τ (te L τ b)), T3, rfl, by omega, p3, ?_, fun i' hi' => ?_, fun i' hi' => ?_, fun j hj => ?_, ?_⟩)⟩
        · rw [cU_up (by omega) z (by omega), ec]
        · by_cases e : i' = l
          · subst e; rw [up1_s]; omega
          · rw [up1_n e]; exact rr i' hi'
        · show upd d (5 * nW + l) _ (5 * nW + i') = _
          by_cases e : i' = l
          · subst e; rw [up1_s, pk_us]
          · rw [up1_n e, pk_un (by omega)]; exact hd i' hi'
        · show upd d (5 * nW + l) _ j = _
          rw [pk_un (by omega)]; exact hk j hj
        · rw [eR, show 6 - (i + 1) = 5 - i by omega]
      · rw [if_neg w] at eR
        have hF := nF (s := ts L τ (te L τ b)) (by omega)
        exact br_f hF (kk (A2, S2, O2, W2, nI (ts L τ (te L τ b)), d) (Or.inr ⟨_, rfl, by omega, eR, by omega⟩))
    · (try dsimp only at eF)
      subst eF
      exact br_f (nF q3) (h0 _ _ _ _ _ _ eR q3)
theorem DW_add (D : DW nW V kd M' us dW dK dM dU) {v k m : Int} {row : Nat → Int} {d : Nat → Int32} (hd : ∀ l, l < 5 → d (5 * nW + l) = iI (row l)) (hk : ∀ j, j < 5 * nW → d j = dU j) : DW (nW + 1) (up1 V nW v) (up1 kd nW k) (up1 M' nW m) (up1 us nW row) (upd dW nW (iI v)) (upd dK nW (iI k)) (upd dM nW (iI m)) d := fun w hw => by
  by_cases e : w = nW
  · subst e
    rw [up1_s, up1_s, up1_s, up1_s, pk_us, pk_us, pk_us]
    exact ⟨rfl, rfl, rfl, hd⟩
  · rw [up1_n e, up1_n e, up1_n e, up1_n e, pk_un e, pk_un e, pk_un e]
    obtain ⟨a1, a2, a3, a4⟩ := D w (by omega)
    exact ⟨a1, a2, a3, fun l hl => by rw [hk _ (by omega)]; exact a4 l hl⟩
theorem sp_readWish (B : TB L τ t) (D : DG told lst lim dG dC) (E : DW nW V kd M' us dW dK dM dU) (n4 : nW ≤ 4) {a0 : Nat} (ha0 : a0 ≤ L) (T : TA L τ a0 A S O W) {post : Int32 → Int32 → Int32 → Int32 → Int32 → Int32 → (Nat → Int32) → (Nat → Int32) → (Nat → Int32) → (Nat → Int32) → Prop}
    (h4 : ¬ nW < 4 → post A S O W (nI (ts L τ a0)) (nI nW) dW dK dM dU)
    (h0 : nW < 4 → ∀ s y1 y2 y3 y4 y5 d1 d2 d3 d4, wsI L τ told (te L τ a0) = .inl s → s ≤ 300 → post y1 y2 y3 y4 (nI s) y5 d1 d2 d3 d4)
    (h1 : nW < 4 → ∀ e row, wsI L τ told (te L τ a0) = .inr (e, row) → te L τ a0 < e → e ≤ L → ∀ A' S' O' W' d1 d2 d3 d4, TA L τ e A' S' O' W' → DW (nW + 1) (up1 V nW (tv L τ (te L τ a0))) (up1 kd nW (tv L τ (te L τ (te L τ a0)))) (up1 M' nW (tv L τ (te L τ (te L τ (te L τ a0))))) (up1 us nW row) d1 d2 d3 d4 → post A' S' O' W' (-9) (nI (nW + 1)) d1 d2 d3 d4) :
    wp_X7_readWish (nI L) A S O W (-9) (nI nW) t dG dW dK dM dU post := by
  have hL := B.1
  obtain ⟨o1, o2, o3, _⟩ := tk_sure (τ := τ) ha0
  unfold wp_X7_readWish
  rw [show ((4 : Int32) ≤ nI nW) = (nI 4 ≤ nI nW) from rfl, nI_leI (by omega) (by omega)]
  refine br_c (fun c => ?_) (fun c => ?_)
  · unfold wj_X7_readWish_14
    exact sp_due0 T (br_f (nF (by omega)) (h4 (by omega)))
  have hn : nW < 4 := by omega
  replace h0 := h0 hn
  replace h1 := h1 hn
  clear h4
  have f231 : ∀ s1 A S O W F dW dK dM dU, F ≠ -9 → (∀ d1 d2 d3 d4, post A S O W F (nI (nW + 1)) d1 d2 d3 d4) → wj_X7_readWish_231 s1 (nI L) A S O W F (nI nW) t dG dW dK dM dU post := fun s1 A S O W F dW dK dM dU hF h => by
    unfold wj_X7_readWish_231
    rw [nI_1]
    exact sp_dueF hF (h _ _ _ _)
  have f217 : ∀ A S O W F dW dK dM dU, F ≠ -9 → (∀ d1 d2 d3 d4, post A S O W F (nI (nW + 1)) d1 d2 d3 d4) → wj_X7_readWish_217 (nI L) A S O W F (nI nW) t dG dW dK dM dU post := fun A S O W F dW dK dM dU hF h => by
    unfold wj_X7_readWish_217
    exact br_c (fun _ => f231 _ _ _ _ _ _ _ _ _ _ hF h) (fun _ => f231 _ _ _ _ _ _ _ _ _ _ hF h)
  have f80 : ∀ s3 A S O W F dW dK dM dU, F ≠ -9 → (∀ d1 d2 d3 d4, post A S O W F (nI (nW + 1)) d1 d2 d3 d4) → wj_X7_readWish_80 (nI nW) (nI nW) s3 (nI L) A S O W F (nI nW) t dG dW dK dM dU post := fun s3 A S O W F dW dK dM dU hF h => by
    unfold wj_X7_readWish_80
    refine sp_dueF hF ⟨vp_in_nI hn (by omega), sp_numberF hF ⟨vp_in_nI hn (by omega), loop99 hn (fun d _ _ => loop121F hF (f217 _ _ _ _ _ _ _ _ _ hF h))⟩⟩
  unfold wj_X7_readWish_14
  refine sp_due1 B ha0 T (by decide) (fun A1 S1 O1 W1 T1 => br_t rfl ?_)
  generalize te L τ a0 = a at *
  obtain ⟨s1, s2, s3, s4, s5, s6, s7, s8⟩ := tk_sure (τ := τ) (L := L) (a := a) (by omega)
  obtain ⟨p1, p2, p3, p4, p5, p6, p7, p8⟩ := tk_sure (τ := τ) (L := L) (a := te L τ a) (by omega)
  obtain ⟨q1, q2, q3, q4, q5, q6, q7, q8⟩ := tk_sure (τ := τ) (L := L) (a := te L τ (te L τ a)) (by omega)
  have cw : (nI nW).toNatClampNeg = nW := nI_clamp (by omega)
  have g0 := h0
  unfold wsI at g0
  refine sp_numberM (x := 0) (y := 99) B (by omega) T1 (by unfold rI; omega) (by unfold rI; omega) (fun w A2 S2 O2 W2 T2 => ⟨vp_in_nI hn (by omega), ?_⟩) (fun w => ⟨vp_in_nI hn (by omega), ?_⟩)
  · rw [if_pos w] at g0
    have wx := w.2.1
    have bad : ¬ tc L τ (te L τ a) = 9 → wj_X7_readWish_80 (nI nW) (nI nW) 0 (nI L) A2 S2 O2 W2 (-9) (nI nW) t dG (upd dW nW (iI (tv L τ a))) dK dM dU post := fun n => by
      rw [if_neg n] at g0
      unfold wj_X7_readWish_80
      have hF := nF (s := ts L τ (te L τ a)) (by omega)
      refine sp_due0 T2 ⟨vp_in_nI hn (by omega), sp_numberF hF ⟨vp_in_nI hn (by omega), loop99 hn (fun d _ _ => loop121F hF (f217 _ _ _ _ _ _ _ _ _ hF (fun d1 d2 d3 d4 => g0 _ _ _ _ _ _ _ _ _ _ rfl (by omega))))⟩⟩
    have good : tc L τ (te L τ a) = 9 → wj_X7_readWish_80 (nI nW) (nI nW) 1 (nI L) A2 S2 O2 W2 (-9) (nI nW) t dG (upd dW nW (iI (tv L τ a))) dK dM dU post := fun m => by
      rw [if_pos m] at g0
      have ew : W2 = iI (tv L τ (te L τ a)) := T2.2.2.2.1 (Or.inr (Or.inr m))
      unfold wj_X7_readWish_80
      refine sp_due1 B (by omega) T2 (by decide) (fun A3 S3 O3 W3 T3 => ⟨vp_in_nI hn (by omega), ?_⟩)
      refine sp_numberM (x := 1) (y := 12) B (by omega) T3 (by unfold rI; omega) (by unfold rI; omega) (fun k A4 S4 O4 W4 T4 => ⟨vp_in_nI hn (by omega), ?_⟩) (fun k => ⟨vp_in_nI hn (by omega), ?_⟩)
      · have kx := k.1
        have k5 := q5 (by omega)
        have eW : wsI L τ told a = uI L τ told 6 (te L τ (te L τ (te L τ a))) (fun _ => 0) := by
          unfold wsI
          rw [if_pos w, if_pos m, if_pos k]
        rw [eW] at h1 h0
        refine loop99 hn (fun d hd hk => loop121 B hn D (by omega) T4 hd (fun s y1 y2 y3 y4 d' e sl => ?_) (fun b row A5 S5 O5 W5 d' e cb bL t2 T5 hd' hk' => ?_))
        · exact f217 _ _ _ _ _ _ _ _ _ (nF sl) (fun d1 d2 d3 d4 => h0 _ _ _ _ _ _ _ _ _ _ e sl)
        · obtain ⟨r1, r2, r3, r4, r5, _⟩ := tk_sure (τ := τ) bL
          have r5' := r5 (by omega)
          unfold wj_X7_readWish_217 wj_X7_readWish_231
          rw [nI_1, cw, ew]
          rw [show (O5 = (4 : Int32)) = (nI (srt (tc L τ b)) = nI 4) by rw [T5.2.2.1]; rfl, so_iff (by omega), srt_4]
          refine br_t t2 (sp_due1 B bL T5 (by decide) (fun A6 S6 O6 W6 T6 => ?_))
          exact h1 _ _ e (by omega) r3 _ _ _ _ _ _ _ _ T6 (DW_add E hd' (fun j hj => by rw [hk' j hj, hk j hj]))
      · rw [if_neg k] at g0
        have hF := nF (s := ts L τ (te L τ (te L τ a))) (by omega)
        exact loop99 hn (fun d _ _ => loop121F hF (f217 _ _ _ _ _ _ _ _ _ hF (fun d1 d2 d3 d4 => g0 _ _ _ _ _ _ _ _ _ _ rfl (by omega))))
    rw [cw]
    rw [show (O2 = (1 : Int32)) = (nI (srt (tc L τ (te L τ a))) = nI 1) by rw [T2.2.2.1]; rfl, so_iff (by omega), srt_1]
    obtain ⟨u1, u2, u3, u4⟩ := id T2
    refine br_c (fun m => ?_) (fun m => bad (by omega))
    rcases (by omega : tc L τ (te L τ a) = 9 ∨ tc L τ (te L τ a) = 5 ∨ tc L τ (te L τ a) = 6 ∨ tc L τ (te L τ a) = 7 ∨ tc L τ (te L τ a) = 8) with y | y | y | y | y
    · have k8 := p8 y
      rw [u4.1 (Or.inr (Or.inr y)), iI_l (by unfold rI; omega)]
      refine sp_in (b := 0) (c := 2) ⟨by omega, by omega⟩ ⟨by omega, by omega⟩ ⟨by omega, by omega⟩ (fun _ => br_f (by decide) ?_) (fun q => absurd k8 q)
      have := good y
      rw [u4.1 (Or.inr (Or.inr y))] at this
      exact this
    · have e : W2 = 3 := u4.2.1 y
      subst e
      unfold wp_X7_in
      exact br_f (by decide) (br_t (by decide) (br_t rfl (bad (by omega))))
    · have e : W2 = 4 := u4.2.2.1 y
      subst e
      unfold wp_X7_in
      exact br_f (by decide) (br_t (by decide) (br_t rfl (bad (by omega))))
    · have e : W2 = 5 := u4.2.2.2.1 y
      subst e
      unfold wp_X7_in
      exact br_f (by decide) (br_t (by decide) (br_t rfl (bad (by omega))))
    · have e : W2 = 6 := u4.2.2.2.2 y
      subst e
      unfold wp_X7_in
      exact br_f (by decide) (br_t (by decide) (br_t rfl (bad (by omega))))
  · rw [if_neg w] at g0
    have hF := nF (s := ts L τ a) (by omega)
    have p : ∀ d1 d2 d3 d4, post A1 S1 O1 W1 (nI (ts L τ a)) (nI (nW + 1)) d1 d2 d3 d4 := fun d1 d2 d3 d4 => g0 _ _ _ _ _ _ _ _ _ _ rfl (by omega)
    unfold wp_X7_in
    exact br_c (fun _ => br_c (fun _ => br_t rfl (f80 _ _ _ _ _ _ _ _ _ _ hF p)) (fun _ => br_c (fun _ => br_t rfl (f80 _ _ _ _ _ _ _ _ _ _ hF p)) (fun _ => br_f (by decide) (f80 _ _ _ _ _ _ _ _ _ _ hF p)))) (fun _ => f80 _ _ _ _ _ _ _ _ _ _ hF p)
end RDM
