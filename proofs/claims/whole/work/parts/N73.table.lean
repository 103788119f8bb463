/-! table: both answer alike -/
section TABM
variable {L : Nat} {τ : Nat → Int} {t : Nat → Int32} {lim : Nat → Int} {nW : Nat} {V kd M' : Nat → Int} {us : Nat → Nat → Int}
theorem TA_gate {a : Nat} {A S O W : Int32} (ha : a ≤ L) (T : TA L τ a A S O W) (h : 5 ≤ tc L τ a) : (W = (3 : Int32) ↔ tc L τ a = 5) ∧ (W = (4 : Int32) ↔ tc L τ a = 6) := by
  obtain ⟨t1, t2, t3, v1, v2, v3, v4, v5⟩ := T
  obtain ⟨s1, s2, s3, s4, s5, s6, s7, s8⟩ := tk_sure (τ := τ) ha
  rcases (by omega : tc L τ a = 5 ∨ tc L τ a = 6 ∨ tc L τ a = 7 ∨ tc L τ a = 8 ∨ tc L τ a = 9) with y | y | y | y | y
  · rw [v2 y, y]; decide
  · rw [v3 y, y]; decide
  · rw [v4 y, y]; decide
  · rw [v5 y, y]; decide
  · have e := v1 (Or.inr (Or.inr y))
    have k := s8 y
    rw [e, y, show (3 : Int32) = iI 3 from rfl, show (4 : Int32) = iI 4 from rfl, iI_eq (by unfold rI; omega) (by unfold rI; omega), iI_eq (by unfold rI; omega) (by unfold rI; omega)]
    exact ⟨⟨fun q => by omega, fun q => by omega⟩, ⟨fun q => by omega, fun q => by omega⟩⟩
theorem sp_tableM (B : TB L τ t) {lst0 : Nat → Bool} {x1 x2 x3 x4 x5 x6 ga wi : Int32} {lt ls ca go wr kn mo wf ue tu td pu pd dG dC dW dK dM dU : Nat → Int32}
    {post : Int32 → Int32 → Int32 → Int32 → Int32 → Int32 → Int32 → Int32 → Int32 → Int32 → (Nat → Int32) → (Nat → Int32) → (Nat → Int32) → (Nat → Int32) → (Nat → Int32) → (Nat → Int32) → (Nat → Int32) → (Nat → Int32) → (Nat → Int32) → (Nat → Int32) → (Nat → Int32) → (Nat → Int32) → (Nat → Int32) → (Nat → Int32) → (Nat → Int32) → (Nat → Int32) → (Nat → Int32) → (Nat → Int32) → (Nat → Int32) → Prop}
    (h0 : ∀ s y1 y2 y3 y4 y5 y6 d1 d2 d3 d4 d5 d6, rI' L τ 301 0 0 (fun _ => false) lst0 lim 0 V kd M' us = .inl s → post (-10 - nI s) (nI L) ga wi y1 y2 y3 y4 y5 y6 lt ls ca go wr kn mo wf ue tu td pu pd d1 d2 d3 d4 d5 d6)
    (h1 : ∀ k told lst lim' nW V' kd' M'' us', rI' L τ 301 0 0 (fun _ => false) lst0 lim 0 V kd M' us = .inr (k, told, lst, lim', nW, V', kd', M'', us') → ∀ y1 y2 y3 y4 y5 y6 nG gl lt' ls' ca' go' wr' kn' mo' wf' ue' tu' td' pu' pd' d1 d2 d3 d4 d5 d6, (∀ wo : Nat → Int32, (∀ w, w < nW → wo w = 0) → TM (fun l => told l = true) (fun l => lst l = true) (fun _ => False) lim' nW V' kd' M'' us' nG gl wo (nI nG) (nI nW) lt' ls' ca' go' wr' kn' mo' wf' ue') → TLM nW nG gl (fun _ => 0) (fun _ => 0) tu' td' pu' pd' → post (nI k) 0 (nI nG) (nI nW) y1 y2 y3 y4 y5 y6 lt' ls' ca' go' wr' kn' mo' wf' ue' tu' td' pu' pd' d1 d2 d3 d4 d5 d6) :
    wp_X7_table (nI L) ga wi x1 x2 x3 x4 x5 x6 t lt ls ca go wr kn mo wf ue tu td pu pd dG dC dW dK dM dU post := by
  have hL := B.1
  generalize hO : rI' L τ 301 0 0 (fun _ => false) lst0 lim 0 V kd M' us = R at h0 h1
  unfold wp_X7_table
  refine pk_loop (σ := Nat → Int32) (fun n i s => wl_X7_table_20 _ _ _ _ _ _ _ _ _ _ _ _ _ _ _ _ _ _ _ _ _ _ _ _ _ _ _ _ _ _ post n (nI i) s) (fun i s => ∀ l, l < i → s l = -9) 5 0 dG (by omega) (fun l hl => by omega) (fun n s hs => ?_) (fun n i s hi hs kk => ?_)
  · show ws_X7_table_20 _ _ _ _ _ _ _ _ _ _ _ _ _ _ _ _ _ _ _ _ _ _ _ _ _ _ _ _ _ _ _ _ _ _
    unfold ws_X7_table_20
    refine br_t (by decide) ?_
    refine sp_nextM (a := 0) B (Nat.zero_le _) (fun z hz => ?_)
    refine pk_loop (σ := Int32 × Int32 × Int32 × Int32 × Int32 × Int32 × (Nat → Int32) × (Nat → Int32) × (Nat → Int32) × (Nat → Int32) × (Nat → Int32) × (Nat → Int32))
      (fun n i s => wl_X7_table_43 _ _ _ _ _ _ _ _ _ _ _ _ _ _ _ _ _ _ post n (nI i) s.1 s.2.1 s.2.2.1 s.2.2.2.1 s.2.2.2.2.1 s.2.2.2.2.2.1 s.2.2.2.2.2.2.1 s.2.2.2.2.2.2.2.1 s.2.2.2.2.2.2.2.2.1 s.2.2.2.2.2.2.2.2.2.1 s.2.2.2.2.2.2.2.2.2.2.1 s.2.2.2.2.2.2.2.2.2.2.2)
      (fun i s => (∃ a told lst lim' nW V' kd' M'' us', TA L τ a s.1 s.2.1 s.2.2.1 s.2.2.2.1 ∧ s.2.2.2.2.1 = -9 ∧ s.2.2.2.2.2.1 = nI nW ∧ nW ≤ 4 ∧ i ≤ a ∧ a ≤ L ∧ DG told lst lim' s.2.2.2.2.2.2.1 s.2.2.2.2.2.2.2.1 ∧ DW nW V' kd' M'' us' s.2.2.2.2.2.2.2.2.1 s.2.2.2.2.2.2.2.2.2.1 s.2.2.2.2.2.2.2.2.2.2.1 s.2.2.2.2.2.2.2.2.2.2.2 ∧ R = rI' L τ (301 - i) i a told lst lim' nW V' kd' M'' us') ∨ (∃ q, s.2.2.2.2.1 = nI q ∧ q ≤ 300 ∧ R = .inl q ∧ i ≤ 301))
      302 0 (nI (te L τ 0), nI (ts L τ 0), nI (srt (tc L τ 0)), z, -9, 0, s, dC, dW, dK, dM, dU) (by omega) (Or.inl ⟨0, fun _ => false, lst0, lim, 0, V, kd, M', us, ⟨rfl, rfl, rfl, hz⟩, rfl, rfl, by omega, by omega, by omega, fun l hl => ⟨fun _ => hs l hl, fun q => absurd (show false = true from q) (by decide)⟩, fun w hw => by omega, hO.symm⟩) (fun n s hs => ?_) (fun n i s hi hs kk => ?_)
    · rcases hs with ⟨a, _, _, _, _, _, _, _, _, _, _, _, _, e1, e2, _⟩ | ⟨q, _, _, _, e⟩
      · omega
      · omega
    · obtain ⟨A, S, O, W, F, D, dG, dC, dW, dK, dM, dU⟩ := s
      clear hO
      show ws_X7_table_43 _ _ _ _ _ _ _ _ _ _ _ _ _ _ _ _ _ _ _ _ _ _ _ _ _ _ _ _ _ _ _ _ _
      unfold ws_X7_table_43
      dsimp only
      rcases hs with ⟨a, told, lst, lim, nW, V, kd, M', us, T, eF, eD, n4, ia, aL, G, E, eR⟩ | ⟨q, eF, q3, eR, iq⟩
      · (try dsimp only at T eF eD G E)
        subst eF
        subst eD
        obtain ⟨s1, s2, s3, s4, s5, s6, s7, s8⟩ := tk_sure (τ := τ) aL
        rw [show 301 - i = (300 - i) + 1 by omega] at eR
        unfold rI' at eR
        refine br_t rfl ?_
        have e0 : O = (0 : Int32) ↔ tc L τ a = 0 := by
          rw [show (O = (0 : Int32)) = (nI (srt (tc L τ a)) = nI 0) by rw [T.2.2.1]; rfl, so_iff (by omega), srt_0]
        have e1 : O = (1 : Int32) ↔ 5 ≤ tc L τ a := by
          rw [show (O = (1 : Int32)) = (nI (srt (tc L τ a)) = nI 1) by rw [T.2.2.1]; rfl, so_iff (by omega), srt_1]
        unfold wj_X7_table_82 wj_X7_table_105
        rw [e0, e1, nI_1 i]
        refine br_c (fun c => ?_) (fun c => ?_)
        · rw [if_pos c] at eR
          exact sp_tab119 n4 G E (fun nG gl lt' ls' ca' go' wr' kn' mo' wf' ue' tu' td' pu' pd' hT hL => h1 _ _ _ _ _ _ _ _ _ eR _ _ _ _ _ _ _ _ _ _ _ _ _ _ _ _ _ _ _ _ _ _ _ _ _ _ _ hT hL)
        rw [if_neg c] at eR
        have lt1 := s5 c
        have bad : ¬ tc L τ a = 5 → ¬ (tc L τ a = 6 ∧ nW < 4) → R = .inl (ts L τ a) := fun b1 b2 => by
          rw [eR, if_neg b1, if_neg b2]
        have eS : S = nI (ts L τ a) := T.2.1
        refine br_c (fun d => ?_) (fun d => br_f d (kk (A, S, O, W, S, nI nW, dG, dC, dW, dK, dM, dU) (Or.inr ⟨ts L τ a, eS, by omega, bad (by omega) (by omega), by omega⟩)))
        obtain ⟨g1, g2⟩ := TA_gate aL T d
        rw [g1, g2]
        refine br_c (fun g => ?_) (fun g => br_t d (br_c (fun f => ?_) (fun f => kk (A, S, O, W, S, nI nW, dG, dC, dW, dK, dM, dU) (Or.inr ⟨ts L τ a, eS, by omega, bad g (fun q => f q.1), by omega⟩))))
        · rw [if_pos g] at eR
          refine sp_readGate B G aL T (fun s y1 y2 y3 y4 e sl => ?_) (fun l b n' e eG l1 l2 A' S' O' W' dG' dC' T' G' => ?_)
          · rw [e] at eR
            exact kk (y1, y2, y3, y4, nI s, nI nW, dG, dC, dW, dK, dM, dU) (Or.inr ⟨s, rfl, sl, eR, by omega⟩)
          · rw [eG] at eR
            exact kk (A', S', O', W', -9, nI nW, dG', dC', dW, dK, dM, dU) (Or.inl ⟨e, _, _, _, _, _, _, _, _, T', rfl, rfl, n4, by omega, l2, G', E, by rw [eR, show 301 - (i + 1) = 300 - i by omega]⟩)
        · rw [if_neg g] at eR
          refine sp_readWish B G E n4 aL T (fun nn => ?_) (fun nn s y1 y2 y3 y4 y5 d1 d2 d3 d4 e sl => ?_) (fun nn e row eW l1 l2 A' S' O' W' d1 d2 d3 d4 T' E' => ?_)
          · exact kk (A, S, O, W, nI (ts L τ a), nI nW, dG, dC, dW, dK, dM, dU) (Or.inr ⟨_, rfl, by omega, bad g (fun q => nn q.2), by omega⟩)
          · rw [if_pos ⟨f, nn⟩, e] at eR
            exact kk (y1, y2, y3, y4, nI s, y5, dG, dC, d1, d2, d3, d4) (Or.inr ⟨s, rfl, sl, eR, by omega⟩)
          · rw [if_pos ⟨f, nn⟩, eW] at eR
            exact kk (A', S', O', W', -9, nI (nW + 1), dG, dC, d1, d2, d3, d4) (Or.inl ⟨e, _, _, _, _, _, _, _, _, T', rfl, rfl, by omega, by omega, l2, G, E', by rw [eR, show 301 - (i + 1) = 300 - i by omega]⟩)
      · (try dsimp only at eF)
        subst eF
        refine br_f (nF q3) ?_
        unfold wj_X7_table_119
        exact br_f (nF q3) (h0 _ _ _ _ _ _ _ _ _ _ _ _ _ eR)
  · show ws_X7_table_20 _ _ _ _ _ _ _ _ _ _ _ _ _ _ _ _ _ _ _ _ _ _ _ _ _ _ _ _ _ _ _ _ _ _
    unfold ws_X7_table_20
    refine br_f (nI_ge (b := 5) hi (by omega)) ⟨vp_in_nI hi (by omega), ?_⟩
    rw [nI_1, nI_clamp (by omega)]
    refine kk _ (fun l hl => ?_)
    by_cases e : l = i
    · subst e; exact pk_us ..
    · rw [pk_un e]; exact hs l (by omega)
end TABM
/-- a table of some kind -/
def TS (wi : Int32) (it le gof li va kn mo wo : Nat → Int32) (u : Nat → Nat → Int32) : Prop := ∃ told lst off lim nW V kd M' us, TC told lst off lim nW V kd M' us wi it le gof li va kn mo wo u
theorem TS_0 {told lst off : Nat → Prop} {lim : Nat → Int} {nW : Nat} {V kd M' : Nat → Int} {us : Nat → Nat → Int} {wi : Int32} {it le gof li va kn mo wo : Nat → Int32} {u : Nat → Nat → Int32} (T : TC told lst off lim nW V kd M' us wi it le gof li va kn mo wo u) (i' g' : Nat → Int32) (hi : ∀ l, l < 5 → i' l = 0) (hg : ∀ l, l < 5 → g' l = 0) : TD (fun _ => false) (fun l => decide (le l = 1)) lim 0 V kd M' us 0 i' le g' li va kn mo wo u := by
  obtain ⟨t1, t2, t3, t4, t5⟩ := T
  refine ⟨⟨rfl, by omega, fun l hl => ?_, t4, fun w hw => by omega⟩, fun w hw => by omega⟩
  obtain ⟨a1, a2, a3, a4, a5, a6, a7, a8, a9⟩ := t3 l hl
  rw [hi l hl, hg l hl]
  refine ⟨Or.inl rfl, ⟨fun q => absurd q (by decide), fun q => absurd (show false = true from q) (by decide)⟩, a3, ⟨fun q => decide_eq_true q, fun q => of_decide_eq_true q⟩, Or.inl rfl, ⟨fun q => absurd q (by decide), fun q => q.elim⟩, a7, a8, a9⟩
theorem sp_forgetC {tx tp : Nat → Int64} {post : (Nat → Int64) → (Nat → Int64) → Prop} (h : ∀ tx' tp', TLC (fun _ => 0) (fun _ => 0) tx' tp' → post tx' tp') : wp_X5_forget tx tp post := by
  unfold wp_X5_forget
  refine sp_fillL (by omega) (fun a ha _ => sp_fillL (by omega) (fun b hb _ => h a b ⟨fun w hw => ⟨ha w hw, show (-27692280 : Int) ≤ 0 by decide, show (0 : Int) ≤ 27692280 by decide⟩, fun l hl => ⟨hb l hl, show (-27692280 : Int) ≤ 0 by decide, show (0 : Int) ≤ 27692280 by decide⟩⟩))
theorem neg_r {s : Nat} (h : s ≤ 300) : ¬ (0 : Int32) ≤ -10 - nI s := by
  rw [show (-10 : Int32) = iI (-10) from by decide, nI_iI, iI_sub, show (0 : Int32) = iI 0 from rfl, iI_le (by unfold rI; omega) (by unfold rI; omega)]
  omega
theorem eq_table {L : Nat} {τ : Nat → Int} {t t' : Nat → Int32} (B : TB L τ t) (B' : TB L τ t') {wi : Int32} {it le gof li va kn mo wo : Nat → Int32} {u : Nat → Nat → Int32} (T : TS wi it le gof li va kn mo wo u) (bk lk x0 x1 x2 x3 : Int32) (tx tp : Nat → Int64)
    (ga wi' y1 y2 y3 y4 y5 y6 : Int32) (lt ls ca go wr kn' mo' wf ue tu td pu pd dG dC dW dK dM dU : Nat → Int32) :
    (∃ r : Int32, wp_X6_table bk lk (nI L) x0 x1 x2 x3 t tx tp wi it le gof li va kn mo wo u (fun y sw bk' lk' len' _ _ _ _ tx' tp' wi' it' le' gof' li' va' kn' mo' wo' u' => y = r ∧ sw = 0 ∧ bk' = bk ∧ lk' = lk ∧ len' = nI L ∧ tx' = tx ∧ tp' = tp ∧ TS wi' it' le' gof' li' va' kn' mo' wo' u') ∧
      wp_X7_table (nI L) ga wi' y1 y2 y3 y4 y5 y6 t' lt ls ca go wr kn' mo' wf ue tu td pu pd dG dC dW dK dM dU (fun y ty ga2 wi2 _ _ _ _ _ _ lt2 ls2 ca2 go2 wr2 kn2 mo2 wf2 ue2 tu2 td2 pu2 pd2 _ _ _ _ _ _ => y = r ∧ ty = nI L ∧ ga2 = ga ∧ wi2 = wi' ∧ lt2 = lt ∧ ls2 = ls ∧ ca2 = ca ∧ go2 = go ∧ wr2 = wr ∧ kn2 = kn' ∧ mo2 = mo' ∧ wf2 = wf ∧ ue2 = ue ∧ tu2 = tu ∧ td2 = td ∧ pu2 = pu ∧ pd2 = pd))
    ∨ (∃ (r : Int32) (told lst : Nat → Prop) (lim : Nat → Int) (nW : Nat) (V kd M' : Nat → Int) (us : Nat → Nat → Int), wp_X6_table bk lk (nI L) x0 x1 x2 x3 t tx tp wi it le gof li va kn mo wo u (fun y sw bk' lk' len' _ _ _ _ tx' tp' wi' it' le' gof' li' va' kn' mo' wo' u' => y = r ∧ sw = 1 ∧ bk' = 0 ∧ lk' = 0 ∧ len' = 0 ∧ TLC (fun _ => 0) (fun _ => 0) tx' tp' ∧ TC told lst (fun _ => False) lim nW V kd M' us wi' it' le' gof' li' va' kn' mo' wo' u' ∧ ∀ w, w < nW → wo' w = 0) ∧
      wp_X7_table (nI L) ga wi' y1 y2 y3 y4 y5 y6 t' lt ls ca go wr kn' mo' wf ue tu td pu pd dG dC dW dK dM dU (fun y ty ga2 wi2 _ _ _ _ _ _ lt2 ls2 ca2 go2 wr2 kn2 mo2 wf2 ue2 tu2 td2 pu2 pd2 _ _ _ _ _ _ => y = r ∧ ty = 0 ∧ ∃ nG gl, (∀ wo : Nat → Int32, (∀ w, w < nW → wo w = 0) → TM told lst (fun _ => False) lim nW V kd M' us nG gl wo ga2 wi2 lt2 ls2 ca2 go2 wr2 kn2 mo2 wf2 ue2) ∧ TLM nW nG gl (fun _ => 0) (fun _ => 0) tu2 td2 pu2 pd2)) := by
  obtain ⟨told, lst, off, lim, nW, V, kd, M', us, T⟩ := T
  have T0 := TS_0 T
  generalize hR : rI' L τ 301 0 0 (fun _ => false) (fun l => decide (le l = 1)) lim 0 V kd M' us = R
  rcases R with s | ⟨k, told', lst', lim', nW', V', kd', M'', us'⟩
  · refine Or.inl ⟨-10 - nI s, ?_, ?_⟩
    · unfold wp_X6_table
      refine sp_read B T0 (fun s' z1 z2 z3 z4 told' lst' lim' nW' V' kd' M'' us' wi' it' le' gof' li' va' kn' mo' wo' u' e sl T' => ?_) (fun k z1 z2 z3 z4 told' lst' lim' nW' V' kd' M'' us' wi' it' le' gof' li' va' kn' mo' wo' u' e _ T' => ?_)
      · rw [hR] at e
        have e := Sum.inl.inj e
        subst e
        exact br_f (neg_r sl) ⟨rfl, rfl, rfl, rfl, rfl, rfl, rfl, ⟨_, _, _, _, _, _, _, _, _, T'.1⟩⟩
      · rw [hR] at e
        exact absurd e (by simp)
    · refine sp_tableM (lst0 := fun l => decide (le l = 1)) (lim := lim) (V := V) (kd := kd) (M' := M') (us := us) B' (fun s' z1 z2 z3 z4 z5 z6 d1 d2 d3 d4 d5 d6 e => ?_) (fun k told lst lim' nW V' kd' M'' us' e => ?_)
      · rw [hR] at e
        have e := Sum.inl.inj e
        subst e
        exact ⟨rfl, rfl, rfl, rfl, rfl, rfl, rfl, rfl, rfl, rfl, rfl, rfl, rfl, rfl, rfl, rfl, rfl⟩
      · rw [hR] at e
        exact absurd e (by simp)
  · refine Or.inr ⟨nI k, fun l => told' l = true, fun l => lst' l = true, lim', nW', V', kd', M'', us', ?_, ?_⟩
    · unfold wp_X6_table
      refine sp_read B T0 (fun s' z1 z2 z3 z4 told' lst' lim' nW' V' kd' M'' us' wi' it' le' gof' li' va' kn' mo' wo' u' e sl T' => ?_) (fun k z1 z2 z3 z4 told' lst' lim' nW' V' kd' M'' us' wi' it' le' gof' li' va' kn' mo' wo' u' e kl T' => ?_)
      · rw [hR] at e
        exact absurd e (by simp)
      · rw [hR] at e
        injection e with e
        injection e with e1 e
        injection e with e2 e
        injection e with e3 e
        injection e with e4 e
        injection e with e5 e
        injection e with e6 e
        injection e with e7 e
        injection e with e8 e9
        subst e1 e2 e3 e4 e5 e6 e7 e8 e9
        refine br_t (nI_pos' (by omega)) (sp_forgetC (fun tx' tp' h => ?_))
        unfold wp_X6_forgetClearings
        exact ⟨rfl, rfl, rfl, rfl, rfl, h, T'.1, T'.2⟩
    · refine sp_tableM (lst0 := fun l => decide (le l = 1)) (lim := lim) (V := V) (kd := kd) (M' := M') (us := us) B' (fun s' z1 z2 z3 z4 z5 z6 d1 d2 d3 d4 d5 d6 e => ?_) (fun k told lst lim' nW V' kd' M'' us' e y1 y2 y3 y4 y5 y6 nG gl lt' ls' ca' go' wr' kn' mo' wf' ue' tu' td' pu' pd' d1 d2 d3 d4 d5 d6 hT hL => ?_)
      · rw [hR] at e
        exact absurd e (by simp)
      · rw [hR] at e
        injection e with e
        injection e with e1 e
        injection e with e2 e
        injection e with e3 e
        injection e with e4 e
        injection e with e5 e
        injection e with e6 e
        injection e with e7 e
        injection e with e8 e9
        subst e1 e2 e3 e4 e5 e6 e7 e8 e9
        exact ⟨rfl, rfl, nG, gl, hT, hL⟩
