/-! the reference's table -/
section TABM
variable {L : Nat} {τ : Nat → Int} {t : Nat → Int32} {A S O W : Int32} {told lst : Nat → Bool} {lim : Nat → Int} {dG dC dW dK dM dU : Nat → Int32} {nW : Nat} {V kd M' : Nat → Int} {us : Nat → Nat → Int}
theorem sp_forgetM {gof wof tu td pu pd : Nat → Int32} {post : (Nat → Int32) → (Nat → Int32) → (Nat → Int32) → (Nat → Int32) → (Nat → Int32) → (Nat → Int32) → Prop} (h : ∀ g w a b c d, (∀ l, l < 5 → g l = 0 ∧ c l = 0 ∧ d l = 1) → (∀ l, l < 4 → w l = 0 ∧ a l = 0 ∧ b l = 1) → post g w a b c d) : wp_X7_forget gof wof tu td pu pd post := by
  unfold wp_X7_forget
  refine pk_loop (σ := (Nat → Int32) × (Nat → Int32) × (Nat → Int32)) (fun n i s => wl_X7_forget_2 _ _ _ _ post n (nI i) s.1 s.2.1 s.2.2) (fun i s => ∀ l, l < i → s.1 l = 0 ∧ s.2.1 l = 0 ∧ s.2.2 l = 1) 5 0 (gof, pu, pd) (by omega) (fun l hl => by omega) (fun n s hs => ?_) (fun n i s hi hs kk => ?_)
  · obtain ⟨g, c, d⟩ := s
    show ws_X7_forget_2 _ _ _ _ _ _ _ _ _ _
    unfold ws_X7_forget_2
    refine br_t (by decide) ?_
    refine pk_loop (σ := (Nat → Int32) × (Nat → Int32) × (Nat → Int32)) (fun n i s => wl_X7_forget_36 _ _ _ _ post n (nI i) s.1 s.2.1 s.2.2) (fun i s => ∀ l, l < i → s.1 l = 0 ∧ s.2.1 l = 0 ∧ s.2.2 l = 1) 4 0 (wof, tu, td) (by omega) (fun l hl => by omega) (fun n s hs' => ?_) (fun n i s hi hs' kk => ?_)
    · obtain ⟨w, a, b⟩ := s
      show ws_X7_forget_36 _ _ _ _ _ _ _ _ _ _
      unfold ws_X7_forget_36
      exact br_t (by decide) (h _ _ _ _ _ _ hs hs')
    · obtain ⟨w, a, b⟩ := s
      show ws_X7_forget_36 _ _ _ _ _ _ _ _ _ _
      unfold ws_X7_forget_36
      refine br_f (nI_ge (b := 4) hi (by omega)) ⟨vp_in_nI hi (by omega), ?_⟩
      rw [nI_1, nI_clamp (by omega), nar_0]
      refine kk (upd w i 0, upd a i 0, upd b i 1) (fun l hl => ?_)
      show upd w i 0 l = 0 ∧ upd a i 0 l = 0 ∧ upd b i 1 l = 1
      by_cases e : l = i
      · subst e; rw [pk_us, pk_us, pk_us]; exact ⟨rfl, rfl, rfl⟩
      · rw [pk_un e, pk_un e, pk_un e]; exact hs' l (by omega)
  · obtain ⟨w, a, b⟩ := s
    show ws_X7_forget_2 _ _ _ _ _ _ _ _ _ _
    unfold ws_X7_forget_2
    refine br_f (nI_ge (b := 5) hi (by omega)) ⟨vp_in_nI hi (by omega), ?_⟩
    rw [nI_1, nI_clamp (by omega), nar_0]
    refine kk (upd w i 0, upd a i 0, upd b i 1) (fun l hl => ?_)
    show upd w i 0 l = 0 ∧ upd a i 0 l = 0 ∧ upd b i 1 l = 1
    by_cases e : l = i
    · subst e; rw [pk_us, pk_us, pk_us]; exact ⟨rfl, rfl, rfl⟩
    · rw [pk_un e, pk_un e, pk_un e]; exact hs l (by omega)
theorem nW_20 {w g : Nat} (hw : w < 4) (hg : g < 5) : 5 * w + g < 20 := by omega
theorem sp_tab119 (hn : nW ≤ 4) (D : DG told lst lim dG dC) (E : DW nW V kd M' us dW dK dM dU) {k : Nat} {ty ga wi : Int32} {lt ls ca go wr kn mo wf ue tu td pu pd : Nat → Int32}
    {post : Int32 → Int32 → Int32 → Int32 → Int32 → Int32 → Int32 → Int32 → Int32 → Int32 → (Nat → Int32) → (Nat → Int32) → (Nat → Int32) → (Nat → Int32) → (Nat → Int32) → (Nat → Int32) → (Nat → Int32) → (Nat → Int32) → (Nat → Int32) → (Nat → Int32) → (Nat → Int32) → (Nat → Int32) → (Nat → Int32) → (Nat → Int32) → (Nat → Int32) → (Nat → Int32) → (Nat → Int32) → (Nat → Int32) → (Nat → Int32) → Prop}
    (h : ∀ nG gl lt' ls' ca' go' wr' kn' mo' wf' ue' tu' td' pu' pd', (∀ wo : Nat → Int32, (∀ w, w < nW → wo w = 0) → TM (fun l => told l = true) (fun l => lst l = true) (fun _ => False) lim nW V kd M' us nG gl wo (nI nG) (nI nW) lt' ls' ca' go' wr' kn' mo' wf' ue') → TLM nW nG gl (fun _ => 0) (fun _ => 0) tu' td' pu' pd' → post (nI k) 0 (nI nG) (nI nW) A S O W (-9) (nI nW) lt' ls' ca' go' wr' kn' mo' wf' ue' tu' td' pu' pd' dG dC dW dK dM dU) :
    wj_X7_table_119 (nI k) ty ga wi A S O W (-9) (nI nW) t lt ls ca go wr kn mo wf ue tu td pu pd dG dC dW dK dM dU post := by
  obtain ⟨nG, gl, EN⟩ := EnumN_ex (fun l => told l = true) 5
  have nG5 := EN.1
  unfold wj_X7_table_119
  refine br_t rfl ?_
  refine pk_loop (σ := Int32 × (Nat → Int32) × (Nat → Int32) × (Nat → Int32) × (Nat → Int32)) (fun n i s => wl_X7_table_151 _ _ _ _ _ _ _ _ _ _ _ _ _ _ _ _ _ _ _ _ _ _ _ _ _ _ post n (nI i) s.1 s.2.1 s.2.2.1 s.2.2.2.1 s.2.2.2.2)
    (fun i s => ∃ m, s.1 = nI m ∧ Cut gl nG i m ∧ ∀ g, g < m → s.2.1 g = nI (gl g) ∧ s.2.2.1 g = (if lst (gl g) = true then 1 else 0) ∧ s.2.2.2.1 g = iI (lim (gl g)) ∧ ∀ w, w < nW → s.2.2.2.2 (5 * w + g) = iI (us w (gl g))) 5 0 (0, lt, ls, ca, ue) (by omega) ⟨0, rfl, Cut_0 gl nG, fun g hg => by omega⟩ (fun n s hs => ?_) (fun n i s hi hs kk => ?_)
  · obtain ⟨m, e, c, hg⟩ := hs
    have em := Cut_end EN c
    subst em
    obtain ⟨ga', lt', ls', ca', ue'⟩ := s
    (try dsimp only at e hg)
    subst e
    show ws_X7_table_151 _ _ _ _ _ _ _ _ _ _ _ _ _ _ _ _ _ _ _ _ _ _ _ _ _ _ _ _ _ _ _ _ _ _
    unfold ws_X7_table_151
    refine br_t (by decide) ?_
    refine pk_loop (σ := (Nat → Int32) × (Nat → Int32) × (Nat → Int32)) (fun n i s => wl_X7_table_264 _ _ _ _ _ _ _ _ _ _ _ _ _ _ _ _ _ _ _ _ _ _ _ _ _ _ _ _ post n (nI i) s.1 s.2.1 s.2.2)
      (fun i s => ∀ w, w < i → s.1 w = iI (V w) ∧ s.2.1 w = iI (kd w) ∧ s.2.2 w = iI (M' w)) nW 0 (wr, kn, mo) (by omega) (fun w hw => by omega) (fun n s hs => ?_) (fun n i s hi hs kk => ?_)
    · obtain ⟨wr', kn', mo'⟩ := s
      show ws_X7_table_264 _ _ _ _ _ _ _ _ _ _ _ _ _ _ _ _ _ _ _ _ _ _ _ _ _ _ _ _ _ _ _ _ _ _
      unfold ws_X7_table_264
      refine br_t (nI_le (Nat.le_refl _) (by omega)) ?_
      refine sp_forgetM (fun g w a b c d h1 h2 => ?_)
      refine h m gl lt' ls' ca' g wr' kn' mo' w ue' a b c d (fun wo hwo => ⟨EN, rfl, rfl, fun j hj => ?_, fun q hq => ?_⟩) ⟨fun q hq => ?_, fun j hj => ?_⟩
      · obtain ⟨g1, g2, g3, g4⟩ := hg j hj
        obtain ⟨f1, f2, f3⟩ := h1 j (by omega)
        refine ⟨g1, ?_, ?_, g3, Or.inl f1, ⟨fun y => by rw [f1] at y; exact absurd y (by decide), fun y => y.elim⟩, g4⟩
        · rw [g2]
          cases lst (gl j)
          · left; rfl
          · right; rfl
        · rw [g2]
          show (if lst (gl j) = true then (1 : Int32) else 0) = 1 ↔ lst (gl j) = true
          cases lst (gl j)
          · exact ⟨fun y => absurd y (by decide), fun y => absurd y (by decide)⟩
          · exact ⟨fun _ => rfl, fun _ => rfl⟩
      · obtain ⟨f1, f2, f3⟩ := hs q hq
        exact ⟨f1, f2, f3, by rw [hwo q hq]; exact (h2 q (by omega)).1⟩
      · obtain ⟨f1, f2, f3⟩ := h2 q (by omega)
        unfold Sc
        rw [f2, f3]
        exact ⟨by decide, by decide, show (0 : Int) = Int32.toInt 0 * (27720 / Int32.toInt 1) by decide⟩
      · obtain ⟨f1, f2, f3⟩ := h1 j (by omega)
        unfold Sc
        rw [f2, f3]
        exact ⟨by decide, by decide, show (0 : Int) = Int32.toInt 0 * (27720 / Int32.toInt 1) by decide⟩
    · obtain ⟨wr', kn', mo'⟩ := s
      show ws_X7_table_264 _ _ _ _ _ _ _ _ _ _ _ _ _ _ _ _ _ _ _ _ _ _ _ _ _ _ _ _ _ _ _ _ _ _
      unfold ws_X7_table_264
      obtain ⟨e1, e2, e3, e4⟩ := E i hi
      refine br_f (nI_ge hi (by omega)) ⟨vp_in_nI (by omega) (by omega), ?_⟩
      rw [nI_1, nI_clamp (by omega), e1, e2, e3]
      refine kk (upd wr' i _, upd kn' i _, upd mo' i _) (fun w hw => ?_)
      show upd wr' i _ w = _ ∧ upd kn' i _ w = _ ∧ upd mo' i _ w = _
      by_cases e : w = i
      · subst e; rw [pk_us, pk_us, pk_us]; exact ⟨rfl, rfl, rfl⟩
      · rw [pk_un e, pk_un e, pk_un e]; exact hs w (by omega)
  · obtain ⟨m, e, c, hg⟩ := hs
    obtain ⟨ga', lt', ls', ca', ue'⟩ := s
    (try dsimp only at e hg)
    subst e
    have cm := c.1
    show ws_X7_table_151 _ _ _ _ _ _ _ _ _ _ _ _ _ _ _ _ _ _ _ _ _ _ _ _ _ _ _ _ _ _ _ _ _ _
    unfold ws_X7_table_151
    dsimp only
    refine br_f (nI_ge (b := 5) hi (by omega)) ⟨vp_in_nI hi (by omega), ?_⟩
    have ci : (nI i).toNatClampNeg = i := nI_clamp (by omega)
    rw [ci, DG_yes D hi]
    refine br_c (fun nt => ?_) (fun nt => ?_)
    · rw [nI_1 i]
      exact kk (nI m, lt', ls', ca', ue') ⟨m, rfl, Cut_no EN c (by rw [nt]; decide), hg⟩
    · have td' : told i = true := by
        cases f : told i
        · exact absurd f nt
        · rfl
      obtain ⟨k1, k2, k3⟩ := Cut_yes EN c hi td'
      obtain ⟨g1, g2⟩ := (D i hi).2 td'
      have cm' : (nI m).toNatClampNeg = m := nI_clamp (by omega)
      refine ⟨vp_in_nI (by omega) (by omega), ?_⟩
      rw [cm', g1, g2, nI_1 i, nI_1 m]
      refine pk_loop (σ := Nat → Int32) (fun n j s => wl_X7_table_209 _ _ _ _ _ _ _ _ _ _ _ _ _ _ _ _ _ _ _ _ _ _ _ _ _ _ _ _ _ _ _ post n (nI j) s)
        (fun j s => (∀ w, w < j → s (5 * w + m) = iI (us w i)) ∧ ∀ w g, g < 5 → g ≠ m → s (5 * w + g) = ue' (5 * w + g)) nW 0 ue' (by omega) ⟨fun w hw => by omega, fun _ _ _ _ => rfl⟩ (fun n s hs => ?_) (fun n j s hj hs kk2 => ?_)
      · show ws_X7_table_209 _ _ _ _ _ _ _ _ _ _ _ _ _ _ _ _ _ _ _ _ _ _ _ _ _ _ _ _ _ _ _ _ _ _ _
        unfold ws_X7_table_209
        refine br_t (nI_le (Nat.le_refl _) (by omega)) (kk (nI (m + 1), upd lt' m (nI i), upd ls' m _, upd ca' m _, s) ⟨m + 1, rfl, k3, fun g hg' => ?_⟩)
        show upd lt' m (nI i) g = _ ∧ upd ls' m _ g = _ ∧ upd ca' m _ g = _ ∧ _
        by_cases e : g = m
        · subst e
          rw [pk_us, pk_us, pk_us, k2]
          exact ⟨rfl, rfl, rfl, fun w hw => hs.1 w hw⟩
        · rw [pk_un e, pk_un e, pk_un e]
          obtain ⟨f1, f2, f3, f4⟩ := hg g (by omega)
          exact ⟨f1, f2, f3, fun w hw => by show s (5 * w + g) = _; rw [hs.2 w g (by omega) e]; exact f4 w hw⟩
      · show ws_X7_table_209 _ _ _ _ _ _ _ _ _ _ _ _ _ _ _ _ _ _ _ _ _ _ _ _ _ _ _ _ _ _ _ _ _ _ _
        unfold ws_X7_table_209
        rw [ix5, ix5]
        have c1 : (nI (5 * j + i)).toNatClampNeg = 5 * j + i := nI_clamp (by omega)
        have c2 : (nI (5 * j + m)).toNatClampNeg = 5 * j + m := nI_clamp (by omega)
        refine br_f (nI_ge hj (by omega)) ⟨vp_in_nI (by omega) (by omega), vp_in_nI (by omega) (by omega), ?_⟩
        rw [c1, c2, (E j hj).2.2.2 i hi, nI_1 j]
        intro f ef
        subst ef
        refine kk2 _ ⟨fun w hw => ?_, fun w g hg' ne => ?_⟩
        · by_cases e : w = j
          · subst e; exact pk_us ..
          · rw [pk_un (by omega)]; exact hs.1 w (by omega)
        · rw [pk_un (by omega)]; exact hs.2 w g hg' ne
end TABM
