/-! the reference reads a table -/
/-- the reference stands at the token behind a -/
def TA (L : Nat) (τ : Nat → Int) (a : Nat) (at' st so va : Int32) : Prop := at' = nI (te L τ a) ∧ st = nI (ts L τ a) ∧ so = nI (srt (tc L τ a)) ∧ VM (tc L τ a) (tv L τ a) va
theorem nF {s : Nat} (h : s ≤ 300) : nI s ≠ (-9 : Int32) := fun q => by
  have a : (nI s).toInt = s := nI_toInt (by omega)
  rw [q] at a
  have : (-9 : Int32).toInt = -9 := by decide
  omega
theorem srt_r (c : Nat) : srt c ≤ 5 := by
  unfold srt
  repeat (first | omega | split)
theorem srt_4 {c : Nat} : srt c = 4 ↔ c = 2 := by
  unfold srt
  repeat (first | omega | split)
theorem srt_2 {c : Nat} : srt c = 2 ↔ c = 3 := by
  unfold srt
  repeat (first | omega | split)
theorem srt_3 {c : Nat} : srt c = 3 ↔ c = 4 := by
  unfold srt
  repeat (first | omega | split)
theorem srt_0 {c : Nat} : srt c = 0 ↔ c = 0 := by
  unfold srt
  repeat (first | omega | split)
theorem srt_1 {c : Nat} : srt c = 1 ↔ 5 ≤ c := by
  unfold srt
  repeat (first | omega | split)
section RDM
variable {L : Nat} {τ : Nat → Int} {t : Nat → Int32} {a : Nat} {A S O W : Int32}
theorem so_iff {c k : Nat} (hk : k ≤ 10) : nI (srt c) = nI k ↔ srt c = k := nI_eq (by have := srt_r c; omega) (by omega)
theorem sp_due1 (B : TB L τ t) (ha : a ≤ L) (T : TA L τ a A S O W) {x : Int32} (hx : x ≠ 0) {post : Int32 → Int32 → Int32 → Int32 → Int32 → Int32 → Prop} (h : ∀ A' S' O' W', TA L τ (te L τ a) A' S' O' W' → post W A' S' O' W' (-9)) : wp_X7_due (nI L) A S O W (-9) t x post := by
  obtain ⟨t1, t2, t3, t4⟩ := T
  obtain ⟨s1, s2, s3, _⟩ := tk_sure (τ := τ) ha
  unfold wp_X7_due
  rw [t1]
  exact br_t rfl (br_f hx (sp_nextM B s3 (fun z hz => h _ _ _ _ ⟨rfl, rfl, rfl, hz⟩)))
theorem sp_due0 (T : TA L τ a A S O W) {post : Int32 → Int32 → Int32 → Int32 → Int32 → Int32 → Prop} (h : post W A S O W (nI (ts L τ a))) : wp_X7_due (nI L) A S O W (-9) t 0 post := by
  obtain ⟨t1, t2, t3, t4⟩ := T
  unfold wp_X7_due
  rw [t2] at h ⊢
  exact br_t rfl (br_t rfl h)
theorem sp_dueF {F : Int32} (hF : F ≠ -9) {x : Int32} {post : Int32 → Int32 → Int32 → Int32 → Int32 → Int32 → Prop} (h : post W A S O W F) : wp_X7_due (nI L) A S O W F t x post := by
  unfold wp_X7_due
  exact br_f hF h
theorem sp_numberF {F : Int32} (hF : F ≠ -9) {x y : Int32} {post : Int32 → Int32 → Int32 → Int32 → Int32 → Int32 → Prop} (h : post W A S O W F) : wp_X7_number (nI L) A S O W F t x y post := by
  unfold wp_X7_number wj_X7_number_29
  refine br_c (fun c => ?_) (fun c => sp_dueF hF h)
  unfold wp_X7_in
  exact br_c (fun _ => br_t rfl (sp_dueF hF h)) (fun _ => br_c (fun _ => br_t rfl (sp_dueF hF h)) (fun _ => br_f (by decide) (sp_dueF hF h)))
theorem sp_numberM (B : TB L τ t) (ha : a ≤ L) (T : TA L τ a A S O W) {x y : Int} (rx : rI x) (ry : rI y) {post : Int32 → Int32 → Int32 → Int32 → Int32 → Int32 → Prop} (h1 : nbw L τ a x y → ∀ A' S' O' W', TA L τ (te L τ a) A' S' O' W' → post (iI (tv L τ a)) A' S' O' W' (-9)) (h0 : ¬ nbw L τ a x y → post W A S O W (nI (ts L τ a))) : wp_X7_number (nI L) A S O W (-9) t (iI x) (iI y) post := by
  obtain ⟨t1, t2, t3, t4⟩ := id T
  obtain ⟨s1, s2, s3, s4, s5, s6, s7, s8⟩ := tk_sure (τ := τ) ha
  unfold wp_X7_number wj_X7_number_29
  rw [show (O = (3 : Int32)) = (nI (srt (tc L τ a)) = nI 3) by rw [t3]; rfl, so_iff (by omega), srt_3]
  refine br_c (fun c => ?_) (fun c => sp_due0 T (h0 (fun q => c q.1)))
  have v := s7 c
  have ew : W = iI (tv L τ a) := t4.1 (Or.inr (Or.inl c))
  subst ew
  rw [iI_l (by unfold rI; omega), iI_l rx, iI_l ry]
  unfold rI at rx ry
  exact sp_in ⟨by omega, by omega⟩ ⟨by omega, by omega⟩ ⟨by omega, by omega⟩ (fun q => br_f (by decide) (sp_due1 B ha T (by decide) (h1 ⟨c, q.1, q.2⟩))) (fun q => br_t rfl (sp_due0 T (h0 (fun z => q ⟨z.2.1, z.2.2⟩))))
/-- the draft of the gates -/
def DG (told lst : Nat → Bool) (lim : Nat → Int) (dG dC : Nat → Int32) : Prop := ∀ l, l < 5 → (told l = false → dG l = -9) ∧ (told l = true → dG l = (if lst l = true then 1 else 0) ∧ dC l = iI (lim l))
variable {told lst : Nat → Bool} {lim : Nat → Int} {dG dC : Nat → Int32}
theorem DG_yes (D : DG told lst lim dG dC) {l : Nat} (hl : l < 5) : dG l = -9 ↔ told l = false := by
  constructor
  · intro q
    cases e : told l
    · rfl
    · have := ((D l hl).2 e).1
      rw [q] at this
      cases f : lst l
      · rw [f] at this
        exact absurd this (by decide)
      · rw [f] at this
        exact absurd this (by decide)
  · exact (D l hl).1
theorem DG_add (D : DG told lst lim dG dC) {l : Nat} (hl : l < 5) {b : Bool} {n : Int} {s2 : Int32} (hs : s2 = if b = true then 1 else 0) : DG (up1 told l true) (up1 lst l b) (up1 lim l n) (upd dG l s2) (upd dC l (iI n)) := fun i hi => by
  by_cases e : i = l
  · subst e
    rw [up1_s, up1_s, up1_s, pk_us, pk_us]
    exact ⟨fun q => absurd q (by decide), fun _ => ⟨hs, rfl⟩⟩
  · rw [up1_n e, up1_n e, up1_n e, pk_un e, pk_un e]
    exact D i hi
theorem sp_readGate (B : TB L τ t) (D : DG told lst lim dG dC) {a0 : Nat} (ha0 : a0 ≤ L) (T : TA L τ a0 A S O W) {post : Int32 → Int32 → Int32 → Int32 → Int32 → (Nat → Int32) → (Nat → Int32) → Prop} (h0 : ∀ s y1 y2 y3 y4, gI L τ told (te L τ a0) = .inl s → s ≤ 300 → post y1 y2 y3 y4 (nI s) dG dC) (h1 : ∀ l b n e, gI L τ told (te L τ a0) = .inr (l, b, n, e) → te L τ a0 < e → e ≤ L → ∀ A' S' O' W' dG' dC', TA L τ e A' S' O' W' → DG (up1 told l true) (up1 lst l b) (up1 lim l n) dG' dC' → post A' S' O' W' (-9) dG' dC') : wp_X7_readGate (nI L) A S O W (-9) t dG dC post := by
  have hL := B.1
  have f114 : ∀ x1 x2 x3 x4 A S O W F, F ≠ -9 → post A S O W F dG dC → wj_X7_readGate_114 x1 x2 x3 x4 (nI L) A S O W F t dG dC post := fun x1 x2 x3 x4 A S O W F hF h => by
    unfold wj_X7_readGate_114
    exact sp_dueF hF (br_f hF h)
  have f88 : ∀ x1 s1 A S O W F, F ≠ -9 → post A S O W F dG dC → wj_X7_readGate_88 x1 s1 (nI L) A S O W F t dG dC post := fun x1 s1 A S O W F hF h => by
    unfold wj_X7_readGate_88
    exact sp_dueF hF (sp_numberF hF (br_c (fun _ => f114 _ _ _ _ _ _ _ _ _ hF h) (fun _ => f114 _ _ _ _ _ _ _ _ _ hF h)))
  obtain ⟨o1, o2, o3, _⟩ := tk_sure (τ := τ) ha0
  unfold wp_X7_readGate
  refine sp_due1 B ha0 T (by decide) (fun A1 S1 O1 W1 T1 => ?_)
  generalize te L τ a0 = a at *
  obtain ⟨s1, s2, s3, s4, s5, s6, s7, s8⟩ := tk_sure (τ := τ) (L := L) (a := a) (by omega)
  obtain ⟨p1, p2, p3, p4, p5, p6, p7, p8⟩ := tk_sure (τ := τ) (L := L) (a := te L τ a) (by omega)
  obtain ⟨q1, q2, q3, q4, q5, q6, q7, q8⟩ := tk_sure (τ := τ) (L := L) (a := te L τ (te L τ a)) (by omega)
  obtain ⟨r1, r2, r3, r4, r5, r6, r7, r8⟩ := tk_sure (τ := τ) (L := L) (a := te L τ (te L τ (te L τ a))) (by omega)
  obtain ⟨t1, t2, t3, t4⟩ := id T1
  have bad : (¬ (tc L τ a = 3 ∧ told (tv L τ a).toNat = false)) → wj_X7_readGate_53 0 (nI L) A1 S1 O1 W1 (-9) t dG dC post := fun n => by
    have h := h0 (ts L τ a)
    unfold gI at h
    rw [if_neg n] at h
    unfold wj_X7_readGate_53
    refine sp_due0 T1 ?_
    have hF := nF (s := ts L τ a) (by omega)
    have g := fun y1 y2 y3 y4 => h y1 y2 y3 y4 rfl (by omega)
    unfold wp_X7_in
    exact br_c (fun _ => br_c (fun _ => br_t rfl (f88 _ _ _ _ _ _ _ hF (g _ _ _ _))) (fun _ => br_c (fun _ => br_t rfl (f88 _ _ _ _ _ _ _ hF (g _ _ _ _))) (fun _ => br_f (by decide) (f88 _ _ _ _ _ _ _ hF (g _ _ _ _))))) (fun _ => f88 _ _ _ _ _ _ _ hF (g _ _ _ _))
  rw [show (O1 = (2 : Int32)) = (nI (srt (tc L τ a)) = nI 2) by rw [t3]; rfl, so_iff (by omega), srt_2]
  refine br_c (fun c => ?_) (fun c => bad (fun q => c q.1))
  have v := s6 c
  obtain ⟨l, hl⟩ : ∃ l : Nat, (l : Int) = tv L τ a := ⟨(tv L τ a).toNat, by omega⟩
  have vl : (tv L τ a).toNat = l := by omega
  have ez : W1 = nI l := by rw [t4.1 (Or.inl c), ← hl, nI_iI]
  subst ez
  have cl : (nI l).toNatClampNeg = l := nI_clamp (by omega)
  refine br_f (nI_pos (by omega)) (br_t (nI_le (b := 4) (by omega) (by omega)) ?_)
  unfold wj_X7_readGate_42
  refine ⟨vp_in_nI (by omega) (by omega), ?_⟩
  rw [cl, DG_yes D (by omega)]
  refine br_c (fun nt => ?_) (fun nt => bad (fun q => nt (by rw [vl] at q; exact q.2)))
  have G : gI L τ told a = if tc L τ (te L τ a) = 7 ∨ tc L τ (te L τ a) = 8 then
      if nbw L τ (te L τ (te L τ a)) 0 99 then
        if tc L τ (te L τ (te L τ (te L τ a))) = 2 then .inr ((tv L τ a).toNat, decide (tc L τ (te L τ a) = 8), tv L τ (te L τ (te L τ a)), te L τ (te L τ (te L τ (te L τ a))))
        else .inl (ts L τ (te L τ (te L τ (te L τ a))))
      else .inl (ts L τ (te L τ (te L τ a)))
    else .inl (ts L τ (te L τ a)) := by
    unfold gI
    rw [if_pos ⟨c, by rw [vl]; exact nt⟩]
  clear bad
  unfold wj_X7_readGate_53
  refine sp_due1 B (by omega) T1 (by decide) (fun A2 S2 O2 W2 T2 => ?_)
  obtain ⟨u1, u2, u3, u4⟩ := id T2
  have bad : ¬ (tc L τ (te L τ a) = 7 ∨ tc L τ (te L τ a) = 8) → wj_X7_readGate_88 (nI l) 0 (nI L) A2 S2 O2 W2 (-9) t dG dC post := fun n => by
    rw [if_neg n] at G
    unfold wj_X7_readGate_88
    have hF := nF (s := ts L τ (te L τ a)) (by omega)
    exact sp_due0 T2 (sp_numberF hF (br_c (fun _ => f114 _ _ _ _ _ _ _ _ _ hF (h0 _ _ _ _ _ G (by omega))) (fun _ => f114 _ _ _ _ _ _ _ _ _ hF (h0 _ _ _ _ _ G (by omega)))))
  have good : (tc L τ (te L τ a) = 7 ∨ tc L τ (te L τ a) = 8) → (W2 = (6 : Int32) ↔ tc L τ (te L τ a) = 8) → wj_X7_readGate_88 (nI l) 1 (nI L) A2 S2 O2 W2 (-9) t dG dC post := fun m e6 => by
    rw [if_pos m] at G
    unfold wj_X7_readGate_88
    refine sp_due1 B (by omega) T2 (by decide) (fun A3 S3 O3 W3 T3 => ?_)
    refine sp_numberM (x := 0) (y := 99) B (by omega) T3 (by unfold rI; omega) (by unfold rI; omega) (fun k A4 S4 O4 W4 T4 => ?_) (fun k => ?_)
    · rw [if_pos k] at G
      rw [show (O4 = (4 : Int32)) = (nI (srt (tc L τ (te L τ (te L τ (te L τ a))))) = nI 4) by rw [T4.2.2.1]; rfl, so_iff (by omega), srt_4]
      refine br_c (fun w => ?_) (fun w => ?_)
      · rw [if_pos w, vl] at G
        unfold wj_X7_readGate_114
        refine sp_due1 B (by omega) T4 (by decide) (fun A5 S5 O5 W5 T5 => br_t rfl ?_)
        unfold wj_X7_readGate_143
        rw [cl, e6]
        have w5 := r5 (by omega)
        refine br_c (fun y => ⟨vp_in_nI (by omega) (by omega), vp_in_nI (by omega) (by omega), ?_⟩) (fun y => ⟨vp_in_nI (by omega) (by omega), vp_in_nI (by omega) (by omega), ?_⟩)
        · exact h1 _ _ _ _ G (by omega) r3 _ _ _ _ _ _ T5 (DG_add D (by omega) (by rw [y]; decide))
        · exact h1 _ _ _ _ G (by omega) r3 _ _ _ _ _ _ T5 (DG_add D (by omega) (by rw [decide_eq_false y]; decide))
      · rw [if_neg w] at G
        unfold wj_X7_readGate_114
        have hF := nF (s := ts L τ (te L τ (te L τ (te L τ a)))) (by omega)
        exact sp_due0 T4 (br_f hF (h0 _ _ _ _ _ G (by omega)))
    · rw [if_neg k] at G
      have hF := nF (s := ts L τ (te L τ (te L τ a))) (by omega)
      exact br_c (fun _ => f114 _ _ _ _ _ _ _ _ _ hF (h0 _ _ _ _ _ G (by omega))) (fun _ => f114 _ _ _ _ _ _ _ _ _ hF (h0 _ _ _ _ _ G (by omega)))
  rw [show (O2 = (1 : Int32)) = (nI (srt (tc L τ (te L τ a))) = nI 1) by rw [u3]; rfl, so_iff (by omega), srt_1]
  refine br_c (fun m => ?_) (fun m => bad (by omega))
  rcases (by omega : tc L τ (te L τ a) = 7 ∨ tc L τ (te L τ a) = 8 ∨ (tc L τ (te L τ a) = 5 ∨ tc L τ (te L τ a) = 6 ∨ tc L τ (te L τ a) = 9)) with y | y | y
  · have e : W2 = 5 := u4.2.2.2.1 y
    subst e
    unfold wp_X7_in
    exact br_f (by decide) (br_f (by decide) (br_f (by decide) (good (Or.inl y) ⟨fun q => absurd q (by decide), fun q => by omega⟩)))
  · have e : W2 = 6 := u4.2.2.2.2 y
    subst e
    unfold wp_X7_in
    exact br_f (by decide) (br_f (by decide) (br_f (by decide) (good (Or.inr y) ⟨fun _ => y, fun _ => rfl⟩)))
  · have e : W2.toInt64 < (5 : Int64) := by
      rcases y with y | y | y
      · rw [u4.2.1 y]; decide
      · rw [u4.2.2.1 y]; decide
      · have k8 := p8 y
        rw [u4.1 (Or.inr (Or.inr y)), iI_l (by unfold rI; omega)]
        exact (lI_lt (b := 5) ⟨by omega, by omega⟩ ⟨by omega, by omega⟩).mpr (by omega)
    unfold wp_X7_in
    exact br_t e (br_t rfl (bad (by omega)))
end RDM
