/-! the text: bytes, skips, runs -/
/-- bytes of both texts -/
def TB (L : Nat) (τ : Nat → Int) (t : Nat → Int32) : Prop := L ≤ 300 ∧ ∀ j, j < L → t j = iI (τ j) ∧ -128 ≤ τ j ∧ τ j ≤ 127
theorem byte_r (x : Int32) : -128 ≤ (vp_nar .byte x).toInt ∧ (vp_nar .byte x).toInt ≤ 127 := by
  rw [vp_nar_byte, Int8.toInt_toInt32]
  have a := Int8.le_toInt x.toInt8
  have b := Int8.toInt_lt x.toInt8
  exact ⟨by omega, by omega⟩
theorem tyT_r (x : Int64) : ∀ (k L : Nat) (t : Nat → Int32), (∀ j, j < L → -128 ≤ (t j).toInt ∧ (t j).toInt ≤ 127) → ∀ j, j < L + k → -128 ≤ (tyT x k L t j).toInt ∧ (tyT x k L t j).toInt ≤ 127 := by
  intro k
  induction k with
  | zero => intro L t h j hj; exact h j (by omega)
  | succ k ih =>
    intro L t h j hj
    unfold tyT
    refine ih (L + 1) _ (fun i hi => ?_) j (by omega)
    by_cases e : i = L
    · subst e; rw [pk_us]; exact byte_r _
    · rw [pk_un e]; exact h i (by omega)
theorem and255' : ∀ n : Nat, n < 256 → (iI ((n : Int) - 128) &&& 255 : Int32) = iI (((n : Int) - 128) % 256) := by decide +kernel
theorem and255 {v : Int} (h0 : -128 ≤ v) (h1 : v ≤ 127) : (iI v &&& 255 : Int32) = iI (v % 256) := by
  have := and255' (v + 128).toNat (by omega)
  rw [show (((v + 128).toNat : Nat) : Int) - 128 = v by omega] at this
  exact this
def Sk (L : Nat) (τ : Nat → Int) (a s : Nat) : Prop := a ≤ s ∧ s ≤ L ∧ (∀ j, a ≤ j → j < s → τ j = 32) ∧ (s < L → τ s ≠ 32)
theorem Sk_one {L : Nat} {τ : Nat → Int} {a s s' : Nat} (h : Sk L τ a s) (h' : Sk L τ a s') : s = s' := by
  obtain ⟨a1, a2, a3, a4⟩ := h
  obtain ⟨b1, b2, b3, b4⟩ := h'
  rcases Nat.lt_trichotomy s s' with y | y | y
  · exact absurd (b3 s a1 y) (a4 (by omega))
  · exact y
  · exact absurd (a3 s' b1 y) (b4 (by omega))
def Rn (L : Nat) (τ : Nat → Int) (p : Int → Prop) (s e : Nat) : Prop := s ≤ e ∧ e ≤ L ∧ (∀ j, s ≤ j → j < e → p (τ j)) ∧ (e < L → ¬ p (τ e))
theorem Rn_one {L : Nat} {τ : Nat → Int} {p : Int → Prop} {a s s' : Nat} (h : Rn L τ p a s) (h' : Rn L τ p a s') : s = s' := by
  obtain ⟨a1, a2, a3, a4⟩ := h
  obtain ⟨b1, b2, b3, b4⟩ := h'
  rcases Nat.lt_trichotomy s s' with y | y | y
  · exact absurd (b3 s a1 y) (a4 (by omega))
  · exact y
  · exact absurd (a3 s' b1 y) (b4 (by omega))
def dig (v : Int) : Prop := 48 ≤ v ∧ v ≤ 57
def sml (v : Int) : Prop := 97 ≤ v ∧ v ≤ 122
theorem sp_isDigit {v : Int} (r : rI v) {post : Int32 → Prop} (h1 : dig v → post 1) (h0 : ¬ dig v → post 0) : wp_X3_isDigit (iI v) post := by
  unfold wp_X3_isDigit
  unfold dig at h1 h0
  rw [show (48 : Int32) = iI 48 from rfl, show (57 : Int32) = iI 57 from rfl, iI_lt r (by unfold rI; omega), iI_lt (by unfold rI; omega) r]
  exact br_c (fun z => h0 (by omega)) (fun z => br_c (fun y => h0 (by omega)) (fun y => h1 (by omega)))
theorem sp_isSmall {v : Int} (r : rI v) {post : Int32 → Prop} (h1 : sml v → post 1) (h0 : ¬ sml v → post 0) : wp_X3_isSmall (iI v) post := by
  unfold wp_X3_isSmall
  unfold sml at h1 h0
  rw [show (97 : Int32) = iI 97 from rfl, show (122 : Int32) = iI 122 from rfl, iI_lt r (by unfold rI; omega), iI_lt (by unfold rI; omega) r]
  exact br_c (fun z => h0 (by omega)) (fun z => br_c (fun y => h0 (by omega)) (fun y => h1 (by omega)))
section TEXT
variable {L : Nat} {τ : Nat → Int} {t : Nat → Int32}
theorem sp_here (B : TB L τ t) {a : Nat} (ha : a ≤ 300) {post : Int32 → Prop} (h1 : L ≤ a → post (-1)) (h0 : a < L → post (iI (τ a % 256))) : wp_X7_here (nI L) (nI a) t post := by
  have hL := B.1
  unfold wp_X7_here
  have ca : (nI a).toNatClampNeg = a := nI_clamp (by omega)
  rw [nI_leI (by omega) (by omega), ca]
  refine br_c (fun z => h1 z) (fun z => ?_)
  obtain ⟨b1, b2, b3⟩ := B.2 a (by omega)
  rw [b1, and255 b2 b3]
  exact ⟨vp_in_nI (by omega) (by omega), h0 (by omega)⟩
theorem skip_loopC (B : TB L τ t) {x1 x2 x3 : Int32} {kx : Int32 → Prop} {post : Int32 → Int32 → Int32 → Int32 → Prop} {a : Nat} (ha : a ≤ L) (h : ∀ s, Sk L τ a s → kx (nI s)) : ∃ n, wl_X3_next_0 (nI L) x1 x2 x3 t kx post n (nI a) := by
  have hL := B.1
  refine pk_loop (σ := Unit) (fun n i _ => wl_X3_next_0 (nI L) x1 x2 x3 t kx post n (nI i)) (fun i _ => a ≤ i ∧ ∀ j, a ≤ j → j < i → τ j = 32) L a () ha ⟨Nat.le_refl _, fun j j1 j2 => by omega⟩ (fun n s hs => ?_) (fun n i s hi hs kk => ?_)
  · show ws_X3_next_0 _ _ _ _ _ _ _ _ _
    unfold ws_X3_next_0
    exact br_t (nI_le (Nat.le_refl _) (by omega)) (h L ⟨hs.1, Nat.le_refl _, hs.2, fun z => by omega⟩)
  · show ws_X3_next_0 _ _ _ _ _ _ _ _ _
    unfold ws_X3_next_0
    have ci : (nI i).toNatClampNeg = i := nI_clamp (by omega)
    obtain ⟨b1, b2, b3⟩ := B.2 i hi
    refine br_f (nI_ge hi (by omega)) ⟨vp_in_nI (by omega) (by omega), ?_⟩
    rw [ci, b1, show (32 : Int32) = iI 32 from rfl, iI_eq (by unfold rI; omega) (by unfold rI; omega), nI_1 i]
    refine br_c (fun z => kk () ⟨by omega, fun j j1 j2 => ?_⟩) (fun z => h i ⟨hs.1, by omega, hs.2, fun _ => z⟩)
    by_cases e : j = i
    · subst e; exact z
    · exact hs.2 j j1 (by omega)
theorem skip_loopM (B : TB L τ t) {x1 x2 x3 : Int32} {kx : Int32 → Prop} {post : Int32 → Int32 → Int32 → Int32 → Prop} {a : Nat} (ha : a ≤ L) (h : ∀ s, Sk L τ a s → kx (nI s)) : ∃ n, wl_X7_next_0 (nI L) x1 x2 x3 t kx post n (nI a) := by
  have hL := B.1
  refine pk_loop (σ := Unit) (fun n i _ => wl_X7_next_0 (nI L) x1 x2 x3 t kx post n (nI i)) (fun i _ => a ≤ i ∧ ∀ j, a ≤ j → j < i → τ j = 32) L a () ha ⟨Nat.le_refl _, fun j j1 j2 => by omega⟩ (fun n s hs => ?_) (fun n i s hi hs kk => ?_)
  · show ws_X7_next_0 _ _ _ _ _ _ _ _ _
    unfold ws_X7_next_0
    exact sp_here B hL (fun _ => br_f (by decide) (h L ⟨hs.1, Nat.le_refl _, hs.2, fun z => by omega⟩)) (fun z => by omega)
  · show ws_X7_next_0 _ _ _ _ _ _ _ _ _
    unfold ws_X7_next_0
    obtain ⟨b1, b2, b3⟩ := B.2 i hi
    refine sp_here B (by omega) (fun z => by omega) (fun _ => ?_)
    rw [show (32 : Int32) = iI 32 from rfl, iI_eq (by unfold rI; omega) (by unfold rI; omega), nI_1 i]
    refine br_c (fun z => kk () ⟨by omega, fun j j1 j2 => ?_⟩) (fun z => h i ⟨hs.1, by omega, hs.2, fun _ y => z (by omega)⟩)
    by_cases e : j = i
    · subst e; omega
    · exact hs.2 j j1 (by omega)
end TEXT
