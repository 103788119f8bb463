/-! the class's next token -/
theorem nI_m {a b : Nat} (h : b ≤ a) : nI a - nI b = nI (a - b) := by
  rw [nI_iI, nI_iI, iI_sub, nI_iI]
  congr 1
  omega
section NXC
variable {L : Nat} {τ : Nat → Int} {t : Nat → Int32}
theorem vN_s (τ : Nat → Int) {s i : Nat} (h : s ≤ i) : vN τ s (i + 1 - s) = if vN τ s (i - s) ≤ 999 then vN τ s (i - s) * 10 + τ i - 48 else vN τ s (i - s) := by
  rw [show i + 1 - s = (i - s) + 1 by omega]
  show (if vN τ s (i - s) ≤ 999 then vN τ s (i - s) * 10 + τ (s + (i - s)) - 48 else vN τ s (i - s)) = _
  rw [show s + (i - s) = i by omega]
theorem digs_ext {s i : Nat} {p : Int → Prop} (h : ∀ j, s ≤ j → j < i → p (τ j)) (hi : p (τ i)) : ∀ j, s ≤ j → j < i + 1 → p (τ j) := fun j j1 j2 => by
  by_cases e : j = i
  · subst e; exact hi
  · exact h j j1 (by omega)
theorem dig_numC {v d : Int} (r0 : 0 ≤ v) (r1 : v ≤ 9999) : ((iI v * (10 : Int32)) + iI d) - 48 = iI (v * 10 + d - 48) := by
  rw [show (10 : Int32) = iI 10 from rfl, show (48 : Int32) = iI 48 from rfl, iI_mul, iI_add, iI_sub]
theorem vN_at {s i : Nat} (h : ∀ j, s ≤ j → j < i → dig (τ j)) : 0 ≤ vN τ s (i - s) ∧ vN τ s (i - s) ≤ 9999 := vN_r τ s (i - s) (fun j hj => h (s + j) (by omega) (by omega))
theorem dig_loopC (B : TB L τ t) {x1 x2 : Int32} {kx : Int32 → Int32 → Prop} {post : Int32 → Int32 → Int32 → Prop} {s a : Nat} (sa : s ≤ a) (ha : a ≤ L) (hd : ∀ j, s ≤ j → j < a → dig (τ j)) (h : ∀ e, Rn L τ dig s e → kx (nI e) (iI (vN τ s (e - s)))) : ∃ n, wl_X3_readDigits_0 (nI L) x1 x2 t kx post n (nI a) (iI (vN τ s (a - s))) := by
  have hL := B.1
  refine pk_loop (σ := Int32) (fun n i q => wl_X3_readDigits_0 (nI L) x1 x2 t kx post n (nI i) q) (fun i q => s ≤ i ∧ q = iI (vN τ s (i - s)) ∧ ∀ j, s ≤ j → j < i → dig (τ j)) L a (iI (vN τ s (a - s))) ha ⟨sa, rfl, hd⟩ (fun n q hq => ?_) (fun n i q hi hq kk => ?_)
  · obtain ⟨q1, rfl, q3⟩ := hq
    show ws_X3_readDigits_0 _ _ _ _ _ _ _ _ _
    unfold ws_X3_readDigits_0
    exact br_t (nI_le (Nat.le_refl _) (by omega)) (h L ⟨q1, Nat.le_refl _, q3, fun z => by omega⟩)
  · obtain ⟨q1, rfl, q3⟩ := hq
    show ws_X3_readDigits_0 _ _ _ _ _ _ _ _ _
    unfold ws_X3_readDigits_0
    have ci : (nI i).toNatClampNeg = i := nI_clamp (by omega)
    obtain ⟨b1, b2, b3⟩ := B.2 i hi
    have vr := vN_at q3
    refine br_f (nI_ge hi (by omega)) ⟨vp_in_nI (by omega) (by omega), ?_⟩
    rw [ci, b1]
    refine sp_isDigit (by unfold rI; omega) (fun d => br_f (by decide) ?_) (fun d => br_t rfl (h i ⟨q1, by omega, q3, fun _ => d⟩))
    have vs := vN_s τ q1
    rw [show (999 : Int32) = iI 999 from rfl, iI_lt (by unfold rI; omega) (by unfold rI; omega), dig_numC vr.1 vr.2]
    unfold wj_X3_readDigits_60_b
    rw [nI_1 i]
    refine br_c (fun z => ?_) (fun z v ev => ?_)
    · rw [if_neg (by omega)] at vs
      exact kk _ ⟨by omega, by rw [vs], digs_ext q3 d⟩
    · rw [if_pos (by omega)] at vs
      subst ev
      exact kk _ ⟨by omega, by rw [vs], digs_ext q3 d⟩
theorem dig_endC (B : TB L τ t) {x : Int32} {s e : Nat} (hs : s < L) (r : Rn L τ dig s e) {post : Int32 → Int32 → Int32 → Prop} (h : post (nI e) (nI (if vN τ s (e - s) ≤ 999 ∧ ¬ (τ s = 48 ∧ 1 < e - s) then 4 else 1)) (iI (vN τ s (e - s)))) : wj_X3_readDigits_73 (nI L) (nI e) (nI s) x (iI (vN τ s (e - s))) t post := by
  have hL := B.1
  obtain ⟨r1, r2, r3, r4⟩ := id r
  have vr := vN_at r3
  obtain ⟨b1, b2, b3⟩ := B.2 s hs
  have ci : (nI s).toNatClampNeg = s := nI_clamp (by omega)
  unfold wj_X3_readDigits_73 wj_X3_readDigits_105
  refine ⟨vp_in_nI (by omega) (by omega), ?_⟩
  rw [ci, b1, show (48 : Int32) = iI 48 from rfl, iI_eq (by unfold rI; omega) (by unfold rI; omega), nI_d1 r1 (by omega), show (999 : Int32) = iI 999 from rfl, iI_le (by unfold rI; omega) (by unfold rI; omega)]
  refine br_c (fun z => br_c (fun y => br_t rfl (br_c (fun w => ?_) (fun w => ?_))) (fun y => br_f (by decide) ?_)) (fun z => br_t rfl (br_c (fun w => ?_) (fun w => ?_)))
  · rw [if_pos ⟨w, fun q => by omega⟩] at h
    exact h
  · rw [if_neg (fun q => w q.1)] at h
    exact h
  · rw [if_neg (fun q => q.2 ⟨z, by omega⟩)] at h
    exact h
  · rw [if_pos ⟨w, fun q => z q.1⟩] at h
    exact h
  · rw [if_neg (fun q => w q.1)] at h
    exact h
theorem sp_readDigits (B : TB L τ t) {x : Int32} {s : Nat} (hs : s < L) (hd : dig (τ s)) {post : Int32 → Int32 → Int32 → Prop} (h : ∀ e, Rn L τ dig s e → post (nI e) (nI (if vN τ s (e - s) ≤ 999 ∧ ¬ (τ s = 48 ∧ 1 < e - s) then 4 else 1)) (iI (vN τ s (e - s)))) : wp_X3_readDigits (nI L) (nI s) (nI s) x 0 t post := by
  have hL := B.1
  obtain ⟨b1, b2, b3⟩ := B.2 s hs
  have ci : (nI s).toNatClampNeg = s := nI_clamp (by omega)
  unfold wp_X3_readDigits
  refine br_f (nI_ge hs (by omega)) ⟨vp_in_nI (by omega) (by omega), ?_⟩
  rw [ci, b1]
  refine sp_isDigit (by unfold rI; omega) (fun d => br_f (by decide) ?_) (fun d => absurd hd d)
  have vs := vN_s τ (Nat.le_refl s)
  rw [Nat.sub_self, show vN τ s 0 = 0 from rfl, if_pos (by decide)] at vs
  refine br_f (by decide) (fun v ev => ?_)
  rw [iI_0, dig_numC (by omega) (by omega), ← vs] at ev
  subst ev
  unfold wj_X3_readDigits_60
  rw [nI_1 s]
  exact dig_loopC B (by omega) (by omega) (fun j j1 j2 => by rw [show j = s by omega]; exact hd) (fun e r => dig_endC B hs r (h e r))
theorem sml_loopC (B : TB L τ t) {x1 x2 x3 : Int32} {kx : Int32 → Prop} {post : Int32 → Int32 → Int32 → Prop} {s a : Nat} (sa : s ≤ a) (ha : a ≤ L) (hd : ∀ j, s ≤ j → j < a → sml (τ j)) (h : ∀ e, Rn L τ sml s e → kx (nI e)) : ∃ n, wl_X3_readWord_0 (nI L) x1 x2 x3 t kx post n (nI a) := by
  have hL := B.1
  refine pk_loop (σ := Unit) (fun n i _ => wl_X3_readWord_0 (nI L) x1 x2 x3 t kx post n (nI i)) (fun i _ => s ≤ i ∧ ∀ j, s ≤ j → j < i → sml (τ j)) L a () ha ⟨sa, hd⟩ (fun n q hq => ?_) (fun n i q hi hq kk => ?_)
  · obtain ⟨q1, q3⟩ := hq
    show ws_X3_readWord_0 _ _ _ _ _ _ _ _ _
    unfold ws_X3_readWord_0
    exact br_t (nI_le (Nat.le_refl _) (by omega)) (h L ⟨q1, Nat.le_refl _, q3, fun z => by omega⟩)
  · obtain ⟨q1, q3⟩ := hq
    show ws_X3_readWord_0 _ _ _ _ _ _ _ _ _
    unfold ws_X3_readWord_0
    have ci : (nI i).toNatClampNeg = i := nI_clamp (by omega)
    obtain ⟨b1, b2, b3⟩ := B.2 i hi
    refine br_f (nI_ge hi (by omega)) ⟨vp_in_nI (by omega) (by omega), ?_⟩
    rw [ci, b1, nI_1 i]
    exact sp_isSmall (by unfold rI; omega) (fun d => br_f (by decide) (kk () ⟨by omega, digs_ext q3 d⟩)) (fun d => br_t rfl (h i ⟨q1, by omega, q3, fun _ => d⟩))
theorem slen_5 : ∀ k, k < 7 → slen.getD k 0 ≤ 5 := by decide
theorem sp_isWord (B : TB L τ t) {s e k : Nat} (hk : k < 7) (se : s ≤ e) (eL : e ≤ L) {post : Int32 → Prop} (h1 : isW τ s (e - s) k → post 1) (h0 : ¬ isW τ s (e - s) k → post 0) : wp_X3_isWord (nI e) (nI s) t k post := by
  have hL := B.1
  have l5 := slen_5 k hk
  unfold wp_X3_isWord
  rw [nI_m se, show Int32.ofNat (slen.getD k 0) = nI (slen.getD k 0) from rfl, nI_eq (by omega) (by omega)]
  refine br_c (fun z => ?_) (fun z => h0 (fun q => z q.1))
  refine pk_loop (σ := Unit) (fun n i _ => wl_X3_isWord_20 k (nI e) (nI s) t (post 1) (post 0) post n (nI i)) (fun i _ => ∀ j, j < i → iI (τ (s + j)) = (sch k j &&& 255)) (slen.getD k 0) 0 () (by omega) (fun j hj => by omega) (fun n q hq => ?_) (fun n i q hi hq kk => ?_)
  · show ws_X3_isWord_20 _ _ _ _ _ _ _ _ _
    unfold ws_X3_isWord_20
    exact br_t (nI_le (Nat.le_refl _) (by omega)) (h1 ⟨z, fun j hj => hq j (by omega)⟩)
  · show ws_X3_isWord_20 _ _ _ _ _ _ _ _ _
    unfold ws_X3_isWord_20
    have ci : (nI i).toNatClampNeg = i := nI_clamp (by omega)
    have cj : (nI (s + i)).toNatClampNeg = s + i := nI_clamp (by omega)
    refine br_f (nI_ge hi (by omega)) ?_
    rw [nI_add, ci, cj, (B.2 (s + i) (by omega)).1, nI_1 i]
    refine ⟨vp_in_nI (by omega) (by omega), vp_in_nI hi (by omega), br_c (fun y => kk () (fun j hj => ?_)) (fun y => h0 (fun q => y (q.2 i (by omega))))⟩
    by_cases e' : j = i
    · subst e'; exact y
    · exact hq j (by omega)
theorem cdW_at : cdW.getD 0 0 = 139055 ∧ cdW.getD 1 0 = 459791 ∧ cdW.getD 2 0 = 267347 ∧ cdW.getD 3 0 = 6476969 ∧ cdW.getD 4 0 = 316163 ∧ cdW.getD 5 0 = 12391871 ∧ cdW.getD 6 0 = 1065 := by decide
/-- the number cell of the class -/
def VC (c : Nat) (v : Int) (x : Int32) : Prop := (c = 3 ∨ c = 4 ∨ c = 9) → x = iI v
theorem sp_word39 (B : TB L τ t) {x y : Int32} {s e : Nat} (hs : s < L) (r : Rn L τ sml s e) {post : Int32 → Int32 → Int32 → Prop} (h : ∀ z, VC (wcode (whW τ s (e - s))) ((whW τ s (e - s) : Int) - 4) z → post (nI e) (nI (wcode (whW τ s (e - s)))) z) : wj_X3_readWord_39 (nI L) (nI e) (nI s) x y t post := by
  obtain ⟨r1, r2, r3, r4⟩ := id r
  obtain ⟨c0, c1, c2, c3, c4, c5, c6⟩ := cdW_at
  have W : ∀ k, k < 7 → (isW τ s (e - s) k ↔ e - s ≤ 5 ∧ sp27 τ s (e - s) = cdW.getD k 0) := fun k hk => isW_iff hk (Rn_off r)
  have W0 := W 0 (by decide)
  have W1 := W 1 (by decide)
  have W2 := W 2 (by decide)
  have W3 := W 3 (by decide)
  have W4 := W 4 (by decide)
  have W5 := W 5 (by decide)
  have W6 := W 6 (by decide)
  rw [c0] at W0
  rw [c1] at W1
  rw [c2] at W2
  rw [c3] at W3
  rw [c4] at W4
  rw [c5] at W5
  rw [c6] at W6
  have key : ∀ k, whW τ s (e - s) = k → ∀ z, VC (wcode k) ((k : Int) - 4) z → post (nI e) (nI (wcode k)) z := fun k ek => by rw [ek] at h; exact h
  unfold wj_X3_readWord_39
  refine sp_isWord B (by decide) r1 r2 (fun w => br_f (by decide) ?_) (fun w0 => br_t rfl ?_)
  · obtain ⟨w1, w2⟩ := W0.mp w
    exact key 0 (by unfold whW; rw [if_neg (by omega), if_pos w2]) _ (fun q => absurd q (by decide))
  rw [W0] at w0
  refine sp_isWord B (by decide) r1 r2 (fun w => br_f (by decide) ?_) (fun w1 => br_t rfl ?_)
  · obtain ⟨u1, u2⟩ := W1.mp w
    exact key 1 (by unfold whW; rw [if_neg (by omega), if_neg (by omega), if_pos u2]) _ (fun q => absurd q (by decide))
  rw [W1] at w1
  refine sp_isWord B (by decide) r1 r2 (fun w => br_f (by decide) ?_) (fun w2 => br_t rfl ?_)
  · obtain ⟨u1, u2⟩ := W2.mp w
    exact key 2 (by unfold whW; rw [if_neg (by omega), if_neg (by omega), if_neg (by omega), if_pos u2]) _ (fun q => absurd q (by decide))
  rw [W2] at w2
  refine sp_isWord B (by decide) r1 r2 (fun w => br_f (by decide) ?_) (fun w3 => br_t rfl ?_)
  · obtain ⟨u1, u2⟩ := W3.mp w
    exact key 3 (by unfold whW; rw [if_neg (by omega), if_neg (by omega), if_neg (by omega), if_neg (by omega), if_pos u2]) _ (fun q => absurd q (by decide))
  rw [W3] at w3
  refine sp_isWord B (by decide) r1 r2 (fun w => br_f (by decide) ?_) (fun w4 => br_t rfl ?_)
  · obtain ⟨u1, u2⟩ := W4.mp w
    exact key 4 (by unfold whW; rw [if_neg (by omega), if_neg (by omega), if_neg (by omega), if_neg (by omega), if_neg (by omega), if_pos u2]) _ (fun q => by decide)
  rw [W4] at w4
  refine sp_isWord B (by decide) r1 r2 (fun w => br_f (by decide) ?_) (fun w5 => br_t rfl ?_)
  · obtain ⟨u1, u2⟩ := W5.mp w
    exact key 5 (by unfold whW; rw [if_neg (by omega), if_neg (by omega), if_neg (by omega), if_neg (by omega), if_neg (by omega), if_neg (by omega), if_pos u2]) _ (fun q => by decide)
  rw [W5] at w5
  refine sp_isWord B (by decide) r1 r2 (fun w => br_f (by decide) ?_) (fun w6 => br_t rfl ?_)
  · obtain ⟨u1, u2⟩ := W6.mp w
    exact key 6 (by unfold whW; rw [if_neg (by omega), if_neg (by omega), if_neg (by omega), if_neg (by omega), if_neg (by omega), if_neg (by omega), if_neg (by omega), if_pos u2]) _ (fun q => by decide)
  rw [W6] at w6
  refine key 7 ?_ _ (fun q => absurd q (by decide))
  unfold whW
  by_cases n5 : 5 < e - s
  · rw [if_pos n5]
  · rw [if_neg n5, if_neg (by omega), if_neg (by omega), if_neg (by omega), if_neg (by omega), if_neg (by omega), if_neg (by omega), if_neg (by omega)]
theorem sp_readWord (B : TB L τ t) {x y : Int32} {s : Nat} (hs : s < L) (hm : sml (τ s)) {post : Int32 → Int32 → Int32 → Prop} (h : ∀ e, Rn L τ sml s e → ∀ z, VC (wcode (whW τ s (e - s))) ((whW τ s (e - s) : Int) - 4) z → post (nI e) (nI (wcode (whW τ s (e - s)))) z) : wp_X3_readWord (nI L) (nI s) (nI s) x y t post := by
  have hL := B.1
  obtain ⟨b1, b2, b3⟩ := B.2 s hs
  have ci : (nI s).toNatClampNeg = s := nI_clamp (by omega)
  unfold wp_X3_readWord
  refine br_f (nI_ge hs (by omega)) ⟨vp_in_nI (by omega) (by omega), ?_⟩
  rw [ci, b1]
  refine sp_isSmall (by unfold rI; omega) (fun d => br_f (by decide) ?_) (fun d => absurd hm d)
  rw [nI_1 s]
  exact sml_loopC B (by omega) (by omega) (fun j j1 j2 => by rw [show j = s by omega]; exact hm) (fun e r => sp_word39 B hs r (h e r))
theorem sp_readSign {x y : Int32} {s : Nat} {v : Int} (r0 : -128 ≤ v) (r1 : v ≤ 127) {post : Int32 → Int32 → Int32 → Prop} (h : ∀ z, VC (if v = 59 then 2 else if 65 ≤ v ∧ v ≤ 69 then 3 else 1) (v - 65) z → post (nI (s + 1)) (nI (if v = 59 then 2 else if 65 ≤ v ∧ v ≤ 69 then 3 else 1)) z) : wp_X3_readSign (nI s) x y (iI v) post := by
  unfold wp_X3_readSign wj_X3_readSign_26
  rw [nI_1 s, show (59 : Int32) = iI 59 from rfl, show (65 : Int32) = iI 65 from rfl, show (70 : Int32) = iI 70 from rfl, iI_eq (by unfold rI; omega) (by unfold rI; omega), iI_lt (by unfold rI; omega) (by unfold rI; omega), iI_le (by unfold rI; omega) (by unfold rI; omega), iI_sub]
  refine br_c (fun z => ?_) (fun z => ?_)
  · rw [if_pos z] at h
    exact br_t (by omega) (h _ (fun q => absurd q (by decide)))
  · rw [if_neg z] at h
    refine br_c (fun w => ?_) (fun w => br_c (fun u => ?_) (fun u => ?_))
    · rw [if_neg (by omega)] at h
      exact h _ (fun q => absurd q (by decide))
    · rw [if_neg (by omega)] at h
      exact h _ (fun q => absurd q (by decide))
    · rw [if_pos (by omega)] at h
      exact h _ (fun q => rfl)
theorem sp_next38 (B : TB L τ t) {x1 x2 x3 : Int32} {a s : Nat} (k : Sk L τ a s) {post : Int32 → Int32 → Int32 → Int32 → Prop} (h : ∀ z, VC (tc L τ a) (tv L τ a) z → post (nI (te L τ a)) (nI (ts L τ a)) (nI (tc L τ a)) z) : wj_X3_next_38 (nI L) (nI s) x1 x2 x3 t post := by
  have hL := B.1
  obtain ⟨k1, k2, k3, k4⟩ := id k
  unfold te ts tc tv at h
  unfold wj_X3_next_38
  rw [nI_ltI (by omega) (by omega)]
  refine br_c (fun z => ?_) (fun z => ?_)
  · have ci : (nI s).toNatClampNeg = s := nI_clamp (by omega)
    obtain ⟨b1, b2, b3⟩ := B.2 s z
    refine ⟨vp_in_nI (by omega) (by omega), ?_⟩
    rw [ci, b1]
    refine sp_isDigit (by unfold rI; omega) (fun d => br_f (by decide) ?_) (fun d => br_t rfl (sp_isSmall (by unfold rI; omega) (fun m => br_f (by decide) ?_) (fun m => br_t rfl ?_)))
    · refine sp_readDigits B z d (fun e r => ?_)
      rw [tk_dig k z d r] at h
      exact h _ (fun _ => rfl)
    · refine sp_readWord B z m (fun e r w hw => ?_)
      rw [tk_sml k z d m r] at h
      exact h _ hw
    · refine sp_readSign b2 b3 (fun w hw => ?_)
      rw [tk_sgn k z d m] at h
      exact h _ hw
  · rw [tk_end k (by omega)] at h
    exact h _ (fun q => absurd (show (0 : Nat) = 3 ∨ (0 : Nat) = 4 ∨ (0 : Nat) = 9 from q) (by decide))
theorem sp_nextC (B : TB L τ t) {x1 x2 x3 : Int32} {a : Nat} (ha : a ≤ L) {post : Int32 → Int32 → Int32 → Int32 → Prop} (h : ∀ z, VC (tc L τ a) (tv L τ a) z → post (nI (te L τ a)) (nI (ts L τ a)) (nI (tc L τ a)) z) : wp_X3_next (nI L) (nI a) x1 x2 x3 t post := by
  have hL := B.1
  unfold wp_X3_next
  rw [nI_leI (by omega) (by omega)]
  refine br_c (fun z => sp_next38 B ⟨Nat.le_refl _, ha, fun j j1 j2 => by omega, fun q => by omega⟩ h) (fun z => ?_)
  have ci : (nI a).toNatClampNeg = a := nI_clamp (by omega)
  obtain ⟨b1, b2, b3⟩ := B.2 a (by omega)
  refine ⟨vp_in_nI (by omega) (by omega), ?_⟩
  rw [ci, b1, show (32 : Int32) = iI 32 from rfl, iI_eq (by unfold rI; omega) (by unfold rI; omega), nI_1 a]
  refine br_c (fun y => skip_loopC B (by omega) (fun s k => ?_)) (fun y => sp_next38 B ⟨Nat.le_refl _, ha, fun j j1 j2 => by omega, fun _ => y⟩ h)
  obtain ⟨k1, k2, k3, k4⟩ := k
  refine sp_next38 B (a := a) ⟨by omega, k2, fun j j1 j2 => ?_, k4⟩ h
  by_cases e : j = a
  · subst e; exact y
  · exact k3 j (by omega) j2
end NXC
