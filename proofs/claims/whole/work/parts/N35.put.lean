/-! a set of rows by its bits -/
def nb (S : Nat) : Nat → Nat
  | 0 => 0
  | e + 1 => nb S e + (if S.testBit e then 1 else 0)
theorem nb_s1 {S e : Nat} (h : S.testBit e = true) : nb S (e + 1) = nb S e + 1 := by
  simp [nb, h]
theorem nb_s0 {S e : Nat} (h : ¬ S.testBit e = true) : nb S (e + 1) = nb S e := by
  simp [nb, h]
theorem nb_mono (S : Nat) {a b : Nat} (h : a ≤ b) : nb S a ≤ nb S b := by
  induction b with
  | zero =>
    have : a = 0 := by omega
    subst this
    exact Nat.le_refl _
  | succ b ih =>
    rcases Nat.lt_or_ge a (b + 1) with q | q
    · have := ih (by omega)
      by_cases z : S.testBit b = true
      · rw [nb_s1 z]; omega
      · rw [nb_s0 z]; exact this
    · have : a = b + 1 := by omega
      subst this
      exact Nat.le_refl _
theorem nb_lt {S a b : Nat} (h : a < b) (t : S.testBit a = true) : nb S a < nb S b := by
  have h1 := nb_s1 t
  have h2 := nb_mono S (by omega : a + 1 ≤ b)
  omega
theorem nb_inj {S a b : Nat} (ta : S.testBit a = true) (tb : S.testBit b = true) (h : nb S a = nb S b) : a = b := by
  rcases Nat.lt_trichotomy a b with z | z | z
  · have := nb_lt z ta; omega
  · exact z
  · have := nb_lt z tb; omega
theorem nb_ex (S : Nat) : ∀ (E r : Nat), r < nb S E → ∃ e, e < E ∧ S.testBit e = true ∧ nb S e = r := by
  intro E
  induction E with
  | zero => intro r h; simp [nb] at h
  | succ E ih =>
    intro r h
    by_cases z : S.testBit E = true
    · rw [nb_s1 z] at h
      by_cases y : r = nb S E
      · exact ⟨E, by omega, z, y.symm⟩
      · obtain ⟨e, e1, e2, e3⟩ := ih r (by omega)
        exact ⟨e, by omega, e2, e3⟩
    · rw [nb_s0 z] at h
      obtain ⟨e, e1, e2, e3⟩ := ih r h
      exact ⟨e, by omega, e2, e3⟩
def bsum (er : Nat → Nat) : Nat → Nat
  | 0 => 0
  | p + 1 => 2 ^ (er p) + bsum er p
theorem bsum_lt (er : Nat → Nat) : ∀ (p k : Nat), (∀ r s, r < s → s < p → er r < er s) → (∀ r, r < p → er r < k) → bsum er p < 2 ^ k
  | 0, k, _, _ => Nat.two_pow_pos k
  | p + 1, k, h, hk => by
    have a := bsum_lt er p (er p) (fun r s h1 h2 => h r s h1 (by omega)) (fun r hr => h r p hr (by omega))
    have b := hk p (by omega)
    have c : 2 ^ (er p + 1) ≤ 2 ^ k := Nat.pow_le_pow_right (by omega) b
    have d : 2 ^ (er p + 1) = 2 ^ er p * 2 := Nat.pow_succ 2 (er p)
    simp only [bsum]
    omega
theorem bsum_bit (er : Nat → Nat) : ∀ (p : Nat), (∀ r s, r < s → s < p → er r < er s) → ∀ e, (bsum er p).testBit e = true ↔ ∃ r, r < p ∧ er r = e
  | 0, _, e => by simp [bsum]
  | p + 1, h, e => by
    have ih := bsum_bit er p (fun r s h1 h2 => h r s h1 (by omega)) e
    have a := bsum_lt er p (er p) (fun r s h1 h2 => h r s h1 (by omega)) (fun r hr => h r p hr (by omega))
    simp only [bsum]
    rcases Nat.lt_trichotomy e (er p) with z | z | z
    · rw [Nat.testBit_two_pow_add_gt z, ih]
      constructor
      · intro ⟨r, h1, h2⟩
        exact ⟨r, by omega, h2⟩
      · intro ⟨r, h1, h2⟩
        by_cases y : r = p
        · subst y; omega
        · exact ⟨r, by omega, h2⟩
    · subst z
      rw [Nat.testBit_two_pow_add_eq, Nat.testBit_lt_two_pow a]
      constructor
      · intro _
        exact ⟨p, by omega, rfl⟩
      · intro _
        rfl
    · have b : 2 ^ er p + bsum er p < 2 ^ e := by
        have c : 2 ^ (er p + 1) ≤ 2 ^ e := Nat.pow_le_pow_right (by omega) z
        have d : 2 ^ (er p + 1) = 2 ^ er p * 2 := Nat.pow_succ 2 (er p)
        omega
      rw [Nat.testBit_lt_two_pow b]
      constructor
      · intro y
        exact absurd y (by decide)
      · intro ⟨r, h1, h2⟩
        by_cases y : r = p
        · subst y; omega
        · have := h r p (by omega) (by omega)
          omega
theorem nb_er {S p E : Nat} {er : Nat → Nat} (inc : ∀ r s, r < s → s < p → er r < er s) (hS : ∀ e, S.testBit e = true ↔ ∃ r, r < p ∧ er r = e) (hE : ∀ r, r < p → er r < E) : (∀ r, r < p → nb S (er r) = r) ∧ nb S E = p := by
  have key : ∀ e r, r ≤ p → (∀ s, s < r → er s < e) → (∀ s, r ≤ s → s < p → e ≤ er s) → nb S e = r := by
    intro e
    induction e with
    | zero =>
      intro r hr h1 h2
      rcases Nat.eq_zero_or_pos r with z | z
      · subst z; rfl
      · have := h1 0 z; omega
    | succ e ih =>
      intro r hr h1 h2
      by_cases z : S.testBit e = true
      · obtain ⟨t, t1, t2⟩ := (hS e).mp z
        have tr : t < r := by
          rcases Nat.lt_or_ge t r with y | y
          · exact y
          · have := h2 t y t1; omega
        have te : t = r - 1 := by
          rcases Nat.lt_or_ge t (r - 1) with y | y
          · have a := inc t (r - 1) y (by omega)
            have b := h1 (r - 1) (by omega)
            omega
          · omega
        rw [nb_s1 z]
        have := ih (r - 1) (by omega) (fun s hs => by
          have a := inc s (r - 1) hs (by omega)
          rw [← te, t2] at a
          exact a) (fun s s1 s2 => by
          by_cases y : s = r - 1
          · rw [y, ← te, t2]; exact Nat.le_refl _
          · have := h2 s (by omega) s2
            omega)
        omega
      · rw [nb_s0 z]
        have ne : ∀ s, s < p → er s ≠ e := fun s hs y => z ((hS e).mpr ⟨s, hs, y⟩)
        exact ih r hr (fun s hs => by
          have a := h1 s hs
          have b := ne s (by omega)
          omega) (fun s s1 s2 => by
          have := h2 s s1 s2
          omega)
  refine ⟨fun r hr => key (er r) r (by omega) (fun s hs => inc s r hs hr) (fun s s1 s2 => ?_), key E p (Nat.le_refl p) (fun s hs => hE s hs) (fun s s1 s2 => by omega)⟩
  by_cases y : s = r
  · subst y; exact Nat.le_refl _
  · have := inc r s (by omega) s2
    omega
/-! a row is put -/
theorem sp_put {nG nW p r e : Nat} {pm : Nat → Nat} {U : Nat → Nat → Int} {lim gv M' : Nat → Int} {lst : Nat → Prop} {ca ls mo us part : Nat → Int32} {row right given : Nat → Int64} (hG : nG ≤ 5) (hW : nW ≤ 4) (hp : p ≤ 4) (hr : r < 4) (he : e < nG + 2 * p) (hpm : ∀ c, c < p → pm c < nW ∧ part c = nI (pm c)) (mg : ModG nG nW U lim lst ls ca us) (hm : ∀ w, w < nW → mo w = iI (M' w) ∧ 0 ≤ M' w ∧ M' w ≤ 12) (hg : ∀ w, w < nW → given w = lI (gv w) ∧ 0 ≤ gv w ∧ gv w ≤ 12)
    {post : (Nat → Int64) → (Nat → Int64) → Prop} (hpost : ∀ row' right' : Nat → Int64, (∀ c, c < p → row' (4 * r + c) = lI (cR nG pm U e c)) → (∀ r' c, r' ≠ r → c < 4 → row' (4 * r' + c) = row (4 * r' + c)) → right' r = lI (rtw nG nW p pm U lim gv M' e) → (∀ r', r' ≠ r → right' r' = right r') → post row' right') :
    wp_X7_put (nI nG) (nI nW) (nI p) ca mo us part row right given (nI r) (nI e) post := by
  have ri : ∀ z : Int, -3000 ≤ z → z ≤ 3000 → rI z := fun z a b => ⟨by omega, by omega⟩
  have cr : (nI r).toNatClampNeg = r := nI_clamp (by omega)
  have two : (2 : Int32) = nI 2 := rfl
  unfold wp_X7_put
  by_cases q : e < nG
  · obtain ⟨g1, g2, g3, g4, g5⟩ := mg e q
    have ce : (nI e).toNatClampNeg = e := nI_clamp (by omega)
    have er : rtw nG nW p pm U lim gv M' e = lim e - ssum (fun w => U w e * gv w) nW := by unfold rtw; rw [if_pos q]
    refine br_f (nI_ge q (by omega)) ⟨vp_in_nI (by omega) (by omega), vp_in_nI (by omega) (by omega), ?_⟩
    rw [ce, cr, g1, iI_l (ri _ (by omega) (by omega))]
    refine pk_loop (σ := Nat → Int64) (fun n i s => wl_X7_put_23 (nI r) (nI e) (nI nG) (nI nW) (nI p) ca mo us part row given _ post n (nI i) s) (fun i s => s r = lI (lim e - ssum (fun w => U w e * gv w) i) ∧ ∀ r', r' ≠ r → s r' = right r') nW 0 _ (Nat.zero_le _) ⟨by rw [pk_uLs]; simp [ssum], fun r' h => pk_uLn h⟩ (fun n s hs => ?_) (fun n i s hi hs kk => ?_)
    · show ws_X7_put_23 _ _ _ _ _ _ _ _ _ _ _ _ _ _ _ _
      unfold ws_X7_put_23
      refine br_t (nI_le (Nat.le_refl _) (by omega)) ?_
      refine pk_loop (σ := Nat → Int64) (fun n i t => wl_X7_put_66 (nI r) (nI e) (nI nG) (nI nW) (nI p) ca mo us part s given _ post n (nI i) t) (fun i t => (∀ c, c < i → t (4 * r + c) = lI (U (pm c) e)) ∧ ∀ r' c, r' ≠ r → c < 4 → t (4 * r' + c) = row (4 * r' + c)) p 0 row (Nat.zero_le _) ⟨fun c hc => by omega, fun r' c _ _ => rfl⟩ (fun n t ht => ?_) (fun n i t hi ht k2 => ?_)
      · show ws_X7_put_66 _ _ _ _ _ _ _ _ _ _ _ _ _ _ _ _
        unfold ws_X7_put_66
        refine br_t (nI_le (Nat.le_refl _) (by omega)) (hpost t s (fun c hc => ?_) ht.2 (by rw [er]; exact hs.1) hs.2)
        rw [ht.1 c hc]
        unfold cR
        rw [if_pos q]
      · show ws_X7_put_66 _ _ _ _ _ _ _ _ _ _ _ _ _ _ _ _
        unfold ws_X7_put_66
        obtain ⟨p1, p2⟩ := hpm i hi
        obtain ⟨u1, u2, u3⟩ := g5 (pm i) p1
        have ci : (nI i).toNatClampNeg = i := nI_clamp (by omega)
        have c5 : (nI (5 * pm i + e)).toNatClampNeg = 5 * pm i + e := nI_clamp (by omega)
        have c4 : (nI (4 * r + i)).toNatClampNeg = 4 * r + i := nI_clamp (by omega)
        refine br_f (nI_ge hi (by omega)) ⟨vp_in_nI (by omega) (by omega), ?_⟩
        rw [ci, p2, ix5 (pm i) e, c5, u1, ix4 r i, c4, nI_1 i, iI_l (ri _ (by omega) (by omega))]
        refine ⟨vp_in_nI (by omega) (by omega), fun v hv => ⟨vp_in_nI (by omega) (by omega), k2 _ ⟨fun c hc => ?_, fun r' c h1 h2 => ?_⟩⟩⟩
        · by_cases y : c = i
          · subst y; rw [pk_uLs]; exact hv
          · rw [pk_uLn (by omega)]; exact ht.1 c (by omega)
        · rw [pk_uLn (by omega)]; exact ht.2 r' c h1 h2
    · show ws_X7_put_23 _ _ _ _ _ _ _ _ _ _ _ _ _ _ _ _
      unfold ws_X7_put_23
      obtain ⟨u1, u2, u3⟩ := g5 i hi
      have ci : (nI i).toNatClampNeg = i := nI_clamp (by omega)
      have c5 : (nI (5 * i + e)).toNatClampNeg = 5 * i + e := nI_clamp (by omega)
      refine br_f (nI_ge hi (by omega)) ⟨vp_in_nI (by omega) (by omega), ?_⟩
      rw [ix5 i e, c5, ci, cr, u1, (hg i hi).1, hs.1, nI_1 i, iI_l (ri _ (by omega) (by omega)), lI_mul, lI_sub]
      refine ⟨vp_in_nI (by omega) (by omega), vp_in_nI (by omega) (by omega), fun v hv => kk _ ⟨?_, fun r' h => ?_⟩⟩
      · rw [pk_uLs, hv]
        simp only [ssum]
        exact congrArg lI (by omega)
      · rw [pk_uLn h]; exact hs.2 r' h
  · have es : nI e - nI nG = nI (e - nG) := pk_sub (by omega)
    have ed : nI (e - nG) / (2 : Int32) = nI ((e - nG) / 2) := pk_div (d := 2) (by omega) (by decide) (by decide)
    have em : nI (e - nG) - nI (e - nG) / (2 : Int32) * (2 : Int32) = nI ((e - nG) % 2) := pk_rem (d := 2) (by omega) (by decide) (by decide)
    have il : (e - nG) / 2 < p := by omega
    have cp : (nI ((e - nG) / 2)).toNatClampNeg = (e - nG) / 2 := nI_clamp (by omega)
    refine br_t (nI_le (by omega) (by omega)) ?_
    rw [es, em, ed]
    have fin : ∀ v : Int64, v = lI (rtw nG nW p pm U lim gv M' e) → wj_X7_put_150 (nI r) (nI ((e - nG) / 2)) (nI r) v (nI nG) (nI nW) (nI p) ca mo us part row right given post := by
      intro v hv
      unfold wj_X7_put_150
      refine ⟨vp_in_nI (by omega) (by omega), ?_⟩
      rw [cr]
      refine pk_loop (σ := Nat → Int64) (fun n i t => wl_X7_put_154 (nI r) (nI ((e - nG) / 2)) (nI nG) (nI nW) (nI p) ca mo us part (vp_updL right r v) given _ post n (nI i) t) (fun i t => (∀ c, c < i → t (4 * r + c) = lI (cR nG pm U e c)) ∧ ∀ r' c, r' ≠ r → c < 4 → t (4 * r' + c) = row (4 * r' + c)) p 0 row (Nat.zero_le _) ⟨fun c hc => by omega, fun r' c _ _ => rfl⟩ (fun n t ht => ?_) (fun n i t hi ht k2 => ?_)
      · show ws_X7_put_154 _ _ _ _ _ _ _ _ _ _ _ _ _ _ _ _
        unfold ws_X7_put_154
        exact br_t (nI_le (Nat.le_refl _) (by omega)) (hpost t _ ht.1 ht.2 (by rw [pk_uLs]; exact hv) (fun r' h => pk_uLn h))
      · show ws_X7_put_154 _ _ _ _ _ _ _ _ _ _ _ _ _ _ _ _
        unfold ws_X7_put_154
        have c4 : (nI (4 * r + i)).toNatClampNeg = 4 * r + i := nI_clamp (by omega)
        have nxt : ∀ v : Int64, v = lI (cR nG pm U e i) → (∀ c, c < i + 1 → vp_updL t (4 * r + i) v (4 * r + c) = lI (cR nG pm U e c)) ∧ ∀ r' c, r' ≠ r → c < 4 → vp_updL t (4 * r + i) v (4 * r' + c) = row (4 * r' + c) := fun v hv => by
          refine ⟨fun c hc => ?_, fun r' c h1 h2 => ?_⟩
          · by_cases y : c = i
            · subst y; rw [pk_uLs]; exact hv
            · rw [pk_uLn (by omega)]; exact ht.1 c (by omega)
          · rw [pk_uLn (by omega)]; exact ht.2 r' c h1 h2
        refine br_f (nI_ge hi (by omega)) ?_
        rw [ix4 r i]
        refine br_c (fun z => ?_) (fun z => ?_)
        · rw [nI_eq (by omega) (by omega)] at z
          unfold wj_X7_put_184
          rw [c4, nI_1 i]
          exact ⟨vp_in_nI (by omega) (by omega), k2 _ (nxt 1 (by unfold cR; rw [if_neg q, if_pos z]; rfl))⟩
        · rw [nI_eq (by omega) (by omega)] at z
          unfold wj_X7_put_184
          rw [c4, nI_1 i]
          exact ⟨vp_in_nI (by omega) (by omega), k2 _ (nxt 0 (by unfold cR; rw [if_neg q, if_neg z]; rfl))⟩
    refine br_c (fun z => ?_) (fun z => ?_)
    · have z2 : (e - nG) % 2 = 0 := (nI_eq (b := 0) (by omega) (by omega)).mp z
      exact fin 0 (by unfold rtw; rw [if_neg q, if_pos il, if_pos z2]; rfl)
    · have z2 : ¬ (e - nG) % 2 = 0 := fun y => z (by rw [y]; rfl)
      obtain ⟨p1, p2⟩ := hpm _ il
      obtain ⟨m1, m2, m3⟩ := hm _ p1
      have cm : (nI (pm ((e - nG) / 2))).toNatClampNeg = pm ((e - nG) / 2) := nI_clamp (by omega)
      rw [cp, p2, cm, m1, iI_l (ri _ (by omega) (by omega))]
      refine ⟨vp_in_nI (by omega) (by omega), vp_in_nI (by omega) (by omega), fin _ ?_⟩
      unfold rtw
      rw [if_neg q, if_pos il, if_neg z2]
