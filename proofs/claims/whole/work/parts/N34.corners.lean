/-! the corners of a table with some x given -/
section CR
variable {nG nW p : Nat} {pm : Nat → Nat} {P : Nat → Prop} {U : Nat → Nat → Int} {lim gv M' : Nat → Int} {lst : Nat → Prop} {go : Nat → Int32}
noncomputable def Rw (nG : Nat) (pm : Nat → Nat) (P : Nat → Prop) (U : Nat → Nat → Int) (e : Nat) : Nat → Int := if e < nG then (fun w => @ite _ (P w) (Classical.propDecidable _) (U w e) 0) else ev (pm ((e - nG) / 2))
def rtw (nG nW p : Nat) (pm : Nat → Nat) (U : Nat → Nat → Int) (lim gv M' : Nat → Int) (e : Nat) : Int := if e < nG then lim e - ssum (fun w => U w e * gv w) nW else if (e - nG) / 2 < p then (if (e - nG) % 2 = 0 then 0 else M' (pm ((e - nG) / 2))) else gv (pm ((e - nG) / 2))
noncomputable def sgw (nG : Nat) (lst : Nat → Prop) (e : Nat) : Int := if e < nG then sgl lst e else if (e - nG) % 2 = 0 then 1 else -1
def onw (nG : Nat) (go : Nat → Int32) (e : Nat) : Prop := e < nG → go e = 0
theorem sum_ext {f : Nat → Int} {nW : Nat} (hW : nW ≤ 4) : ssum f nW = (if 0 < nW then f 0 else 0) + (if 1 < nW then f 1 else 0) + (if 2 < nW then f 2 else 0) + (if 3 < nW then f 3 else 0) := by
  rcases (by omega : nW = 0 ∨ nW = 1 ∨ nW = 2 ∨ nW = 3 ∨ nW = 4) with e | e | e | e | e <;> subst e <;> simp [ssum]
theorem gate_dot (hW : nW ≤ 4) (hP : ∀ w, w < 4 → P w → w < nW) (hg : ∀ w, w < 4 → P w → gv w = 0) {x : Nat → Int} {d : Int} (hx : ∀ w, w < nW → ¬ P w → x w = gv w * d) {e : Nat} (he : e < nG) : dot (Rw nG pm P U e) x + ssum (fun w => U w e * gv w) nW * d = ssum (fun w => U w e * x w) nW := by
  rw [sum_ext hW, sum_ext hW]
  have t : ∀ w, w < 4 → Rw nG pm P U e w * x w + (if w < nW then U w e * gv w else 0) * d = (if w < nW then U w e * x w else 0) := fun w hw => by
    unfold Rw
    rw [if_pos he]
    (try dsimp only)
    by_cases q : P w
    · rw [if_pos q, if_pos (hP w hw q), if_pos (hP w hw q), hg w hw q]
      simp
    · rw [if_neg q]
      by_cases z : w < nW
      · rw [if_pos z, if_pos z, hx w z q]
        grind
      · rw [if_neg z, if_neg z]
        simp
  have t0 := t 0 (by omega)
  have t1 := t 1 (by omega)
  have t2 := t 2 (by omega)
  have t3 := t 3 (by omega)
  unfold dot
  rw [← t0, ← t1, ← t2, ← t3]
  grind
theorem unit_sl (hpm : ∀ c, c < 4 → pm c < 4) {x : Nat → Int} {e : Nat} (h1 : nG ≤ e) (h2 : e < nG + 8) : dot (Rw nG pm P U e) x = x (pm ((e - nG) / 2)) := by
  unfold Rw
  rw [if_neg (by omega)]
  exact dot_ev x (hpm _ (by omega))
/-- the rows, and what they stand for -/
theorem Fe_of (hW : nW ≤ 4) (hP : ∀ w, w < 4 → P w → w < nW) (hg : ∀ w, w < 4 → P w → gv w = 0) (hpm : ∀ c, c < 4 → pm c < 4) (hpP : ∀ c, c < p → P (pm c)) (hpN : ∀ c, p ≤ c → c < 4 → ¬ P (pm c)) {x : Nat → Int} {d : Int} (d0 : 0 < d) (hx : ∀ w, w < 4 → ¬ P w → x w = gv w * d) (hb : ∀ w, w < 4 → P w → 0 ≤ x w ∧ x w ≤ M' w * d) (hG : GM nG nW U lim lst go x d) :
    Fe (nG + 8) (Rw nG pm P U) (rtw nG nW p pm U lim gv M') (sgw nG lst) (onw nG go) x d := by
  refine ⟨d0, fun e he oe => ?_⟩
  unfold sl
  by_cases q : e < nG
  · have g := gate_dot (pm := pm) (U := U) hW hP hg (fun w hw n => hx w (by omega) n) q
    have r : rtw nG nW p pm U lim gv M' e = lim e - ssum (fun w => U w e * gv w) nW := by unfold rtw; rw [if_pos q]
    have s : sgw nG lst e = sgl lst e := by unfold sgw; rw [if_pos q]
    have h := hG e q (oe q)
    rw [r, s, Int.sub_mul]
    by_cases z : lst e
    · have s1 : sgl lst e = 1 := by unfold sgl; rw [if_pos z]
      rw [s1]
      have := h.1 z
      omega
    · have s1 : sgl lst e = -1 := by unfold sgl; rw [if_neg z]
      rw [s1]
      have := h.2 z
      omega
  · rw [unit_sl hpm (by omega) he]
    have i4 : (e - nG) / 2 < 4 := by omega
    unfold sgw rtw
    rw [if_neg q, if_neg q]
    by_cases z : (e - nG) / 2 < p
    · have b := hb _ (hpm _ i4) (hpP _ z)
      rw [if_pos z]
      by_cases y : (e - nG) % 2 = 0
      · rw [if_pos y, if_pos y]
        omega
      · rw [if_neg y, if_neg y]
        omega
    · have b := hx _ (hpm _ i4) (hpN _ (by omega) i4)
      rw [if_neg z, b]
      split <;> omega
theorem Fe_to (hW : nW ≤ 4) (hP : ∀ w, w < 4 → P w → w < nW) (hg : ∀ w, w < 4 → P w → gv w = 0) (hpm : ∀ c, c < 4 → pm c < 4) (hsur : ∀ w, w < 4 → ∃ c, c < 4 ∧ pm c = w) (hpP : ∀ c, c < p → P (pm c)) (hpN : ∀ c, p ≤ c → c < 4 → ¬ P (pm c)) (hp : p ≤ 4) {x : Nat → Int} {d : Int} (h : Fe (nG + 8) (Rw nG pm P U) (rtw nG nW p pm U lim gv M') (sgw nG lst) (onw nG go) x d) :
    (∀ w, w < 4 → ¬ P w → x w = gv w * d) ∧ (∀ w, w < 4 → P w → 0 ≤ x w ∧ x w ≤ M' w * d) ∧ GM nG nW U lim lst go x d := by
  obtain ⟨d0, h⟩ := h
  have un : ∀ c, c < 4 → 0 ≤ x (pm c) - rtw nG nW p pm U lim gv M' (nG + 2 * c) * d ∧ 0 ≤ -(x (pm c) - rtw nG nW p pm U lim gv M' (nG + 2 * c + 1) * d) := fun c hc => by
    have a1 := h (nG + 2 * c) (by omega) (fun z => by omega)
    have a2 := h (nG + 2 * c + 1) (by omega) (fun z => by omega)
    unfold sl at a1 a2
    rw [unit_sl hpm (by omega) (by omega)] at a1 a2
    have e1 : (nG + 2 * c - nG) / 2 = c := by omega
    have e2 : (nG + 2 * c + 1 - nG) / 2 = c := by omega
    have s1 : sgw nG lst (nG + 2 * c) = 1 := by unfold sgw; rw [if_neg (by omega), if_pos (by omega)]
    have s2 : sgw nG lst (nG + 2 * c + 1) = -1 := by unfold sgw; rw [if_neg (by omega), if_neg (by omega)]
    rw [e1, s1] at a1
    rw [e2, s2] at a2
    omega
  have r1 : ∀ c, c < p → rtw nG nW p pm U lim gv M' (nG + 2 * c) = 0 ∧ rtw nG nW p pm U lim gv M' (nG + 2 * c + 1) = M' (pm c) := fun c hc => by
    have e1 : (nG + 2 * c - nG) / 2 = c := by omega
    have e2 : (nG + 2 * c + 1 - nG) / 2 = c := by omega
    refine ⟨?_, ?_⟩
    · unfold rtw
      rw [if_neg (by omega : ¬ nG + 2 * c < nG), e1, if_pos hc, if_pos (by omega)]
    · unfold rtw
      rw [if_neg (by omega : ¬ nG + 2 * c + 1 < nG), e2, if_pos hc, if_neg (by omega)]
  have r2 : ∀ c, p ≤ c → rtw nG nW p pm U lim gv M' (nG + 2 * c) = gv (pm c) ∧ rtw nG nW p pm U lim gv M' (nG + 2 * c + 1) = gv (pm c) := fun c hc => by
    have e1 : (nG + 2 * c - nG) / 2 = c := by omega
    have e2 : (nG + 2 * c + 1 - nG) / 2 = c := by omega
    refine ⟨?_, ?_⟩
    · unfold rtw
      rw [if_neg (by omega : ¬ nG + 2 * c < nG), e1, if_neg (by omega)]
    · unfold rtw
      rw [if_neg (by omega : ¬ nG + 2 * c + 1 < nG), e2, if_neg (by omega)]
  have k1 : ∀ w, w < 4 → ¬ P w → x w = gv w * d := fun w hw n => by
    obtain ⟨c, hc, ec⟩ := hsur w hw
    have : p ≤ c := by
      rcases Nat.lt_or_ge c p with z | z
      · exact absurd (ec ▸ hpP c z) n
      · exact z
    have u := un c hc
    rw [(r2 c this).1, (r2 c this).2, ec] at u
    omega
  refine ⟨k1, fun w hw n => ?_, fun e he oe => ?_⟩
  · obtain ⟨c, hc, ec⟩ := hsur w hw
    have : c < p := by
      rcases Nat.lt_or_ge c p with z | z
      · exact z
      · exact absurd (ec ▸ n) (ec ▸ hpN c z hc)
    have u := un c hc
    rw [(r1 c this).1, (r1 c this).2, ec] at u
    omega
  · have a := h e (by omega) (fun _ => oe)
    unfold sl at a
    have g := gate_dot (pm := pm) (U := U) hW hP hg (fun w hw n => k1 w (by omega) n) he
    have r : rtw nG nW p pm U lim gv M' e = lim e - ssum (fun w => U w e * gv w) nW := by unfold rtw; rw [if_pos he]
    have s : sgw nG lst e = sgl lst e := by unfold sgw; rw [if_pos he]
    rw [r, s, Int.sub_mul] at a
    refine ⟨fun z => ?_, fun z => ?_⟩
    · have s1 : sgl lst e = 1 := by unfold sgl; rw [if_pos z]
      rw [s1] at a
      omega
    · have s1 : sgl lst e = -1 := by unfold sgl; rw [if_neg z]
      rw [s1] at a
      omega
/-- the rows as the reference writes them -/
def cR (nG : Nat) (pm : Nat → Nat) (U : Nat → Nat → Int) (e c : Nat) : Int := if e < nG then U (pm c) e else if c = (e - nG) / 2 then 1 else 0
theorem Rw_c (hinj : ∀ i j, i < 4 → j < 4 → pm i = pm j → i = j) (hpP : ∀ c, c < p → P (pm c)) (hpN : ∀ c, p ≤ c → c < 4 → ¬ P (pm c)) {e c : Nat} (hc : c < 4) (he : e < nG + 8) : Rw nG pm P U e (pm c) = if e < nG then (if c < p then cR nG pm U e c else 0) else cR nG pm U e c := by
  unfold Rw cR
  by_cases q : e < nG
  · rw [if_pos q, if_pos q, if_pos q]
    by_cases z : c < p
    · rw [if_pos z, if_pos (hpP c z)]
    · rw [if_neg z, if_neg (hpN c (by omega) hc)]
  · rw [if_neg q, if_neg q, if_neg q]
    unfold ev
    by_cases z : c = (e - nG) / 2
    · rw [if_pos z, if_pos (by rw [z])]
    · rw [if_neg z, if_neg (fun y => z (hinj _ _ hc (by omega) y))]
theorem struct (hp1 : 1 ≤ p) (hp : p ≤ 4) (hpm : ∀ c, c < 4 → pm c < 4) (hinj : ∀ i j, i < 4 → j < 4 → pm i = pm j → i = j) (hpP : ∀ c, c < p → P (pm c)) (hpN : ∀ c, p ≤ c → c < 4 → ¬ P (pm c)) {T : Nat → Prop} (hT : ∀ e, T e → e < nG + 8) {i j k l : Nat} (hij : i < j) (hjk : j < k) (hkl : k < l) (h : q4 (Rw nG pm P U) T i j k l) :
    ∃ er : Nat → Nat, (∀ r s, r < s → s < p → er r < er s) ∧ (∀ r, r < p → er r < nG + 2 * p ∧ T (er r)) ∧ DET p (fun r c => cR nG pm U (er r) c) ≠ 0 := by
  obtain ⟨ti, tj, tk, tl, hD⟩ := h
  have bi := hT i ti
  have bj := hT j tj
  have bk := hT k tk
  have bl := hT l tl
  have rc := fun {e c : Nat} (hc : c < 4) (he : e < nG + 8) => Rw_c (P := P) (U := U) hinj hpP hpN hc he
  have hD2 : D4 (fun c => Rw nG pm P U i (pm c)) (fun c => Rw nG pm P U j (pm c)) (fun c => Rw nG pm P U k (pm c)) (fun c => Rw nG pm P U l (pm c)) ≠ 0 := by
    intro z
    rcases colperm hpm hinj (Rw nG pm P U i) (Rw nG pm P U j) (Rw nG pm P U k) (Rw nG pm P U l) with y | y
    · rw [z] at y; exact hD y.symm
    · rw [z] at y; omega
  have cz : ∀ c e, p ≤ c → c < 4 → e < nG + 8 → (e < nG + 2 * c ∨ nG + 2 * c + 1 < e) → Rw nG pm P U e (pm c) = 0 := fun c e h1 h2 h3 h4 => by
    rw [rc h2 h3]
    by_cases q : e < nG
    · rw [if_pos q, if_neg (by omega)]
    · rw [if_neg q]
      unfold cR
      rw [if_neg q, if_neg (by omega)]
  have cov : ∀ c, p ≤ c → c < 4 → ¬ ((i < nG + 2 * c ∨ nG + 2 * c + 1 < i) ∧ (j < nG + 2 * c ∨ nG + 2 * c + 1 < j) ∧ (k < nG + 2 * c ∨ nG + 2 * c + 1 < k) ∧ (l < nG + 2 * c ∨ nG + 2 * c + 1 < l)) := fun c h1 h2 ⟨z1, z2, z3, z4⟩ =>
    hD2 (D4_col0 h2 (cz c i h1 h2 bi z1) (cz c j h1 h2 bj z2) (cz c k h1 h2 bk z3) (cz c l h1 h2 bl z4))
  have same : ∀ a b, nG ≤ a → nG ≤ b → (a - nG) / 2 = (b - nG) / 2 → Rw nG pm P U a = Rw nG pm P U b := fun a b h1 h2 h3 => by
    unfold Rw
    rw [if_neg (by omega), if_neg (by omega), h3]
  have d01 : ¬ (nG ≤ i ∧ (i - nG) / 2 = (j - nG) / 2) := fun ⟨z1, z2⟩ => hD (by rw [same i j z1 (by omega) z2]; exact D4_e01 _ _ _)
  have d12 : ¬ (nG ≤ j ∧ (j - nG) / 2 = (k - nG) / 2) := fun ⟨z1, z2⟩ => hD (by rw [same j k z1 (by omega) z2]; exact D4_e12 _ _ _)
  have d23 : ¬ (nG ≤ k ∧ (k - nG) / 2 = (l - nG) / 2) := fun ⟨z1, z2⟩ => hD (by rw [same k l z1 (by omega) z2]; exact D4_e23 _ _ _)
  have evr : ∀ e q, nG ≤ e → e < nG + 8 → (e - nG) / 2 = q → ∀ c, c < 4 → Rw nG pm P U e (pm c) = ev q c := fun e q h1 h2 h3 c hc => by
    rw [rc hc h2, if_neg (by omega)]
    unfold cR ev
    rw [if_neg (by omega), h3]
  have rowp : ∀ e, e < nG + 2 * p → ∀ c, c < 4 → Rw nG pm P U e (pm c) = if c < p then cR nG pm U e c else 0 := fun e h1 c hc => by
    rw [rc hc (by omega)]
    by_cases q : e < nG
    · rw [if_pos q]
    · rw [if_neg q]
      by_cases z : c < p
      · rw [if_pos z]
      · rw [if_neg z]
        unfold cR
        rw [if_neg q, if_neg (by omega)]
  have pa : ∀ (er : Nat → Nat) (r : Nat), r < p → er r < nG + 2 * p → ∀ c, c < 4 → PA p (fun r c => cR nG pm U (er r) c) r c = Rw nG pm P U (er r) (pm c) := fun er r h1 h2 c hc => by
    rw [rowp _ h2 c hc]
    unfold PA
    by_cases z : c < p
    · rw [if_pos ⟨h1, z⟩, if_pos z]
    · rw [if_neg (by omega), if_neg (by omega), if_neg z]
  have key : ∀ er : Nat → Nat, er 0 = i → er 1 = j → er 2 = k → er 3 = l → (∀ r s, r < s → s < p → er r < er s) ∧ (∀ r, r < p → er r < nG + 2 * p ∧ T (er r)) ∧ DET p (fun r c => cR nG pm U (er r) c) ≠ 0 := by
    intro er e0 e1 e2 e3
    have inc : ∀ r s, r < s → s < p → er r < er s := fun r s h1 h2 => by
      rcases (by omega : (r = 0 ∧ s = 1) ∨ (r = 0 ∧ s = 2) ∨ (r = 0 ∧ s = 3) ∨ (r = 1 ∧ s = 2) ∨ (r = 1 ∧ s = 3) ∨ (r = 2 ∧ s = 3)) with ⟨f1, f2⟩ | ⟨f1, f2⟩ | ⟨f1, f2⟩ | ⟨f1, f2⟩ | ⟨f1, f2⟩ | ⟨f1, f2⟩ <;> subst f1 <;> subst f2 <;> omega
    have tt : ∀ r, r < 4 → T (er r) := fun r hr => by
      rcases (by omega : r = 0 ∨ r = 1 ∨ r = 2 ∨ r = 3) with f | f | f | f <;> subst f
      · rw [e0]; exact ti
      · rw [e1]; exact tj
      · rw [e2]; exact tk
      · rw [e3]; exact tl
    have row : ∀ r, r < p → er r < nG + 2 * p → ∀ (q : Nat), er r = q → ∀ c, c < 4 → PA p (fun r c => cR nG pm U (er r) c) r c = Rw nG pm P U q (pm c) := fun r h1 h2 q hq c hc => by
      rw [pa er r h1 h2 c hc, hq]
    have las : ∀ r q, p ≤ r → nG ≤ q → q < nG + 8 → (q - nG) / 2 = r → ∀ c, c < 4 → PA p (fun r c => cR nG pm U (er r) c) r c = Rw nG pm P U q (pm c) := fun r q h1 h2 h3 h4 c hc => by
      rw [PA_ev _ h1, evr q r h2 h3 h4 c hc]
    rcases (by omega : p = 1 ∨ p = 2 ∨ p = 3 ∨ p = 4) with e | e | e | e
    · subst e
      have c1 := cov 1 (by omega) (by omega)
      have c2 := cov 2 (by omega) (by omega)
      have c3 := cov 3 (by omega) (by omega)
      have l0 : er 0 < nG + 2 * 1 := by omega
      refine ⟨inc, fun r hr => ⟨?_, tt r (by omega)⟩, fun z => hD2 ?_⟩
      · have : r = 0 := by omega
        subst this
        exact l0
      · rw [← z]
        exact (D4_cong (row 0 (by omega) l0 i e0) (las 1 j (by omega) (by omega) bj (by omega)) (las 2 k (by omega) (by omega) bk (by omega)) (las 3 l (by omega) (by omega) bl (by omega))).symm
    · subst e
      have c2 := cov 2 (by omega) (by omega)
      have c3 := cov 3 (by omega) (by omega)
      have l0 : er 0 < nG + 2 * 2 := by omega
      have l1 : er 1 < nG + 2 * 2 := by omega
      refine ⟨inc, fun r hr => ⟨?_, tt r (by omega)⟩, fun z => hD2 ?_⟩
      · rcases (by omega : r = 0 ∨ r = 1) with f | f <;> subst f <;> assumption
      · rw [← z]
        exact (D4_cong (row 0 (by omega) l0 i e0) (row 1 (by omega) l1 j e1) (las 2 k (by omega) (by omega) bk (by omega)) (las 3 l (by omega) (by omega) bl (by omega))).symm
    · subst e
      have c3 := cov 3 (by omega) (by omega)
      have l0 : er 0 < nG + 2 * 3 := by omega
      have l1 : er 1 < nG + 2 * 3 := by omega
      have l2 : er 2 < nG + 2 * 3 := by omega
      refine ⟨inc, fun r hr => ⟨?_, tt r (by omega)⟩, fun z => hD2 ?_⟩
      · rcases (by omega : r = 0 ∨ r = 1 ∨ r = 2) with f | f | f <;> subst f <;> assumption
      · rw [← z]
        exact (D4_cong (row 0 (by omega) l0 i e0) (row 1 (by omega) l1 j e1) (row 2 (by omega) l2 k e2) (las 3 l (by omega) (by omega) bl (by omega))).symm
    · subst e
      have l0 : er 0 < nG + 2 * 4 := by omega
      have l1 : er 1 < nG + 2 * 4 := by omega
      have l2 : er 2 < nG + 2 * 4 := by omega
      have l3 : er 3 < nG + 2 * 4 := by omega
      refine ⟨inc, fun r hr => ⟨?_, tt r (by omega)⟩, fun z => hD2 ?_⟩
      · rcases (by omega : r = 0 ∨ r = 1 ∨ r = 2 ∨ r = 3) with f | f | f | f <;> subst f <;> assumption
      · rw [← z]
        exact (D4_cong (row 0 (by omega) l0 i e0) (row 1 (by omega) l1 j e1) (row 2 (by omega) l2 k e2) (row 3 (by omega) l3 l e3)).symm
  exact ⟨fun r => if r = 0 then i else if r = 1 then j else if r = 2 then k else l, key _ rfl rfl rfl rfl⟩
/-- each clearing is no better than a corner of some p rows -/
theorem corner_all (V : Nat → Int) (hp1 : 1 ≤ p) (hp : p ≤ 4) (hW : nW ≤ 4) (hP : ∀ w, w < 4 → P w → w < nW) (hg : ∀ w, w < 4 → P w → gv w = 0) (hpm : ∀ c, c < 4 → pm c < 4) (hsur : ∀ w, w < 4 → ∃ c, c < 4 ∧ pm c = w) (hinj : ∀ i j, i < 4 → j < 4 → pm i = pm j → i = j) (hpP : ∀ c, c < p → P (pm c)) (hpN : ∀ c, p ≤ c → c < 4 → ¬ P (pm c))
    {x : Nat → Int} {d : Int} (d0 : 0 < d) (hx : ∀ w, w < 4 → ¬ P w → x w = gv w * d) (hb : ∀ w, w < 4 → P w → 0 ≤ x w ∧ x w ≤ M' w * d) (hG : GM nG nW U lim lst go x d) :
    ∃ (z : Nat → Int) (ε : Int) (er : Nat → Nat), 0 < ε ∧ (∀ w, w < 4 → ¬ P w → z w = gv w * ε) ∧ (∀ w, w < 4 → P w → 0 ≤ z w ∧ z w ≤ M' w * ε) ∧ GM nG nW U lim lst go z ε ∧ Ge V z ε x d ∧ (∀ r s, r < s → s < p → er r < er s) ∧ (∀ r, r < p → er r < nG + 2 * p ∧ onw nG go (er r) ∧ ssum (fun c => cR nG pm U (er r) c * z (pm c)) p = rtw nG nW p pm U lim gv M' (er r) * ε) ∧ DET p (fun r c => cR nG pm U (er r) c) ≠ 0 := by
  have f := Fe_of (p := p) (pm := pm) (lim := lim) (lst := lst) (go := go) (M' := M') hW hP hg hpm hpP hpN d0 hx hb hG
  have un : ∀ w, w < 4 → ∃ c, c < 4 ∧ pm c = w := hsur
  obtain ⟨z, ε, h1, h2, i, j, k, l, hij, hjk, hkl, h3⟩ := corner_of V (fun w hw => by
      obtain ⟨c, hc, ec⟩ := un w hw
      refine ⟨nG + 2 * c, by omega, fun q => by omega, fun v => ?_⟩
      rw [unit_sl hpm (by omega) (by omega)]
      have e1 : (nG + 2 * c - nG) / 2 = c := by omega
      have s1 : sgw nG lst (nG + 2 * c) = 1 := by unfold sgw; rw [if_neg (by omega), if_pos (by omega)]
      rw [e1, s1, ec]
      omega) (fun w hw => by
      obtain ⟨c, hc, ec⟩ := un w hw
      refine ⟨nG + 2 * c + 1, by omega, fun q => by omega, fun v => ?_⟩
      rw [unit_sl hpm (by omega) (by omega)]
      have e1 : (nG + 2 * c + 1 - nG) / 2 = c := by omega
      have s1 : sgw nG lst (nG + 2 * c + 1) = -1 := by unfold sgw; rw [if_neg (by omega), if_neg (by omega)]
      rw [e1, s1, ec]
      omega) f
  obtain ⟨t1, t2, t3⟩ := Fe_to hW hP hg hpm hsur hpP hpN hp h1
  obtain ⟨er, s1, s2, s3⟩ := struct hp1 hp hpm hinj hpP hpN (T := Tg (nG + 8) (Rw nG pm P U) (rtw nG nW p pm U lim gv M') (sgw nG lst) (onw nG go) z ε) (fun e he => he.1) hij hjk hkl h3
  refine ⟨z, ε, er, h1.1, t1, t2, t3, h2, s1, fun r hr => ?_, s3⟩
  obtain ⟨a1, a2, a3, a4⟩ := s2 r hr
  refine ⟨a1, a3, ?_⟩
  have sz : sgw nG lst (er r) ≠ 0 := by
    unfold sgw
    split
    · rcases sgl_1 lst (er r) with e | e <;> rw [e] <;> decide
    · split <;> decide
  unfold sl at a4
  have a5 : dot (Rw nG pm P U (er r)) z - rtw nG nW p pm U lim gv M' (er r) * ε = 0 := by
    rcases Int.mul_eq_zero.mp a4 with e | e
    · exact absurd e sz
    · exact e
  have dd : dot (Rw nG pm P U (er r)) z = ssum (fun c => cR nG pm U (er r) c * z (pm c)) p := by
    by_cases q : er r < nG
    · have pe : dot (Rw nG pm P U (er r)) z = dot (fun c => Rw nG pm P U (er r) (pm c)) (fun c => z (pm c)) := by
        have i0 := hpm 0 (by omega)
        have i1 := hpm 1 (by omega)
        have i2 := hpm 2 (by omega)
        have i3 := hpm 3 (by omega)
        have n01 : pm 0 ≠ pm 1 := fun e => absurd (hinj 0 1 (by omega) (by omega) e) (by omega)
        have n02 : pm 0 ≠ pm 2 := fun e => absurd (hinj 0 2 (by omega) (by omega) e) (by omega)
        have n03 : pm 0 ≠ pm 3 := fun e => absurd (hinj 0 3 (by omega) (by omega) e) (by omega)
        have n12 : pm 1 ≠ pm 2 := fun e => absurd (hinj 1 2 (by omega) (by omega) e) (by omega)
        have n13 : pm 1 ≠ pm 3 := fun e => absurd (hinj 1 3 (by omega) (by omega) e) (by omega)
        have n23 : pm 2 ≠ pm 3 := fun e => absurd (hinj 2 3 (by omega) (by omega) e) (by omega)
        simp only [dot]
        generalize Rw nG pm P U (er r) = R
        generalize pm 0 = p0 at *
        generalize pm 1 = p1 at *
        generalize pm 2 = p2 at *
        generalize pm 3 = p3 at *
        rcases (by omega : p0 = 0 ∨ p0 = 1 ∨ p0 = 2 ∨ p0 = 3) with e0 | e0 | e0 | e0 <;> subst e0 <;>
          rcases (by omega : p1 = 0 ∨ p1 = 1 ∨ p1 = 2 ∨ p1 = 3) with e1 | e1 | e1 | e1 <;> subst e1 <;> try omega
        all_goals
          rcases (by omega : p2 = 0 ∨ p2 = 1 ∨ p2 = 2 ∨ p2 = 3) with e2 | e2 | e2 | e2 <;> subst e2 <;> try omega
        all_goals
          rcases (by omega : p3 = 0 ∨ p3 = 1 ∨ p3 = 2 ∨ p3 = 3) with e3 | e3 | e3 | e3 <;> subst e3 <;> omega
      rw [pe]
      have ee : ∀ c, c < 4 → Rw nG pm P U (er r) (pm c) = if c < p then cR nG pm U (er r) c else 0 := fun c hc => by
        rw [Rw_c hinj hpP hpN hc (by omega), if_pos q]
      simp only [dot]
      rw [ee 0 (by omega), ee 1 (by omega), ee 2 (by omega), ee 3 (by omega), sum_ext hp]
      by_cases q0 : 0 < p <;> by_cases q1 : 1 < p <;> by_cases q2 : 2 < p <;> by_cases q3 : 3 < p <;> simp [q0, q1, q2, q3]
    · rw [unit_sl hpm (by omega) (by omega)]
      have cc : ∀ c, cR nG pm U (er r) c = if c = (er r - nG) / 2 then 1 else 0 := fun c => by unfold cR; rw [if_neg q]
      have il : (er r - nG) / 2 < p := by omega
      rw [sum_ext hp]
      simp only [cc]
      generalize (er r - nG) / 2 = m at *
      rcases (by omega : m = 0 ∨ m = 1 ∨ m = 2 ∨ m = 3) with e | e | e | e <;> subst e <;> simp <;> omega
  rw [dd] at a5
  omega
end CR
