/-! columns: exchanged, put in, none -/
theorem D4_cong {a a' b b' c c' d d' : Nat → Int} (ha : ∀ i, i < 4 → a i = a' i) (hb : ∀ i, i < 4 → b i = b' i) (hc : ∀ i, i < 4 → c i = c' i) (hd : ∀ i, i < 4 → d i = d' i) : D4 a b c d = D4 a' b' c' d' := by
  unfold D4
  rw [ha 0 (by omega), ha 1 (by omega), ha 2 (by omega), ha 3 (by omega), hb 0 (by omega), hb 1 (by omega), hb 2 (by omega), hb 3 (by omega), hc 0 (by omega), hc 1 (by omega), hc 2 (by omega), hc 3 (by omega), hd 0 (by omega), hd 1 (by omega), hd 2 (by omega), hd 3 (by omega)]
theorem D4_col0 {a b c d : Nat → Int} {q : Nat} (hq : q < 4) (ha : a q = 0) (hb : b q = 0) (hc : c q = 0) (hd : d q = 0) : D4 a b c d = 0 := by
  revert ha hb hc hd
  refine c4 (P := fun q => a q = 0 → b q = 0 → c q = 0 → d q = 0 → D4 a b c d = 0) ?_ ?_ ?_ ?_ hq <;> (intro ha hb hc hd; unfold D4; rw [ha, hb, hc, hd]; grind)
set_option maxHeartbeats 4000000 in
theorem colperm {p : Nat → Nat} (h : ∀ i, i < 4 → p i < 4) (inj : ∀ i j, i < 4 → j < 4 → p i = p j → i = j) (a b c d : Nat → Int) : D4 (fun i => a (p i)) (fun i => b (p i)) (fun i => c (p i)) (fun i => d (p i)) = D4 a b c d ∨ D4 (fun i => a (p i)) (fun i => b (p i)) (fun i => c (p i)) (fun i => d (p i)) = - D4 a b c d := by
  have h0 := h 0 (by omega)
  have h1 := h 1 (by omega)
  have h2 := h 2 (by omega)
  have h3 := h 3 (by omega)
  have n01 : p 0 ≠ p 1 := fun e => absurd (inj 0 1 (by omega) (by omega) e) (by omega)
  have n02 : p 0 ≠ p 2 := fun e => absurd (inj 0 2 (by omega) (by omega) e) (by omega)
  have n03 : p 0 ≠ p 3 := fun e => absurd (inj 0 3 (by omega) (by omega) e) (by omega)
  have n12 : p 1 ≠ p 2 := fun e => absurd (inj 1 2 (by omega) (by omega) e) (by omega)
  have n13 : p 1 ≠ p 3 := fun e => absurd (inj 1 3 (by omega) (by omega) e) (by omega)
  have n23 : p 2 ≠ p 3 := fun e => absurd (inj 2 3 (by omega) (by omega) e) (by omega)
  simp only [D4]
  clear h inj
  generalize p 0 = p0 at *
  generalize p 1 = p1 at *
  generalize p 2 = p2 at *
  generalize p 3 = p3 at *
  rcases (by omega : p0 = 0 ∨ p0 = 1 ∨ p0 = 2 ∨ p0 = 3) with e0 | e0 | e0 | e0 <;> subst e0 <;>
    rcases (by omega : p1 = 0 ∨ p1 = 1 ∨ p1 = 2 ∨ p1 = 3) with e1 | e1 | e1 | e1 <;> subst e1 <;> try omega
  all_goals
    rcases (by omega : p2 = 0 ∨ p2 = 1 ∨ p2 = 2 ∨ p2 = 3) with e2 | e2 | e2 | e2 <;> subst e2 <;> try omega
  all_goals
    rcases (by omega : p3 = 0 ∨ p3 = 1 ∨ p3 = 2 ∨ p3 = 3) with e3 | e3 | e3 | e3 <;> subst e3 <;> try omega
  all_goals
    clear h0 h1 h2 h3 n01 n02 n03 n12 n13 n23
    first | exact Or.inl (by grind) | exact Or.inr (by grind)
def rc (a : Nat → Int) (c : Nat) (v : Int) : Nat → Int := fun i => if i = c then v else a i
theorem colcr (a b e f y : Nat → Int) {c : Nat} (hc : c < 4) : D4 (rc a c (dot a y)) (rc b c (dot b y)) (rc e c (dot e y)) (rc f c (dot f y)) = y c * D4 a b e f := by
  refine c4 (P := fun c => D4 (rc a c (dot a y)) (rc b c (dot b y)) (rc e c (dot e y)) (rc f c (dot f y)) = y c * D4 a b e f) ?_ ?_ ?_ ?_ hc <;> (simp [rc, D4, dot]; grind)
theorem colsc (a b e f : Nat → Int) {c : Nat} (hc : c < 4) (k r s t u : Int) : D4 (rc a c (r * k)) (rc b c (s * k)) (rc e c (t * k)) (rc f c (u * k)) = k * D4 (rc a c r) (rc b c s) (rc e c t) (rc f c u) := by
  refine c4 (P := fun c => D4 (rc a c (r * k)) (rc b c (s * k)) (rc e c (t * k)) (rc f c (u * k)) = k * D4 (rc a c r) (rc b c s) (rc e c t) (rc f c u)) ?_ ?_ ?_ ?_ hc <;> (simp [rc, D4]; grind)
theorem dot_PA {p : Nat} (hp : p ≤ 4) (A : Nat → Nat → Int) {r : Nat} (hr : r < p) (y : Nat → Int) : dot (PA p A r) y = ssum (fun c => A r c * y c) p := by
  have e : ∀ c, PA p A r c = if c < p then A r c else 0 := fun c => by
    unfold PA
    by_cases q : c < p
    · rw [if_pos ⟨hr, q⟩, if_pos q]
    · rw [if_neg (by omega), if_neg (by omega), if_neg q]
  unfold dot
  rw [e, e, e, e]
  rcases (by omega : p = 0 ∨ p = 1 ∨ p = 2 ∨ p = 3 ∨ p = 4) with z | z | z | z | z <;> subst z <;> simp [ssum]
theorem PA_ev {p : Nat} (A : Nat → Nat → Int) {r : Nat} (hr : p ≤ r) (i : Nat) : PA p A r i = ev r i := by
  unfold PA ev
  rw [if_neg (by omega)]
  by_cases e : r = i
  · rw [if_pos e, if_pos e.symm]
  · rw [if_neg e, if_neg (fun q => e q.symm)]
theorem PA_rc {p : Nat} {A : Nat → Nat → Int} {rg : Nat → Int} {c : Nat} (hc : c < p) (r i : Nat) : PA p (fun r c' => if c' = c then rg r else A r c') r i = rc (PA p A r) c (if r < p then rg r else 0) i := by
  unfold rc
  by_cases hr : r < p
  · rw [if_pos hr]
    unfold PA
    by_cases e : i = c
    · subst e
      rw [if_pos ⟨hr, hc⟩, if_pos rfl]
      exact if_pos rfl
    · rw [if_neg e]
      by_cases q : r < p ∧ i < p
      · rw [if_pos q, if_pos q]
        exact if_neg e
      · rw [if_neg q, if_neg q]
  · rw [if_neg hr, PA_ev _ (by omega), PA_ev _ (by omega)]
    by_cases e : i = c
    · rw [if_pos e]
      unfold ev
      rw [if_neg (by omega)]
    · rw [if_neg e]
theorem cramerD {p : Nat} (hp : p ≤ 4) {A : Nat → Nat → Int} {rg y : Nat → Int} {ε : Int} (hy : ∀ c, p ≤ c → c < 4 → y c = 0) (ht : ∀ r, r < p → ssum (fun c => A r c * y c) p = rg r * ε) {c : Nat} (hc : c < p) : ε * DET p (fun r c' => if c' = c then rg r else A r c') = y c * DET p A := by
  have d : ∀ r, r < 4 → dot (PA p A r) y = (if r < p then rg r else 0) * ε := fun r hr => by
    by_cases q : r < p
    · rw [if_pos q, dot_PA hp A q]
      exact ht r q
    · rw [if_neg q, dot_eql y (fun i _ => PA_ev A (by omega) i), dot_ev y hr, hy r (by omega) hr]
      omega
  have e1 : DET p (fun r c' => if c' = c then rg r else A r c') = D4 (rc (PA p A 0) c (if 0 < p then rg 0 else 0)) (rc (PA p A 1) c (if 1 < p then rg 1 else 0)) (rc (PA p A 2) c (if 2 < p then rg 2 else 0)) (rc (PA p A 3) c (if 3 < p then rg 3 else 0)) :=
    D4_cong (fun i _ => PA_rc hc 0 i) (fun i _ => PA_rc hc 1 i) (fun i _ => PA_rc hc 2 i) (fun i _ => PA_rc hc 3 i)
  rw [e1, ← colsc _ _ _ _ (by omega), ← d 0 (by omega), ← d 1 (by omega), ← d 2 (by omega), ← d 3 (by omega), colcr _ _ _ _ _ (by omega)]
  rfl
theorem EnumN_ex (P : Nat → Prop) : ∀ n : Nat, ∃ k o, EnumN P n k o
  | 0 => ⟨0, fun _ => 0, EnumN_0 P _⟩
  | n + 1 => by
    obtain ⟨k, o, h⟩ := EnumN_ex P n
    by_cases q : P n
    · exact ⟨_, _, EnumN_yes h q⟩
    · exact ⟨_, _, EnumN_no h q⟩
theorem ssum_1 : ∀ k : Nat, ssum (fun _ => 1) k = k
  | 0 => rfl
  | k + 1 => by
    simp only [ssum]
    rw [ssum_1 k]
    push_cast
    rfl
/-- the parts first, then the others -/
theorem compl {P : Nat → Prop} {p : Nat} {o : Nat → Nat} (E : EnumN P 4 p o) : ∃ pm : Nat → Nat, (∀ c, c < p → pm c = o c) ∧ (∀ c, c < 4 → pm c < 4) ∧ (∀ i j, i < 4 → j < 4 → pm i = pm j → i = j) ∧ (∀ c, p ≤ c → c < 4 → ¬ P (pm c)) := by
  obtain ⟨p', o', E'⟩ := EnumN_ex (fun w => ¬ P w) 4
  have cnt : p + p' = 4 := by
    have a := enum_sum (p := P) (fun _ => 1) (fun w => @ite _ (P w) (Classical.propDecidable _) 1 0) (fun w h => if_pos h) (fun w h => if_neg h) 4 p o E
    have b := enum_sum (p := fun w => ¬ P w) (fun _ => 1) (fun w => @ite _ (P w) (Classical.propDecidable _) 0 1) (fun w h => if_neg h) (fun w h => if_pos (Classical.not_not.mp h)) 4 p' o' E'
    rw [ssum_1] at a b
    rw [ssum_4] at a b
    have t : ∀ w, (@ite Int (P w) (Classical.propDecidable _) 1 0) + (@ite Int (P w) (Classical.propDecidable _) 0 1) = 1 := fun w => by
      by_cases q : P w
      · rw [if_pos q, if_pos q]; rfl
      · rw [if_neg q, if_neg q]; rfl
    have t0 := t 0
    have t1 := t 1
    have t2 := t 2
    have t3 := t 3
    omega
  have inj : ∀ {Q : Nat → Prop} {k : Nat} {o : Nat → Nat}, EnumN Q 4 k o → ∀ i j, i < k → j < k → o i = o j → i = j := fun {Q k o} E i j hi hj e => by
    rcases Nat.lt_trichotomy i j with z | z | z
    · have := E.2.2.1 i j z hj; omega
    · exact z
    · have := E.2.2.1 j i z hi; omega
  refine ⟨fun c => if c < p then o c else o' (c - p), fun c hc => if_pos hc, fun c hc => ?_, fun i j hi hj e => ?_, fun c h1 h2 => ?_⟩
  · (try dsimp only)
    by_cases q : c < p
    · rw [if_pos q]; exact (E.2.1 c q).1
    · rw [if_neg q]; exact (E'.2.1 (c - p) (by omega)).1
  · (try dsimp only at e)
    by_cases q : i < p
    · by_cases r : j < p
      · rw [if_pos q, if_pos r] at e
        exact inj E i j q r e
      · rw [if_pos q, if_neg r] at e
        exact absurd (e ▸ (E.2.1 i q).2) (E'.2.1 (j - p) (by omega)).2
    · by_cases r : j < p
      · rw [if_neg q, if_pos r] at e
        exact absurd (e ▸ (E.2.1 j r).2) (E'.2.1 (i - p) (by omega)).2
      · rw [if_neg q, if_neg r] at e
        have := inj E' (i - p) (j - p) (by omega) (by omega) e
        omega
  · (try dsimp only)
    rw [if_neg (by omega)]
    exact (E'.2.1 (c - p) (by omega)).2
/-! bits -/
theorem sl32 : ∀ n, n < 32 → ((nI n &&& 31).toBitVec.smod 32).toNat = n := by decide +kernel
theorem bit_iff {S e : Nat} (hS : S < 2 ^ 31) (he : e < 31) : ((nI S >>> (nI e &&& 31)) &&& (1 : Int32)) = 1 ↔ S.testBit e = true := by
  have h1 : nI S >>> (nI e &&& 31) = nI (S / 2 ^ e) := pk_shrN hS _ e (sl32 e (by omega))
  have h2 : S / 2 ^ e < 2 ^ 31 := Nat.lt_of_le_of_lt (Nat.div_le_self _ _) hS
  have h3 : nI (S / 2 ^ e) &&& (1 : Int32) = nI (S / 2 ^ e % 2 ^ 1) := pk_andN (by omega) 1 (by decide)
  have one : (1 : Int32) = nI 1 := rfl
  rw [h1, h3, one, nI_eq (by omega) (by omega), Nat.testBit_eq_decide_div_mod_eq]
  simp
theorem shl_1 {e : Nat} (he : e < 30) : (1 : Int32) <<< (nI e &&& 31) = nI (2 ^ e) := by
  have h := pk_shlN (n := 1) (nI e &&& 31) e (sl32 e (by omega)) (by
    have : 2 ^ e < 2 ^ 32 := Nat.pow_lt_pow_right (by omega) (by omega)
    omega)
  rw [Nat.one_mul] at h
  exact h
