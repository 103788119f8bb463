/-! the class reads a table -/
def up1 {α : Type} (f : Nat → α) (l : Nat) (x : α) : Nat → α := fun i => if i = l then x else f i
theorem up1_s {α : Type} (f : Nat → α) (l : Nat) (x : α) : up1 f l x l = x := if_pos rfl
theorem up1_n {α : Type} {f : Nat → α} {l i : Nat} {x : α} (h : i ≠ l) : up1 f l x i = f i := if_neg h
/-- a number between, at a place -/
abbrev nbw (L : Nat) (τ : Nat → Int) (a : Nat) (x y : Int) : Prop := tc L τ a = 4 ∧ x ≤ tv L τ a ∧ tv L τ a ≤ y
def gI (L : Nat) (τ : Nat → Int) (told : Nat → Bool) (a : Nat) : Nat ⊕ (Nat × Bool × Int × Nat) :=
  if tc L τ a = 3 ∧ told (tv L τ a).toNat = false then
    if tc L τ (te L τ a) = 7 ∨ tc L τ (te L τ a) = 8 then
      if nbw L τ (te L τ (te L τ a)) 0 99 then
        if tc L τ (te L τ (te L τ (te L τ a))) = 2 then .inr ((tv L τ a).toNat, decide (tc L τ (te L τ a) = 8), tv L τ (te L τ (te L τ a)), te L τ (te L τ (te L τ (te L τ a))))
        else .inl (ts L τ (te L τ (te L τ (te L τ a))))
      else .inl (ts L τ (te L τ (te L τ a)))
    else .inl (ts L τ (te L τ a))
  else .inl (ts L τ a)
def uI (L : Nat) (τ : Nat → Int) (told : Nat → Bool) : Nat → Nat → (Nat → Int) → Nat ⊕ (Nat × (Nat → Int))
  | 0, _, _ => .inl 0
  | f + 1, a, row =>
    if tc L τ a = 2 then .inr (te L τ a, row)
    else if tc L τ a = 3 ∧ told (tv L τ a).toNat = true ∧ row (tv L τ a).toNat = 0 then
      if nbw L τ (te L τ a) 1 9 then uI L τ told f (te L τ (te L τ a)) (up1 row (tv L τ a).toNat (tv L τ (te L τ a)))
      else .inl (ts L τ (te L τ a))
    else .inl (ts L τ a)
def wsI (L : Nat) (τ : Nat → Int) (told : Nat → Bool) (a : Nat) : Nat ⊕ (Nat × (Nat → Int)) :=
  if nbw L τ a 0 99 then
    if tc L τ (te L τ a) = 9 then
      if nbw L τ (te L τ (te L τ a)) 1 12 then uI L τ told 6 (te L τ (te L τ (te L τ a))) (fun _ => 0)
      else .inl (ts L τ (te L τ (te L τ a)))
    else .inl (ts L τ (te L τ a))
  else .inl (ts L τ a)
def rI' (L : Nat) (τ : Nat → Int) : Nat → Nat → Nat → (Nat → Bool) → (Nat → Bool) → (Nat → Int) → Nat → (Nat → Int) → (Nat → Int) → (Nat → Int) → (Nat → Nat → Int) → Nat ⊕ (Nat × (Nat → Bool) × (Nat → Bool) × (Nat → Int) × Nat × (Nat → Int) × (Nat → Int) × (Nat → Int) × (Nat → Nat → Int))
  | 0, _, _, _, _, _, _, _, _, _, _ => .inl 0
  | f + 1, k, a, told, lst, lim, nW, V, kd, M', us =>
    if tc L τ a = 0 then .inr (k, told, lst, lim, nW, V, kd, M', us)
    else if tc L τ a = 5 then
      match gI L τ told (te L τ a) with
      | .inl s => .inl s
      | .inr (l, b, n, e) => rI' L τ f (k + 1) e (up1 told l true) (up1 lst l b) (up1 lim l n) nW V kd M' us
    else if tc L τ a = 6 ∧ nW < 4 then
      match wsI L τ told (te L τ a) with
      | .inl s => .inl s
      | .inr (e, row) => rI' L τ f (k + 1) e told lst lim (nW + 1) (up1 V nW (tv L τ (te L τ a))) (up1 kd nW (tv L τ (te L τ (te L τ a)))) (up1 M' nW (tv L τ (te L τ (te L τ (te L τ a))))) (up1 us nW row)
    else .inl (ts L τ a)
/-- the table at hand, of letters told by truth values, nothing off -/
def TD (told lst : Nat → Bool) (lim : Nat → Int) (nW : Nat) (V kd M' : Nat → Int) (us : Nat → Nat → Int) (wi : Int32) (it le gof li va kn mo wo : Nat → Int32) (u : Nat → Nat → Int32) : Prop :=
  TC (fun l => told l = true) (fun l => lst l = true) (fun _ => False) lim nW V kd M' us wi it le gof li va kn mo wo u ∧ ∀ w, w < nW → wo w = 0
section RDC
variable {L : Nat} {τ : Nat → Int} {t : Nat → Int32} {told lst : Nat → Bool} {lim : Nat → Int} {nW : Nat} {V kd M' : Nat → Int} {us : Nat → Nat → Int} {wi : Int32} {it le gof li va kn mo wo : Nat → Int32} {u : Nat → Nat → Int32}
theorem sp_readsNumber (B : TB L τ t) {x1 x2 x3 : Int32} {a : Nat} (ha : a ≤ L) {x y : Int} (rx : rI x) (ry : rI y) {post : Int32 → Int32 → Int32 → Int32 → Int32 → Prop} (h1 : nbw L τ a x y → post 1 (nI (te L τ a)) (nI (ts L τ a)) (nI (tc L τ a)) (iI (tv L τ a))) (h0 : ∀ z, ¬ nbw L τ a x y → post 0 (nI (te L τ a)) (nI (ts L τ a)) (nI (tc L τ a)) z) : wp_X3_readsNumber (nI L) (nI a) x1 x2 x3 t (iI x) (iI y) post := by
  obtain ⟨s1, s2, s3, s4, s5, s6, s7, s8⟩ := tk_sure (τ := τ) ha
  have hL := B.1
  unfold wp_X3_readsNumber
  refine sp_nextC B ha (fun z hz => ?_)
  rw [show (4 : Int32) = nI 4 from rfl, nI_eq (by omega) (by omega)]
  refine br_c (fun c => ?_) (fun c => h0 z (fun q => c q.1))
  have v := s7 c
  rw [hz (Or.inr (Or.inl c)), iI_lt (by unfold rI; omega) rx, iI_lt ry (by unfold rI; omega)]
  exact br_c (fun d => h0 _ (fun q => by have := q.2.1; omega)) (fun d => br_c (fun e => h0 _ (fun q => by have := q.2.2; omega)) (fun e => h1 ⟨c, by omega, by omega⟩))
theorem TD_addG (T : TD told lst lim nW V kd M' us wi it le gof li va kn mo wo u) {l : Nat} (hl : l < 5) {b : Bool} {n : Int} (n0 : 0 ≤ n) (n1 : n ≤ 99) {s0 : Int32} (hs : s0 = if b = true then 1 else 0) : TD (up1 told l true) (up1 lst l b) (up1 lim l n) nW V kd M' us wi (upd it l 1) (upd le l (vp_nar .boolean s0)) (upd gof l 0) (upd li l (iI n)) va kn mo wo u := by
  obtain ⟨⟨t1, t2, t3, t4, t5⟩, t6⟩ := T
  have nr : vp_nar .boolean s0 = s0 := by
    cases b
    · rw [hs]; decide
    · rw [hs]; decide
  rw [nr]
  refine ⟨⟨t1, t2, fun i hi => ?_, t4, fun w hw i hi nt => t5 w hw i hi (fun q => nt ?_)⟩, t6⟩
  · by_cases e : i = l
    · subst e
      dsimp only
      rw [pk_us, pk_us, pk_us, pk_us, up1_s, up1_s, up1_s]
      refine ⟨Or.inr rfl, ⟨fun _ => rfl, fun _ => rfl⟩, ?_, ?_, Or.inl rfl, ⟨fun q => absurd q (by decide), fun q => q.elim⟩, rfl, n0, n1⟩
      · cases b
        · left; rw [hs]; decide
        · right; rw [hs]; decide
      · rw [hs]
        cases b
        · exact ⟨fun q => absurd q (by decide), fun q => absurd q (by decide)⟩
        · exact ⟨fun _ => rfl, fun _ => by decide⟩
    · dsimp only
      rw [pk_un e, pk_un e, pk_un e, pk_un e, up1_n e, up1_n e, up1_n e]
      exact t3 i hi
  · show up1 told l true i = true
    by_cases e : i = l
    · subst e; exact up1_s ..
    · rw [up1_n e]; exact q
theorem sp_readsGate (B : TB L τ t) (T : TD told lst lim nW V kd M' us wi it le gof li va kn mo wo u) {x1 x2 x3 : Int32} {a : Nat} (ha : a ≤ L) {post : Int32 → Int32 → Int32 → Int32 → Int32 → (Nat → Int32) → (Nat → Int32) → (Nat → Int32) → (Nat → Int32) → Prop} (h0 : ∀ s y1 y2 y3, gI L τ told a = .inl s → s ≤ 300 → post 0 y1 (nI s) y2 y3 it le gof li) (h1 : ∀ l b n e, gI L τ told a = .inr (l, b, n, e) → a < e → e ≤ L → ∀ y2 y3 y4 i' l' g' m', TD (up1 told l true) (up1 lst l b) (up1 lim l n) nW V kd M' us wi i' l' g' m' va kn mo wo u → post 1 (nI e) y2 y3 y4 i' l' g' m') : wp_X3_readsGate (nI L) (nI a) x1 x2 x3 t it le gof li post := by
  have hL := B.1
  obtain ⟨s1, s2, s3, s4, s5, s6, s7, s8⟩ := tk_sure (τ := τ) ha
  unfold wp_X3_readsGate
  refine sp_nextC B ha (fun z hz => ?_)
  rw [show (3 : Int32) = nI 3 from rfl, nI_eq (by omega) (by omega)]
  refine br_c (fun c => ?_) (fun c => h0 _ _ _ _ (by unfold gI; rw [if_neg (fun q => c q.1)]) (by omega))
  have v := s6 c
  obtain ⟨l, hl⟩ : ∃ l : Nat, (l : Int) = tv L τ a := ⟨(tv L τ a).toNat, by omega⟩
  have vl : (tv L τ a).toNat = l := by omega
  have ez : z = nI l := by rw [hz (Or.inl c), ← hl, nI_iI]
  subst ez
  have cl : (nI l).toNatClampNeg = l := nI_clamp (by omega)
  obtain ⟨i1, i2, i3⟩ := T.1.2.2.1 l (by omega)
  refine ⟨vp_in_nI (by omega) (by omega), ?_⟩
  rw [cl]
  refine br_c (fun d => ?_) (fun d => ?_)
  · have nt : told l = false := by
      cases e : told l
      · rfl
      · have := i2.mpr e
        rw [d] at this
        exact absurd this (by decide)
    obtain ⟨p1, p2, p3, p4, p5, p6, p7, p8⟩ := tk_sure (τ := τ) (L := L) (a := te L τ a) (by omega)
    refine sp_nextC B (by omega) (fun z2 hz2 => ?_)
    have G : gI L τ told a = if tc L τ (te L τ a) = 7 ∨ tc L τ (te L τ a) = 8 then
      if nbw L τ (te L τ (te L τ a)) 0 99 then
        if tc L τ (te L τ (te L τ (te L τ a))) = 2 then .inr ((tv L τ a).toNat, decide (tc L τ (te L τ a) = 8), tv L τ (te L τ (te L τ a)), te L τ (te L τ (te L τ (te L τ a))))
        else .inl (ts L τ (te L τ (te L τ (te L τ a))))
      else .inl (ts L τ (te L τ (te L τ a)))
    else .inl (ts L τ (te L τ a)) := by
      unfold gI
      rw [if_pos ⟨c, by rw [vl]; exact nt⟩]
    obtain ⟨q1, q2, q3, q4, q5, q6, q7, q8⟩ := tk_sure (τ := τ) (L := L) (a := te L τ (te L τ a)) (by omega)
    obtain ⟨r1, r2, r3, r4, r5, r6, r7, r8⟩ := tk_sure (τ := τ) (L := L) (a := te L τ (te L τ (te L τ a))) (by omega)
    have tail : ∀ s0 : Int32, (tc L τ (te L τ a) = 7 ∨ tc L τ (te L τ a) = 8) → (s0 = if decide (tc L τ (te L τ a) = 8) = true then 1 else 0) → wj_X3_readsGate_69 (nI l) s0 (nI L) (nI (te L τ (te L τ a))) (nI (ts L τ (te L τ a))) (nI (tc L τ (te L τ a))) z2 t it le gof li post := fun s0 k e0 => by
      rw [if_pos k] at G
      unfold wj_X3_readsGate_69
      refine sp_readsNumber (x := 0) (y := 99) B (by omega) (by unfold rI; omega) (by unfold rI; omega) (fun m => br_f (by decide) ?_) (fun z m => br_t rfl (h0 _ _ _ _ (by rw [G, if_neg m]) (by omega)))
      rw [if_pos m] at G
      refine sp_nextC B (by omega) (fun z3 hz3 => ?_)
      rw [show (2 : Int32) = nI 2 from rfl, nI_eq (by omega) (by omega)]
      refine br_c (fun w => ?_) (fun w => h0 _ _ _ _ (by rw [G, if_neg w]) (by omega))
      rw [if_pos w, vl] at G
      unfold wp_X4_addGate
      refine br_f (nI_pos (by omega)) (br_t (nI_lt (b := 5) (by omega) (by omega)) ⟨vp_in_nI (by omega) (by omega), ?_⟩)
      rw [cl, nar_1, nar_0]
      exact h1 _ _ _ _ G (by omega) r3 _ _ _ _ _ _ _ (TD_addG T (by omega) m.2.1 m.2.2 e0)
    rw [show (7 : Int32) = nI 7 from rfl, show (8 : Int32) = nI 8 from rfl, nI_eq (by omega) (by omega), nI_eq (by omega) (by omega)]
    unfold wj_X3_readsGate_55
    rw [show (8 : Int32) = nI 8 from rfl, nI_eq (by omega) (by omega)]
    refine br_c (fun w => br_f (by omega) (tail 0 (Or.inl w) (by rw [w]; decide))) (fun w => br_c (fun y => br_t y (tail 1 (Or.inr y) (by rw [y]; decide))) (fun y => ?_))
    exact h0 _ _ _ _ (by rw [G, if_neg (by omega)]) (by omega)
  · refine h0 _ _ _ _ ?_ (by omega)
    unfold gI
    rw [if_neg (fun q => d ?_)]
    rw [vl] at q
    rcases i1 with e | e
    · exact e
    · have := i2.mp e
      rw [show (fun l => told l = true) l = (told l = true) from rfl, q.2] at this
      exact absurd this (by decide)
end RDC
