/-! the token at a place -/
theorem Sk_ex (L : Nat) (τ : Nat → Int) : ∀ (d a : Nat), L = a + d → ∃ s, Sk L τ a s := by
  intro d
  induction d with
  | zero => intro a h; exact ⟨a, Nat.le_refl _, by omega, fun j j1 j2 => by omega, fun z => by omega⟩
  | succ d ih =>
    intro a h
    by_cases y : τ a = 32
    · obtain ⟨s, s1, s2, s3, s4⟩ := ih (a + 1) (by omega)
      refine ⟨s, by omega, s2, fun j j1 j2 => ?_, s4⟩
      by_cases e : j = a
      · subst e; exact y
      · exact s3 j (by omega) j2
    · exact ⟨a, Nat.le_refl _, by omega, fun j j1 j2 => by omega, fun _ => y⟩
theorem Rn_ex (L : Nat) (τ : Nat → Int) (p : Int → Prop) : ∀ (d a : Nat), L = a + d → ∃ s, Rn L τ p a s := by
  intro d
  induction d with
  | zero => intro a h; exact ⟨a, Nat.le_refl _, by omega, fun j j1 j2 => by omega, fun z => by omega⟩
  | succ d ih =>
    intro a h
    by_cases y : p (τ a)
    · obtain ⟨s, s1, s2, s3, s4⟩ := ih (a + 1) (by omega)
      refine ⟨s, by omega, s2, fun j j1 j2 => ?_, s4⟩
      by_cases e : j = a
      · subst e; exact y
      · exact s3 j (by omega) j2
    · exact ⟨a, Nat.le_refl _, by omega, fun j j1 j2 => by omega, fun _ => y⟩
def skd (τ : Nat → Int) : Nat → Nat → Nat
  | 0, a => a
  | d + 1, a => if τ a = 32 then skd τ d (a + 1) else a
def rnd (τ : Nat → Int) (lo hi : Int) : Nat → Nat → Nat
  | 0, a => a
  | d + 1, a => if lo ≤ τ a ∧ τ a ≤ hi then rnd τ lo hi d (a + 1) else a
theorem skd_Sk (τ : Nat → Int) : ∀ (d a : Nat), Sk (a + d) τ a (skd τ d a) := by
  intro d
  induction d with
  | zero => intro a; exact ⟨Nat.le_refl _, Nat.le_refl _, fun j j1 j2 => by have : j < a := j2; omega, fun z => by have : a < a := z; omega⟩
  | succ d ih =>
    intro a
    unfold skd
    by_cases y : τ a = 32
    · rw [if_pos y]
      obtain ⟨s1, s2, s3, s4⟩ := ih (a + 1)
      refine ⟨by omega, by omega, fun j j1 j2 => ?_, fun z => s4 (by omega)⟩
      by_cases e : j = a
      · subst e; exact y
      · exact s3 j (by omega) j2
    · rw [if_neg y]
      exact ⟨Nat.le_refl _, by omega, fun j j1 j2 => by omega, fun _ => y⟩
theorem rnd_Rn (τ : Nat → Int) (lo hi : Int) : ∀ (d a : Nat), Rn (a + d) τ (fun v => lo ≤ v ∧ v ≤ hi) a (rnd τ lo hi d a) := by
  intro d
  induction d with
  | zero => intro a; exact ⟨Nat.le_refl _, Nat.le_refl _, fun j j1 j2 => by have : j < a := j2; omega, fun z => by have : a < a := z; omega⟩
  | succ d ih =>
    intro a
    unfold rnd
    by_cases y : lo ≤ τ a ∧ τ a ≤ hi
    · rw [if_pos y]
      obtain ⟨s1, s2, s3, s4⟩ := ih (a + 1)
      refine ⟨by omega, by omega, fun j j1 j2 => ?_, fun z => s4 (by omega)⟩
      by_cases e : j = a
      · subst e; exact y
      · exact s3 j (by omega) j2
    · rw [if_neg y]
      exact ⟨Nat.le_refl _, by omega, fun j j1 j2 => by omega, fun _ => y⟩
def skp (L : Nat) (τ : Nat → Int) (a : Nat) : Nat := skd τ (L - a) a
def rnD (L : Nat) (τ : Nat → Int) (a : Nat) : Nat := rnd τ 48 57 (L - a) a
def rnS (L : Nat) (τ : Nat → Int) (a : Nat) : Nat := rnd τ 97 122 (L - a) a
theorem skp_eq {L : Nat} {τ : Nat → Int} {a s : Nat} (h : Sk L τ a s) : skp L τ a = s := by
  have z := skd_Sk τ (L - a) a
  rw [show a + (L - a) = L by have := h.1; have := h.2.1; omega] at z
  exact Sk_one z h
theorem rnD_eq {L : Nat} {τ : Nat → Int} {a s : Nat} (h : Rn L τ dig a s) : rnD L τ a = s := by
  have z := rnd_Rn τ 48 57 (L - a) a
  rw [show a + (L - a) = L by have := h.1; have := h.2.1; omega] at z
  exact Rn_one z h
theorem rnS_eq {L : Nat} {τ : Nat → Int} {a s : Nat} (h : Rn L τ sml a s) : rnS L τ a = s := by
  have z := rnd_Rn τ 97 122 (L - a) a
  rw [show a + (L - a) = L by have := h.1; have := h.2.1; omega] at z
  exact Rn_one z h
/-- the value of k digits, held beyond 999 -/
def vN (τ : Nat → Int) (s : Nat) : Nat → Int
  | 0 => 0
  | k + 1 => if vN τ s k ≤ 999 then vN τ s k * 10 + τ (s + k) - 48 else vN τ s k
/-- k small letters to the base 27 -/
def sp27 (τ : Nat → Int) (s : Nat) : Nat → Int
  | 0 => 0
  | k + 1 => sp27 τ s k * 27 + (τ (s + k) - 96)
def cdW : List Int := [139055, 459791, 267347, 6476969, 316163, 12391871, 1065]
/-- which word: gate 0, wish 1, most 2, least 3, part 4, whole 5, all 6, none 7 -/
def whW (τ : Nat → Int) (s n : Nat) : Nat :=
  if 5 < n then 7 else
  if sp27 τ s n = 139055 then 0 else if sp27 τ s n = 459791 then 1 else if sp27 τ s n = 267347 then 2 else if sp27 τ s n = 6476969 then 3
  else if sp27 τ s n = 316163 then 4 else if sp27 τ s n = 12391871 then 5 else if sp27 τ s n = 1065 then 6 else 7
def wcode (k : Nat) : Nat := if k = 0 then 5 else if k = 1 then 6 else if k = 2 then 7 else if k = 3 then 8 else if k = 7 then 1 else 9
/-- end, start, code, value of the token behind a -/
def tk (L : Nat) (τ : Nat → Int) (a : Nat) : Nat × Nat × Nat × Int :=
  if L ≤ skp L τ a then (skp L τ a, skp L τ a, 0, 0)
  else if 48 ≤ τ (skp L τ a) ∧ τ (skp L τ a) ≤ 57 then
    (rnD L τ (skp L τ a), skp L τ a,
      if vN τ (skp L τ a) (rnD L τ (skp L τ a) - skp L τ a) ≤ 999 ∧ ¬ (τ (skp L τ a) = 48 ∧ 1 < rnD L τ (skp L τ a) - skp L τ a) then 4 else 1,
      vN τ (skp L τ a) (rnD L τ (skp L τ a) - skp L τ a))
  else if 97 ≤ τ (skp L τ a) ∧ τ (skp L τ a) ≤ 122 then
    (rnS L τ (skp L τ a), skp L τ a, wcode (whW τ (skp L τ a) (rnS L τ (skp L τ a) - skp L τ a)), (whW τ (skp L τ a) (rnS L τ (skp L τ a) - skp L τ a) : Int) - 4)
  else (skp L τ a + 1, skp L τ a, if τ (skp L τ a) = 59 then 2 else if 65 ≤ τ (skp L τ a) ∧ τ (skp L τ a) ≤ 69 then 3 else 1, τ (skp L τ a) - 65)
def te (L : Nat) (τ : Nat → Int) (a : Nat) : Nat := (tk L τ a).1
def ts (L : Nat) (τ : Nat → Int) (a : Nat) : Nat := (tk L τ a).2.1
def tc (L : Nat) (τ : Nat → Int) (a : Nat) : Nat := (tk L τ a).2.2.1
def tv (L : Nat) (τ : Nat → Int) (a : Nat) : Int := (tk L τ a).2.2.2
section TK
variable {L : Nat} {τ : Nat → Int} {a s e : Nat}
theorem tk_end (h : Sk L τ a s) (hs : L ≤ s) : tk L τ a = (s, s, 0, 0) := by
  unfold tk
  rw [skp_eq h, if_pos hs]
theorem tk_dig (h : Sk L τ a s) (hs : s < L) (hd : dig (τ s)) (r : Rn L τ dig s e) : tk L τ a = (e, s, if vN τ s (e - s) ≤ 999 ∧ ¬ (τ s = 48 ∧ 1 < e - s) then 4 else 1, vN τ s (e - s)) := by
  unfold tk
  rw [skp_eq h, if_neg (by omega), if_pos (show 48 ≤ τ s ∧ τ s ≤ 57 from hd), rnD_eq r]
theorem tk_sml (h : Sk L τ a s) (hs : s < L) (hd : ¬ dig (τ s)) (hm : sml (τ s)) (r : Rn L τ sml s e) : tk L τ a = (e, s, wcode (whW τ s (e - s)), (whW τ s (e - s) : Int) - 4) := by
  unfold tk
  rw [skp_eq h, if_neg (by omega), if_neg (show ¬ (48 ≤ τ s ∧ τ s ≤ 57) from hd), if_pos (show 97 ≤ τ s ∧ τ s ≤ 122 from hm), rnS_eq r]
theorem tk_sgn (h : Sk L τ a s) (hs : s < L) (hd : ¬ dig (τ s)) (hm : ¬ sml (τ s)) : tk L τ a = (s + 1, s, if τ s = 59 then 2 else if 65 ≤ τ s ∧ τ s ≤ 69 then 3 else 1, τ s - 65) := by
  unfold tk
  rw [skp_eq h, if_neg (by omega), if_neg (show ¬ (48 ≤ τ s ∧ τ s ≤ 57) from hd), if_neg (show ¬ (97 ≤ τ s ∧ τ s ≤ 122) from hm)]
theorem vN_r (τ : Nat → Int) (s : Nat) : ∀ k, (∀ j, j < k → dig (τ (s + j))) → 0 ≤ vN τ s k ∧ vN τ s k ≤ 9999 := by
  intro k
  induction k with
  | zero => intro _; exact ⟨Int.le_refl 0, by show (0 : Int) ≤ 9999; decide⟩
  | succ k ih =>
    intro h
    have i := ih (fun j hj => h j (by omega))
    have d := h k (by omega)
    unfold dig at d
    unfold vN
    by_cases y : vN τ s k ≤ 999
    · rw [if_pos y]; omega
    · rw [if_neg y]; exact i
theorem whW_r (τ : Nat → Int) (s n : Nat) : whW τ s n ≤ 7 := by
  unfold whW
  repeat (first | omega | split)
theorem Rn_off {p : Int → Prop} (h : Rn L τ p s e) : ∀ j, j < e - s → p (τ (s + j)) := fun j hj => h.2.2.1 (s + j) (by omega) (by omega)
theorem Rn_lt {p : Int → Prop} (h : Rn L τ p s e) (hs : s < L) (hp : p (τ s)) : s < e := by
  obtain ⟨h1, h2, h3, h4⟩ := h
  rcases Nat.lt_or_ge s e with z | z
  · exact z
  · have : e = s := by omega
    subst this
    exact absurd hp (h4 hs)
theorem wcode_9 {k : Nat} (hk : k ≤ 7) (h : wcode k = 9) : 4 ≤ k ∧ k ≤ 6 := by
  unfold wcode at h
  repeat (first | omega | split at h)
theorem wcode_r (k : Nat) : wcode k = 1 ∨ 5 ≤ wcode k ∧ wcode k ≤ 9 := by
  unfold wcode
  repeat (first | omega | split)
/-- what is sure of a token -/
theorem tk_sure (ha : a ≤ L) : a ≤ ts L τ a ∧ ts L τ a ≤ te L τ a ∧ te L τ a ≤ L ∧ tc L τ a ≤ 9 ∧ (tc L τ a ≠ 0 → a < te L τ a) ∧ (tc L τ a = 3 → 0 ≤ tv L τ a ∧ tv L τ a ≤ 4) ∧ (tc L τ a = 4 → 0 ≤ tv L τ a ∧ tv L τ a ≤ 999) ∧ (tc L τ a = 9 → 0 ≤ tv L τ a ∧ tv L τ a ≤ 2) := by
  unfold te ts tc tv
  obtain ⟨s, h⟩ := Sk_ex L τ (L - a) a (by omega)
  obtain ⟨h1, h2, h3, h4⟩ := id h
  rcases Nat.lt_or_ge s L with hs | hs
  · by_cases hd : dig (τ s)
    · obtain ⟨e, r⟩ := Rn_ex L τ dig (L - s) s (by omega)
      have lt := Rn_lt r hs hd
      have re := r.2.1
      have vr := vN_r τ s (e - s) (Rn_off r)
      rw [tk_dig h hs hd r]
      dsimp only
      by_cases q : vN τ s (e - s) ≤ 999 ∧ ¬ (τ s = 48 ∧ 1 < e - s)
      · rw [if_pos q]
        exact ⟨h1, by omega, by omega, by omega, by omega, by omega, fun _ => ⟨vr.1, q.1⟩, by omega⟩
      · rw [if_neg q]
        exact ⟨h1, by omega, by omega, by omega, by omega, by omega, by omega, by omega⟩
    · by_cases hm : sml (τ s)
      · obtain ⟨e, r⟩ := Rn_ex L τ sml (L - s) s (by omega)
        have lt := Rn_lt r hs hm
        have re := r.2.1
        rw [tk_sml h hs hd hm r]
        dsimp only
        have wr := whW_r τ s (e - s)
        have wc := wcode_r (whW τ s (e - s))
        exact ⟨h1, by omega, by omega, by omega, by omega, by omega, by omega, fun z => by have := wcode_9 wr z; omega⟩
      · rw [tk_sgn h hs hd hm]
        dsimp only
        by_cases q : τ s = 59
        · rw [if_pos q]
          exact ⟨h1, by omega, by omega, by omega, by omega, by omega, by omega, by omega⟩
        · rw [if_neg q]
          by_cases y : 65 ≤ τ s ∧ τ s ≤ 69
          · rw [if_pos y]
            exact ⟨h1, by omega, by omega, by omega, by omega, by omega, by omega, by omega⟩
          · rw [if_neg y]
            exact ⟨h1, by omega, by omega, by omega, by omega, by omega, by omega, by omega⟩
  · rw [tk_end h hs]
    dsimp only
    exact ⟨h1, by omega, by omega, by omega, by omega, by omega, by omega, by omega⟩
end TK
/-- the class's word k is the word of that spelling -/
def isW (τ : Nat → Int) (s n k : Nat) : Prop := n = slen.getD k 0 ∧ ∀ j, j < n → iI (τ (s + j)) = (sch k j &&& 255)
theorem sch_r : ∀ k, k < 7 → ∀ j, j < 5 → (sch k j &&& 255 : Int32) = sch k j := by decide +kernel
theorem sp_len {τ : Nat → Int} {s : Nat} : ∀ n, (∀ j, j < n → sml (τ (s + j))) → (n = 0 → sp27 τ s n = 0) ∧ (n = 1 → sp27 τ s n = τ s - 96) ∧ (n = 2 → sp27 τ s n = (τ s - 96) * 27 + (τ (s + 1) - 96)) ∧ (n = 3 → sp27 τ s n = ((τ s - 96) * 27 + (τ (s + 1) - 96)) * 27 + (τ (s + 2) - 96)) ∧ (n = 4 → sp27 τ s n = (((τ s - 96) * 27 + (τ (s + 1) - 96)) * 27 + (τ (s + 2) - 96)) * 27 + (τ (s + 3) - 96)) ∧ (n = 5 → sp27 τ s n = ((((τ s - 96) * 27 + (τ (s + 1) - 96)) * 27 + (τ (s + 2) - 96)) * 27 + (τ (s + 3) - 96)) * 27 + (τ (s + 4) - 96)) := by
  intro n h
  refine ⟨fun z => by subst z; rfl, fun z => ?_, fun z => ?_, fun z => ?_, fun z => ?_, fun z => ?_⟩ <;> subst z <;> simp [sp27]

/-- the spelling of the words -/
theorem isW_iff {τ : Nat → Int} {s n k : Nat} (hk : k < 7) (h : ∀ j, j < n → sml (τ (s + j))) : isW τ s n k ↔ n ≤ 5 ∧ sp27 τ s n = cdW.getD k 0 := by
  have e : ∀ j, j < n → (iI (τ (s + j)) = (sch k j &&& 255) ↔ τ (s + j) = (sch k j &&& 255).toInt) := fun j hj => by
    have q := h j hj
    unfold sml at q
    constructor
    · intro y
      rw [← y, iI_toInt (by unfold rI; omega)]
    · intro y
      rw [y, iI_of]
  have f : isW τ s n k ↔ n = slen.getD k 0 ∧ ∀ j, j < n → τ (s + j) = (sch k j &&& 255).toInt := by
    unfold isW
    constructor
    · exact fun y => ⟨y.1, fun j hj => (e j hj).mp (y.2 j hj)⟩
    · exact fun y => ⟨y.1, fun j hj => (e j hj).mpr (y.2 j hj)⟩
  rw [f]
  have u0 : 0 < n → 97 ≤ τ s ∧ τ s ≤ 122 := fun z => h 0 z
  have u1 : 1 < n → 97 ≤ τ (s + 1) ∧ τ (s + 1) ≤ 122 := fun z => h 1 z
  have u2 : 2 < n → 97 ≤ τ (s + 2) ∧ τ (s + 2) ≤ 122 := fun z => h 2 z
  have u3 : 3 < n → 97 ≤ τ (s + 3) ∧ τ (s + 3) ≤ 122 := fun z => h 3 z
  have u4 : 4 < n → 97 ≤ τ (s + 4) ∧ τ (s + 4) ≤ 122 := fun z => h 4 z
  obtain ⟨l0, l1, l2, l3, l4, l5⟩ := sp_len n h
  clear f e h
  rcases (by omega : k = 0 ∨ k = 1 ∨ k = 2 ∨ k = 3 ∨ k = 4 ∨ k = 5 ∨ k = 6) with rfl | rfl | rfl | rfl | rfl | rfl | rfl
  · show n = 4 ∧ _ ↔ n ≤ 5 ∧ sp27 τ s n = 139055
    constructor
    · rintro ⟨rfl, y⟩
      have y0 : τ (s + 0) = 103 := y 0 (by decide)
      have y1 : τ (s + 1) = 97 := y 1 (by decide)
      have y2 : τ (s + 2) = 116 := y 2 (by decide)
      have y3 : τ (s + 3) = 101 := y 3 (by decide)
      have y0' : τ s = 103 := y0
      have l := l4 rfl
      exact ⟨by decide, by omega⟩
    · rintro ⟨y, z⟩
      have hn : n = 4 := by
        rcases (by omega : n = 0 ∨ n = 1 ∨ n = 2 ∨ n = 3 ∨ n = 4 ∨ n = 5) with q | q | q | q | q | q
        · have := l0 q; omega
        · have := l1 q; omega
        · have := l2 q; omega
        · have := l3 q; omega
        · have := l4 q; omega
        · have := l5 q; omega
      subst hn
      have l := l4 rfl
      have v0 := u0 (by decide)
      have v1 := u1 (by decide)
      have v2 := u2 (by decide)
      have v3 := u3 (by decide)
      refine ⟨rfl, fun j hj => ?_⟩
      rcases (by omega : j = 0 ∨ j = 1 ∨ j = 2 ∨ j = 3) with rfl | rfl | rfl | rfl
      · show τ (s + 0) = 103
        show τ s = 103
        omega
      · show τ (s + 1) = 97
        omega
      · show τ (s + 2) = 116
        omega
      · show τ (s + 3) = 101
        omega
  · show n = 4 ∧ _ ↔ n ≤ 5 ∧ sp27 τ s n = 459791
    constructor
    · rintro ⟨rfl, y⟩
      have y0 : τ (s + 0) = 119 := y 0 (by decide)
      have y1 : τ (s + 1) = 105 := y 1 (by decide)
      have y2 : τ (s + 2) = 115 := y 2 (by decide)
      have y3 : τ (s + 3) = 104 := y 3 (by decide)
      have y0' : τ s = 119 := y0
      have l := l4 rfl
      exact ⟨by decide, by omega⟩
    · rintro ⟨y, z⟩
      have hn : n = 4 := by
        rcases (by omega : n = 0 ∨ n = 1 ∨ n = 2 ∨ n = 3 ∨ n = 4 ∨ n = 5) with q | q | q | q | q | q
        · have := l0 q; omega
        · have := l1 q; omega
        · have := l2 q; omega
        · have := l3 q; omega
        · have := l4 q; omega
        · have := l5 q; omega
      subst hn
      have l := l4 rfl
      have v0 := u0 (by decide)
      have v1 := u1 (by decide)
      have v2 := u2 (by decide)
      have v3 := u3 (by decide)
      refine ⟨rfl, fun j hj => ?_⟩
      rcases (by omega : j = 0 ∨ j = 1 ∨ j = 2 ∨ j = 3) with rfl | rfl | rfl | rfl
      · show τ (s + 0) = 119
        show τ s = 119
        omega
      · show τ (s + 1) = 105
        omega
      · show τ (s + 2) = 115
        omega
      · show τ (s + 3) = 104
        omega
  · show n = 4 ∧ _ ↔ n ≤ 5 ∧ sp27 τ s n = 267347
    constructor
    · rintro ⟨rfl, y⟩
      have y0 : τ (s + 0) = 109 := y 0 (by decide)
      have y1 : τ (s + 1) = 111 := y 1 (by decide)
      have y2 : τ (s + 2) = 115 := y 2 (by decide)
      have y3 : τ (s + 3) = 116 := y 3 (by decide)
      have y0' : τ s = 109 := y0
      have l := l4 rfl
      exact ⟨by decide, by omega⟩
    · rintro ⟨y, z⟩
      have hn : n = 4 := by
        rcases (by omega : n = 0 ∨ n = 1 ∨ n = 2 ∨ n = 3 ∨ n = 4 ∨ n = 5) with q | q | q | q | q | q
        · have := l0 q; omega
        · have := l1 q; omega
        · have := l2 q; omega
        · have := l3 q; omega
        · have := l4 q; omega
        · have := l5 q; omega
      subst hn
      have l := l4 rfl
      have v0 := u0 (by decide)
      have v1 := u1 (by decide)
      have v2 := u2 (by decide)
      have v3 := u3 (by decide)
      refine ⟨rfl, fun j hj => ?_⟩
      rcases (by omega : j = 0 ∨ j = 1 ∨ j = 2 ∨ j = 3) with rfl | rfl | rfl | rfl
      · show τ (s + 0) = 109
        show τ s = 109
        omega
      · show τ (s + 1) = 111
        omega
      · show τ (s + 2) = 115
        omega
      · show τ (s + 3) = 116
        omega
  · show n = 5 ∧ _ ↔ n ≤ 5 ∧ sp27 τ s n = 6476969
    constructor
    · rintro ⟨rfl, y⟩
      have y0 : τ (s + 0) = 108 := y 0 (by decide)
      have y1 : τ (s + 1) = 101 := y 1 (by decide)
      have y2 : τ (s + 2) = 97 := y 2 (by decide)
      have y3 : τ (s + 3) = 115 := y 3 (by decide)
      have y4 : τ (s + 4) = 116 := y 4 (by decide)
      have y0' : τ s = 108 := y0
      have l := l5 rfl
      exact ⟨by decide, by omega⟩
    · rintro ⟨y, z⟩
      have hn : n = 5 := by
        rcases (by omega : n = 0 ∨ n = 1 ∨ n = 2 ∨ n = 3 ∨ n = 4 ∨ n = 5) with q | q | q | q | q | q
        · have := l0 q; omega
        · have := l1 q; omega
        · have := l2 q; omega
        · have := l3 q; omega
        · have := l4 q; omega
        · have := l5 q; omega
      subst hn
      have l := l5 rfl
      have v0 := u0 (by decide)
      have v1 := u1 (by decide)
      have v2 := u2 (by decide)
      have v3 := u3 (by decide)
      have v4 := u4 (by decide)
      refine ⟨rfl, fun j hj => ?_⟩
      rcases (by omega : j = 0 ∨ j = 1 ∨ j = 2 ∨ j = 3 ∨ j = 4) with rfl | rfl | rfl | rfl | rfl
      · show τ (s + 0) = 108
        show τ s = 108
        omega
      · show τ (s + 1) = 101
        omega
      · show τ (s + 2) = 97
        omega
      · show τ (s + 3) = 115
        omega
      · show τ (s + 4) = 116
        omega
  · show n = 4 ∧ _ ↔ n ≤ 5 ∧ sp27 τ s n = 316163
    constructor
    · rintro ⟨rfl, y⟩
      have y0 : τ (s + 0) = 112 := y 0 (by decide)
      have y1 : τ (s + 1) = 97 := y 1 (by decide)
      have y2 : τ (s + 2) = 114 := y 2 (by decide)
      have y3 : τ (s + 3) = 116 := y 3 (by decide)
      have y0' : τ s = 112 := y0
      have l := l4 rfl
      exact ⟨by decide, by omega⟩
    · rintro ⟨y, z⟩
      have hn : n = 4 := by
        rcases (by omega : n = 0 ∨ n = 1 ∨ n = 2 ∨ n = 3 ∨ n = 4 ∨ n = 5) with q | q | q | q | q | q
        · have := l0 q; omega
        · have := l1 q; omega
        · have := l2 q; omega
        · have := l3 q; omega
        · have := l4 q; omega
        · have := l5 q; omega
      subst hn
      have l := l4 rfl
      have v0 := u0 (by decide)
      have v1 := u1 (by decide)
      have v2 := u2 (by decide)
      have v3 := u3 (by decide)
      refine ⟨rfl, fun j hj => ?_⟩
      rcases (by omega : j = 0 ∨ j = 1 ∨ j = 2 ∨ j = 3) with rfl | rfl | rfl | rfl
      · show τ (s + 0) = 112
        show τ s = 112
        omega
      · show τ (s + 1) = 97
        omega
      · show τ (s + 2) = 114
        omega
      · show τ (s + 3) = 116
        omega
  · show n = 5 ∧ _ ↔ n ≤ 5 ∧ sp27 τ s n = 12391871
    constructor
    · rintro ⟨rfl, y⟩
      have y0 : τ (s + 0) = 119 := y 0 (by decide)
      have y1 : τ (s + 1) = 104 := y 1 (by decide)
      have y2 : τ (s + 2) = 111 := y 2 (by decide)
      have y3 : τ (s + 3) = 108 := y 3 (by decide)
      have y4 : τ (s + 4) = 101 := y 4 (by decide)
      have y0' : τ s = 119 := y0
      have l := l5 rfl
      exact ⟨by decide, by omega⟩
    · rintro ⟨y, z⟩
      have hn : n = 5 := by
        rcases (by omega : n = 0 ∨ n = 1 ∨ n = 2 ∨ n = 3 ∨ n = 4 ∨ n = 5) with q | q | q | q | q | q
        · have := l0 q; omega
        · have := l1 q; omega
        · have := l2 q; omega
        · have := l3 q; omega
        · have := l4 q; omega
        · have := l5 q; omega
      subst hn
      have l := l5 rfl
      have v0 := u0 (by decide)
      have v1 := u1 (by decide)
      have v2 := u2 (by decide)
      have v3 := u3 (by decide)
      have v4 := u4 (by decide)
      refine ⟨rfl, fun j hj => ?_⟩
      rcases (by omega : j = 0 ∨ j = 1 ∨ j = 2 ∨ j = 3 ∨ j = 4) with rfl | rfl | rfl | rfl | rfl
      · show τ (s + 0) = 119
        show τ s = 119
        omega
      · show τ (s + 1) = 104
        omega
      · show τ (s + 2) = 111
        omega
      · show τ (s + 3) = 108
        omega
      · show τ (s + 4) = 101
        omega
  · show n = 3 ∧ _ ↔ n ≤ 5 ∧ sp27 τ s n = 1065
    constructor
    · rintro ⟨rfl, y⟩
      have y0 : τ (s + 0) = 97 := y 0 (by decide)
      have y1 : τ (s + 1) = 108 := y 1 (by decide)
      have y2 : τ (s + 2) = 108 := y 2 (by decide)
      have y0' : τ s = 97 := y0
      have l := l3 rfl
      exact ⟨by decide, by omega⟩
    · rintro ⟨y, z⟩
      have hn : n = 3 := by
        rcases (by omega : n = 0 ∨ n = 1 ∨ n = 2 ∨ n = 3 ∨ n = 4 ∨ n = 5) with q | q | q | q | q | q
        · have := l0 q; omega
        · have := l1 q; omega
        · have := l2 q; omega
        · have := l3 q; omega
        · have := l4 q; omega
        · have := l5 q; omega
      subst hn
      have l := l3 rfl
      have v0 := u0 (by decide)
      have v1 := u1 (by decide)
      have v2 := u2 (by decide)
      refine ⟨rfl, fun j hj => ?_⟩
      rcases (by omega : j = 0 ∨ j = 1 ∨ j = 2) with rfl | rfl | rfl
      · show τ (s + 0) = 97
        show τ s = 97
        omega
      · show τ (s + 1) = 108
        omega
      · show τ (s + 2) = 108
        omega
