/-! clash: bits, letters, the class's search -/
theorem bc32 : ∀ S, S < 32 → (let x0 := nI S
    let v1 := x0 - (((x0).toUInt32 >>> ((1 : Int32).toUInt32 &&& Int32.toUInt32 31)).toInt32 &&& 1431655765)
    let v2 := (v1 &&& 858993459) + (((v1).toUInt32 >>> ((2 : Int32).toUInt32 &&& Int32.toUInt32 31)).toInt32 &&& 858993459)
    let v3 := (v2 + ((v2).toUInt32 >>> ((4 : Int32).toUInt32 &&& Int32.toUInt32 31)).toInt32) &&& 252645135
    let v4 := v3 + ((v3).toUInt32 >>> ((8 : Int32).toUInt32 &&& Int32.toUInt32 31)).toInt32
    let v5 := v4 + ((v4).toUInt32 >>> ((16 : Int32).toUInt32 &&& Int32.toUInt32 31)).toInt32
    v5 &&& 63) = nI (nb S 5) := by decide +kernel
theorem sp_bitCount {S : Nat} (hS : S < 32) {post : Int32 → Prop} (h : post (nI (nb S 5))) : wp_J6_bitCount_0f7a4 (nI S) post := by
  unfold wp_J6_bitCount_0f7a4
  intro v1 h1 v2 h2 v3 h3 v4 h4 v5 h5
  have := bc32 S hS
  (try dsimp only at this)
  rw [h5, h4, h3, h2, h1, this]
  exact h
theorem nb5 (S : Nat) : nb S 5 ≤ 5 := by
  unfold nb nb nb nb nb nb
  repeat' split
  all_goals omega
theorem bit_0 {S e : Nat} (hS : S < 2 ^ 31) (he : e < 31) : ((nI S >>> (nI e &&& 31)) &&& (1 : Int32)) = 0 ↔ ¬ S.testBit e = true := by
  have h1 : nI S >>> (nI e &&& 31) = nI (S / 2 ^ e) := pk_shrN hS _ e (sl32 e (by omega))
  have h2 : S / 2 ^ e < 2 ^ 31 := Nat.lt_of_le_of_lt (Nat.div_le_self _ _) hS
  have h3 : nI (S / 2 ^ e) &&& (1 : Int32) = nI (S / 2 ^ e % 2 ^ 1) := pk_andN (by omega) 1 (by decide)
  have z : (0 : Int32) = nI 0 := rfl
  rw [h1, h3, z, nI_eq (by omega) (by omega), Nat.testBit_eq_decide_div_mod_eq]
  simp
theorem sp_bitsIn {S : Nat} (hS : S < 32) {post : Int32 → Prop} (h : post (nI (nb S 5))) : wp_X7_bitsIn (nI S) post := by
  unfold wp_X7_bitsIn
  refine pk_loop (σ := Int32) (fun n i s => wl_X7_bitsIn_4 (nI S) _ post n s (nI i)) (fun i s => s = nI (nb S i)) 5 0 0 (by omega) rfl (fun n s hs => ?_) (fun n i s hi hs kk => ?_)
  · show ws_X7_bitsIn_4 _ _ _ _ _ _
    unfold ws_X7_bitsIn_4
    subst hs
    exact br_t (by decide) h
  · show ws_X7_bitsIn_4 _ _ _ _ _ _
    unfold ws_X7_bitsIn_4
    subst hs
    refine br_f (nI_ge (b := 5) hi (by omega)) ?_
    rw [nI_1 i]
    by_cases z : S.testBit i = true
    · rw [(bit_iff (by omega) (by omega)).mpr z, nI_1]
      exact kk _ (by rw [nb_s1 z])
    · rw [(bit_0 (by omega) (by omega)).mpr z, Int32.add_zero]
      exact kk _ (by rw [nb_s0 z])
section CLASH
variable {told lst off : Nat → Prop} {lim : Nat → Int} {nW : Nat} {V kd M' : Nat → Int} {us : Nat → Nat → Int} {wi : Int32} {it le gof li va kn mo wo : Nat → Int32} {u : Nat → Nat → Int32} {nG : Nat} {gl : Nat → Nat} {ga wi' : Int32} {lt ls ca go wr kn' mo' wf ue : Nat → Int32}
/-- the letters of the gates of the set S -/
def SL (nG : Nat) (gl : Nat → Nat) (S l : Nat) : Prop := ∃ g, g < nG ∧ S.testBit g = true ∧ gl g = l
/-- S is a set of gates that hold -/
def SH (off : Nat → Prop) (nG : Nat) (gl : Nat → Nat) (S : Nat) : Prop := ∀ g, g < 5 → S.testBit g = true → g < nG ∧ ¬ off (gl g)
theorem sp_lettersOf (E : EnumN told 5 nG gl) (hit : ∀ l, l < 5 → (it l = 0 ∨ it l = 1) ∧ (it l = 1 ↔ told l)) (hgo : ∀ l, l < 5 → (gof l = 0 ∨ gof l = 1) ∧ (gof l = 1 ↔ off l)) {S : Nat} (hS : S < 32) {post : Int32 → Prop}
    (h1 : SH off nG gl S → ∀ m : Nat, m < 32 → (∀ l, l < 5 → (((nI m >>> (nI l &&& 31)) &&& (1 : Int32)) = 1 ↔ SL nG gl S l)) → post (nI m)) (h0 : ¬ SH off nG gl S → post (-1)) : wp_X6_lettersOf it gof (nI S) post := by
  have E5 := E.1
  unfold wp_X6_lettersOf
  refine pk_loop (σ := Int32) (fun n i s => wl_X6_lettersOf_4 (nI S) it gof _ _ post n s (nI i)) (fun i s => (∀ g, g < i → S.testBit g = true → g < nG ∧ ¬ off (gl g)) ∧ ∃ m : Nat, s = nI m ∧ m < 32 ∧ ∀ l, l < 5 → (m.testBit l = true ↔ ∃ g, g < i ∧ g < nG ∧ S.testBit g = true ∧ gl g = l)) 5 0 0 (by omega) ⟨fun g hg => by omega, 0, rfl, by omega, fun l hl => ⟨fun y => by simp at y, fun ⟨g, y, _⟩ => by omega⟩⟩ (fun n s hs => ?_) (fun n i s hi hs kk => ?_)
  · show ws_X6_lettersOf_4 _ _ _ _ _ _ _ _ _
    unfold ws_X6_lettersOf_4
    obtain ⟨a, m, b, c, d⟩ := hs
    subst b
    refine br_t (by decide) (h1 a m c (fun l hl => ?_))
    rw [bit_iff (by omega) (by omega), d l hl]
    exact ⟨fun ⟨g, g1, g2⟩ => ⟨g, g2⟩, fun ⟨g, g1, g2⟩ => ⟨g, by omega, g1, g2⟩⟩
  · show ws_X6_lettersOf_4 _ _ _ _ _ _ _ _ _
    unfold ws_X6_lettersOf_4
    obtain ⟨a, m, b, c, d⟩ := hs
    subst b
    refine br_f (nI_ge (b := 5) hi (by omega)) ?_
    rw [nI_1 i]
    refine br_c (fun z => ?_) (fun z => ?_)
    · rw [bit_0 (by omega) (by omega)] at z
      refine kk (nI m) ⟨fun g hg t => ?_, m, rfl, c, fun l hl => ?_⟩
      · by_cases e : g = i
        · subst e; exact absurd t z
        · exact a g (by omega) t
      · rw [d l hl]
        refine ⟨fun ⟨g, g1, g2⟩ => ⟨g, by omega, g2⟩, fun ⟨g, g1, g2, g3, g4⟩ => ?_⟩
        by_cases e : g = i
        · subst e; exact absurd g3 z
        · exact ⟨g, by omega, g2, g3, g4⟩
    · rw [bit_0 (by omega) (by omega)] at z
      have t : S.testBit i = true := Classical.byContradiction z
      refine sp_letterOf E hit (fun g hg e => br_f (nI_pos (by have := (E.2.1 g hg).1; omega)) ?_) (fun nn => br_t (by decide) (h0 (fun y => ?_)))
      · have eg : i = g := by
          rw [nI_eq (by omega) (by omega)] at e
          exact e
        subst eg
        have l5 := (E.2.1 i hg).1
        have cl : (nI (gl i)).toNatClampNeg = gl i := nI_clamp (by omega)
        rw [cl]
        refine ⟨vp_in_nI l5 (by omega), br_c (fun y => ?_) (fun y => h0 (fun y' => ?_))⟩
        · have o : ¬ off (gl i) := fun q => by
            have := (hgo (gl i) l5).2.mpr q
            rw [y] at this
            exact absurd this (by decide)
          rw [shl_1 (by omega), nI_or]
          refine kk (nI (m ||| 2 ^ gl i)) ⟨fun g hg' t' => ?_, m ||| 2 ^ gl i, rfl, Nat.or_lt_two_pow (n := 5) (by omega) (by
            have : 2 ^ gl i < 2 ^ 5 := Nat.pow_lt_pow_right (by omega) (by omega)
            omega), fun l hl => ?_⟩
          · by_cases e : g = i
            · subst e; exact ⟨hg, o⟩
            · exact a g (by omega) t'
          · rw [Nat.testBit_or, Nat.testBit_two_pow]
            by_cases e : gl i = l
            · simp only [e, decide_true, Bool.or_true, true_iff]
              exact ⟨i, by omega, hg, t, e⟩
            · simp only [e, decide_false, Bool.or_false]
              rw [d l hl]
              refine ⟨fun ⟨g, g1, g2⟩ => ⟨g, by omega, g2⟩, fun ⟨g, g1, g2, g3, g4⟩ => ?_⟩
              by_cases e' : g = i
              · subst e'; exact absurd g4 e
              · exact ⟨g, by omega, g2, g3, g4⟩
        · have := (y' i hi t).2
          refine this ((hgo (gl i) l5).2.mp ?_)
          rcases (hgo (gl i) l5).1 with q | q
          · exact absurd q y
          · exact q
      · exact nn i (y i hi t).1 rfl
/-- no parts at all keep the gates of S -/
def CS (told lst off : Nat → Prop) (lim : Nat → Int) (nW : Nat) (M' : Nat → Int) (us : Nat → Nat → Int) (wo : Nat → Int32) (nG : Nat) (gl : Nat → Nat) (S : Nat) : Prop :=
  SH off nG gl S ∧ NoB (aM nW wo M') (fun _ => 0) (GH us lim lst (SL nG gl S))
abbrev S15 := Int32 × Int32 × Int64 × Int32 × (Nat → Nat → Int64) × (Nat → Int32) × (Nat → Int32) × Int32 × Int64 × Int64 × (Nat → Int64) × Int32 × Int64 × Int64 × (Nat → Int64)
theorem sp_leastClash (C : TF told lst off lim nW V kd M' us wi it le gof li va kn mo wo u) (E : EnumN told 5 nG gl) {k : Nat} (hk : k ≤ 5)
    {ops hei held0 ph fh : Int32} {lw pv pl fv fl : Int64} {T : Nat → Nat → Int64} {fi opn : Nat → Int32} {px fx : Nat → Int64}
    {post : Int32 → Int32 → Int32 → Int64 → Int32 → (Nat → Nat → Int64) → (Nat → Int32) → (Nat → Int32) → Int32 → Int64 → Int64 → (Nat → Int64) → Int32 → Int64 → Int64 → (Nat → Int64) → Prop}
    (h0 : (∀ S, 1 ≤ S → S < 32 → nb S 5 = k → ¬ CS told lst off lim nW M' us wo nG gl S) → ∀ (ops hei : Int32) (lw : Int64) (held : Int32) (T : Nat → Nat → Int64) (fi opn : Nat → Int32) (ph : Int32) (pv pl : Int64) (px : Nat → Int64) (fh : Int32) (fv fl : Int64) (fx : Nat → Int64), post 0 ops hei lw held T fi opn ph pv pl px fh fv fl fx)
    (h1 : ∀ S, 1 ≤ S → S < 32 → nb S 5 = k → CS told lst off lim nW M' us wo nG gl S → (∀ S', 1 ≤ S' → S' < S → nb S' 5 = k → ¬ CS told lst off lim nW M' us wo nG gl S') → ∀ (ops hei : Int32) (lw : Int64) (held : Int32) (T : Nat → Nat → Int64) (fi opn : Nat → Int32) (ph : Int32) (pv pl : Int64) (px : Nat → Int64) (fh : Int32) (fv fl : Int64) (fx : Nat → Int64), post (nI S) ops hei lw held T fi opn ph pv pl px fh fv fl fx) :
    wp_X6_leastClash ops hei lw held0 T fi opn ph pv pl px fh fv fl fx wi it le gof li va kn mo wo u (nI k) post := by
  have c3 := C.2.2.1
  unfold wp_X6_leastClash
  refine pk_loop (σ := S15) (fun m i s => wl_X6_leastClash_2 (nI k) wi it le gof li va kn mo wo u _ _ _ m (nI i) s.1 s.2.1 s.2.2.1 s.2.2.2.1 s.2.2.2.2.1 s.2.2.2.2.2.1 s.2.2.2.2.2.2.1 s.2.2.2.2.2.2.2.1 s.2.2.2.2.2.2.2.2.1 s.2.2.2.2.2.2.2.2.2.1 s.2.2.2.2.2.2.2.2.2.2.1 s.2.2.2.2.2.2.2.2.2.2.2.1 s.2.2.2.2.2.2.2.2.2.2.2.2.1 s.2.2.2.2.2.2.2.2.2.2.2.2.2.1 s.2.2.2.2.2.2.2.2.2.2.2.2.2.2) (fun i s => 1 ≤ i ∧ ∀ S, 1 ≤ S → S < i → nb S 5 = k → ¬ CS told lst off lim nW M' us wo nG gl S) 32 1 (ops, hei, lw, held0, T, fi, opn, ph, pv, pl, px, fh, fv, fl, fx) (by omega) ⟨by omega, fun S s1 s2 => by omega⟩ (fun m s hs => ?_) (fun m i s hi hs kk => ?_)
  · show ws_X6_leastClash_2 _ _ _ _ _ _ _ _ _ _ _ _ _ _ _ _ _ _ _ _ _ _ _ _ _ _ _ _ _ _ _
    unfold ws_X6_leastClash_2
    exact br_t (by decide) (h0 hs.2 _ _ _ _ _ _ _ _ _ _ _ _ _ _ _)
  · show ws_X6_leastClash_2 _ _ _ _ _ _ _ _ _ _ _ _ _ _ _ _ _ _ _ _ _ _ _ _ _ _ _ _ _ _ _
    unfold ws_X6_leastClash_2
    obtain ⟨a1, a2, a3, a4, a5, a6, a7, a8, a9, a10, a11, a12, a13, a14, a15⟩ := s
    obtain ⟨i1, hs⟩ := hs
    refine br_f (nI_ge (b := 32) hi (by omega)) ?_
    rw [nI_1 i]
    have nbi := nb5 i
    have nxt : (nb i 5 = k → ¬ CS told lst off lim nW M' us wo nG gl i) → 1 ≤ i + 1 ∧ ∀ S, 1 ≤ S → S < i + 1 → nb S 5 = k → ¬ CS told lst off lim nW M' us wo nG gl S := fun y => ⟨by omega, fun S s1 s2 s3 => by
      by_cases e : S = i
      · subst e; exact y s3
      · exact hs S s1 (by omega) s3⟩
    refine sp_bitCount hi (br_c (fun z => ?_) (fun z => ?_))
    · rw [nI_eq (by omega) (by omega)] at z
      refine sp_lettersOf E (fun l hl => ⟨(c3 l hl).1, (c3 l hl).2.1⟩) (fun l hl => ⟨(c3 l hl).2.2.2.2.1, (c3 l hl).2.2.2.2.2.1⟩) hi (fun sh m1 m2 m3 => br_t (nI_pos' (by omega)) ?_) (fun n => br_f (by decide) ?_)
      · refine sp_findC C m3 (Or.inr rfl) (fun b1 b2 b3 b5 b6 b7 b8 b9 b10 b11 fh2 fv2 fl2 fx2 h q g f1 f2 f3 => ?_)
        rw [if_neg (by decide)] at f2 f3
        rcases f1 with ⟨n, e⟩ | ⟨n, e1, e2, e3, e4, e5⟩
        · exact br_t e (h1 i i1 hi z ⟨sh, f3 n⟩ hs _ _ _ _ _ _ _ _ _ _ _ _ _ _ _)
        · refine br_f (by rw [e1]; decide) (kk (b1, b2, b3, _, b5, b6, b7, b8, b9, b10, b11, fh2, fv2, fl2, fx2) (nxt (fun _ cs => ?_)))
          exact cs.2 q g (f2 n).1 (f2 n).2.1
      · exact kk (a1, a2, a3, a4, a5, a6, a7, a8, a9, a10, a11, a12, a13, a14, a15) (nxt (fun _ cs => n cs.1))
    · rw [nI_eq (by omega) (by omega)] at z
      exact kk (a1, a2, a3, a4, a5, a6, a7, a8, a9, a10, a11, a12, a13, a14, a15) (nxt (fun y => absurd y z))
end CLASH
