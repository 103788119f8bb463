/-! clash: both -/
theorem zb : ∀ S, S < 32 → nb S 5 = 0 → S = 0 := by decide +kernel
section CLASH2
variable {told lst off : Nat → Prop} {lim : Nat → Int} {nW : Nat} {V kd M' : Nat → Int} {us : Nat → Nat → Int} {wi : Int32} {it le gof li va kn mo wo : Nat → Int32} {u : Nat → Nat → Int32} {nG : Nat} {gl : Nat → Nat} {ga wi' : Int32} {lt ls ca go wr kn' mo' wf ue : Nat → Int32}
/-- the answer of clash -/
def CA (P : Nat → Prop) (x1 r : Int32) : Prop :=
  ((∀ S, S < 32 → ¬ P S) ∧ r = -9) ∨ ∃ S, S < 32 ∧ P S ∧ (∀ S', S' < 32 → P S' → nb S 5 < nb S' 5 ∨ (nb S 5 = nb S' 5 ∧ S ≤ S')) ∧ r = if x1 = 0 then nI (nb S 5) else nI S
theorem CA_one {P : Nat → Prop} {x1 r r' : Int32} (a : CA P x1 r) (b : CA P x1 r') : r = r' := by
  rcases a with ⟨a1, a2⟩ | ⟨S, a1, a2, a3, a4⟩
  · rcases b with ⟨b1, b2⟩ | ⟨S', b1, b2, b3, b4⟩
    · rw [a2, b2]
    · exact absurd b2 (a1 S' b1)
  · rcases b with ⟨b1, b2⟩ | ⟨S', b1, b2, b3, b4⟩
    · exact absurd a2 (b1 S a1)
    · have e1 := a3 S' b1 b2
      have e2 := b3 S a1 a2
      have : S = S' := by omega
      rw [a4, b4, this]
theorem CS_0 (hM : ∀ w, w < 4 → 0 ≤ M' w ∧ M' w ≤ 12) : ¬ CS told lst off lim nW M' us wo nG gl 0 := by
  intro c
  refine c.2 (fun _ => 0) 1 ⟨by omega, fun w hw => ⟨Int.le_refl 0, ?_⟩, fun l hl hb => ?_⟩ (fun w hw => ⟨fun e => ?_, fun e => ?_⟩)
  · have : 0 ≤ aM nW wo M' w := by
      unfold aM
      split
      · exact (hM w hw).1
      · omega
    show (0 : Int) ≤ aM nW wo M' w * 1
    omega
  · obtain ⟨g, g1, g2, g3⟩ := hb
    simp at g2
  · exact absurd (show (0 : Int) = 1 from e) (by decide)
  · exact absurd (show (0 : Int) = 2 from e) (by decide)
theorem CS_big (nG5 : nG ≤ 5) {S : Nat} (h : S < 32) (c : CS told lst off lim nW M' us wo nG gl S) : S < 2 ^ nG := by
  refine Nat.lt_pow_two_of_testBit S (fun i hi => ?_)
  by_cases z : i < 5
  · cases y : S.testBit i
    · rfl
    · exact absurd (c.1 i z y).1 (by omega)
  · have p5 : 2 ^ 5 ≤ 2 ^ i := Nat.pow_le_pow_right (by omega) (by omega)
    exact Nat.testBit_lt_two_pow (by omega)
theorem eq_clashC (C : TC told lst off lim nW V kd M' us wi it le gof li va kn mo wo u) (E : EnumN told 5 nG gl) {bk lk bh lh oh : Int32} {bv bl lv ll ov ol : Int64} {bx lx ox : Nat → Int64} (k0 : KN told lst off lim nW V kd M' us wo bk bh bv bl bx) (k1 : KN told lst off lim nW V (fun _ => 0) M' us wo lk lh lv ll lx)
    {ops hei held0 ph : Int32} {lw pv pl : Int64} {T : Nat → Nat → Int64} {fi opn : Nat → Int32} {px : Nat → Int64} {x1 : Int32} (s1 : x1 = 0 ∨ x1 = 1) :
      wp_X6_clash bk lk ops hei lw held0 T fi opn ph pv pl px bh bv bl bx lh lv ll lx oh ov ol ox wi it le gof li va kn mo wo u x1 (fun r bk lk _ _ _ _ _ _ _ _ _ _ _ bh bv bl bx lh lv ll lx _ _ _ _ => CA (CS told lst off lim nW M' us wo nG gl) x1 r ∧ KN told lst off lim nW V kd M' us wo bk bh bv bl bx ∧ KN told lst off lim nW V (fun _ => 0) M' us wo lk lh lv ll lx) := by
  have F := TC_TF C
  obtain ⟨hM, hV⟩ := TF_M F
  unfold wp_X6_clash
  refine sp_isSide (fun _ => br_f (by decide) ?_) (fun n => absurd s1 n)
  refine sp_known1 F k1 (fun ops hei lw held T fi opn ph pv pl px fh fv fl fx h q g f1 f2 => br_f (by decide) ?_)
  have n1 := KN_1 f1 f2
  rcases f1 with ⟨n, e⟩ | ⟨n, e1, e2, e3, e4, e5⟩
  · refine br_t e ?_
    refine pk_loop (σ := S15) (fun m i s => wl_X6_clash_25 x1 bk 1 bh bv bl bx fh fv fl fx wi it le gof li va kn mo wo u _ _ _ m (nI i) s.1 s.2.1 s.2.2.1 s.2.2.2.1 s.2.2.2.2.1 s.2.2.2.2.2.1 s.2.2.2.2.2.2.1 s.2.2.2.2.2.2.2.1 s.2.2.2.2.2.2.2.2.1 s.2.2.2.2.2.2.2.2.2.1 s.2.2.2.2.2.2.2.2.2.2.1 s.2.2.2.2.2.2.2.2.2.2.2.1 s.2.2.2.2.2.2.2.2.2.2.2.2.1 s.2.2.2.2.2.2.2.2.2.2.2.2.2.1 s.2.2.2.2.2.2.2.2.2.2.2.2.2.2) (fun i s => 1 ≤ i ∧ ∀ S, 1 ≤ S → S < 32 → nb S 5 < i → 1 ≤ nb S 5 → ¬ CS told lst off lim nW M' us wo nG gl S) 6 1 (ops, hei, lw, held, T, fi, opn, ph, pv, pl, px, oh, ov, ol, ox) (by omega) ⟨by omega, fun S s1 s2 s3 s4 => by omega⟩ (fun m s hs => ?_) (fun m i s hi hs kk => ?_)
    · show ws_X6_clash_25 _ _ _ _ _ _ _ _ _ _ _ _ _ _ _ _ _ _ _ _ _ _ _ _ _ _ _ _ _ _ _ _ _ _ _ _ _ _ _ _ _
      unfold ws_X6_clash_25
      refine br_t (by decide) ⟨Or.inl ⟨fun S hS => ?_, rfl⟩, k0, n1⟩
      by_cases z : nb S 5 = 0
      · have : S = 0 := zb S hS z
        subst this
        exact CS_0 hM
      · have := nb5 S
        refine hs.2 S ?_ hS (by omega) (by omega)
        rcases Nat.eq_zero_or_pos S with y | y
        · subst y; exact absurd rfl z
        · exact y
    · show ws_X6_clash_25 _ _ _ _ _ _ _ _ _ _ _ _ _ _ _ _ _ _ _ _ _ _ _ _ _ _ _ _ _ _ _ _ _ _ _ _ _ _ _ _ _
      unfold ws_X6_clash_25
      obtain ⟨a1, a2, a3, a4, a5, a6, a7, a8, a9, a10, a11, a12, a13, a14, a15⟩ := s
      obtain ⟨i1, hs⟩ := hs
      refine br_f (fun y => absurd ((nI_ltI (a := 5) (by omega) (by omega)).mp y) (by omega)) ?_
      rw [nI_1 i]
      refine sp_leastClash F E (k := i) (by omega) (fun y b1 b2 b3 b4 b5 b6 b7 b8 b9 b10 b11 b12 b13 b14 b15 => br_t (by decide) (kk (b1, b2, b3, b4, b5, b6, b7, b8, b9, b10, b11, b12, b13, b14, b15) ⟨by omega, fun S s1 s2 s3 s4 => ?_⟩)) (fun S S1 S2 S3 S4 S5 b1 b2 b3 b4 b5 b6 b7 b8 b9 b10 b11 b12 b13 b14 b15 => br_f ?_ ?_)
      · by_cases e : nb S 5 = i
        · exact y S s1 s2 e
        · exact hs S s1 s2 (by omega) s4
      · rw [show (0 : Int32) = nI 0 from rfl, nI_leI (by omega) (by omega)]
        omega
      · have ca : ∀ r : Int32, (r = if x1 = 0 then nI (nb S 5) else nI S) → CA (CS told lst off lim nW M' us wo nG gl) x1 r := fun r hr => by
          refine Or.inr ⟨S, S2, S4, fun S' h' c' => ?_, hr⟩
          have p' : 1 ≤ S' := by
            rcases Nat.eq_zero_or_pos S' with y | y
            · subst y; exact absurd c' (CS_0 hM)
            · exact y
          have nz : nb S' 5 ≠ 0 := fun y => by have := zb S' h' y; omega
          rcases Nat.lt_trichotomy (nb S' 5) i with y | y | y
          · exact absurd c' (hs S' p' h' y (by omega))
          · rcases Nat.lt_or_ge S' S with x | x
            · exact absurd c' (S5 S' p' x y)
            · exact Or.inr ⟨by omega, x⟩
          · exact Or.inl (by omega)
        refine br_c (fun z => ⟨ca _ (by rw [if_pos z, S3]), k0, n1⟩) (fun z => ⟨ca _ (by rw [if_neg z]), k0, n1⟩)
  · refine br_f (by rw [e1]; decide) ⟨Or.inl ⟨fun S hS c => ?_, rfl⟩, k0, n1⟩
    have i1 := f2.1 n
    refine c.2 q g ⟨i1.1.1, i1.1.2.1, fun l hl hb => i1.1.2.2 l hl ?_⟩ i1.2.1
    obtain ⟨g', g1, g2, g3⟩ := hb
    subst g3
    exact ⟨(E.2.1 g' g1).2, (c.1 g' (by have := E.1; omega) g2).2⟩
end CLASH2
