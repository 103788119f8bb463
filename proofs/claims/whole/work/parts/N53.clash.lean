/-! clash: the reference -/
section CLASH3
variable {told lst off : Nat → Prop} {lim : Nat → Int} {nW : Nat} {V kd M' : Nat → Int} {us : Nat → Nat → Int} {wi : Int32} {it le gof li va kn mo wo : Nat → Int32} {u : Nat → Nat → Int32} {nG : Nat} {gl : Nat → Nat} {ga wi' : Int32} {lt ls ca go wr kn' mo' wf ue : Nat → Int32}
theorem TF_hb (C : TF told lst off lim nW V kd M' us wi it le gof li va kn mo wo u) (off' : Nat → Prop) : ∃ gof', TF told lst off' lim nW V kd M' us wi it le gof' li va kn mo wo u := by
  refine ⟨fun l => @ite _ (off' l) (Classical.propDecidable _) 1 0, C.1, C.2.1, fun l hl => ?_, C.2.2.2⟩
  obtain ⟨a1, a2, a3, a4, a5, a6, a7⟩ := C.2.2.1 l hl
  refine ⟨a1, a2, a3, a4, ?_, ?_, a7⟩
  · (try dsimp only)
    by_cases z : off' l
    · rw [if_pos z]; exact Or.inr rfl
    · rw [if_neg z]; exact Or.inl rfl
  · (try dsimp only)
    by_cases z : off' l
    · rw [if_pos z]; exact ⟨fun _ => z, fun _ => rfl⟩
    · rw [if_neg z]; exact ⟨fun y => absurd y (by decide), fun y => absurd y z⟩
theorem TM_hb (D : TM told lst off lim nW V kd M' us nG gl wo ga wi' lt ls ca go wr kn' mo' wf ue) {S : Nat} {go' : Nat → Int32} (h : ∀ g, g < nG → go' g = if S.testBit g = true then 0 else 1) : TM told lst (fun l => ¬ SL nG gl S l) lim nW V kd M' us nG gl wo ga wi' lt ls ca go' wr kn' mo' wf ue := by
  obtain ⟨E, d1, d2, d3, d4⟩ := D
  refine ⟨E, d1, d2, fun g hg => ?_, d4⟩
  obtain ⟨a1, a2, a3, a4, a5, a6, a7⟩ := d3 g hg
  refine ⟨a1, a2, a3, a4, ?_, ?_, a7⟩
  · rw [h g hg]
    split
    · exact Or.inl rfl
    · exact Or.inr rfl
  · rw [h g hg]
    by_cases z : S.testBit g = true
    · rw [if_pos z]
      exact ⟨fun y => absurd y (by decide), fun y => absurd ⟨g, hg, z, rfl⟩ y⟩
    · rw [if_neg z]
      refine ⟨fun _ => fun ⟨g', x1, x2, x3⟩ => ?_, fun _ => rfl⟩
      have : g' = g := by
        rcases Nat.lt_trichotomy g' g with y | y | y
        · have := E.2.2.1 g' g y hg; omega
        · exact y
        · have := E.2.2.1 g g' y x1; omega
      subst this
      exact z x2
theorem RB_hb (E : EnumN told 5 nG gl) {S : Nat} {k : Nat → Int} {h : Prop} {q : Nat → Int} {g : Int} (a : RB told lst (fun l => ¬ SL nG gl S l) lim nW V k M' us wo h q g) : (h → IsB V (aM nW wo M') k (GH us lim lst (SL nG gl S)) q g) ∧ (¬ h → NoB (aM nW wo M') k (GH us lim lst (SL nG gl S))) := by
  have e : (fun l => told l ∧ ¬ ¬ SL nG gl S l) = SL nG gl S := by
    funext l
    refine propext ⟨fun y => Classical.byContradiction y.2, fun y => ⟨?_, fun z => z y⟩⟩
    obtain ⟨g, g1, g2, g3⟩ := y
    subst g3
    exact (E.2.1 g g1).2
  unfold RB at a
  rw [e] at a
  exact a
/-- the reference turns the gates of S on and the others off -/
theorem sp_c82 (n5 : nG ≤ 5) {S : Nat} (hS : S < 32) {was goin : Nat → Int32} (hwas : ∀ g, g < nG → was g = 0 ∨ was g = 1) {x1 x2 f : Int32} (hf : f = 0 ∨ f = 1) {by_ bb bw : Int64} {ib pt : Int32} {x bx row right m given : Nat → Int64} {part : Nat → Int32}
    {kx : Int32 → (Nat → Int32) → Prop} {post : Int32 → Int64 → Int64 → Int64 → Int32 → Int32 → (Nat → Int32) → (Nat → Int64) → (Nat → Int64) → (Nat → Int32) → (Nat → Int64) → (Nat → Int64) → (Nat → Int64) → (Nat → Int64) → (Nat → Int32) → Prop}
    (h : ∀ (f' : Int32) (go' : Nat → Int32), (∀ g, g < nG → go' g = if S.testBit g = true then 0 else 1) → (∀ g, nG ≤ g → go' g = goin g) → (f' = 0 ∨ f' = 1) → (f' = 1 ↔ f = 1 ∧ ∀ g, g < nG → S.testBit g = true → was g = 0) → kx f' go') :
    ∃ n, wl_X7_clash_82 x1 x2 (nI S) (nI nG) wi' by_ bb bw ib pt ls ca wr kn' mo' wf ue x bx part row right m given was kx post n f 0 goin := by
  refine pk_loop (σ := Int32 × (Nat → Int32)) (fun n i s => wl_X7_clash_82 x1 x2 (nI S) (nI nG) wi' by_ bb bw ib pt ls ca wr kn' mo' wf ue x bx part row right m given was kx post n s.1 (nI i) s.2) (fun i s => (∀ g, g < i → s.2 g = if S.testBit g = true then 0 else 1) ∧ (∀ g, i ≤ g → s.2 g = goin g) ∧ (s.1 = 0 ∨ s.1 = 1) ∧ (s.1 = 1 ↔ f = 1 ∧ ∀ g, g < i → S.testBit g = true → was g = 0)) nG 0 (f, goin) (by omega) ⟨fun g hg => by omega, fun g _ => rfl, hf, ⟨fun y => ⟨y, fun g hg => by omega⟩, fun y => y.1⟩⟩ (fun n s hs => ?_) (fun n i s hi hs kk => ?_)
  · show ws_X7_clash_82 _ _ _ _ _ _ _ _ _ _ _ _ _ _ _ _ _ _ _ _ _ _ _ _ _ _ _ _ _ _ _
    unfold ws_X7_clash_82
    exact br_t (nI_le (Nat.le_refl _) (by omega)) (h _ _ hs.1 hs.2.1 hs.2.2.1 hs.2.2.2)
  · show ws_X7_clash_82 _ _ _ _ _ _ _ _ _ _ _ _ _ _ _ _ _ _ _ _ _ _ _ _ _ _ _ _ _ _ _
    unfold ws_X7_clash_82
    obtain ⟨f0, go0⟩ := s
    obtain ⟨q1, q2, q3, q4⟩ := hs
    (try dsimp only at q1 q2 q3 q4)
    have ci : (nI i).toNatClampNeg = i := nI_clamp (by omega)
    refine br_f (nI_ge hi (by omega)) ?_
    have nxt : ∀ f1 : Int32, (f1 = 0 ∨ f1 = 1) → (f1 = 1 ↔ f = 1 ∧ ∀ g, g < i + 1 → S.testBit g = true → was g = 0) → wj_X7_clash_120 x1 x2 (nI S) (nI i) f1 (nI nG) wi' by_ bb bw ib pt ls ca go0 wr kn' mo' wf ue x bx part row right m given was (wl_X7_clash_82 x1 x2 (nI S) (nI nG) wi' by_ bb bw ib pt ls ca wr kn' mo' wf ue x bx part row right m given was kx post n) kx post := fun f1 y1 y2 => by
      unfold wj_X7_clash_120
      have fin : ∀ v : Int32, (v = if S.testBit i = true then 0 else 1) → (∀ g, g < i + 1 → upd go0 i v g = if S.testBit g = true then 0 else 1) ∧ ∀ g, i + 1 ≤ g → upd go0 i v g = goin g := fun v hv => by
        refine ⟨fun g hg => ?_, fun g hg => ?_⟩
        · by_cases e : g = i
          · subst e; rw [pk_us]; exact hv
          · rw [pk_un e]; exact q1 g (by omega)
        · rw [pk_un (by omega)]; exact q2 g (by omega)
      refine br_c (fun z => ?_) (fun z => ?_)
      · rw [bit_0 (by omega) (by omega)] at z
        unfold wj_X7_clash_142
        rw [ci, nI_1 i, nar_1]
        have := fin 1 (by rw [if_neg z])
        exact ⟨vp_in_nI (by omega) (by omega), kk (f1, upd go0 i 1) ⟨this.1, this.2, y1, y2⟩⟩
      · rw [bit_0 (by omega) (by omega)] at z
        have t : S.testBit i = true := Classical.byContradiction z
        unfold wj_X7_clash_142
        rw [ci, nI_1 i, nar_0]
        have := fin 0 (by rw [if_pos t])
        exact ⟨vp_in_nI (by omega) (by omega), kk (f1, upd go0 i 0) ⟨this.1, this.2, y1, y2⟩⟩
    have ext : f0 = 1 → (S.testBit i = true → was i = 0) → f = 1 ∧ ∀ g, g < i + 1 → S.testBit g = true → was g = 0 := fun y1 y2 => by
      obtain ⟨y3, y4⟩ := q4.mp y1
      refine ⟨y3, fun g hg => ?_⟩
      by_cases e : g = i
      · subst e; exact y2
      · exact y4 g (by omega)
    refine br_c (fun z => nxt 0 (Or.inl rfl) ⟨fun y => absurd y (by decide), fun y => ?_⟩) (fun z => ?_)
    · have := q4.mpr ⟨y.1, fun g hg => y.2 g (by omega)⟩
      rw [show f0 = 0 from z] at this
      exact this
    · have f1 : f0 = 1 := by rcases q3 with y | y; exact absurd y z; exact y
      refine br_c (fun y => ?_) (fun y => ⟨vp_in_nI (by omega) (by omega), ?_⟩)
      · rw [bit_0 (by omega) (by omega)] at y
        exact nxt 1 (Or.inr rfl) ⟨fun _ => ext f1 (fun t => absurd t y), fun _ => rfl⟩
      · rw [bit_0 (by omega) (by omega)] at y
        have t : S.testBit i = true := Classical.byContradiction y
        rw [ci]
        refine br_c (fun w => nxt 1 (Or.inr rfl) ⟨fun _ => ext f1 (fun _ => w), fun _ => rfl⟩) (fun w => nxt 0 (Or.inl rfl) ⟨fun y => absurd y (by decide), fun y => ?_⟩)
        exact absurd (y.2 i (by omega) t) w
theorem eq_clashM (C : TF told lst off lim nW V kd M' us wi it le gof li va kn mo wo u) (D : TM told lst off lim nW V kd M' us nG gl wo ga wi' lt ls ca go wr kn' mo' wf ue)
    {by_ bb bw : Int64} {ib pt : Int32} {x bx' row right m given : Nat → Int64} {part was : Nat → Int32} {x1 : Int32} (s1 : x1 = 0 ∨ x1 = 1) :
      wp_X7_clash ga wi' by_ bb bw ib pt ls ca go wr kn' mo' wf ue x bx' part row right m given was x1 (fun r _ _ _ _ _ go' _ _ _ _ _ _ _ _ => CA (CS told lst off lim nW M' us wo nG gl) x1 r ∧ go' = go) := by
  obtain ⟨hM, hV⟩ := TF_M C
  have E := D.1
  have E5 := E.1
  have ega := D.2.1
  have d3 := D.2.2.2.1
  have g01 : ∀ g, g < nG → go g = 0 ∨ go g = 1 := fun g hg => (d3 g hg).2.2.2.2.1
  have goff : ∀ g, g < nG → (go g = 0 ↔ ¬ off (gl g)) := fun g hg => by
    have a6 := (d3 g hg).2.2.2.2.2.1
    rcases g01 g hg with z | z
    · rw [z]
      exact ⟨fun _ y => absurd (a6.mpr y) (by rw [z]; decide), fun _ => rfl⟩
    · rw [z]
      exact ⟨fun y => absurd y (by decide), fun y => absurd (a6.mp z) y⟩
  have nar : ∀ g, g < nG → vp_nar .boolean (go g) = go g := fun g hg => by
    rcases g01 g hg with z | z <;> rw [z] <;> decide
  have p32 : 2 ^ nG ≤ 32 := by
    have : 2 ^ nG ≤ 2 ^ 5 := Nat.pow_le_pow_right (by omega) E5
    omega
  unfold wp_X7_clash
  refine sp_sideM (fun _ => br_f (by decide) ?_) (fun n => absurd s1 n)
  subst ega
  refine pk_loop (σ := Nat → Int32) (fun n i s => wl_X7_clash_17 x1 (-9) (nI nG) wi' by_ bb bw ib pt ls ca go wr kn' mo' wf ue x bx' part row right m given _ _ n (nI i) s) (fun i s => ∀ g, g < i → s g = go g) nG 0 was (by omega) (fun g hg => by omega) (fun n s hs => ?_) (fun n i s hi hs kk => ?_)
  · show ws_X7_clash_17 _ _ _ _ _ _ _ _ _ _ _ _ _ _ _ _ _ _ _ _ _ _ _ _ _ _ _ _ _
    unfold ws_X7_clash_17
    refine br_t (nI_le (Nat.le_refl _) (by omega)) ?_
    have hwas : ∀ g, g < nG → s g = 0 ∨ s g = 1 := fun g hg => by rw [hs g hg]; exact g01 g hg
    refine pk_loop (σ := SM14) (fun m i t => wl_X7_clash_45 x1 (nI nG) wi' ls ca wr kn' mo' wf ue s _ _ m t.1 (nI i) t.2.1 t.2.2.1 t.2.2.2.1 t.2.2.2.2.1 t.2.2.2.2.2.1 t.2.2.2.2.2.2.1 t.2.2.2.2.2.2.2.1 t.2.2.2.2.2.2.2.2.1 t.2.2.2.2.2.2.2.2.2.1 t.2.2.2.2.2.2.2.2.2.2.1 t.2.2.2.2.2.2.2.2.2.2.2.1 t.2.2.2.2.2.2.2.2.2.2.2.2.1 t.2.2.2.2.2.2.2.2.2.2.2.2.2) (fun i t => (∀ g, nG ≤ g → t.2.2.2.2.2.2.1 g = go g) ∧ ((t.1 = -9 ∧ ∀ S, S < i → ¬ CS told lst off lim nW M' us wo nG gl S) ∨ ∃ S, S < i ∧ t.1 = nI S ∧ CS told lst off lim nW M' us wo nG gl S ∧ ∀ S', S' < i → CS told lst off lim nW M' us wo nG gl S' → nb S 5 < nb S' 5 ∨ (nb S 5 = nb S' 5 ∧ S ≤ S'))) (2 ^ nG) 0 (-9, by_, bb, bw, ib, pt, go, x, bx', part, row, right, m, given) (Nat.zero_le _) ⟨fun g _ => rfl, Or.inl ⟨rfl, fun S hS => by omega⟩⟩ (fun m t ht => ?_) (fun m i t hi ht kk => ?_)
    · show ws_X7_clash_45 _ _ _ _ _ _ _ _ _ _ _ _ _ _ _ _ _ _ _ _ _ _ _ _ _ _ _ _ _
      unfold ws_X7_clash_45
      rw [shl_1 (by omega)]
      refine br_t (nI_le (Nat.le_refl _) (by omega)) ?_
      obtain ⟨r1, r2⟩ := ht
      refine pk_loop (σ := Nat → Int32) (fun n i v => wl_X7_clash_176 x1 t.1 (nI nG) wi' _ _ _ _ _ ls ca wr kn' mo' wf ue _ _ _ _ _ _ _ s _ _ n (nI i) v) (fun i v => (∀ g, g < i → v g = go g) ∧ ∀ g, nG ≤ g → v g = go g) nG 0 t.2.2.2.2.2.2.1 (by omega) ⟨fun g hg => by omega, r1⟩ (fun n v hv => ?_) (fun n i v hi hv kk => ?_)
      · show ws_X7_clash_176 _ _ _ _ _ _ _ _ _ _ _ _ _ _ _ _ _ _ _ _ _ _ _ _ _ _ _ _ _
        unfold ws_X7_clash_176
        refine br_t (nI_le (Nat.le_refl _) (by omega)) ?_
        have ev : v = go := by
          funext g
          rcases Nat.lt_or_ge g nG with z | z
          · exact hv.1 g z
          · exact hv.2 g z
        rcases r2 with ⟨r3, r4⟩ | ⟨S, r3, r4, r5, r6⟩
        · exact br_t r3 ⟨Or.inl ⟨fun S hS c => r4 S (CS_big E5 hS c) c, r3⟩, ev⟩
        · have ne : ¬ t.1 = -9 := by
            rw [r4]
            intro z
            have := congrArg Int32.toInt z
            rw [nI_toInt (by omega), show (-9 : Int32).toInt = -9 from by decide] at this
            omega
          have ca' : ∀ r : Int32, (r = if x1 = 0 then nI (nb S 5) else nI S) → CA (CS told lst off lim nW M' us wo nG gl) x1 r := fun r hr => Or.inr ⟨S, by omega, r5, fun S' h' c' => r6 S' (CS_big E5 h' c') c', hr⟩
          refine br_f ne (br_c (fun z => ⟨ca' _ (by rw [z, if_neg (by decide), r4]), ev⟩) (fun z => ?_))
          rw [r4]
          refine sp_bitsIn (by omega) ⟨ca' _ ?_, ev⟩
          rcases s1 with y | y
          · rw [if_pos y]
          · exact absurd y z
      · show ws_X7_clash_176 _ _ _ _ _ _ _ _ _ _ _ _ _ _ _ _ _ _ _ _ _ _ _ _ _ _ _ _ _
        unfold ws_X7_clash_176
        have ci : (nI i).toNatClampNeg = i := nI_clamp (by omega)
        refine br_f (nI_ge hi (by omega)) ⟨vp_in_nI (by omega) (by omega), ?_⟩
        rw [ci, nI_1 i, hs i hi, nar i hi]
        refine kk _ ⟨fun g hg => ?_, fun g hg => ?_⟩
        · by_cases e : g = i
          · subst e; rw [pk_us]
          · rw [pk_un e]; exact hv.1 g (by omega)
        · rw [pk_un (by omega)]; exact hv.2 g hg
    · show ws_X7_clash_45 _ _ _ _ _ _ _ _ _ _ _ _ _ _ _ _ _ _ _ _ _ _ _ _ _ _ _ _ _
      unfold ws_X7_clash_45
      obtain ⟨x2, a1, a2, a3, a4, a5, go0, a7, a8, a9, a10, a11, a12, a13⟩ := t
      obtain ⟨w1, w2⟩ := ht
      (try dsimp only at w1 w2)
      rw [shl_1 (by omega)]
      refine br_f (nI_ge hi (by omega)) ?_
      (try dsimp only)
      have shi : SH off nG gl i ↔ ∀ g, g < nG → i.testBit g = true → s g = 0 := by
        constructor
        · intro y g hg t
          rw [hs g hg]
          exact (goff g hg).mpr (y g (by omega) t).2
        · intro y g hg t
          have gn : g < nG := by
            rcases Nat.lt_or_ge g nG with z | z
            · exact z
            · have : 2 ^ nG ≤ 2 ^ g := Nat.pow_le_pow_right (by omega) z
              rw [Nat.testBit_lt_two_pow (by omega)] at t
              exact absurd t (by decide)
          have := y g gn t
          rw [hs g gn] at this
          exact ⟨gn, (goff g gn).mp this⟩
      have keep1 : ¬ CS told lst off lim nW M' us wo nG gl i → ((x2 = -9 ∧ ∀ S, S < i + 1 → ¬ CS told lst off lim nW M' us wo nG gl S) ∨ ∃ S, S < i + 1 ∧ x2 = nI S ∧ CS told lst off lim nW M' us wo nG gl S ∧ ∀ S', S' < i + 1 → CS told lst off lim nW M' us wo nG gl S' → nb S 5 < nb S' 5 ∨ (nb S 5 = nb S' 5 ∧ S ≤ S')) := fun y => by
        rcases w2 with ⟨w3, w4⟩ | ⟨S, w3, w4, w5, w6⟩
        · refine Or.inl ⟨w3, fun S hS => ?_⟩
          by_cases e : S = i
          · subst e; exact y
          · exact w4 S (by omega)
        · refine Or.inr ⟨S, by omega, w4, w5, fun S' h' c' => ?_⟩
          by_cases e : S' = i
          · subst e; exact absurd c' y
          · exact w6 S' (by omega) c'
      have take : CS told lst off lim nW M' us wo nG gl i → (∀ S, x2 = nI S → S < i → CS told lst off lim nW M' us wo nG gl S → nb i 5 < nb S 5) → ((nI i = -9 ∧ ∀ S, S < i + 1 → ¬ CS told lst off lim nW M' us wo nG gl S) ∨ ∃ S, S < i + 1 ∧ nI i = nI S ∧ CS told lst off lim nW M' us wo nG gl S ∧ ∀ S', S' < i + 1 → CS told lst off lim nW M' us wo nG gl S' → nb S 5 < nb S' 5 ∨ (nb S 5 = nb S' 5 ∧ S ≤ S')) := fun c y => by
        refine Or.inr ⟨i, by omega, rfl, c, fun S' h' c' => ?_⟩
        by_cases e : S' = i
        · subst e; exact Or.inr ⟨rfl, Nat.le_refl _⟩
        · rcases w2 with ⟨w3, w4⟩ | ⟨S, w3, w4, w5, w6⟩
          · exact absurd c' (w4 S' (by omega))
          · have := y S w4 w3 w5
            have := w6 S' (by omega) c'
            exact Or.inl (by omega)
      by_cases e9 : x2 = -9
      · refine br_t e9 (sp_c82 E5 (by omega) hwas (Or.inr rfl) (fun f' go' r1 r2 r3 r4 => br_c (fun z => ?_) (fun z => ?_)))
        · rw [nI_1 i]
          refine kk (x2, a1, a2, a3, a4, a5, go', a7, a8, a9, a10, a11, a12, a13) ⟨fun g hg => by rw [← w1 g hg]; exact r2 g hg, keep1 (fun c => ?_)⟩
          have := r4.mpr ⟨rfl, shi.mp c.1⟩
          rw [z] at this
          exact absurd this (by decide)
        · have f1 : f' = 1 := by rcases r3 with y | y; exact absurd y z; exact y
          have sh := shi.mpr (r4.mp f1).2
          obtain ⟨gof', C'⟩ := TF_hb C (fun l => ¬ SL nG gl i l)
          refine sp_findMM C' (TM_hb D r1) (Or.inr rfl) (fun by_ bb2 bw2 ib pt x bx' row right m given part h2 q2 g2 f3 f4 => ?_)
          rw [if_neg (by decide)] at f4
          have f5 := RB_hb E f4
          rcases f3 with ⟨n2, e⟩ | ⟨n2, d1, _⟩
          · refine br_t e ?_
            rw [nI_1 i]
            exact kk (nI i, by_, bb2, bw2, ib, pt, go', x, bx', part, row, right, m, given) ⟨fun g hg => by rw [← w1 g hg]; exact r2 g hg, take ⟨sh, f5.2 n2⟩ (fun S0 h0 s0 _ => absurd (h0.symm.trans e9) (fun z => by
            have := congrArg Int32.toInt z
            rw [nI_toInt (by omega), show (-9 : Int32).toInt = -9 from by decide] at this
            omega))⟩
          · refine br_f (by rw [d1]; decide) ?_
            rw [nI_1 i]
            exact kk (x2, by_, bb2, bw2, ib, pt, go', x, bx', part, row, right, m, given) ⟨fun g hg => by rw [← w1 g hg]; exact r2 g hg, keep1 (fun c => c.2 q2 g2 (f5.1 n2).1 (f5.1 n2).2.1)⟩
      · rcases w2 with ⟨w3, w4⟩ | ⟨S0, w3, w4, w5, w6⟩
        · exact absurd w3 e9
        · refine br_f e9 (sp_bitsIn (by omega) ?_)
          rw [w4]
          refine sp_bitsIn (by omega) ?_
          rw [← w4]
          have n1 := nb5 i
          have n2 := nb5 S0
          refine br_c (fun y => ?_) (fun y => ?_)
          · rw [nI_leI (by omega) (by omega)] at y
            refine sp_c82 E5 (by omega) hwas (Or.inl rfl) (fun f' go' r1 r2 r3 r4 => br_c (fun z => ?_) (fun z => ?_))
            · rw [nI_1 i]
              refine kk (x2, a1, a2, a3, a4, a5, go', a7, a8, a9, a10, a11, a12, a13) ⟨fun g hg => by rw [← w1 g hg]; exact r2 g hg, Or.inr ⟨S0, by omega, w4, w5, fun S' h' c' => ?_⟩⟩
              by_cases e : S' = i
              · subst e; omega
              · exact w6 S' (by omega) c'
            · have f1 : f' = 1 := by rcases r3 with y | y; exact absurd y z; exact y
              exact absurd (r4.mp f1).1 (by decide)
          · rw [nI_leI (by omega) (by omega)] at y
            refine sp_c82 E5 (by omega) hwas (Or.inr rfl) (fun f' go' r1 r2 r3 r4 => br_c (fun z => ?_) (fun z => ?_))
            · rw [nI_1 i]
              refine kk (x2, a1, a2, a3, a4, a5, go', a7, a8, a9, a10, a11, a12, a13) ⟨fun g hg => by rw [← w1 g hg]; exact r2 g hg, keep1 (fun c => ?_)⟩
              have := r4.mpr ⟨rfl, shi.mp c.1⟩
              rw [z] at this
              exact absurd this (by decide)
            · have f1 : f' = 1 := by rcases r3 with y | y; exact absurd y z; exact y
              have sh := shi.mpr (r4.mp f1).2
              obtain ⟨gof', C'⟩ := TF_hb C (fun l => ¬ SL nG gl i l)
              refine sp_findMM C' (TM_hb D r1) (Or.inr rfl) (fun by_ bb2 bw2 ib pt x bx' row right m given part h2 q2 g2 f3 f4 => ?_)
              rw [if_neg (by decide)] at f4
              have f5 := RB_hb E f4
              rcases f3 with ⟨n2, e⟩ | ⟨n2, d1, _⟩
              · refine br_t e ?_
                rw [nI_1 i]
                exact kk (nI i, by_, bb2, bw2, ib, pt, go', x, bx', part, row, right, m, given) ⟨fun g hg => by rw [← w1 g hg]; exact r2 g hg, take ⟨sh, f5.2 n2⟩ (fun S h0 h1 _ => by
                    rw [w4, nI_eq (by omega) (by omega)] at h0
                    subst h0
                    omega)⟩
              · refine br_f (by rw [d1]; decide) ?_
                rw [nI_1 i]
                exact kk (x2, by_, bb2, bw2, ib, pt, go', x, bx', part, row, right, m, given) ⟨fun g hg => by rw [← w1 g hg]; exact r2 g hg, keep1 (fun c => c.2 q2 g2 (f5.1 n2).1 (f5.1 n2).2.1)⟩
  · show ws_X7_clash_17 _ _ _ _ _ _ _ _ _ _ _ _ _ _ _ _ _ _ _ _ _ _ _ _ _ _ _ _ _
    unfold ws_X7_clash_17
    have ci : (nI i).toNatClampNeg = i := nI_clamp (by omega)
    refine br_f (nI_ge hi (by omega)) ⟨vp_in_nI (by omega) (by omega), ?_⟩
    rw [ci, nI_1 i, nar i hi]
    refine kk _ (fun g hg => ?_)
    by_cases e : g = i
    · subst e; rw [pk_us]
    · rw [pk_un e]; exact hs g (by omega)
end CLASH3
