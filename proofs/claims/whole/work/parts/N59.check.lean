/-! check: both -/
section CHECK3
variable {told lst off : Nat → Prop} {lim : Nat → Int} {nW : Nat} {V kd M' : Nat → Int} {us : Nat → Nat → Int} {wi : Int32} {it le gof li va kn mo wo : Nat → Int32} {u : Nat → Nat → Int32} {nG : Nat} {gl : Nat → Nat} {ga wi' : Int32} {lt ls ca go wr kn' mo' wf ue : Nat → Int32}
variable {X P : Nat → Int} {tx tp : Nat → Int64} {tu td pu pd : Nat → Int32}
noncomputable def olim (off : Nat → Prop) (lim P : Nat → Int) (l : Nat) : Int := @ite _ (off l) (Classical.propDecidable _) 0 (lim l * P l)
theorem h205 (C : TC told lst off lim nW V kd M' us wi it le gof li va kn mo wo u) (D : TM told lst off lim nW V kd M' us nG gl wo ga wi' lt ls ca go wr kn' mo' wf ue) (B : TLM nW nG gl X P tu td pu pd) {i : Nat} (hi : i < nG) {s : Int} {x1 f2 f3 : Int32} {kb : Int32 → Int32 → Int64 → Int32 → Prop} {kx : Int32 → Int32 → Int64 → Prop} {post : Int32 → Prop}
    (hk : kb f2 f3 (lI (s - olim off lim P (gl i))) (nI (i + 1))) : wj_X7_check_205 x1 f2 (lI s) (nI i) f3 ga wi' ls ca go wr mo' wf ue tu td pu pd kb kx post := by
  have E := D.1
  have E5 := E.1
  have ci : (nI i).toNatClampNeg = i := nI_clamp (by omega)
  obtain ⟨a1, a2, a3, a4, a5, a6, a7⟩ := D.2.2.2.1 i hi
  have c3 := C.2.2.1 (gl i) (E.2.1 i hi).1
  unfold wj_X7_check_205
  rw [ci, a4, iI_l (by unfold rI; omega)]
  refine ⟨vp_in_nI (by omega) (by omega), br_c (fun z => sp_priceM E5 B hi ?_) (fun z => ?_)⟩
  · have no : ¬ off (gl i) := fun o => by have := a6.mpr o; rw [z] at this; exact absurd this (by decide)
    unfold wj_X7_check_237
    rw [lI_mul, lI_sub, nI_1 i]
    have : olim off lim P (gl i) = lim (gl i) * P (gl i) := by unfold olim; rw [if_neg no]
    rw [this] at hk
    exact hk
  · have o : off (gl i) := a6.mp (by rcases a5 with q | q; exact absurd q z; exact q)
    unfold wj_X7_check_237
    rw [lI_0, lI_sub, nI_1 i]
    have : olim off lim P (gl i) = 0 := by unfold olim; rw [if_pos o]
    rw [this] at hk
    exact hk
theorem h186 (C : TC told lst off lim nW V kd M' us wi it le gof li va kn mo wo u) (D : TM told lst off lim nW V kd M' us nG gl wo ga wi' lt ls ca go wr kn' mo' wf ue) (B : TLM nW nG gl X P tu td pu pd) {i : Nat} (hi : i < nG) {s : Int} {x1 x3 f2 : Int32} (r3 : x3 = 0 ∨ x3 = 1) {kb : Int32 → Int32 → Int64 → Int32 → Prop} {kx : Int32 → Int32 → Int64 → Prop} {post : Int32 → Prop}
    (hk : ∀ f3 : Int32, (f3 = 0 ∨ f3 = 1) → (f3 = 1 ↔ x3 = 1 ∧ PF lst off P (gl i)) → kb f2 f3 (lI (s - olim off lim P (gl i))) (nI (i + 1))) : wj_X7_check_186 x1 x3 (lI s) (nI i) f2 ga wi' ls ca go wr mo' wf ue tu td pu pd kb kx post := by
  unfold wj_X7_check_186
  refine br_c (fun z => h205 C D B hi (hk 0 (Or.inl rfl) ⟨fun y => absurd y (by decide), fun y => ?_⟩)) (fun z => sp_isPriceM D B hi (fun y => br_f (by decide) ?_) (fun y => br_t rfl ?_))
  · have := y.1
    rw [z] at this
    exact this
  · exact h205 C D B hi (hk 1 (Or.inr rfl) ⟨fun _ => ⟨by rcases r3 with q | q; exact absurd q z; exact q, y⟩, fun _ => rfl⟩)
  · exact h205 C D B hi (hk 0 (Or.inl rfl) ⟨fun q => absurd q (by decide), fun q => absurd q.2 y⟩)
theorem h39 (C : TC told lst off lim nW V kd M' us wi it le gof li va kn mo wo u) (D : TM told lst off lim nW V kd M' us nG gl wo ga wi' lt ls ca go wr kn' mo' wf ue) (A : TLC X P tx tp) (B : TLM nW nG gl X P tu td pu pd) {i : Nat} (hi : i < nW) {s : Int} {f1 : Int32} {kb : Int32 → Int64 → Int32 → Prop} {kx : Int32 → Int64 → Prop} {post : Int32 → Prop}
    (hk : kb f1 (lI (s + (V i * X i - mrest V M' us P wo i))) (nI (i + 1))) : wj_X7_check_39 1 1 (lI s) (nI i) f1 ga wi' ls ca go wr mo' wf ue tu td pu pd kb kx post := by
  have E := D.1
  have E5 := E.1
  have hW := C.2.1
  have ega := D.2.1
  have d3 := D.2.2.2.1
  have ci : (nI i).toNatClampNeg = i := nI_clamp (by omega)
  obtain ⟨m0, _, m1, m2⟩ := D.2.2.2.2 i hi
  have c4i := C.2.2.2.1 i (by omega)
  have rb := (rest_b C A (w := i) (by omega)).2
  subst ega
  unfold wj_X7_check_39
  rw [ci, m0, m1, m2, iI_l (by unfold rI; omega), iI_l (by unfold rI; omega), l27720, lI_mul]
  refine ⟨vp_in_nI (by omega) (by omega), ?_⟩
  refine pk_loop (σ := Int64) (fun n k s' => wl_X7_check_57 f1 1 1 (lI s) (nI i) (nI nG) wi' ls ca go wr mo' wf ue tu td pu pd _ _ n s' (nI k)) (fun k s => s = lI (V i * 27720 - ssum (fun g => us i (gl g) * P (gl g)) k)) nG 0 _ (by omega) (congrArg lI (by simp only [ssum]; omega)) (fun n2 s' hs => ?_) (fun n2 k s' hk2 hs kk2 => ?_)
  · show ws_X7_check_57 _ _ _ _ _ _ _ _ _ _ _ _ _ _ _ _ _ _ _ _ _ _ _
    unfold ws_X7_check_57
    subst hs
    refine br_t (nI_le (Nat.le_refl _) (by omega)) ⟨vp_in_nI (by omega) (by omega), sp_toldX hW B hi ?_⟩
    have es : V i * 27720 - ssum (fun g => us i (gl g) * P (gl g)) nG = rest V us P i := by
      unfold rest
      rw [letter_sum E (f := fun l => us i l * P l) (fun l hl n => by (try dsimp only); rw [C.2.2.2.2 i hi l hl n, Int.zero_mul])]
    rw [es, lI_mul, lI_mul, lI_0, lI_le ⟨by omega, by omega⟩ ⟨by omega, by omega⟩]
    have go2 : ∀ z : Int, z = mrest V M' us P wo i → kb f1 (lI s + (lI (V i * X i) - lI z)) (nI i + 1) := fun z ez => by
      rw [lI_sub, lI_add, nI_1 i, ez]
      exact hk
    unfold wj_X7_check_146
    refine br_c (fun y => br_c (fun q => go2 _ ?_) (fun q => go2 0 ?_)) (fun y => go2 0 ?_)
    · unfold mrest
      rw [if_pos y]
      by_cases t : 0 < rest V us P i
      · rw [if_pos t]
      · rw [if_neg t, show rest V us P i = 0 by omega]
    · unfold mrest
      rw [if_pos y, if_neg (by omega), Int.mul_zero]
    · unfold mrest
      rw [if_neg y]
  · show ws_X7_check_57 _ _ _ _ _ _ _ _ _ _ _ _ _ _ _ _ _ _ _ _ _ _ _
    unfold ws_X7_check_57
    subst hs
    have c5 : (nI (5 * i + k)).toNatClampNeg = 5 * i + k := nI_clamp (by omega)
    have l5 := (E.2.1 k hk2).1
    have b1 := (c4i.2.2.2.2.2.2.2.2.2.2 (gl k) l5).2
    have uk := (d3 k hk2).2.2.2.2.2.2 i hi
    refine br_f (nI_ge hk2 (by omega)) ?_
    rw [ix5 i k, c5, uk, iI_l (by unfold rI; omega)]
    refine ⟨vp_in_nI (by omega) (by omega), sp_priceM E5 B hk2 ?_⟩
    intro v hv
    rw [lI_mul, lI_sub] at hv
    rw [nI_1 k]
    refine kk2 v ?_
    rw [hv]
    exact congrArg lI (by simp only [ssum]; omega)
theorem eq_checkM (C : TC told lst off lim nW V kd M' us wi it le gof li va kn mo wo u) (D : TM told lst off lim nW V kd M' us nG gl wo ga wi' lt ls ca go wr kn' mo' wf ue) (A : TLC X P tx tp) (B : TLM nW nG gl X P tu td pu pd) : wp_X7_check ga wi' ls ca go wr mo' wf ue tu td pu pd (CK told lst off lim nW V M' us X P wo) := by
  have E := D.1
  have E5 := E.1
  have hW := C.2.1
  have d4 := D.2.2.2.2
  have d3 := D.2.2.2.1
  have c4 := C.2.2.2.1
  have D' := D
  obtain ⟨_, ega, ewi', _⟩ := D
  subst ega
  subst ewi'
  unfold wp_X7_check
  refine pk_loop (σ := Int32 × Int64) (fun n i s => wl_X7_check_12 1 1 (nI nG) (nI nW) ls ca go wr mo' wf ue tu td pu pd _ _ n s.1 s.2 (nI i)) (fun i s => (s.1 = 0 ∨ s.1 = 1) ∧ (s.1 = 1 ↔ ∀ w, w < i → WB M' X wo w) ∧ s.2 = lI (ssum (fun w => V w * X w - mrest V M' us P wo w) i)) nW 0 (1, 0) (by omega) ⟨Or.inr rfl, ⟨fun _ w hw => by omega, fun _ => rfl⟩, rfl⟩ (fun n s hs => ?_) (fun n i s hi hs kk => ?_)
  · show ws_X7_check_12 _ _ _ _ _ _ _ _ _ _ _ _ _ _ _ _ _ _ _ _ _
    unfold ws_X7_check_12
    obtain ⟨x1, x4⟩ := s
    obtain ⟨q1, q2, q3⟩ := hs
    (try dsimp only at q1 q2 q3)
    subst q3
    refine br_t (nI_le (Nat.le_refl _) (by omega)) ?_
    refine pk_loop (σ := Int32 × Int32 × Int64) (fun n i s => wl_X7_check_159 x1 (nI nG) (nI nW) ls ca go wr mo' wf ue tu td pu pd _ _ n s.1 s.2.1 s.2.2 (nI i)) (fun i s => (s.1 = 0 ∨ s.1 = 1) ∧ (s.1 = 1 ↔ ∀ g, g < i → ¬ off (gl g) → HG lst lim nW us (onX X wo) (gl g)) ∧ (s.2.1 = 0 ∨ s.2.1 = 1) ∧ (s.2.1 = 1 ↔ ∀ g, g < i → PF lst off P (gl g)) ∧ s.2.2 = lI (ssum (fun w => V w * X w - mrest V M' us P wo w) nW - ssum (fun g => olim off lim P (gl g)) i)) nG 0 (1, 1, lI (ssum (fun w => V w * X w - mrest V M' us P wo w) nW)) (by omega) ⟨Or.inr rfl, ⟨fun _ g hg => by omega, fun _ => rfl⟩, Or.inr rfl, ⟨fun _ g hg => by omega, fun _ => rfl⟩, congrArg lI (by simp only [ssum]; omega)⟩ (fun n s hs => ?_) (fun n i s hi hs kk => ?_)
    · show ws_X7_check_159 _ _ _ _ _ _ _ _ _ _ _ _ _ _ _ _ _ _ _ _ _
      unfold ws_X7_check_159
      obtain ⟨x2, x3, x5⟩ := s
      obtain ⟨r1, r2, r3, r4, r5⟩ := hs
      (try dsimp only at r1 r2 r3 r4 r5)
      subst r5
      refine br_t (nI_le (Nat.le_refl _) (by omega)) ?_
      have one : ∀ {x : Int32}, (x = 0 ∨ x = 1) → ¬ x = 0 → x = 1 := fun h n => by rcases h with q | q; exact absurd q n; exact q
      have zer : ∀ {x : Int32} {p : Prop}, (x = 1 ↔ p) → x = 0 → ¬ p := fun h z p => by have := h.mpr p; rw [z] at this; exact absurd this (by decide)
      have hHG : (∀ w, w < nW → WB M' X wo w) → ((∀ g, g < nG → ¬ off (gl g) → HG lst lim nW us (onX X wo) (gl g)) ↔ ∀ l, l < 5 → told l ∧ ¬ off l → HG lst lim nW us X l) := fun z1 => by
        have ex : ∀ w, w < nW → onX X wo w = X w := fun w hw => by
          unfold onX
          by_cases y : wo w = 0
          · rw [if_pos y]
          · rw [if_neg y]
            have := z1 w hw
            unfold WB at this
            rw [if_neg y] at this
            omega
        have hs : ∀ l, ssum (fun w => us w l * onX X wo w) nW = ssum (fun w => us w l * X w) nW := fun l => ssum_eq nW (fun w hw => by (try dsimp only); rw [ex w hw])
        unfold HG
        constructor
        · intro y l hl t
          obtain ⟨g, g1, g2⟩ := E.2.2.2 l hl t.1
          have := y g g1 (by rw [g2]; exact t.2)
          rw [g2, hs l] at this
          exact this
        · intro y g hg t
          have := y (gl g) (E.2.1 g hg).1 ⟨(E.2.1 g hg).2, t⟩
          rw [hs]
          exact this
      have hPF : (∀ g, g < nG → PF lst off P (gl g)) ↔ ∀ l, l < 5 → told l → PF lst off P l := by
        constructor
        · intro y l hl t
          obtain ⟨g, g1, g2⟩ := E.2.2.2 l hl t
          have := y g g1
          rw [g2] at this
          exact this
        · intro y g hg
          exact y (gl g) (E.2.1 g hg).1 (E.2.1 g hg).2
      have hS : (∀ l, l < 5 → told l → PF lst off P l) → ssum (fun w => V w * X w - mrest V M' us P wo w) nW - ssum (fun g => olim off lim P (gl g)) nG = - SUM told lim nW V M' us X P wo := fun z3 => by
        have e1 : ssum (fun g => olim off lim P (gl g)) nG = ssum (fun g => plim told lim P (gl g)) nG := ssum_eq nG (fun g hg => by
          (try dsimp only)
          unfold olim plim
          rw [if_pos (E.2.1 g hg).2]
          by_cases o : off (gl g)
          · rw [if_pos o, (z3 (gl g) (E.2.1 g hg).1 (E.2.1 g hg).2).1 o, Int.mul_zero]
          · rw [if_neg o])
        have e2 : ssum (fun g => plim told lim P (gl g)) nG = ssum (plim told lim P) 5 := letter_sum E (f := plim told lim P) (fun l hl n => by unfold plim; rw [if_neg n])
        have e3 : ∀ n, ssum (fun w => V w * X w - mrest V M' us P wo w) n = - ssum (fun w => mrest V M' us P wo w - V w * X w) n := fun n => by
          induction n with
          | zero => rfl
          | succ n ih => simp only [ssum]; omega
        unfold SUM
        rw [e1, e2, e3]
        omega
      have sb := SUM_b C A
      refine br_c (fun y1 => ?_) (fun y1 => ?_)
      · have n1 := zer q2 y1
        exact ⟨fun _ => rfl, fun n => absurd n n1⟩
      · have z1 := q2.mp (one q1 y1)
        refine br_c (fun y2 => ?_) (fun y2 => ?_)
        · have n2 : ¬ (∀ l, l < 5 → told l ∧ ¬ off l → HG lst lim nW us X l) := fun y => zer r2 y2 ((hHG z1).mpr y)
          exact ⟨fun n => absurd z1 n, fun _ => ⟨fun _ => rfl, fun n => absurd n n2⟩⟩
        · have z2 := (hHG z1).mp (r2.mp (one r1 y2))
          refine br_c (fun y3 => ?_) (fun y3 => ?_)
          · have n3 : ¬ (∀ l, l < 5 → told l → PF lst off P l) := fun y => zer r4 y3 (hPF.mpr y)
            exact ⟨fun n => absurd z1 n, fun _ => ⟨fun n => absurd z2 n, fun _ => ⟨fun _ => rfl, fun n => absurd n n3⟩⟩⟩
          · have z3 := hPF.mp (r4.mp (one r3 y3))
            have eS : lI (ssum (fun w => V w * X w - mrest V M' us P wo w) nW - ssum (fun g => olim off lim P (gl g)) nG) = 0 ↔ SUM told lim nW V M' us X P wo = 0 := by
              rw [hS z3, lI_0, lI_eq ⟨by omega, by omega⟩ ⟨by omega, by omega⟩]
              omega
            refine br_c (fun y4 => ?_) (fun y4 => ?_)
            · exact ⟨fun n => absurd z1 n, fun _ => ⟨fun n => absurd z2 n, fun _ => ⟨fun n => absurd z3 n, fun _ => ⟨fun _ => rfl, fun n => absurd (eS.mp y4) n⟩⟩⟩⟩
            · exact ⟨fun n => absurd z1 n, fun _ => ⟨fun n => absurd z2 n, fun _ => ⟨fun n => absurd z3 n, fun _ => ⟨fun n => absurd (eS.mpr n) y4, fun _ => rfl⟩⟩⟩⟩
    · show ws_X7_check_159 _ _ _ _ _ _ _ _ _ _ _ _ _ _ _ _ _ _ _ _ _
      unfold ws_X7_check_159
      obtain ⟨x2, x3, x5⟩ := s
      obtain ⟨r1, r2, r3, r4, r5⟩ := hs
      (try dsimp only at r1 r2 r3 r4 r5)
      subst r5
      have ci : (nI i).toNatClampNeg = i := nI_clamp (by omega)
      obtain ⟨a1, a2, a3, a4, a5, a6, a7⟩ := d3 i hi
      have c3 := C.2.2.1 (gl i) (E.2.1 i hi).1
      refine br_f (nI_ge hi (by omega)) ?_
      have ext : ∀ {Q : Nat → Prop}, (∀ g, g < i → Q g) → Q i → ∀ g, g < i + 1 → Q g := fun y1 y2 g hg => by
        by_cases e : g = i
        · subst e; exact y2
        · exact y1 g (by omega)
      have one : ∀ {x : Int32}, (x = 0 ∨ x = 1) → ¬ x = 0 → x = 1 := fun h n => by rcases h with q | q; exact absurd q n; exact q
      have fin : ∀ f2 f3 : Int32, (f2 = 0 ∨ f2 = 1) → (f2 = 1 ↔ x2 = 1 ∧ (¬ off (gl i) → HG lst lim nW us (onX X wo) (gl i))) → (f3 = 0 ∨ f3 = 1) → (f3 = 1 ↔ x3 = 1 ∧ PF lst off P (gl i)) → (f2 = 0 ∨ f2 = 1) ∧ (f2 = 1 ↔ ∀ g, g < i + 1 → ¬ off (gl g) → HG lst lim nW us (onX X wo) (gl g)) ∧ (f3 = 0 ∨ f3 = 1) ∧ (f3 = 1 ↔ ∀ g, g < i + 1 → PF lst off P (gl g)) ∧ lI (ssum (fun w => V w * X w - mrest V M' us P wo w) nW - ssum (fun g => olim off lim P (gl g)) i - olim off lim P (gl i)) = lI (ssum (fun w => V w * X w - mrest V M' us P wo w) nW - ssum (fun g => olim off lim P (gl g)) (i + 1)) := fun f2 f3 e1 e2 e3 e4 => by
        refine ⟨e1, ?_, e3, ?_, congrArg lI (by simp only [ssum]; omega)⟩
        · rw [e2, r2]
          exact ⟨fun y => ext (Q := fun g => ¬ off (gl g) → HG lst lim nW us (onX X wo) (gl g)) y.1 y.2, fun y => ⟨fun g hg => y g (by omega), y i (by omega)⟩⟩
        · rw [e4, r4]
          exact ⟨fun y => ext (Q := fun g => PF lst off P (gl g)) y.1 y.2, fun y => ⟨fun g hg => y g (by omega), y i (by omega)⟩⟩
      refine br_c (fun z => h186 C D' B hi r3 (fun f3 e3 e4 => kk (0, f3, _) (fin 0 f3 (Or.inl rfl) ⟨fun y => absurd y (by decide), fun y => ?_⟩ e3 e4))) (fun z => sp_isHeldM C D' B hi (fun y => br_f (by decide) ?_) (fun y => br_t rfl ?_))
      · have := y.1
        rw [show x2 = 0 from z] at this
        exact this
      · exact h186 C D' B hi r3 (fun f3 e3 e4 => kk (1, f3, _) (fin 1 f3 (Or.inr rfl) ⟨fun _ => ⟨one r1 z, y⟩, fun _ => rfl⟩ e3 e4))
      · exact h186 C D' B hi r3 (fun f3 e3 e4 => kk (0, f3, _) (fin 0 f3 (Or.inl rfl) ⟨fun q => absurd q (by decide), fun q => absurd q.2 y⟩ e3 e4))
  · show ws_X7_check_12 _ _ _ _ _ _ _ _ _ _ _ _ _ _ _ _ _ _ _ _ _
    unfold ws_X7_check_12
    obtain ⟨x1, x4⟩ := s
    obtain ⟨q1, q2, q3⟩ := hs
    (try dsimp only at q1 q2 q3)
    subst q3
    have ci : (nI i).toNatClampNeg = i := nI_clamp (by omega)
    obtain ⟨m0, _, m1, m2⟩ := d4 i hi
    have c4i := c4 i (by omega)
    have rb := (rest_b C A (w := i) (by omega)).2
    refine br_f (nI_ge hi (by omega)) ?_
    have ext : (∀ g, g < i → WB M' X wo g) → WB M' X wo i → ∀ g, g < i + 1 → WB M' X wo g := fun y1 y2 g hg => by
      by_cases e : g = i
      · subst e; exact y2
      · exact y1 g (by omega)
    have sm : lI (ssum (fun w => V w * X w - mrest V M' us P wo w) i + (V i * X i - mrest V M' us P wo i)) = lI (ssum (fun w => V w * X w - mrest V M' us P wo w) (i + 1)) := rfl
    refine br_c (fun z => h39 C D' A B hi (kk (0, _) ⟨Or.inl rfl, ⟨fun y => absurd (show (0 : Int32) = 1 from y) (by decide), fun y => ?_⟩, sm⟩)) (fun z => sp_isWithin C D' B hi (fun y => br_f (by decide) ?_) (fun y => br_t rfl ?_))
    · have := q2.mpr (fun g hg => y g (by omega))
      rw [show x1 = 0 from z] at this
      exact this
    · exact h39 C D' A B hi (kk (1, _) ⟨Or.inr rfl, ⟨fun _ => ext (q2.mp (by rcases q1 with q | q; exact absurd q z; exact q)) y, fun _ => rfl⟩, sm⟩)
    · exact h39 C D' A B hi (kk (0, _) ⟨Or.inl rfl, ⟨fun q => absurd (show (0 : Int32) = 1 from q) (by decide), fun q => absurd (q i (by omega)) y⟩, sm⟩)
theorem eq_check (C : TC told lst off lim nW V kd M' us wi it le gof li va kn mo wo u) (D : TM told lst off lim nW V kd M' us nG gl wo ga wi' lt ls ca go wr kn' mo' wf ue) (A : TLC X P tx tp) (B : TLM nW nG gl X P tu td pu pd) : ∃ Q : Int32 → Prop, (∀ r r', Q r → Q r' → r = r') ∧ wp_X6_check tx tp wi it le gof li va mo wo u Q ∧ wp_X7_check ga wi' ls ca go wr mo' wf ue tu td pu pd Q :=
  ⟨CK told lst off lim nW V M' us X P wo, fun _ _ a b => CK_one a b, eq_checkC C A, eq_checkM C D A B⟩
end CHECK3
