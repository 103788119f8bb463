/-! the reference: what holds, what is better -/
theorem ix5 (w g : Nat) : (5 : Int32) * nI w + nI g = nI (5 * w + g) := by
  rw [show (5 : Int32) = nI 5 from rfl, pk_mul, nI_add]
theorem sp_in {a b c : Int} (ra : rL a) (rb : rL b) (rc : rL c) {post : Int32 → Prop} (h1 : b ≤ a ∧ a ≤ c → post 1) (h0 : ¬ (b ≤ a ∧ a ≤ c) → post 0) : wp_X7_in (lI a) (lI b) (lI c) post := by
  unfold wp_X7_in
  refine br_c (fun q => ?_) (fun q => br_c (fun r => ?_) (fun r => ?_))
  · rw [lI_lt ra rb] at q
    exact h0 (by omega)
  · rw [lI_lt rc ra] at r
    exact h0 (by omega)
  · rw [lI_lt ra rb] at q
    rw [lI_lt rc ra] at r
    exact h1 (by omega)
/-- gates that hold, by their numbers -/
def GM (nG nW : Nat) (U : Nat → Nat → Int) (lim : Nat → Int) (lst : Nat → Prop) (go : Nat → Int32) (x : Nat → Int) (d : Int) : Prop :=
  ∀ g, g < nG → go g = 0 → (lst g → lim g * d ≤ ssum (fun w => U w g * x w) nW) ∧ (¬ lst g → ssum (fun w => U w g * x w) nW ≤ lim g * d)
def ModG (nG nW : Nat) (U : Nat → Nat → Int) (lim : Nat → Int) (lst : Nat → Prop) (ls ca us : Nat → Int32) : Prop :=
  ∀ g, g < nG → ca g = iI (lim g) ∧ 0 ≤ lim g ∧ lim g ≤ 100 ∧ (ls g = 1 ↔ lst g) ∧ ∀ w, w < nW → us (5 * w + g) = iI (U w g) ∧ 0 ≤ U w g ∧ U w g ≤ 9
theorem ssum_le {f : Nat → Int} {B : Int} (hB : 0 ≤ B) : ∀ n : Nat, (∀ j, j < n → -B ≤ f j ∧ f j ≤ B) → -(n * B) ≤ ssum f n ∧ ssum f n ≤ n * B
  | 0, _ => by simp [ssum]
  | n + 1, h => by
    have a := ssum_le hB n (fun j hj => h j (by omega))
    have b := h n (by omega)
    have e : ((n + 1 : Nat) : Int) * B = n * B + B := by push_cast; grind
    simp only [ssum]
    rw [e]
    omega
theorem sp_holdsM {nW nG : Nat} {X M' lim : Nat → Int} {U : Nat → Nat → Int} {lst : Nat → Prop} {b : Int} {mo ls ca go us : Nat → Int32} {x : Nat → Int64} (hW : nW ≤ 4) (hG : nG ≤ 5) (b0 : 0 < b) (b1 : b ≤ 157464) (hx : ∀ w, w < nW → x w = lI (X w) ∧ -20000000 ≤ X w ∧ X w ≤ 20000000) (hm : ∀ w, w < nW → mo w = iI (M' w) ∧ 0 ≤ M' w ∧ M' w ≤ 12) (hg : ModG nG nW U lim lst ls ca us) {post : Int32 → Prop}
    (h1 : (∀ w, w < nW → 0 ≤ X w ∧ X w ≤ M' w * b) ∧ GM nG nW U lim lst go X b → post 1) (h0 : ¬ ((∀ w, w < nW → 0 ≤ X w ∧ X w ≤ M' w * b) ∧ GM nG nW U lim lst go X b) → post 0) : wp_X7_holds (nI nG) (nI nW) (lI b) ls ca go mo us x post := by
  have ri : ∀ z : Int, -3000 ≤ z → z ≤ 3000 → rI z := fun z a b => ⟨by omega, by omega⟩
  unfold wp_X7_holds
  refine pk_loop (σ := Int32) (fun n i s => wl_X7_holds_4 (nI nG) (nI nW) (lI b) ls ca go mo us x _ post n s (nI i)) (fun i s => (s = 1 ∧ ∀ w, w < i → 0 ≤ X w ∧ X w ≤ M' w * b) ∨ (s = 0 ∧ ¬ ∀ w, w < nW → 0 ≤ X w ∧ X w ≤ M' w * b)) nW 0 1 (Nat.zero_le _) (Or.inl ⟨rfl, fun w hw => by omega⟩) (fun n s hs => ?_) (fun n i s hi hs kk => ?_)
  · show ws_X7_holds_4 _ _ _ _ _ _ _ _ _ _ _ _ _ _
    unfold ws_X7_holds_4
    refine br_t (nI_le (Nat.le_refl _) (by omega)) ?_
    refine pk_loop (σ := Int32) (fun n i s => wl_X7_holds_55 (nI nG) (nI nW) (lI b) ls ca go mo us x _ post n s (nI i)) (fun i s => (s = 1 ∧ (∀ w, w < nW → 0 ≤ X w ∧ X w ≤ M' w * b) ∧ GM i nW U lim lst go X b) ∨ (s = 0 ∧ ¬ ((∀ w, w < nW → 0 ≤ X w ∧ X w ≤ M' w * b) ∧ GM nG nW U lim lst go X b))) nG 0 s (Nat.zero_le _) ?_ (fun n s hs => ?_) (fun n i s hi hs kk => ?_)
    · rcases hs with ⟨a, c⟩ | ⟨a, c⟩
      · exact Or.inl ⟨a, c, fun g hg => by omega⟩
      · exact Or.inr ⟨a, fun z => c z.1⟩
    · show ws_X7_holds_55 _ _ _ _ _ _ _ _ _ _ _ _ _ _
      unfold ws_X7_holds_55
      refine br_t (nI_le (Nat.le_refl _) (by omega)) ?_
      rcases hs with ⟨a, c⟩ | ⟨a, c⟩
      · rw [a]; exact ⟨by decide, h1 c⟩
      · rw [a]; exact ⟨by decide, h0 c⟩
    · show ws_X7_holds_55 _ _ _ _ _ _ _ _ _ _ _ _ _ _
      unfold ws_X7_holds_55
      refine br_f (nI_ge hi (by omega)) ?_
      rcases hs with ⟨a, c, d⟩ | ⟨a, c⟩
      · rw [a]
        refine br_f (by decide) ?_
        obtain ⟨g1, g2, g3, g4, g5⟩ := hg i hi
        have ci : (nI i).toNatClampNeg = i := nI_clamp (by omega)
        refine pk_loop (σ := Int64) (fun n j t => wl_X7_holds_72 (nI i) (nI nG) (nI nW) (lI b) ls ca go mo us x _ post n t (nI j)) (fun j t => t = lI (ssum (fun w => U w i * X w) j)) nW 0 0 (Nat.zero_le _) rfl (fun n t ht => ?_) (fun n j t hj ht k2 => ?_)
        · show ws_X7_holds_72 _ _ _ _ _ _ _ _ _ _ _ _ _ _ _
          unfold ws_X7_holds_72
          refine br_t (nI_le (Nat.le_refl _) (by omega)) ⟨vp_in_nI (by omega) (by omega), ?_⟩
          have sb := ssum_le (f := fun w => U w i * X w) (B := 180000000) (by omega) nW (fun j hj => by
            have u := (g5 j hj).2
            have y := (hx j hj).2
            have := ab_mul (x := U j i) (X := 9) (y := X j) (Y := 20000000) (by omega) (by omega) (by omega) (by omega)
            exact ⟨by omega, by omega⟩)
          have lb := ab_mul (x := lim i) (X := 100) (y := b) (Y := 157464) (by omega) (by omega) (by omega) (by omega)
          have r1 : rL (ssum (fun w => U w i * X w) nW) := ⟨by omega, by omega⟩
          have r2 : rL (lim i * b) := ⟨by omega, by omega⟩
          have i1 : (1 : Int32) = iI 1 := rfl
          rw [ci, ht, g1, iI_l (ri _ (by omega) (by omega)), lI_mul, nI_1 i]
          have yes : (go i = 0 → (lst i → lim i * b ≤ ssum (fun w => U w i * X w) nW) ∧ (¬ lst i → ssum (fun w => U w i * X w) nW ≤ lim i * b)) → GM (i + 1) nW U lim lst go X b := fun z g hg' => by
            by_cases e : g = i
            · subst e; exact z
            · exact d g (by omega)
          refine br_c (fun q => br_c (fun l => br_c (fun z => ?_) (fun z => ?_)) (fun l => br_c (fun z => ?_) (fun z => ?_))) (fun q => ?_)
          · rw [lI_lt r1 r2] at z
            refine kk 0 (Or.inr ⟨rfl, fun y => ?_⟩)
            have := (y.2 i hi q).1 (g4.mp l)
            omega
          · rw [lI_lt r1 r2] at z
            exact kk 1 (Or.inl ⟨rfl, c, yes (fun _ => ⟨fun _ => by omega, fun n => absurd (g4.mp l) n⟩)⟩)
          · rw [lI_lt r2 r1] at z
            refine kk 0 (Or.inr ⟨rfl, fun y => ?_⟩)
            have := (y.2 i hi q).2 (fun n => l (g4.mpr n))
            omega
          · rw [lI_lt r2 r1] at z
            exact kk 1 (Or.inl ⟨rfl, c, yes (fun _ => ⟨fun n => absurd (g4.mpr n) l, fun _ => by omega⟩)⟩)
          · exact kk 1 (Or.inl ⟨rfl, c, yes (fun n => absurd n q)⟩)
        · show ws_X7_holds_72 _ _ _ _ _ _ _ _ _ _ _ _ _ _ _
          unfold ws_X7_holds_72
          obtain ⟨u1, u2, u3⟩ := g5 j hj
          have c5 : (nI (5 * j + i)).toNatClampNeg = 5 * j + i := nI_clamp (by omega)
          have cj : (nI j).toNatClampNeg = j := nI_clamp (by omega)
          refine br_f (nI_ge hj (by omega)) ?_
          rw [ix5 j i, c5, cj, u1, (hx j hj).1, iI_l (ri _ (by omega) (by omega)), lI_mul, nI_1 j]
          refine ⟨vp_in_nI (by omega) (by omega), vp_in_nI (by omega) (by omega), fun v hv => k2 v ?_⟩
          rw [hv, ht, lI_add]
          rfl
      · rw [a]
        exact br_t rfl ⟨by decide, h0 c⟩
  · show ws_X7_holds_4 _ _ _ _ _ _ _ _ _ _ _ _ _ _
    unfold ws_X7_holds_4
    refine br_f (nI_ge hi (by omega)) ?_
    rcases hs with ⟨a, c⟩ | ⟨a, c⟩
    · rw [a]
      refine br_f (by decide) ⟨vp_in_nI (by omega) (by omega), ?_⟩
      obtain ⟨x1, x2, x3⟩ := hx i hi
      obtain ⟨m1, m2, m3⟩ := hm i hi
      have ci : (nI i).toNatClampNeg = i := nI_clamp (by omega)
      have mb := ab_mul (x := M' i) (X := 12) (y := b) (Y := 157464) (by omega) (by omega) (by omega) (by omega)
      rw [ci, x1, m1, iI_l (ri _ (by omega) (by omega)), lI_mul, lI_0, nI_1 i]
      refine sp_in ⟨by omega, by omega⟩ ⟨by omega, by omega⟩ ⟨by omega, by omega⟩ (fun z => ?_) (fun z => ?_)
      · refine br_f (by decide) (kk 1 (Or.inl ⟨rfl, fun w hw => ?_⟩))
        by_cases e : w = i
        · subst e; exact z
        · exact c w (by omega)
      · exact br_t rfl (kk 0 (Or.inr ⟨rfl, fun y => z (y i hi)⟩))
    · rw [a, nI_1 i]
      exact br_t rfl (kk 0 (Or.inr ⟨rfl, c⟩))
/-- what is the best so far, in the reference's cells -/
def FM (nW : Nat) (V : Nat → Int) (q : Nat → Int) (g : Int) (bb bw : Int64) (ib : Int32) (bx : Nat → Int64) (h : Prop) : Prop :=
  (¬ h ∧ ib = 0) ∨ (h ∧ ib = 1 ∧ bw = lI (dot V q) ∧ bb = lI g ∧ 0 < g ∧ g ≤ 157464 ∧ (∀ w, w < 4 → 0 ≤ q w ∧ q w ≤ 12 * g ∧ (nW ≤ w → q w = 0)) ∧ ∀ w, w < nW → bx w = lI (q w))
theorem dot_ssum {V X : Nat → Int} {nW : Nat} (hW : nW ≤ 4) (hz : ∀ w, w < 4 → nW ≤ w → X w = 0) : ssum (fun w => V w * X w) nW = dot V X := by
  have z := hz
  rcases (by omega : nW = 0 ∨ nW = 1 ∨ nW = 2 ∨ nW = 3 ∨ nW = 4) with e | e | e | e | e <;> subst e <;> simp only [ssum, dot]
  · rw [hz 0 (by omega) (by omega), hz 1 (by omega) (by omega), hz 2 (by omega) (by omega), hz 3 (by omega) (by omega)]
    simp
  · rw [hz 1 (by omega) (by omega), hz 2 (by omega) (by omega), hz 3 (by omega) (by omega)]
    simp
  · rw [hz 2 (by omega) (by omega), hz 3 (by omega) (by omega)]
    simp
  · rw [hz 3 (by omega) (by omega)]
    simp
  · omega
theorem sp_compareM {nW : Nat} {V X q : Nat → Int} {b g : Int} {h : Prop} {va : Nat → Int32} {x bx : Nat → Int64} {bb bw : Int64} {ib : Int32} (hW : nW ≤ 4) (hV : ∀ w, w < 4 → 0 ≤ V w ∧ V w ≤ 198) (hva : ∀ w, w < nW → va w = iI (V w)) (b0 : 0 < b) (b1 : b ≤ 157464) (hX : ∀ w, w < 4 → 0 ≤ X w ∧ X w ≤ 12 * b ∧ (nW ≤ w → X w = 0)) (hx : ∀ w, w < nW → x w = lI (X w)) (fm : FM nW V q g bb bw ib bx h)
    {post : Int64 → Int64 → Int32 → (Nat → Int64) → Prop} (hn : (h → Bt V X b q g) → ∀ bx', FM nW V X b (lI b) (lI (dot V X)) 1 bx' True → post (lI b) (lI (dot V X)) 1 bx') (ho : h → ¬ Bt V X b q g → post bb bw ib bx) : wp_X7_compare (nI nW) (lI b) bb bw ib va x bx post := by
  have ri : ∀ z : Int, -3000 ≤ z → z ≤ 3000 → rI z := fun z a b => ⟨by omega, by omega⟩
  have bX := dot_le hV (fun w hw => ⟨(hX w hw).1, (hX w hw).2.1⟩)
  have rl : ∀ a b : Int, 0 ≤ a → a ≤ 2000000000 → 0 ≤ b → b ≤ 157464 → rL (a * b) := fun a b a0 a1 b0 b1 => by
    have := ab_mul (x := a) (X := 2000000000) (y := b) (Y := 157464) (by omega) a1 (by omega) b1
    exact ⟨by omega, by omega⟩
  have fin : (h → Bt V X b q g) → ∀ s : Int32, s = 1 → wj_X7_compare_163 (lI (dot V X)) s (nI nW) (lI b) bb bw ib va x bx post := by
    intro hB s hs
    unfold wj_X7_compare_163
    refine br_f (by rw [hs]; decide) ?_
    refine pk_loop (σ := Nat → Int64) (fun n i s => wl_X7_compare_188 (nI nW) (lI b) (lI b) (lI (dot V X)) (1 : Int32) va x _ post n (nI i) s) (fun i s => ∀ w, w < i → s w = lI (X w)) nW 0 bx (Nat.zero_le _) (fun w hw => by omega) (fun n s hs => ?_) (fun n i s hi hs kk => ?_)
    · show ws_X7_compare_188 _ _ _ _ _ _ _ _ _ _ _ _
      unfold ws_X7_compare_188
      refine br_t (nI_le (Nat.le_refl _) (by omega)) (hn hB s (Or.inr ⟨trivial, rfl, rfl, rfl, b0, b1, hX, hs⟩))
    · show ws_X7_compare_188 _ _ _ _ _ _ _ _ _ _ _ _
      unfold ws_X7_compare_188
      have ci : (nI i).toNatClampNeg = i := nI_clamp (by omega)
      refine br_f (nI_ge hi (by omega)) ⟨vp_in_nI (by omega) (by omega), ?_⟩
      rw [ci, nI_1 i]
      refine kk _ (fun w hw => ?_)
      by_cases e : w = i
      · subst e; rw [pk_uLs]; exact hx w hi
      · rw [pk_uLn e]; exact hs w (by omega)
  unfold wp_X7_compare
  refine pk_loop (σ := Int64) (fun n i s => wl_X7_compare_4 (nI nW) (lI b) bb bw ib va x bx _ post n s (nI i)) (fun i s => s = lI (ssum (fun w => V w * X w) i)) nW 0 0 (Nat.zero_le _) rfl (fun n s hs => ?_) (fun n i s hi hs kk => ?_)
  · show ws_X7_compare_4 _ _ _ _ _ _ _ _ _ _ _ _ _
    unfold ws_X7_compare_4
    refine br_t (nI_le (Nat.le_refl _) (by omega)) ?_
    rw [hs, dot_ssum hW (fun w hw z => (hX w hw).2.2 z)]
    rcases fm with ⟨n, e⟩ | ⟨n, e1, e2, e3, g0, g1, hq, e4⟩
    · subst e
      refine br_t rfl ?_
      unfold wj_X7_compare_66
      exact br_t rfl (fin (fun z => absurd z n) 1 rfl)
    · subst e1
      subst e2
      subst e3
      have bq := dot_le hV (fun w hw => ⟨(hq w hw).1, (hq w hw).2.1⟩)
      refine br_f (by decide) ?_
      rw [lI_mul, lI_mul]
      have r1 := rl (dot V X) g (by omega) (by omega) (by omega) (by omega)
      have r2 := rl (dot V q) b (by omega) (by omega) (by omega) (by omega)
      have Bt0 : Bt V X b q g ↔ LXP (fun i => co V i q * b - co V i X * g) := Iff.rfl
      have e0 : co V 0 q * b - co V 0 X * g = dot V X * g - dot V q * b := by
        rw [co_0, co_0, Int.neg_mul, Int.neg_mul]
        omega
      refine br_c (fun z => ?_) (fun z => ?_)
      · rw [lI_le r1 r2] at z
        unfold wj_X7_compare_66
        refine br_f (by decide) ?_
        rw [lI_mul, lI_mul]
        refine br_c (fun y => ?_) (fun y => ?_)
        · rw [lI_eq r1 r2] at y
          have one : (1 : Int32) = nI 1 := rfl
          have down : ∀ (j : Nat) (s : Int32), j ≤ nW → ((s = 1 ∧ ∃ w, j ≤ w ∧ w < nW ∧ X w * g - q w * b < 0 ∧ ∀ v, j ≤ v → v < w → X v * g - q v * b = 0) ∨ (s = 0 ∧ ¬ ∃ w, j ≤ w ∧ w < nW ∧ X w * g - q w * b < 0 ∧ ∀ v, j ≤ v → v < w → X v * g - q v * b = 0)) →
              wl_X7_compare_101 (lI (dot V X)) (nI nW) (lI b) (lI g) (lI (dot V q)) 1 va x bx (fun (x3_18 : Int32) => wj_X7_compare_163 (lI (dot V X)) x3_18 (nI nW) (lI b) (lI g) (lI (dot V q)) 1 va x bx post) post (j + 1) s (nI j - 1) := by
            intro j
            induction j with
            | zero =>
              intro s _ hs
              show ws_X7_compare_101 _ _ _ _ _ _ _ _ _ _ _ _ _ _
              unfold ws_X7_compare_101
              refine br_t (by decide) ?_
              rcases hs with ⟨a, w, _, w2, w3, w4⟩ | ⟨a, c⟩
              · refine fin (fun _ => ?_) s a
                rw [Bt0, LXP_posk]
                refine ⟨w + 1, by omega, ?_, fun k hk => ?_⟩
                · (try dsimp only)
                  rw [co_s V q (by omega), co_s V X (by omega)]
                  omega
                · (try dsimp only)
                  rcases Nat.eq_zero_or_pos k with t | t
                  · subst t
                    rw [e0]
                    omega
                  · obtain ⟨v, rfl⟩ : ∃ v, k = v + 1 := ⟨k - 1, by omega⟩
                    rw [co_s V q (by omega), co_s V X (by omega)]
                    have := w4 v (by omega) (by omega)
                    omega
              · subst a
                unfold wj_X7_compare_163
                refine br_t rfl (ho n (fun t => c ?_))
                rw [Bt0, LXP_posk] at t
                obtain ⟨k, k1, k2, k3⟩ := t
                (try dsimp only at k2)
                (try dsimp only at k3)
                rcases Nat.eq_zero_or_pos k with t | t
                · subst t
                  rw [e0] at k2
                  omega
                · obtain ⟨v, rfl⟩ : ∃ v, k = v + 1 := ⟨k - 1, by omega⟩
                  rw [co_s V q (by omega), co_s V X (by omega)] at k2
                  have vW : v < nW := by
                    rcases Nat.lt_or_ge v nW with t | t
                    · exact t
                    · rw [(hX v (by omega)).2.2 t, (hq v (by omega)).2.2 t] at k2
                      omega
                  refine ⟨v, by omega, vW, by omega, fun u _ hu => ?_⟩
                  have := k3 (u + 1) (by omega)
                  rw [co_s V q (by omega), co_s V X (by omega)] at this
                  omega
            | succ j ih =>
              intro s hj hs
              show ws_X7_compare_101 _ _ _ _ _ _ _ _ _ _ _ _ _ _
              unfold ws_X7_compare_101
              have ej : nI (j + 1) - 1 = nI j := nI_pred j
              have cj : (nI j).toNatClampNeg = j := nI_clamp (by omega)
              have em : nI j + (-1 : Int32) = nI j - 1 := (Int32.sub_eq_add_neg _ _).symm
              have x1 := hX j (by omega)
              have q1 := hq j (by omega)
              have m1 := ab_mul (x := X j) (X := 2000000) (y := g) (Y := 157464) (by omega) (by omega) (by omega) (by omega)
              have m2 := ab_mul (x := q j) (X := 2000000) (y := b) (Y := 157464) (by omega) (by omega) (by omega) (by omega)
              have rd : rL (X j * g - q j * b) := ⟨by omega, by omega⟩
              have r0 : rL 0 := ⟨by omega, by omega⟩
              rw [ej]
              refine br_f (nI_pos (by omega)) ⟨vp_in_nI (by omega) (by omega), ?_⟩
              rw [cj, hx j (by omega), e4 j (by omega), lI_mul, lI_mul, lI_sub, em]
              intro v hv
              rw [hv, lI_0]
              refine br_c (fun t => ?_) (fun t => ?_)
              · rw [lI_eq rd r0] at t
                refine ih s (by omega) ?_
                rcases hs with ⟨a, w, w1, w2, w3, w4⟩ | ⟨a, c⟩
                · refine Or.inl ⟨a, w, by omega, w2, w3, fun v v1 v2 => ?_⟩
                  by_cases e : v = j
                  · subst e; exact t
                  · exact w4 v (by omega) v2
                · refine Or.inr ⟨a, fun ⟨w, w1, w2, w3, w4⟩ => c ⟨w, ?_, w2, w3, fun v v1 v2 => w4 v (by omega) v2⟩⟩
                  by_cases e : w = j
                  · subst e; omega
                  · omega
              · rw [lI_eq rd r0] at t
                refine br_c (fun u => ?_) (fun u => ?_)
                · rw [lI_le r0 rd] at u
                  refine ih 0 (by omega) (Or.inr ⟨rfl, fun ⟨w, w1, w2, w3, w4⟩ => ?_⟩)
                  by_cases e : w = j
                  · subst e; omega
                  · have := w4 j (by omega) (by omega)
                    omega
                · rw [lI_le r0 rd] at u
                  exact ih 1 (by omega) (Or.inl ⟨rfl, j, by omega, by omega, by omega, fun v v1 v2 => by omega⟩)
          exact ⟨_, down nW 0 (Nat.le_refl _) (Or.inr ⟨rfl, fun ⟨w, w1, w2, _⟩ => by omega⟩)⟩
        · rw [lI_eq r1 r2] at y
          unfold wj_X7_compare_163
          refine br_t rfl (ho n (fun t => ?_))
          rw [Bt0, LXP_posk] at t
          obtain ⟨k, k1, k2, k3⟩ := t
          (try dsimp only at k2)
          (try dsimp only at k3)
          rcases Nat.eq_zero_or_pos k with t | t
          · subst t
            rw [e0] at k2
            omega
          · have := k3 0 t
            rw [e0] at this
            omega
      · rw [lI_le r1 r2] at z
        unfold wj_X7_compare_66
        refine br_f (by decide) ?_
        rw [lI_mul, lI_mul]
        refine br_f (by rw [lI_eq r1 r2]; omega) (fin (fun _ => ?_) 1 rfl)
        rw [Bt0]
        refine Or.inl ?_
        (try dsimp only)
        rw [e0]
        omega
  · show ws_X7_compare_4 _ _ _ _ _ _ _ _ _ _ _ _ _
    unfold ws_X7_compare_4
    have ci : (nI i).toNatClampNeg = i := nI_clamp (by omega)
    have v1 := hV i (by omega)
    refine br_f (nI_ge hi (by omega)) ⟨vp_in_nI (by omega) (by omega), ?_⟩
    rw [ci, hva i hi, hx i hi, iI_l (ri _ (by omega) (by omega)), lI_mul, nI_1 i]
    intro v hv
    refine kk v ?_
    rw [hv, hs, lI_add]
    rfl
