/-! the best of parts under what is fixed -/
section FQ
variable {f V M lim : Nat → Int} {us : Nat → Nat → Int} {lst hb : Nat → Prop} {k m : Nat} {o gl : Nat → Nat} {N : Nat → Nat → Int} {be : Nat → Int} {s : Int}
theorem Sx_bd (H : Sx (rowA V us lst k o gl) (rowB M lim lst k o gl) (1 + (k + k) + m) (fun w => f w = -1) f V N be s) (E : Enum f k o) (gE : GE hb 5 m gl) (hV : ∀ w, w < 4 → 0 ≤ V w ∧ V w ≤ 198) (hU : ∀ l, l < 5 → ∀ w, w < 4 → 0 ≤ us w l ∧ us w l ≤ 9) (hM : ∀ w, w < 4 → 0 ≤ M w ∧ M w ≤ 12) (hL : ∀ l, l < 5 → 0 ≤ lim l ∧ lim l ≤ 100) (hf : ∀ w, w < 4 → -1 ≤ f w ∧ f w ≤ 12) :
    (∀ w, w < 4 → ∀ i, i < 4 → -9 ≤ N w i ∧ N w i ≤ 9) ∧ (∀ w, w < 4 → -100 ≤ be w ∧ be w ≤ 100) := by
  obtain ⟨_, _, h1, h2, _⟩ := H
  have key : ∀ w, w < 4 → (∀ i, i < 4 → -9 ≤ N w i ∧ N w i ≤ 9) ∧ -100 ≤ be w ∧ be w ≤ 100 := fun w hw => by
    by_cases q : f w = -1
    · obtain ⟨r, r1, r2, e1, e2⟩ := h1 w hw q
      have a := row_le (hV := hV) (k := k) (o := o) (lst := lst) hU gE r2
      rw [if_neg (by omega)] at a
      rw [e1, e2]
      exact ⟨a, rowB_le E hM hL gE r2⟩
    · obtain ⟨e1, e2⟩ := h2 w hw q
      rw [e1, e2]
      have := hf w hw
      refine ⟨fun i _ => ?_, by omega⟩
      unfold ev
      split <;> omega
  exact ⟨fun w hw => (key w hw).1, fun w hw => (key w hw).2⟩
theorem Sx_vals (H : Sx (rowA V us lst k o gl) (rowB M lim lst k o gl) (1 + (k + k) + m) (fun w => f w = -1) f V N be s) (E : Enum f k o) (gE : GE hb 5 m gl) (hV : ∀ w, w < 4 → 0 ≤ V w ∧ V w ≤ 198) (hU : ∀ l, l < 5 → ∀ w, w < 4 → 0 ≤ us w l ∧ us w l ≤ 9) (hM : ∀ w, w < 4 → 0 ≤ M w ∧ M w ≤ 12) (hL : ∀ l, l < 5 → 0 ≤ lim l ∧ lim l ≤ 100) (hf : ∀ w, w < 4 → -1 ≤ f w ∧ f w ≤ 12) :
    (s * dt N ≤ 157464) ∧ (∀ i, i < 1 + (k + k) + m → (∀ j, j < k → -4000000 ≤ s * dj N (o j) (rowA V us lst k o gl i) ∧ s * dj N (o j) (rowA V us lst k o gl i) ≤ 4000000 ∧ (1 ≤ i → s * dj N (o j) (rowA V us lst k o gl i) ≤ 157464)) ∧ -2000000000 ≤ cst N be s (rowA V us lst k o gl i) (rowB M lim lst k o gl i) ∧ cst N be s (rowA V us lst k o gl i) (rowB M lim lst k o gl i) ≤ 2000000000) := by
  obtain ⟨b1, b2⟩ := Sx_bd H E gE hV hU hM hL hf
  have hs := H.1
  refine ⟨?_, fun i hi => ⟨fun j hj => ?_, ?_⟩⟩
  · have h1 := dj_le (a := N 0) (A := 9) b1 (b1 0 (by omega)) (w := 0) (by omega)
    rw [dj_self N (by omega)] at h1
    rcases hs with e | e <;> rw [e] <;> omega
  · have a := row_le (hV := hV) (k := k) (o := o) (lst := lst) hU gE hi
    have h1 := dj_le b1 a (E.2.1 j hj).1
    by_cases i0 : i = 0
    · rw [if_pos i0] at h1
      rcases hs with e | e <;> rw [e] <;> omega
    · rw [if_neg i0] at h1
      rcases hs with e | e <;> rw [e] <;> omega
  · have a := row_le (hV := hV) (k := k) (o := o) (lst := lst) hU gE hi
    have h1 := cst_le hs b1 b2 a (rowB_le (lst := lst) (lim := lim) E hM hL gE hi)
    by_cases i0 : i = 0
    · rw [if_pos i0] at h1
      omega
    · rw [if_neg i0] at h1
      omega
/-- of the sheet's own columns: the cheapest of all -/
theorem cheap_full {h : Nat} (H : Sx (rowA V us lst k o gl) (rowB M lim lst k o gl) h (fun w => f w = -1) f V N be s) (E : Enum f k o) {P : Nat → Nat → Int} (hP : ∀ i, i ≤ k → ∀ j, j < k → P i j = s * dj N (o j) (rowA V us lst k o gl i)) {R : Nat → Int} {j c : Nat} (hj : j < k) (hc : c < k)
    (n : ¬ LXP (fun i => uc P k j i * R c - uc P k c i * R j)) : LXZ (fun i => R c * (s * dj N (o j) (ob V i)) - R j * (s * dj N (o c) (ob V i))) := by
  have Ek := E.1
  have oj := E.2.1 j hj
  have oc := E.2.1 c hc
  have a0 : rowA V us lst k o gl 0 = V := by unfold rowA; rw [if_pos rfl]
  have neg : ∀ w, w < 4 → dj N w (ob V 0) = - dj N w V := fun w hw => by
    have : ob V 0 = (fun i => - V i) := by simp [ob]
    rw [this, dj_neg N hw]
  have zer : ∀ w v, w < 4 → f w = -1 → v < 4 → f v ≠ -1 → dj N w (ev v) = 0 := fun w v hw fw hv fv => by
    have e := (H.2.2.2.1 v hv fv).1
    rw [← e]
    exact dj_twice N hw hv (fun q => fv (q ▸ fw))
  have obs : ∀ w, ob V (w + 1) = ev w := fun w => by simp [ob]
  have lk : posk (fun i => uc P k j i * R c - uc P k c i * R j) k ↔ LXP (fun i => - (R c * (s * dj N (o j) (ob V i)) - R j * (s * dj N (o c) (ob V i)))) := by
    refine LXP_enum E ?_ (fun q hq => ?_) (fun w hw fw => ?_)
    · (try dsimp only)
      simp only [uc, if_true]
      rw [hP 0 (by omega) j hj, hP 0 (by omega) c hc, a0, neg _ oj.1, neg _ oc.1]
      grind
    · (try dsimp only)
      have r1 : rowA V us lst k o gl (q + 1) = ev (o q) := by rw [Nat.add_comm]; exact rowA_x V us lst o gl hq
      simp only [uc]
      rw [if_neg (by omega), if_pos (by omega), if_neg (by omega), if_pos (by omega), hP (q + 1) (by omega) j hj, hP (q + 1) (by omega) c hc, r1, obs]
      grind
    · (try dsimp only)
      rw [obs, zer _ _ oj.1 oj.2 hw fw, zer _ _ oc.1 oc.2 hw fw]
      simp
  have lk2 : posk (fun i => uc P k j i * R c - uc P k c i * R j) k ↔ LXP (fun i => uc P k j i * R c - uc P k c i * R j) := by
    rw [posk_LXP Ek]
    have e : ∀ i, (if i ≤ k then (uc P k j i * R c - uc P k c i * R j) else 0) = uc P k j i * R c - uc P k c i * R j := fun i => by
      by_cases q : i ≤ k
      · rw [if_pos q]
      · rw [if_neg q]
        simp only [uc]
        rw [if_neg (by omega), if_neg q, if_neg (by omega), if_neg q]
        simp
    exact ⟨fun z => LXP_eqv z (fun i _ => (e i).symm), fun z => LXP_eqv z (fun i _ => e i)⟩
  exact LXZ_of_nP (fun z => n (lk2.mp (lk.mpr z))) (fun i _ => rfl)
end FQ
theorem sp_findParts {f V M lim : Nat → Int} {us : Nat → Nat → Int} {lst hb : Nat → Prop} {u : Nat → Nat → Int32} {li le fx opn va mo : Nat → Int32} {T : Nat → Nat → Int64} {held ops hei ph : Int32} {lw v0 l0 : Int64} {x0 : Nat → Int64}
    (tr : TabR f V M va mo) (gr : GatR us lim lst u li le) (fr : FixR f fx) (hh : ∀ l, l < 5 → (((held >>> (nI l &&& 31)) &&& (1 : Int32)) = 1 ↔ hb l)) (fo : ∀ w, w < 4 → f w ≠ -1 → 0 ≤ f w ∧ f w ≤ M w)
    {post : Int32 → Int32 → Int64 → (Nat → Nat → Int64) → (Nat → Int32) → Int32 → Int64 → Int64 → (Nat → Int64) → Prop}
    (pn : ∀ (k h : Int32) (lw : Int64) (T : Nat → Nat → Int64) (op : Nat → Int32), NoL M (GH us lim lst hb) f → post k h lw T op 0 v0 l0 x0)
    (pl : ∀ (k h : Int32) (lw : Int64) (T : Nat → Nat → Int64) (op : Nat → Int32) (X : Nat → Int) (d : Int) (y : Nat → Int64), IsL V M (GH us lim lst hb) f X d → d ≤ 157464 → (∀ w, w < 4 → y w = lI (X w)) → post k h lw T op 1 (lI (dot V X)) (lI d) y) :
    wp_X1_findParts ops hei lw held T fx opn ph v0 l0 x0 le li va mo u post := by
  unfold wp_X1_findParts
  refine sp_fillSheet tr gr fr hh (fun k m o gl op2 T' E gE ho hT' => ?_)
  have hV : ∀ w, w < 4 → 0 ≤ V w ∧ V w ≤ 198 := fun w hw => ⟨(tr w hw).2.1, (tr w hw).2.2.1⟩
  have hM : ∀ w, w < 4 → 0 ≤ M w ∧ M w ≤ 12 := fun w hw => (tr w hw).2.2.2.2
  have hU : ∀ l, l < 5 → ∀ w, w < 4 → 0 ≤ us w l ∧ us w l ≤ 9 := fun l hl w hw => ((gr l hl).2.2.2.2 w hw).2
  have hL : ∀ l, l < 5 → 0 ≤ lim l ∧ lim l ≤ 100 := fun l hl => ⟨(gr l hl).2.1, (gr l hl).2.2.1⟩
  have hf : ∀ w, w < 4 → -1 ≤ f w ∧ f w ≤ 12 := fun w hw => (fr w hw).2
  have Ek := E.1
  have gm := gE.1
  have rgi := Rg_iff (V := V) (us := us) (lim := lim) (lst := lst) (M := M) E gE fo
  have sv : ∀ {N : Nat → Nat → Int} {be : Nat → Int} {s : Int}, Sx (rowA V us lst k o gl) (rowB M lim lst k o gl) (1 + (k + k) + m) (fun w => f w = -1) f V N be s → _ := fun H => Sx_vals H E gE hV hU hM hL hf
  have a0 : rowA V us lst k o gl 0 = V := by unfold rowA; rw [if_pos rfl]
  have b0 : rowB M lim lst k o gl 0 = 0 := by unfold rowB; rw [if_pos rfl]
  have sx0 := Sx_first (us := us) (lst := lst) (lim := lim) (M := M) (gl := gl) (m := m) E (fun w hw => (hV w hw).1)
  have bl : ∀ w, (f w = -1) ↔ decide (f w = -1) = true := fun w => by simp
  have rl : ∀ z : Int, -2000000000 ≤ z → z ≤ 2000000000 → rL z := fun z a b => ⟨by omega, by omega⟩
  have chf : ∀ {N : Nat → Nat → Int} {be : Nat → Int} {s : Int}, Sx (rowA V us lst k o gl) (rowB M lim lst k o gl) (1 + (k + k) + m) (fun w => f w = -1) f V N be s → ∀ r j c, j < k → c < k →
      ¬ LXP (fun i => uc (fun i j => s * dj N (o j) (rowA V us lst k o gl i)) k j i * (s * dj N (o c) (rowA V us lst k o gl r)) - uc (fun i j => s * dj N (o j) (rowA V us lst k o gl i)) k c i * (s * dj N (o j) (rowA V us lst k o gl r))) →
      LXZ (fun i => s * dj N (o c) (rowA V us lst k o gl r) * (s * dj N (o j) (ob V i)) - s * dj N (o j) (rowA V us lst k o gl r) * (s * dj N (o c) (ob V i))) :=
    fun {N be s} H r j c hj hc n => cheap_full H E (P := fun i j => s * dj N (o j) (rowA V us lst k o gl i)) (fun i _ j _ => rfl) (R := fun j => s * dj N (o j) (rowA V us lst k o gl r)) hj hc n
  generalize ha : rowA V us lst k o gl = a at *
  generalize hb' : rowB M lim lst k o gl = b at *
  refine pk_loop (σ := Int64 × (Nat → Nat → Int64)) (fun n i s => wl_X1_findParts_15 (nI k) (nI (1 + (k + k) + m)) held fx op2 0 v0 l0 x0 le li va mo u _ _ _ post n (nI i) s.1 s.2)
    (fun i t => ∃ (N : Nat → Nat → Int) (be : Nat → Int) (s : Int), Sx a b (1 + (k + k) + m) (fun w => f w = -1) f V N be s ∧ t.1 = lI (s * dt N) ∧ (∀ i, i < 1 + (k + k) + m → (∀ j, j < k → t.2 i j = lI (s * dj N (o j) (a i))) ∧ t.2 i 4 = lI (cst N be s (a i) (b i))) ∧ mu a b f V (quads.filter (vd (decide (f 0 = -1)) (decide (f 1 = -1)) (decide (f 2 = -1)) (decide (f 3 = -1)))) (bX N be s) (s * dt N) + i ≤ 715) 1000 0 (1, T') (by omega) ?_ (fun n t ht => ?_) (fun n i t hi ht kk => ?_)
  · refine ⟨n0 f V, be0 f V M, s0 f V, sx0, ?_, fun i hi => ⟨fun j hj => ?_, ?_⟩, ?_⟩
    · show (1 : Int64) = _
      rw [s0_dt]
      rfl
    · show T' i j = _
      rw [s0_dj f V (E.2.1 j hj).1]
      exact (hT' i hi).1 j hj
    · show T' i 4 = _
      rw [s0_cst]
      exact (hT' i hi).2
    · exact mu_le _ _ _ _ _ _ _ _ _ _
  · exfalso
    obtain ⟨N, be, s, _, _, _, h⟩ := ht
    omega
  · show ws_X1_findParts_15 _ _ _ _ _ _ _ _ _ _ _ _ _ _ _ _ _ _ _ _ _ _
    unfold ws_X1_findParts_15
    obtain ⟨N, be, s, H, t1, t2, t3⟩ := ht
    obtain ⟨v1, v2⟩ := sv H
    refine br_f (nI_ge (b := 1000) hi (by omega)) ?_
    refine sp_lowestRow (C := fun i => cst N be s (a i) (b i)) (by omega) (by omega) (fun i hi => ⟨(t2 i hi).2, rl _ (v2 i hi).2.1 (v2 i hi).2.2⟩) (fun ge => ?_) (fun r r1 r2 rn => ?_)
    · refine br_f (by decide) ?_
      obtain ⟨o1, o2⟩ := Sx_opt H ge
      have isl : IsL V M (GH us lim lst hb) f (bX N be s) (s * dt N) := by
        obtain ⟨p1, p2⟩ := (rgi _ _).mpr o1
        exact ⟨p1, p2, fun y e py fy => o2 y e ((rgi y e).mp ⟨py, fy⟩)⟩
      rw [t1]
      refine sp_takeParts E fr ho (X := bX N be s) (fun j hj => ?_) (fun w hw q => isl.2.1 w hw q) (fun y hy => ?_)
      · rw [(t2 (1 + j) (by omega)).2, cst_X, ← ha, ← hb', rowA_x V us lst o gl hj, rowB_x M lim lst o gl hj, dot_ev _ (E.2.1 j hj).1]
        exact congrArg lI (by omega)
      · rw [(t2 0 (by omega)).2, cst_X, a0, b0]
        have e : dot V (bX N be s) + 0 * (s * dt N) = dot V (bX N be s) := by omega
        rw [e]
        exact pl _ _ _ _ _ _ _ _ isl v1 hy
    · refine br_t (nI_pos' (by omega)) ?_
      refine sp_cheapest (P := fun i j => s * dj N (o j) (a i)) Ek (by omega) (by omega) r2 (fun i hi j hj => ⟨(t2 i hi).1 j hj, ((v2 i hi).1 j hj).1, ((v2 i hi).1 j hj).2.1⟩) (fun le0 => ?_) (fun c hc pc nc => ?_)
      · refine br_f (by decide) (pn _ _ _ _ _ (fun y e py fy => ?_))
        refine Sx_none H r1 r2 rn (fun w hw q => ?_) y e ((rgi y e).mp ⟨py, fy⟩)
        obtain ⟨j, hj, ej⟩ := E.2.2.2 w hw q
        have := le0 j hj
        (try dsimp only at this)
        rw [ej] at this
        exact this
      · refine br_t (nI_pos' (by omega)) ?_
        have oc := E.2.1 c hc
        have one : ∀ j, j < k → j ≠ c → o j ≠ o c := fun j hj n => by
          rcases Nat.lt_or_ge j c with z | z
          · have := E.2.2.1 j c z hc; omega
          · have := E.2.2.1 c j (by omega) hj; omega
        have ht := Sx_turn H r1 r2 oc.1 oc.2 rn pc (fun w hw q nw pw => by
          obtain ⟨j, hj, ej⟩ := E.2.2.2 w hw q
          subst ej
          exact chf H r j c hj hc (nc j hj pw))
        obtain ⟨H', B'⟩ := ht
        obtain ⟨w1, w2⟩ := sv H'
        have ml := mu_lt H H' (by omega) (bl 0) (bl 1) (bl 2) (bl 3) B'
        rw [t1, nI_1]
        refine sp_turn (P := fun i j => if j = 4 then cst N be s (a i) (b i) else s * dj N (o j) (a i)) (Q := fun i j => if j = 4 then cst (rp N (o c) (a r)) (ub be (o c) (b r)) s (a i) (b i) else s * dj (rp N (o c) (a r)) (o j) (a i)) Ek (by omega) r2 hc (fun i hi j hj => ?_) H.2.1 (by omega) ?_ ?_ (fun i hi ni j hj nj => ?_) (fun T2 h1 h2 => ?_)
        · rcases hj with q | q
          · simp only [if_neg (by omega : j ≠ 4)]; exact (t2 i hi).1 j q
          · subst q; exact (t2 i hi).2
        · simp only [if_neg (by omega : c ≠ 4)]; exact pc
        · simp only [if_neg (by omega : c ≠ 4)]
          have := ((v2 r r2).1 c hc).2.2 r1
          omega
        · simp only [if_neg (by omega : c ≠ 4)]
          rcases hj with q | q
          · simp only [if_neg (by omega : j ≠ 4)]
            refine ⟨?_, by have := ((w2 i hi).1 j q).1; omega, by have := ((w2 i hi).1 j q).2.1; omega⟩
            have := turn_S (N := N) H.1 oc.1 (E.2.1 j q).1 (one j q nj) (a r) (a i)
            grind
          · subst q
            simp only [if_true]
            exact ⟨turn_C H.1 oc.1 (a r) (b r) (a i) (b i), (w2 i hi).2.1, (w2 i hi).2.2⟩
        · simp only [if_neg (by omega : c ≠ 4)] at h1 h2 ⊢
          refine kk (lI (s * dj N (o c) (a r)), T2) ⟨rp N (o c) (a r), ub be (o c) (b r), s, H', rfl, fun i hi => ?_, by omega⟩
          show (∀ j, j < k → T2 i j = _) ∧ T2 i 4 = _
          by_cases ir : i = r
          · subst ir
            refine ⟨fun j hj => ?_, ?_⟩
            · rw [h2 j (Or.inl hj)]
              by_cases jc : j = c
              · subst jc
                rw [if_pos rfl, dj_rp_same]
              · rw [if_neg jc, dj_rp_twice N oc.1 (E.2.1 j hj).1 (one j hj jc), Int.mul_zero]
            · rw [h2 4 (Or.inr rfl), if_neg (by omega)]
              have z := cst_col (rp N (o c) (a i)) (ub be (o c) (b i)) s oc.1
              rw [rp_same] at z
              have ue : ub be (o c) (b i) (o c) = b i := by simp [ub]
              rw [ue] at z
              rw [z]
          · refine ⟨fun j hj => ?_, ?_⟩
            · rw [h1 i hi ir j (Or.inl hj)]
              by_cases jc : j = c
              · subst jc
                rw [if_pos rfl, dj_rp_same]
              · rw [if_neg jc, if_neg (by omega)]
            · rw [h1 i hi ir 4 (Or.inr rfl), if_neg (by omega)]
              simp
