def GatR (us : Nat → Nat → Int) (lim : Nat → Int) (lst : Nat → Prop) (u : Nat → Nat → Int32) (li le : Nat → Int32) : Prop := ∀ l, l < 5 → li l = iI (lim l) ∧ 0 ≤ lim l ∧ lim l ≤ 100 ∧ (le l = 0 ↔ ¬ lst l) ∧ ∀ w, w < 4 → u w l = iI (us w l) ∧ 0 ≤ us w l ∧ us w l ≤ 9
def FixR (f : Nat → Int) (fx : Nat → Int32) : Prop := ∀ w, w < 4 → fx w = iI (f w) ∧ -1 ≤ f w ∧ f w ≤ 12
theorem sp_fillGate44 {f V M lim : Nat → Int} {us : Nat → Nat → Int} {lst : Nat → Prop} {k h l : Nat} {o : Nat → Nat} {u : Nat → Nat → Int32} {li le fx opn : Nat → Int32} {T : Nat → Nat → Int64} {sg : Int} {h1 : Int32}
    (hk : k ≤ 4) (hh : k + k < h) (h14 : h < 14) (hl : l < 5) (sgv : sg = 1 ∨ sg = -1) (ho : ∀ j, j < k → o j < 4 ∧ opn j = nI (o j)) (gr : GatR us lim lst u li le) (fr : FixR f fx)
    (hT : ∀ j, j < k → T (1 + j) 4 = lI (xb f V M (o j)) ∧ T (1 + j) j = lI (sgn f V (o j)))
    {post : Int32 → (Nat → Nat → Int64) → Prop}
    (hpost : ∀ T' : Nat → Nat → Int64, (∀ i, i ≠ h → ∀ j, T' i j = T i j) → (∀ j, j < k → T' h j = lI (sg * us (o j) l * sgn f V (o j))) → T' h 4 = lI (sg * (- lim l + ssum (fun w => if 0 < f w then us w l * f w else 0) 4 + ssum (fun j => us (o j) l * xb f V M (o j)) k)) → post h1 T') :
    wj_X1_fillGate_44 (nI l) (nI h) (iI sg) (nI k) h1 T fx opn le li u post := by
  obtain ⟨g1, g2, g3, g4, g5⟩ := gr l hl
  have c4 : ((4 : Int32)).toNatClampNeg = 4 := rfl
  have one : (1 : Int32) = nI 1 := rfl
  have ri : ∀ z : Int, -3000 ≤ z → z ≤ 3000 → rI z := fun z a b => ⟨by omega, by omega⟩
  unfold wj_X1_fillGate_44
  refine ⟨vp_in_nI (by omega) (by omega), ?_⟩
  have cl : (nI l).toNatClampNeg = l := nI_clamp (by omega)
  have ch : (nI h).toNatClampNeg = h := nI_clamp (by omega)
  have el : (iI (- lim l)).toInt64 = lI (- lim l) := iI_l (ri _ (by omega) (by omega))
  have es : (iI sg).toInt64 = lI sg := iI_l (ri _ (by omega) (by omega))
  rw [cl, ch, c4, g1, iI_neg, el, es]
  refine pk_loop (σ := Int64) (fun n i s => wl_X1_fillGate_59 (nI l) (nI h) (iI sg) (nI k) h1 T fx opn le li u _ post n s (nI i)) (fun i s => s = lI (- lim l + ssum (fun w => if 0 < f w then us w l * f w else 0) i)) 4 0 _ (by omega) (by simp [ssum]) (fun n s hs => ?_) (fun n i s hi hs kk => ?_)
  · show ws_X1_fillGate_59 _ _ _ _ _ _ _ _ _ _ _ _ _ _ _ _
    unfold ws_X1_fillGate_59
    refine br_t (by decide) ?_
    refine pk_loop (σ := Int64 × (Nat → Nat → Int64)) (fun n i s => wl_X1_fillGate_107 (nI l) (nI h) (iI sg) (nI k) h1 fx opn le li u _ post n s.1 (nI i) s.2)
      (fun i s => s.1 = lI (- lim l + ssum (fun w => if 0 < f w then us w l * f w else 0) 4 + ssum (fun j => us (o j) l * xb f V M (o j)) i) ∧ (∀ a, a ≠ h → ∀ b, s.2 a b = T a b) ∧ ∀ b, b < i → s.2 h b = lI (sg * us (o b) l * sgn f V (o b))) k 0 (s, T) (Nat.zero_le _) ⟨by rw [hs]; simp [ssum], fun a _ b => rfl, fun b hb => by omega⟩ (fun n s hs => ?_) (fun n i s hi hs kk => ?_)
    · show ws_X1_fillGate_107 _ _ _ _ _ _ _ _ _ _ _ _ _ _ _ _
      unfold ws_X1_fillGate_107
      refine br_t (nI_le (Nat.le_refl k) (by omega)) ⟨vp_in_nI (by omega) (by omega), ?_⟩
      rw [hs.1, lI_mul]
      refine hpost _ (fun i hi j => ?_) (fun j hj => ?_) ?_
      · rw [msJ, if_neg (by omega)]; exact hs.2.1 i hi j
      · rw [msJ, if_neg (by omega)]; exact hs.2.2 j hj
      · rw [msJ, if_pos ⟨rfl, rfl⟩]
    · show ws_X1_fillGate_107 _ _ _ _ _ _ _ _ _ _ _ _ _ _ _ _
      unfold ws_X1_fillGate_107
      obtain ⟨o1, o2⟩ := ho i hi
      obtain ⟨u1, u2, u3⟩ := g5 (o i) o1
      obtain ⟨t1, t2⟩ := hT i hi
      have ci : (nI i).toNatClampNeg = i := nI_clamp (by omega)
      have co1 : (nI (o i)).toNatClampNeg = o i := nI_clamp (by omega)
      have a1 : (1 : Int32) + nI i = nI (1 + i) := by rw [one, nI_add]
      have a2 : nI i + 1 = nI (i + 1) := nI_1 i
      have c1 : (nI (1 + i)).toNatClampNeg = 1 + i := nI_clamp (by omega)
      refine br_f (nI_ge hi (by omega)) ⟨vp_in_nI (by omega) (by omega), ?_⟩
      rw [ci, o2, co1, cl, u1]
      refine ⟨vp_in_nI (by omega) (by omega), vp_in_nI (by omega) (by omega), fun a ha => ?_⟩
      rw [a1, a2, c1, hs.2.1 (1 + i) (by omega), hs.2.1 (1 + i) (by omega), c4, t1, t2]
      refine ⟨vp_in_nI (by omega) (by omega), fun b hb => ⟨vp_in_nI (by omega) (by omega), fun c hc => ⟨vp_in_nI (by omega) (by omega), ?_⟩⟩⟩
      rw [ch]
      have su : -9 ≤ sg * us (o i) l ∧ sg * us (o i) l ≤ 9 := by rcases sgv with e | e <;> rw [e] <;> omega
      refine kk (b, msetJ s.2 h i c) ⟨?_, fun p hp q => ?_, fun q hq => ?_⟩
      · show b = _
        rw [hb, ha, hs.1, iI_l (ri _ (by omega) (by omega)), lI_mul, lI_add]
        simp only [ssum]
        exact congrArg lI (by omega)
      · show msetJ s.2 h i c p q = _
        rw [msJ, if_neg (by omega)]
        exact hs.2.1 p hp q
      · show msetJ s.2 h i c h q = _
        rw [msJ]
        by_cases e : q = i
        · subst e
          rw [if_pos ⟨rfl, rfl⟩, hc, ha, iI_mul, iI_l (ri _ (by omega) (by omega)), lI_mul]
        · rw [if_neg (by omega)]
          exact hs.2.2 q (by omega)
  · show ws_X1_fillGate_59 _ _ _ _ _ _ _ _ _ _ _ _ _ _ _ _
    unfold ws_X1_fillGate_59
    obtain ⟨f1, f2, f3⟩ := fr i hi
    obtain ⟨u1, u2, u3⟩ := g5 i hi
    have ci : (nI i).toNatClampNeg = i := nI_clamp (by omega)
    have a2 : nI i + 1 = nI (i + 1) := nI_1 i
    refine br_f (nI_ge (b := 4) hi (by omega)) ⟨vp_in_nI (by omega) (by omega), ?_⟩
    rw [ci, cl, f1, u1, a2]
    refine br_c (fun q => ?_) (fun q => ?_)
    · rw [iI_0, iI_le (ri _ (by omega) (by omega)) (ri _ (by omega) (by omega))] at q
      refine kk s ?_
      rw [hs]
      simp only [ssum]
      rw [if_neg (by omega)]
      exact congrArg lI (by omega)
    · rw [iI_0, iI_le (ri _ (by omega) (by omega)) (ri _ (by omega) (by omega))] at q
      refine ⟨vp_in_nI (by omega) (by omega), fun a ha => kk a ?_⟩
      have b1 := ab_mul (x := us i l) (X := 9) (y := f i) (Y := 12) (by omega) (by omega) (by omega) (by omega)
      rw [ha, hs, iI_mul, iI_l (ri _ (by omega) (by omega)), lI_add]
      simp only [ssum]
      rw [if_pos (by omega)]
      exact congrArg lI (by omega)
noncomputable def sgl (lst : Nat → Prop) (l : Nat) : Int := @ite _ (lst l) (Classical.propDecidable _) 1 (-1)
theorem sgl_1 (lst : Nat → Prop) (l : Nat) : sgl lst l = 1 ∨ sgl lst l = -1 := by
  unfold sgl
  split
  · exact Or.inl rfl
  · exact Or.inr rfl
theorem sp_fillGate {f V M lim : Nat → Int} {us : Nat → Nat → Int} {lst : Nat → Prop} {k h l : Nat} {o : Nat → Nat} {u : Nat → Nat → Int32} {li le fx opn : Nat → Int32} {T : Nat → Nat → Int64}
    (hk : k ≤ 4) (hh : k + k < h) (h14 : h < 14) (hl : l < 5) (ho : ∀ j, j < k → o j < 4 ∧ opn j = nI (o j)) (gr : GatR us lim lst u li le) (fr : FixR f fx)
    (hT : ∀ j, j < k → T (1 + j) 4 = lI (xb f V M (o j)) ∧ T (1 + j) j = lI (sgn f V (o j)))
    {post : Int32 → (Nat → Nat → Int64) → Prop}
    (hpost : ∀ T' : Nat → Nat → Int64, (∀ i, i ≠ h → ∀ j, T' i j = T i j) → (∀ j, j < k → T' h j = lI (sgl lst l * us (o j) l * sgn f V (o j))) → T' h 4 = lI (sgl lst l * (- lim l + ssum (fun w => if 0 < f w then us w l * f w else 0) 4 + ssum (fun j => us (o j) l * xb f V M (o j)) k)) → post (nI (h + 1)) T') :
    wp_X1_fillGate (nI k) (nI h) T fx opn le li u (nI l) post := by
  unfold wp_X1_fillGate
  refine br_t (nI_lt (b := 14) h14 (by omega)) ⟨vp_in_nI h14 (by omega), vp_in_nI hl (by omega), ?_⟩
  rw [nI_clamp (by omega), nI_1]
  have g4 := (gr l hl).2.2.2.1
  refine br_c (fun q => ?_) (fun q => ?_)
  · have e : sgl lst l = -1 := by unfold sgl; rw [if_neg (g4.mp q)]
    rw [e] at hpost
    exact sp_fillGate44 hk hh h14 hl (Or.inr rfl) ho gr fr hT hpost
  · have e : sgl lst l = 1 := by
      unfold sgl
      rw [if_pos]
      by_cases z : lst l
      · exact z
      · exact absurd (g4.mpr z) q
    rw [e] at hpost
    exact sp_fillGate44 hk hh h14 hl (Or.inl rfl) ho gr fr hT hpost
/-! the rows of a sheet, as numbers -/
noncomputable def rowA (V : Nat → Int) (us : Nat → Nat → Int) (lst : Nat → Prop) (k : Nat) (o gl : Nat → Nat) (i : Nat) : Nat → Int :=
  if i = 0 then V else if i ≤ k then ev (o (i - 1)) else if i ≤ k + k then (fun w => - ev (o (i - 1 - k)) w) else (fun w => sgl lst (gl (i - 1 - (k + k))) * us w (gl (i - 1 - (k + k))))
noncomputable def rowB (M lim : Nat → Int) (lst : Nat → Prop) (k : Nat) (o gl : Nat → Nat) (i : Nat) : Int :=
  if i = 0 then 0 else if i ≤ k then 0 else if i ≤ k + k then M (o (i - 1 - k)) else - (sgl lst (gl (i - 1 - (k + k))) * lim (gl (i - 1 - (k + k))))
def GE (hb : Nat → Prop) (n m : Nat) (gl : Nat → Nat) : Prop := m ≤ n ∧ (∀ t, t < m → gl t < n ∧ hb (gl t)) ∧ (∀ l, l < n → hb l → ∃ t, t < m ∧ gl t = l)
theorem sum_x {f V M g : Nat → Int} {k : Nat} {o : Nat → Nat} (E : Enum f k o) (hf : ∀ w, w < 4 → -1 ≤ f w) : ssum (fun w => if 0 < f w then g w * f w else 0) 4 + ssum (fun j => g (o j) * xb f V M (o j)) k = dot g (xb f V M) := by
  have e := enum_sum (p := fun w => f w = -1) (fun w => g w * xb f V M w) (fun w => if f w = -1 then g w * xb f V M w else 0) (fun w h => if_pos h) (fun w h => if_neg h) 4 k o E
  rw [e, ssum_4, ssum_4]
  have t : ∀ w, w < 4 → (if 0 < f w then g w * f w else 0) + (if f w = -1 then g w * xb f V M w else 0) = g w * xb f V M w := fun w hw => by
    have := hf w hw
    by_cases a : f w = -1
    · rw [if_pos a, if_neg (by omega)]; omega
    · rw [if_neg a]
      have : xb f V M w = f w := by unfold xb; rw [if_neg a]
      rw [this]
      by_cases b : 0 < f w
      · rw [if_pos b]; omega
      · have : f w = 0 := by omega
        rw [if_neg b, this]; omega
  have t0 := t 0 (by omega)
  have t1 := t 1 (by omega)
  have t2 := t 2 (by omega)
  have t3 := t 3 (by omega)
  unfold dot
  omega
theorem sp_fillSheet {f V M lim : Nat → Int} {us : Nat → Nat → Int} {lst hb : Nat → Prop} {u : Nat → Nat → Int32} {li le fx opn va mo : Nat → Int32} {T : Nat → Nat → Int64} {held ops hei : Int32} {lw : Int64}
    (tr : TabR f V M va mo) (gr : GatR us lim lst u li le) (fr : FixR f fx) (hh : ∀ l, l < 5 → (((held >>> (nI l &&& 31)) &&& (1 : Int32)) = 1 ↔ hb l))
    {post : Int32 → Int32 → Int64 → (Nat → Nat → Int64) → (Nat → Int32) → Prop}
    (hpost : ∀ (k m : Nat) (o gl : Nat → Nat) (opn' : Nat → Int32) (T' : Nat → Nat → Int64), Enum f k o → GE hb 5 m gl → (∀ j, j < k → opn' j = nI (o j)) →
      (∀ i, i < 1 + (k + k) + m → (∀ j, j < k → T' i j = lI (sgn f V (o j) * rowA V us lst k o gl i (o j))) ∧ T' i 4 = lI (rowB M lim lst k o gl i + dot (rowA V us lst k o gl i) (xb f V M))) → post (nI k) (nI (1 + (k + k) + m)) 1 T' opn') :
    wp_X1_fillSheet ops hei lw held T fx opn le li va mo u post := by
  have c4 : ((4 : Int32)).toNatClampNeg = 4 := rfl
  have c0 : ((0 : Int32)).toNatClampNeg = 0 := rfl
  have one : (1 : Int32) = nI 1 := rfl
  have two : (2 : Int32) = nI 2 := rfl
  have im : (-1 : Int32) = iI (-1) := rfl
  have ri : ∀ z : Int, -3000 ≤ z → z ≤ 3000 → rI z := fun z a b => ⟨by omega, by omega⟩
  unfold wp_X1_fillSheet
  refine pk_loop (σ := Int32 × (Nat → Int32)) (fun n i s => wl_X1_fillSheet_12 hei 1 held T fx le li va mo u _ post n (nI i) s.1 s.2) (fun i s => ∃ k o, s.1 = nI k ∧ (∀ j, j < k → s.2 j = nI (o j)) ∧ EnumN (fun w => f w = -1) i k o) 4 0 (0, opn) (by omega) ⟨0, fun _ => 0, rfl, fun j hj => by omega, EnumN_0 _ _⟩ (fun n s hs => ?_) (fun n i s hi hs kk => ?_)
  · show ws_X1_fillSheet_12 _ _ _ _ _ _ _ _ _ _ _ _ _ _ _ _
    unfold ws_X1_fillSheet_12
    refine br_t (by decide) ?_
    obtain ⟨k, o, s1, s2, E⟩ := hs
    generalize s.2 = op2 at *
    rw [s1]
    have Ek := E.1
    have ho : ∀ j, j < k → o j < 4 ∧ op2 j = nI (o j) := fun j hj => ⟨(E.2.1 j hj).1, s2 j hj⟩
    have hh1 : (1 : Int32) + (2 : Int32) * nI k = nI (1 + (k + k)) := by
      rw [one, two, pk_mul, nI_add]
      exact congrArg nI (by omega)
    rw [hh1]
    refine pk_loop (σ := Nat → Nat → Int64) (fun n i s => wl_X1_fillSheet_70 (nI k) (nI (1 + (k + k))) 1 held fx op2 le li va mo u _ post n (nI i) s) (fun i s => ∀ a, a < i → ∀ b, b < 5 → s a b = lI 0) (1 + (k + k)) 0 T (Nat.zero_le _) (fun a ha => by omega) (fun n T1 h1 => ?_) (fun n i s hi hs kk => ?_)
    · show ws_X1_fillSheet_70 _ _ _ _ _ _ _ _ _ _ _ _ _ _ _ _
      unfold ws_X1_fillSheet_70
      refine br_t (nI_le (Nat.le_refl _) (by omega)) ?_
      refine pk_loop (σ := Nat → Nat → Int64) (fun n i s => wl_X1_fillSheet_96 (nI k) (nI (1 + (k + k))) 1 held fx op2 le li va mo u _ post n (nI i) s) (fun i s => (∀ a, a < 1 + (k + k) → ∀ b, b < 5 → (a ≠ 0 ∨ b ≠ 4) → s a b = lI 0) ∧ s 0 4 = lI (ssum (fun w => if 0 < f w then V w * f w else 0) i)) 4 0 T1 (by omega) ⟨fun a ha b hb _ => h1 a ha b hb, h1 0 (by omega) 4 (by omega)⟩ (fun n T2 h2 => ?_) (fun n i s hi hs kk => ?_)
      · show ws_X1_fillSheet_96 _ _ _ _ _ _ _ _ _ _ _ _ _ _ _ _
        unfold ws_X1_fillSheet_96
        refine br_t (by decide) ?_
        refine pk_loop (σ := Nat → Nat → Int64) (fun n i s => wl_X1_fillSheet_144 (nI k) (nI (1 + (k + k))) 1 held fx op2 le li va mo u _ post n (nI i) s)
          (fun i s => (∀ a, a < 1 + (k + k) → ∀ b, b < 5 → (a ≠ 0 ∨ b ≠ 4) → s a b = lI (if (a = 0 ∧ b < i) ∨ (1 ≤ a ∧ a ≤ i) ∨ (k + 1 ≤ a ∧ a ≤ k + i) then gv f V M k o a b else 0)) ∧ s 0 4 = lI (ssum (fun w => if 0 < f w then V w * f w else 0) 4 + ssum (fun j => V (o j) * xb f V M (o j)) i)) k 0 T2 (Nat.zero_le _) ⟨fun a ha b hb z => by rw [if_neg (by omega)]; exact h2.1 a ha b hb z, by rw [h2.2]; simp [ssum]⟩ (fun n T3 h3 => ?_) (fun n i s hi hs kk => ?_)
        · show ws_X1_fillSheet_144 _ _ _ _ _ _ _ _ _ _ _ _ _ _ _ _
          unfold ws_X1_fillSheet_144
          refine br_t (nI_le (Nat.le_refl _) (by omega)) ?_
          have hT3 : ∀ j, j < k → T3 (1 + j) 4 = lI (xb f V M (o j)) ∧ T3 (1 + j) j = lI (sgn f V (o j)) := fun j hj => by
            have a1 : gv f V M k o (1 + j) 4 = xb f V M (o j) := by
              unfold gv
              rw [if_neg (by omega), if_pos (by omega), if_pos rfl]
              exact congrArg (fun z => xb f V M (o z)) (by omega)
            have a2 : gv f V M k o (1 + j) j = sgn f V (o j) := by
              unfold gv
              rw [if_neg (by omega), if_pos (by omega), if_neg (by omega), if_pos (by omega)]
              exact congrArg (fun z => sgn f V (o z)) (by omega)
            refine ⟨?_, ?_⟩
            · rw [h3.1 (1 + j) (by omega) 4 (by omega) (by omega), if_pos (by omega), a1]
            · rw [h3.1 (1 + j) (by omega) j (by omega) (by omega), if_pos (by omega), a2]
          refine pk_loop (σ := Int32 × (Nat → Nat → Int64)) (fun n i s => wl_X1_fillSheet_166 (nI k) 1 held fx op2 le li va mo u _ post n (nI i) s.1 s.2)
            (fun i s => ∃ m gl, s.1 = nI (1 + (k + k) + m) ∧ GE hb i m gl ∧ (∀ a, a < 1 + (k + k) → ∀ b, s.2 a b = T3 a b) ∧ ∀ t, t < m → (∀ j, j < k → s.2 (1 + (k + k) + t) j = lI (sgl lst (gl t) * us (o j) (gl t) * sgn f V (o j))) ∧ s.2 (1 + (k + k) + t) 4 = lI (sgl lst (gl t) * (- lim (gl t) + ssum (fun w => if 0 < f w then us w (gl t) * f w else 0) 4 + ssum (fun j => us (o j) (gl t) * xb f V M (o j)) k))) 5 0 (nI (1 + (k + k)), T3) (by omega)
            ⟨0, fun _ => 0, rfl, ⟨Nat.le_refl 0, fun t ht => by omega, fun l hl => by omega⟩, fun a _ b => rfl, fun t ht => by omega⟩ (fun n s h4 => ?_) (fun n i s hi hs kk => ?_)
          · show ws_X1_fillSheet_166 _ _ _ _ _ _ _ _ _ _ _ _ _ _ _ _
            unfold ws_X1_fillSheet_166
            refine br_t (by decide) ?_
            obtain ⟨m, gl, m1, m2, m3, m4⟩ := h4
            rw [m1]
            refine hpost k m o gl op2 s.2 E m2 s2 (fun i hi => ?_)
            have fm1 : ∀ w, w < 4 → -1 ≤ f w := fun w hw => (fr w hw).2.1
            by_cases i0 : i = 0
            · subst i0
              refine ⟨fun j hj => ?_, ?_⟩
              · rw [m3 0 (by omega), h3.1 0 (by omega) j (by omega) (by omega), if_pos (by omega)]
                unfold gv rowA
                rw [if_pos rfl, if_pos rfl, Int.mul_comm]
              · rw [m3 0 (by omega), h3.2, sum_x E fm1]
                unfold rowB rowA
                rw [if_pos rfl, if_pos rfl, Int.zero_add]
            · by_cases i1 : i ≤ k
              · refine ⟨fun j hj => ?_, ?_⟩
                · rw [m3 i (by omega), h3.1 i (by omega) j (by omega) (by omega), if_pos (by omega)]
                  unfold gv rowA
                  rw [if_neg i0, if_pos i1, if_neg (by omega), if_neg i0, if_pos i1]
                  by_cases e : j = i - 1
                  · rw [if_pos e, ← e]
                    simp [ev]
                  · rw [if_neg e]
                    have ne : o j ≠ o (i - 1) := by
                      rcases Nat.lt_or_ge j (i - 1) with z | z
                      · have := E.2.2.1 j (i - 1) z (by omega); omega
                      · have := E.2.2.1 (i - 1) j (by omega) hj; omega
                    simp [ev, ne]
                · rw [m3 i (by omega), h3.1 i (by omega) 4 (by omega) (by omega), if_pos (by omega)]
                  unfold gv rowB rowA
                  rw [if_neg i0, if_pos i1, if_pos rfl, if_neg i0, if_pos i1, if_neg i0, if_pos i1, dot_ev _ (ho (i - 1) (by omega)).1, Int.zero_add]
              · by_cases i2 : i ≤ k + k
                · refine ⟨fun j hj => ?_, ?_⟩
                  · rw [m3 i (by omega), h3.1 i (by omega) j (by omega) (by omega), if_pos (by omega)]
                    unfold gv rowA
                    rw [if_neg i0, if_neg i1, if_neg (by omega), if_neg i0, if_neg i1, if_pos i2]
                    by_cases e : j = i - 1 - k
                    · rw [if_pos e, ← e]
                      simp [ev]
                    · rw [if_neg e]
                      have ne : o j ≠ o (i - 1 - k) := by
                        rcases Nat.lt_or_ge j (i - 1 - k) with z | z
                        · have := E.2.2.1 j (i - 1 - k) z (by omega); omega
                        · have := E.2.2.1 (i - 1 - k) j (by omega) hj; omega
                      simp [ev, ne]
                  · rw [m3 i (by omega), h3.1 i (by omega) 4 (by omega) (by omega), if_pos (by omega)]
                    unfold gv rowB rowA
                    rw [if_neg i0, if_neg i1, if_pos rfl, if_neg i0, if_neg i1, if_pos i2, if_neg i0, if_neg i1, if_pos i2, dot_negl, dot_ev _ (ho (i - 1 - k) (by omega)).1]
                    exact congrArg lI (by omega)
                · have t1 := m4 (i - 1 - (k + k)) (by omega)
                  have ti : 1 + (k + k) + (i - 1 - (k + k)) = i := by omega
                  rw [ti] at t1
                  refine ⟨fun j hj => ?_, ?_⟩
                  · rw [t1.1 j hj]
                    unfold rowA
                    rw [if_neg i0, if_neg i1, if_neg i2]
                    exact congrArg lI (Int.mul_comm _ _)
                  · rw [t1.2]
                    unfold rowB rowA
                    rw [if_neg i0, if_neg i1, if_neg i2, if_neg i0, if_neg i1, if_neg i2]
                    have sx := sum_x (V := V) (M := M) (g := fun w => us w (gl (i - 1 - (k + k)))) E fm1
                    rw [Int.add_assoc]
                    (try dsimp only at sx)
                    rw [sx]
                    refine congrArg lI ?_
                    simp only [dot]
                    grind
          · show ws_X1_fillSheet_166 _ _ _ _ _ _ _ _ _ _ _ _ _ _ _ _
            unfold ws_X1_fillSheet_166
            obtain ⟨m, gl, m1, m2, m3, m4⟩ := hs
            refine br_f (nI_ge (b := 5) hi (by omega)) ?_
            rw [nI_1, m1]
            refine br_c (fun q => ?_) (fun q => ?_)
            · have hbi := (hh i hi).mp q
              have m5 := m2.1
              refine sp_fillGate (V := V) (M := M) Ek (by omega) (by omega) hi ho gr fr (fun j hj => by rw [m3 (1 + j) (by omega), m3 (1 + j) (by omega)]; exact hT3 j hj) (fun T' t1 t2 t3 => ?_)
              refine kk (nI (1 + (k + k) + m + 1), T') ⟨m + 1, fun t => if t = m then i else gl t, rfl, ⟨by omega, fun t ht => ?_, fun l hl hbl => ?_⟩, fun a ha b => ?_, fun t ht => ?_⟩
              · by_cases e : t = m
                · simp only [if_pos e]; exact ⟨by omega, hbi⟩
                · simp only [if_neg e]
                  have := m2.2.1 t (by omega)
                  exact ⟨by omega, this.2⟩
              · by_cases e : l = i
                · exact ⟨m, by omega, by simp [e]⟩
                · obtain ⟨t, ht, et⟩ := m2.2.2 l (by omega) hbl
                  exact ⟨t, by omega, by simp only [if_neg (by omega : t ≠ m)]; exact et⟩
              · show T' a b = _
                rw [t1 a (by omega) b]
                exact m3 a ha b
              · by_cases e : t = m
                · subst e
                  simp only [if_true]
                  exact ⟨t2, t3⟩
                · simp only [if_neg e]
                  have := m4 t (by omega)
                  refine ⟨fun j hj => ?_, ?_⟩
                  · rw [t1 _ (by omega) j]; exact this.1 j hj
                  · rw [t1 _ (by omega) 4]; exact this.2
            · have hbi : ¬ hb i := fun z => q ((hh i hi).mpr z)
              refine kk (nI (1 + (k + k) + m), s.2) ⟨m, gl, rfl, ⟨by have := m2.1; omega, fun t ht => ?_, fun l hl hbl => ?_⟩, m3, m4⟩
              · have := m2.2.1 t ht
                exact ⟨by omega, this.2⟩
              · have : l ≠ i := fun e => hbi (e ▸ hbl)
                exact m2.2.2 l (by omega) hbl
        · show ws_X1_fillSheet_144 _ _ _ _ _ _ _ _ _ _ _ _ _ _ _ _
          unfold ws_X1_fillSheet_144
          refine br_f (nI_ge hi (by omega)) ?_
          rw [nI_1]
          refine sp_fillWish Ek hi (ho i hi).1 (E.2.1 i hi).2 (ho i hi).2 tr (fun T' hT' => kk T' ⟨fun a ha b hb z => ?_, ?_⟩)
          · have key := hs.1 a ha b hb z
            rw [hT', msJ, msJ, msJ, msJ, msJ, msJ]
            by_cases a0 : a = 0
            · subst a0
              rw [if_neg (by omega), if_neg (by omega), if_neg (by omega), if_neg (by omega)]
              by_cases b0 : b = i
              · subst b0
                rw [if_pos ⟨rfl, rfl⟩, if_pos (by omega)]
                unfold gv
                rw [if_pos rfl]
              · rw [if_neg (by omega), if_neg (by omega), key]
                by_cases g : b < i
                · rw [if_pos (by omega), if_pos (by omega)]
                · rw [if_neg (by omega), if_neg (by omega)]
            · by_cases a1 : a = 1 + i
              · subst a1
                have g1 : ¬ (1 + i = 1 + k + i) := by omega
                rw [if_neg (by omega), if_neg (by omega), if_pos (c := (1 + i = 0 ∧ b < i + 1) ∨ (1 ≤ 1 + i ∧ 1 + i ≤ i + 1) ∨ (k + 1 ≤ 1 + i ∧ 1 + i ≤ k + (i + 1))) (by omega)]
                unfold gv
                rw [if_neg (by omega : ¬ 1 + i = 0), if_pos (by omega : 1 + i ≤ k)]
                have ei : 1 + i - 1 = i := by omega
                rw [ei]
                by_cases b4 : b = 4
                · subst b4
                  rw [if_neg (by omega), if_pos ⟨rfl, rfl⟩, if_pos rfl]
                · by_cases bi : b = i
                  · subst bi
                    rw [if_pos ⟨rfl, rfl⟩, if_neg b4, if_pos rfl]
                  · rw [if_neg (by omega), if_neg (by omega), if_neg (by omega), if_neg (by omega), if_neg b4, if_neg bi, key, if_neg (by omega)]
              · by_cases a2 : a = 1 + k + i
                · subst a2
                  rw [if_pos (c := (1 + k + i = 0 ∧ b < i + 1) ∨ (1 ≤ 1 + k + i ∧ 1 + k + i ≤ i + 1) ∨ (k + 1 ≤ 1 + k + i ∧ 1 + k + i ≤ k + (i + 1))) (by omega)]
                  unfold gv
                  rw [if_neg (by omega : ¬ 1 + k + i = 0), if_neg (by omega : ¬ 1 + k + i ≤ k)]
                  have ei : 1 + k + i - 1 - k = i := by omega
                  rw [ei]
                  by_cases b4 : b = 4
                  · subst b4
                    rw [if_neg (by omega), if_pos ⟨rfl, rfl⟩, if_pos rfl]
                  · by_cases bi : b = i
                    · subst bi
                      rw [if_pos ⟨rfl, rfl⟩, if_neg b4, if_pos rfl]
                    · rw [if_neg (by omega), if_neg (by omega), if_neg (by omega), if_neg (by omega), if_neg (by omega), if_neg (by omega), if_neg b4, if_neg bi, key, if_neg (by omega)]
                · rw [if_neg (by omega), if_neg (by omega), if_neg (by omega), if_neg (by omega), if_neg (by omega), if_neg (by omega), key]
                  by_cases g : (a = 0 ∧ b < i) ∨ (1 ≤ a ∧ a ≤ i) ∨ (k + 1 ≤ a ∧ a ≤ k + i)
                  · rw [if_pos g, if_pos (by omega)]
                  · rw [if_neg g, if_neg (by omega)]
          · rw [hT', msJ, msJ, msJ, msJ, msJ, msJ, if_neg (by omega), if_neg (by omega), if_neg (by omega), if_neg (by omega), if_neg (by omega), if_pos ⟨rfl, rfl⟩, hs.2, lI_add]
            simp only [ssum]
            exact congrArg lI (by omega)
      · show ws_X1_fillSheet_96 _ _ _ _ _ _ _ _ _ _ _ _ _ _ _ _
        unfold ws_X1_fillSheet_96
        obtain ⟨f1, f2, f3⟩ := fr i hi
        obtain ⟨v1, v2, v3, _, _, _⟩ := tr i hi
        refine br_f (nI_ge (b := 4) hi (by omega)) ⟨vp_in_nI (by omega) (by omega), ?_⟩
        rw [nI_clamp (by omega), f1, v1, iI_0, nI_1, iI_l (ri _ (by omega) (by omega)), iI_l (ri _ (by omega) (by omega)), ← iI_0, c0, c4, iI_0]
        refine br_c (fun q => ?_) (fun q => ?_)
        · rw [iI_le (ri _ (by omega) (by omega)) (ri _ (by omega) (by omega))] at q
          refine kk s ⟨hs.1, ?_⟩
          rw [hs.2]
          simp only [ssum]
          rw [if_neg (by omega)]
          exact congrArg lI (by omega)
        · rw [iI_le (ri _ (by omega) (by omega)) (ri _ (by omega) (by omega))] at q
          intro v hv
          refine kk _ ⟨fun a ha b hb z => ?_, ?_⟩
          · rw [msJ, if_neg (by omega)]
            exact hs.1 a ha b hb z
          · rw [msJ, if_pos ⟨rfl, rfl⟩, hv, hs.2, lI_mul, lI_add]
            simp only [ssum]
            rw [if_pos (by omega)]
    · show ws_X1_fillSheet_70 _ _ _ _ _ _ _ _ _ _ _ _ _ _ _ _
      unfold ws_X1_fillSheet_70
      refine br_f (nI_ge hi (by omega)) ⟨vp_in_nI (by omega) (by omega), ?_⟩
      rw [nI_clamp (by omega), nI_1]
      refine sp_fillL (by omega) (fun w w1 w2 => kk _ (fun a ha b hb => ?_))
      by_cases e : a = i
      · subst e
        rw [va_up_self, w1 b hb]
        rfl
      · rw [va_up_ne _ _ e]
        exact hs a (by omega) b hb
  · show ws_X1_fillSheet_12 _ _ _ _ _ _ _ _ _ _ _ _ _ _ _ _
    unfold ws_X1_fillSheet_12
    obtain ⟨k, o, s1, s2, E⟩ := hs
    obtain ⟨f1, f2, f3⟩ := fr i hi
    have Ek := E.1
    refine br_f (nI_ge (b := 4) hi (by omega)) ⟨vp_in_nI (by omega) (by omega), ?_⟩
    rw [nI_clamp (by omega), f1, im, nI_1, s1, nI_1, nI_clamp (by omega)]
    refine br_c (fun q => ?_) (fun q => ?_)
    · rw [iI_eq (ri _ (by omega) (by omega)) (ri _ (by omega) (by omega))] at q
      refine ⟨vp_in_nI (by omega) (by omega), kk (nI (k + 1), upd s.2 k (nI i)) ⟨k + 1, fun j => if j = k then i else o j, rfl, fun j hj => ?_, EnumN_yes E q⟩⟩
      show upd s.2 k (nI i) j = _
      by_cases e : j = k
      · subst e
        rw [pk_us]
        simp
      · rw [pk_un e]
        simp only [if_neg e]
        exact s2 j (by omega)
    · rw [iI_eq (ri _ (by omega) (by omega)) (ri _ (by omega) (by omega))] at q
      exact kk (nI k, s.2) ⟨k, o, rfl, s2, EnumN_no E q⟩
