/-! the reference's find -/
def rdx (nW : Nat) (wo : Nat → Int32) (lo : Int32) (kd M' : Nat → Int) (w : Nat) : Nat := if w < nW ∧ wo w = 0 ∧ lo = 0 ∧ kd w = 1 then (M' w).toNat + 1 else if w < nW ∧ wo w = 0 ∧ lo = 0 ∧ kd w = 2 then 2 else 1
def gvx (nW : Nat) (wo : Nat → Int32) (lo : Int32) (kd M' : Nat → Int) (dg : Nat → Nat) (w : Nat) : Int := if w < nW ∧ wo w = 0 ∧ lo = 0 ∧ kd w = 1 then (dg w : Int) else if w < nW ∧ wo w = 0 ∧ lo = 0 ∧ kd w = 2 then (dg w : Int) * M' w else 0
def prd (r : Nat → Nat) : Nat → Nat
  | 0 => 1
  | n + 1 => prd r n * r n
/-- the number whose digits are dg, from place w on -/
def enc (r dg : Nat → Nat) (nW : Nat) : Nat → Nat
  | 0 => 0
  | k + 1 => dg (nW - 1 - k) + r (nW - 1 - k) * enc r dg nW k
theorem enc_lt {r dg : Nat → Nat} {nW : Nat} (h : ∀ w, w < nW → dg w < r w) : ∀ k : Nat, k ≤ nW → prd r (nW - k) * (enc r dg nW k + 1) ≤ prd r nW
  | 0, _ => by simp [enc]
  | k + 1, hk => by
    have i := enc_lt h k (by omega)
    have d := h (nW - 1 - k) (by omega)
    have e1 : nW - k = (nW - (k + 1)) + 1 := by omega
    have e2 : nW - 1 - k = nW - (k + 1) := by omega
    rw [e1] at i
    simp only [prd] at i
    simp only [enc]
    rw [e2] at d ⊢
    refine Nat.le_trans ?_ i
    rw [Nat.mul_assoc]
    refine Nat.mul_le_mul_left _ ?_
    rw [Nat.mul_add, Nat.mul_one]
    omega
def restx (r : Nat → Nat) (way : Nat) : Nat → Nat
  | 0 => way
  | w + 1 => restx r way w / r w
theorem rest_enc {r dg : Nat → Nat} {nW : Nat} (h : ∀ w, w < nW → dg w < r w) : ∀ w, w ≤ nW → restx r (enc r dg nW nW) w = enc r dg nW (nW - w)
  | 0, _ => rfl
  | w + 1, hw => by
    have i := rest_enc h w (by omega)
    have d := h w (by omega)
    simp only [restx]
    rw [i]
    have e1 : nW - w = (nW - (w + 1)) + 1 := by omega
    rw [e1]
    simp only [enc]
    have e2 : nW - 1 - (nW - (w + 1)) = w := by omega
    rw [e2, Nat.add_mul_div_left _ _ (by omega), Nat.div_eq_of_lt d, Nat.zero_add]
theorem dig_enc {r dg : Nat → Nat} {nW : Nat} (h : ∀ w, w < nW → dg w < r w) {w : Nat} (hw : w < nW) : restx r (enc r dg nW nW) w % r w = dg w := by
  have d := h w hw
  rw [rest_enc h w (by omega)]
  have e1 : nW - w = (nW - (w + 1)) + 1 := by omega
  rw [e1]
  simp only [enc]
  have e2 : nW - 1 - (nW - (w + 1)) = w := by omega
  rw [e2, Nat.add_mul_mod_self_left, Nat.mod_eq_of_lt d]
theorem restx_le (r : Nat → Nat) (way : Nat) : ∀ w, restx r way w ≤ way
  | 0 => Nat.le_refl _
  | w + 1 => Nat.le_trans (Nat.div_le_self _ _) (restx_le r way w)
section FM_
variable {nG nW : Nat} {U : Nat → Nat → Int} {lim M' V kd : Nat → Int} {lst : Nat → Prop} {ls ca go mo us va kn wo : Nat → Int32} {lo : Int32}
theorem prd_le {r : Nat → Nat} {B : Nat} (hB : 1 ≤ B) : ∀ n : Nat, (∀ w, w < n → r w ≤ B) → prd r n ≤ B ^ n
  | 0, _ => by simp [prd]
  | n + 1, h => by
    have i := prd_le hB n (fun w hw => h w (by omega))
    have j := h n (by omega)
    simp only [prd]
    rw [Nat.pow_succ]
    exact Nat.mul_le_mul i j
theorem sp_findM (hG : nG ≤ 5) (hW : nW ≤ 4) (mg : ModG nG nW U lim lst ls ca us) (hm : ∀ w, w < nW → mo w = iI (M' w) ∧ 0 ≤ M' w ∧ M' w ≤ 12) (hk : ∀ w, w < nW → kn w = iI (kd w) ∧ 0 ≤ kd w ∧ kd w ≤ 2) (hV : ∀ w, w < 4 → 0 ≤ V w ∧ V w ≤ 198) (hva : ∀ w, w < nW → va w = iI (V w)) (hlo : lo = 0 ∨ lo = 1)
    {by_ bb bw : Int64} {ib pt : Int32} {x bx row right m given : Nat → Int64} {part : Nat → Int32}
    {post : Int32 → Int64 → Int64 → Int64 → Int32 → Int32 → (Nat → Int64) → (Nat → Int64) → (Nat → Int32) → (Nat → Int64) → (Nat → Int64) → (Nat → Int64) → (Nat → Int64) → Prop}
    (hpost : ∀ (by_ bb bw : Int64) (ib pt : Int32) (x bx row right m given : Nat → Int64) (part : Nat → Int32) (h : Prop) (q : Nat → Int) (g : Int), FM nW V q g bb bw ib bx h → (h → IsB V (aM nW wo M') (if lo = 0 then kd else fun _ => 0) (GM nG nW U lim lst go) q g) → (¬ h → NoB (aM nW wo M') (if lo = 0 then kd else fun _ => 0) (GM nG nW U lim lst go)) → post ib by_ bb bw ib pt x bx part row right m given) :
    wp_X7_find (nI nG) (nI nW) by_ bb bw ib pt ls ca go va kn mo wo us x bx part row right m given lo post := by
  have ri : ∀ z : Int, -3000 ≤ z → z ≤ 3000 → rI z := fun z a b => ⟨by omega, by omega⟩
  have one : (1 : Int32) = nI 1 := rfl
  have two : (2 : Int32) = nI 2 := rfl
  have i1 : (1 : Int32) = iI 1 := rfl
  have i2 : (2 : Int32) = iI 2 := rfl
  have rle : ∀ w, rdx nW wo lo kd M' w ≤ 13 := fun w => by
    unfold rdx
    split
    · rename_i z
      have := hm w z.1
      omega
    · split <;> omega
  have rpos : ∀ w, 1 ≤ rdx nW wo lo kd M' w := fun w => by
    unfold rdx
    split
    · omega
    · split <;> omega
  have plt : ∀ i, i ≤ nW → prd (rdx nW wo lo kd M') i ≤ 28561 := fun i hi => by
    have a := prd_le (by omega : 1 ≤ 13) i (fun w _ => rle w)
    have b : 13 ^ i ≤ 13 ^ 4 := Nat.pow_le_pow_right (by omega) (by omega)
    have c : (13 : Nat) ^ 4 = 28561 := by decide
    omega
  have nop : ∀ w, (w < nW ∧ wo w = 0 ∧ (lo ≠ 0 ∨ kd w = 0)) → rdx nW wo lo kd M' w = 1 := fun w z => by
    unfold rdx
    rw [if_neg, if_neg]
    · rintro ⟨_, _, c, d⟩
      rcases z.2.2 with e | e
      · exact e c
      · omega
    · rintro ⟨_, _, c, d⟩
      rcases z.2.2 with e | e
      · exact e c
      · omega
  unfold wp_X7_find
  refine pk_loop (σ := Int32 × Int32 × (Nat → Int32)) (fun n i s => wl_X7_find_14 lo (nI nG) (nI nW) by_ bb bw (0 : Int32) ls ca go va kn mo wo us x bx row right m given _ post n s.1 (nI i) s.2.1 s.2.2)
    (fun i s => s.1 = nI (prd (rdx nW wo lo kd M') i) ∧ ∃ (p : Nat) (o : Nat → Nat), s.2.1 = nI p ∧ (∀ c, c < p → s.2.2 c = nI (o c)) ∧ EnumN (fun w => w < nW ∧ wo w = 0 ∧ (lo ≠ 0 ∨ kd w = 0)) i p o) nW 0 (1, 0, part) (Nat.zero_le _) ⟨rfl, 0, fun _ => 0, rfl, fun c hc => by omega, EnumN_0 _ _⟩ (fun n s hs => ?_) (fun n i s hi hs kk => ?_)
  · show ws_X7_find_14 _ _ _ _ _ _ _ _ _ _ _ _ _ _ _ _ _ _ _ _ _ _ _ _ _ _ _ _
    unfold ws_X7_find_14
    refine br_t (nI_le (Nat.le_refl _) (by omega)) ?_
    obtain ⟨s1, p, o, s2, s3, E0⟩ := hs
    have ext : ∀ k, EnumN (fun w => w < nW ∧ wo w = 0 ∧ (lo ≠ 0 ∨ kd w = 0)) (nW + k) p o := fun k => by
      induction k with
      | zero => exact E0
      | succ k ih => exact EnumN_no ih (fun y => absurd y.1 (Nat.not_lt.mpr (Nat.le_add_right nW k)))
    have E : EnumN (fun w => w < nW ∧ wo w = 0 ∧ (lo ≠ 0 ∨ kd w = 0)) 4 p o := by
      have e := ext (4 - nW)
      rw [Nat.add_sub_cancel' hW] at e
      exact e
    obtain ⟨pm, m1, m2, m3, m4⟩ := compl E
    have hsur : ∀ w, w < 4 → ∃ c, c < 4 ∧ pm c = w := fun w hw => by
      have i0 := m2 0 (by omega)
      have i1 := m2 1 (by omega)
      have i2 := m2 2 (by omega)
      have i3 := m2 3 (by omega)
      have n01 : pm 0 ≠ pm 1 := fun e => absurd (m3 0 1 (by omega) (by omega) e) (by omega)
      have n02 : pm 0 ≠ pm 2 := fun e => absurd (m3 0 2 (by omega) (by omega) e) (by omega)
      have n03 : pm 0 ≠ pm 3 := fun e => absurd (m3 0 3 (by omega) (by omega) e) (by omega)
      have n12 : pm 1 ≠ pm 2 := fun e => absurd (m3 1 2 (by omega) (by omega) e) (by omega)
      have n13 : pm 1 ≠ pm 3 := fun e => absurd (m3 1 3 (by omega) (by omega) e) (by omega)
      have n23 : pm 2 ≠ pm 3 := fun e => absurd (m3 2 3 (by omega) (by omega) e) (by omega)
      rcases (by omega : pm 0 = w ∨ pm 1 = w ∨ pm 2 = w ∨ pm 3 = w) with e | e | e | e
      · exact ⟨0, by omega, e⟩
      · exact ⟨1, by omega, e⟩
      · exact ⟨2, by omega, e⟩
      · exact ⟨3, by omega, e⟩
    have Ep := E.1
    generalize s.2.2 = prt at *
    rw [s1, s2]
    have mkCH : ∀ (dg : Nat → Nat) (gvn : Nat → Int64), (∀ w, w < nW → dg w < rdx nW wo lo kd M' w) → (∀ w, w < nW → gvn w = lI (gvx nW wo lo kd M' dg w)) → CH nG nW p pm (fun w => w < nW ∧ wo w = 0 ∧ (lo ≠ 0 ∨ kd w = 0)) U lim (gvx nW wo lo kd M' dg) M' (aM nW wo M') V (if lo = 0 then kd else fun _ => 0) lst ls ca mo us prt va gvn := by
      intro dg gvn hdg hgv
      have gb : ∀ w, w < 4 → 0 ≤ gvx nW wo lo kd M' dg w ∧ gvx nW wo lo kd M' dg w ≤ 12 ∧ (nW ≤ w → gvx nW wo lo kd M' dg w = 0) ∧ gvx nW wo lo kd M' dg w ≤ aM nW wo M' w ∧ ((if lo = 0 then kd else fun _ => 0) w = 2 → gvx nW wo lo kd M' dg w = 0 ∨ gvx nW wo lo kd M' dg w = aM nW wo M' w) := fun w hw => by
        unfold gvx
        by_cases a : w < nW ∧ wo w = 0 ∧ lo = 0 ∧ kd w = 1
        · rw [if_pos a]
          have d := hdg w a.1
          have e : rdx nW wo lo kd M' w = (M' w).toNat + 1 := by unfold rdx; rw [if_pos a]
          have f := hm w a.1
          have am : aM nW wo M' w = M' w := by unfold aM; rw [if_pos ⟨a.1, a.2.1⟩]
          rw [am, if_pos a.2.2.1]
          exact ⟨by omega, by omega, fun z => by omega, by omega, fun z => by omega⟩
        · rw [if_neg a]
          by_cases b : w < nW ∧ wo w = 0 ∧ lo = 0 ∧ kd w = 2
          · rw [if_pos b]
            have d := hdg w b.1
            have e : rdx nW wo lo kd M' w = 2 := by unfold rdx; rw [if_neg a, if_pos b]
            have f := hm w b.1
            have am : aM nW wo M' w = M' w := by unfold aM; rw [if_pos ⟨b.1, b.2.1⟩]
            rw [am]
            rcases (by omega : dg w = 0 ∨ dg w = 1) with t | t
            · rw [t]
              exact ⟨by omega, by omega, fun z => by omega, by omega, fun z => Or.inl (by omega)⟩
            · rw [t]
              exact ⟨by omega, by omega, fun z => by omega, by omega, fun z => Or.inr (by omega)⟩
          · rw [if_neg b]
            have am : 0 ≤ aM nW wo M' w := by
              unfold aM
              split
              · rename_i z; exact (hm w z.1).2.1
              · omega
            exact ⟨by omega, by omega, fun _ => rfl, am, fun _ => Or.inl rfl⟩
      have aMb : ∀ w, w < 4 → 0 ≤ aM nW wo M' w ∧ aM nW wo M' w ≤ 12 := fun w hw => by
        unfold aM
        split
        · rename_i z; exact (hm w z.1).2
        · omega
      refine ⟨hG, hW, Ep, fun w hw z => ⟨z.1, ?_, ?_, ?_⟩, m2, hsur, m3, fun c hc => ⟨by rw [m1 c hc]; exact (E.2.1 c hc).2, by rw [m1 c hc]; exact s3 c hc⟩, m4, mg, hm, hgv, fun w hw => ⟨(gb w hw).1, (gb w hw).2.1, (gb w hw).2.2.1⟩, fun w hw z => ⟨(gb w hw).2.2.2.1, (gb w hw).2.2.2.2⟩, hV, hva, aMb, fun w hw => ?_⟩
      · unfold gvx
        rw [if_neg, if_neg]
        · rintro ⟨_, _, c, d⟩
          rcases z.2.2 with e | e
          · exact e c
          · omega
        · rintro ⟨_, _, c, d⟩
          rcases z.2.2 with e | e
          · exact e c
          · omega
      · by_cases c : lo = 0
        · rw [if_pos c]
          rcases z.2.2 with e | e
          · exact absurd c e
          · exact e
        · rw [if_neg c]
      · unfold aM
        rw [if_pos ⟨z.1, z.2.1⟩]
      · unfold aM
        split
        · omega
        · exact (hm w hw).2.1
    refine pk_loop (σ := Int64 × Int64 × Int64 × Int32 × (Nat → Int64) × (Nat → Int64) × (Nat → Int64) × (Nat → Int64) × (Nat → Int64) × (Nat → Int64)) (fun n i s => wl_X7_find_109 lo (nI (prd (rdx nW wo lo kd M') nW)) (nI nG) (nI nW) (nI p) ls ca go va kn mo wo us prt _ post n (nI i) s.1 s.2.1 s.2.2.1 s.2.2.2.1 s.2.2.2.2.1 s.2.2.2.2.2.1 s.2.2.2.2.2.2.1 s.2.2.2.2.2.2.2.1 s.2.2.2.2.2.2.2.2.1 s.2.2.2.2.2.2.2.2.2)
      (fun i s => ∃ (h : Prop) (q : Nat → Int) (g : Int), FM nW V q g s.2.1 s.2.2.1 s.2.2.2.1 s.2.2.2.2.2.1 h ∧ Fnd (aM nW wo M') (if lo = 0 then kd else fun _ => 0) (GM nG nW U lim lst go) h q g ∧ ∀ way, way < i → CovP V (aM nW wo M') (GM nG nW U lim lst go) (fP (fun w => w < nW ∧ wo w = 0 ∧ (lo ≠ 0 ∨ kd w = 0)) (gvx nW wo lo kd M' (fun w => restx (rdx nW wo lo kd M') way w % rdx nW wo lo kd M' w))) h q g) (prd (rdx nW wo lo kd M') nW) 0 (by_, bb, bw, 0, x, bx, row, right, m, given) (Nat.zero_le _)
      ⟨False, fun _ => 0, 1, Or.inl ⟨fun z => z, rfl⟩, fun z => z.elim, fun way hw => by omega⟩ (fun n t ht => ?_) (fun n i t hi ht kk => ?_)
    · show ws_X7_find_109 _ _ _ _ _ _ _ _ _ _ _ _ _ _ _ _ _ _ _ _ _ _ _ _ _ _ _ _
      unfold ws_X7_find_109
      have pl := plt nW (Nat.le_refl _)
      refine br_t (nI_le (Nat.le_refl _) (by omega)) ?_
      obtain ⟨h, q, g, f1, f2, f3⟩ := ht
      have ibv : t.2.2.2.1 = 0 ∨ t.2.2.2.1 = 1 := by
        rcases f1 with ⟨_, e⟩ | ⟨_, e, _⟩
        · exact Or.inl e
        · exact Or.inr e
      have cov : ∀ y e, Pf (aM nW wo M') (GM nG nW U lim lst go) y e → Kd (aM nW wo M') (if lo = 0 then kd else fun _ => 0) y e → h ∧ Ge V q g y e := by
        intro y e py ky
        have ex : ∃ dg : Nat → Nat, ∀ w, (w < nW → dg w < rdx nW wo lo kd M' w) ∧ (w < 4 → ¬ (w < nW ∧ wo w = 0 ∧ (lo ≠ 0 ∨ kd w = 0)) → y w = gvx nW wo lo kd M' dg w * e) := by
          have pt : ∀ w, ∃ d : Nat, (w < nW → d < rdx nW wo lo kd M' w) ∧ (w < 4 → ¬ (w < nW ∧ wo w = 0 ∧ (lo ≠ 0 ∨ kd w = 0)) → y w = gvx nW wo lo kd M' (fun _ => d) w * e) := by
            intro w
            have e0 := py.1
            by_cases w4 : w < 4
            · have bx := py.2.1 w w4
              by_cases a : w < nW ∧ wo w = 0 ∧ lo = 0 ∧ kd w = 1
              · have kw := (ky w w4).1 (by rw [if_pos a.2.2.1]; exact a.2.2.2)
                obtain ⟨k, hk'⟩ := kw
                have am : aM nW wo M' w = M' w := by unfold aM; rw [if_pos ⟨a.1, a.2.1⟩]
                rw [am, hk'] at bx
                have k0 : 0 ≤ k := by
                  have := (mul_nn_i (a := k) e0)
                  rw [Int.mul_comm] at this
                  exact this.mp bx.1
                have k1 : k ≤ M' w := Int.le_of_mul_le_mul_right bx.2 e0
                refine ⟨k.toNat, fun _ => ?_, fun _ _ => ?_⟩
                · unfold rdx
                  rw [if_pos a]
                  omega
                · unfold gvx
                  rw [if_pos a, hk']
                  have : ((k.toNat : Nat) : Int) = k := by omega
                  rw [this]
              · by_cases b : w < nW ∧ wo w = 0 ∧ lo = 0 ∧ kd w = 2
                · have kw := (ky w w4).2 (by rw [if_pos b.2.2.1]; exact b.2.2.2)
                  have am : aM nW wo M' w = M' w := by unfold aM; rw [if_pos ⟨b.1, b.2.1⟩]
                  rw [am] at kw
                  have rr : rdx nW wo lo kd M' w = 2 := by unfold rdx; rw [if_neg a, if_pos b]
                  rcases kw with z | z
                  · refine ⟨0, fun _ => by omega, fun _ _ => ?_⟩
                    unfold gvx
                    rw [if_neg a, if_pos b, z]
                    simp
                  · refine ⟨1, fun _ => by omega, fun _ _ => ?_⟩
                    unfold gvx
                    rw [if_neg a, if_pos b, z]
                    simp
                · refine ⟨0, fun _ => by have := rpos w; omega, fun _ np => ?_⟩
                  unfold gvx
                  rw [if_neg a, if_neg b]
                  have am : aM nW wo M' w = 0 := by
                    unfold aM
                    rw [if_neg]
                    rintro ⟨c1, c2⟩
                    have kk := hk w c1
                    refine np ⟨c1, c2, ?_⟩
                    by_cases c3 : lo = 0
                    · refine Or.inr ?_
                      rcases (by omega : kd w = 0 ∨ kd w = 1 ∨ kd w = 2) with d | d | d
                      · exact d
                      · exact absurd ⟨c1, c2, c3, d⟩ a
                      · exact absurd ⟨c1, c2, c3, d⟩ b
                    · exact Or.inl c3
                  rw [am] at bx
                  omega
            · exact ⟨0, fun _ => by have := rpos w; omega, fun z => absurd z w4⟩
          refine ⟨fun w => (pt w).choose, fun w => ?_⟩
          have sp := (pt w).choose_spec
          refine ⟨sp.1, fun a b => ?_⟩
          have := sp.2 a b
          unfold gvx at this ⊢
          exact this
        obtain ⟨dg, hdg⟩ := ex
        have hd1 : ∀ w, w < nW → dg w < rdx nW wo lo kd M' w := fun w hw => (hdg w).1 hw
        have el := enc_lt hd1 nW (Nat.le_refl _)
        rw [Nat.sub_self] at el
        simp only [prd, Nat.one_mul] at el
        refine f3 (enc (rdx nW wo lo kd M') dg nW nW) (by omega) y e py (fun w hw n => ?_)
        have np : ¬ (w < nW ∧ wo w = 0 ∧ (lo ≠ 0 ∨ kd w = 0)) := fun z => n (if_pos z)
        have ev' : fP (fun w => w < nW ∧ wo w = 0 ∧ (lo ≠ 0 ∨ kd w = 0)) (gvx nW wo lo kd M' (fun w => restx (rdx nW wo lo kd M') (enc (rdx nW wo lo kd M') dg nW nW) w % rdx nW wo lo kd M' w)) w = gvx nW wo lo kd M' dg w := by
          unfold fP
          rw [if_neg np]
          unfold gvx
          by_cases z : w < nW
          · (try dsimp only)
            rw [dig_enc hd1 z]
          · rw [if_neg (fun y => z y.1), if_neg (fun y => z y.1), if_neg (fun y => z y.1), if_neg (fun y => z y.1)]
        rw [ev']
        exact (hdg w).2 hw np
      refine ⟨by rcases ibv with e | e <;> rw [e] <;> decide, hpost _ _ _ _ _ _ _ _ _ _ _ _ h q g f1 (fun z => ⟨(f2 z).1, (f2 z).2, fun y e py ky => (cov y e py ky).2⟩) (fun z y e py ky => z (cov y e py ky).1)⟩
    · show ws_X7_find_109 _ _ _ _ _ _ _ _ _ _ _ _ _ _ _ _ _ _ _ _ _ _ _ _ _ _ _ _
      unfold ws_X7_find_109
      have pl := plt nW (Nat.le_refl _)
      refine br_f (nI_ge hi (by omega)) ?_
      obtain ⟨h, q, g, f1, f2, f3⟩ := ht
      refine pk_loop (σ := Int32 × (Nat → Int64)) (fun n j u => wl_X7_find_120 lo (nI (prd (rdx nW wo lo kd M') nW)) (nI i) (nI nG) (nI nW) t.1 t.2.1 t.2.2.1 t.2.2.2.1 (nI p) ls ca go va kn mo wo us t.2.2.2.2.1 t.2.2.2.2.2.1 prt t.2.2.2.2.2.2.1 t.2.2.2.2.2.2.2.1 t.2.2.2.2.2.2.2.2.1 _ post n u.1 (nI j) u.2)
        (fun j u => u.1 = nI (restx (rdx nW wo lo kd M') i j) ∧ ∀ w, w < j → u.2 w = lI (gvx nW wo lo kd M' (fun w => restx (rdx nW wo lo kd M') i w % rdx nW wo lo kd M' w) w)) nW 0 (nI i, t.2.2.2.2.2.2.2.2.2) (Nat.zero_le _) ⟨rfl, fun w hw => by omega⟩ (fun n u hu => ?_) (fun n j u hj hu k2 => ?_)
      · show ws_X7_find_120 _ _ _ _ _ _ _ _ _ _ _ _ _ _ _ _ _ _ _ _ _ _ _ _ _ _ _ _ _ _
        unfold ws_X7_find_120
        refine br_t (nI_le (Nat.le_refl _) (by omega)) ?_
        refine sp_corners (mkCH (fun w => restx (rdx nW wo lo kd M') i w % rdx nW wo lo kd M' w) u.2 (fun w _ => Nat.mod_lt _ (rpos w)) hu.2) f1 f2 (fun by_ bb bw ib x bx row right m h' q' g' e1 e2 e3 e4 => ?_)
        rw [nI_1 i]
        refine kk (by_, bb, bw, ib, x, bx, row, right, m, u.2) ⟨h', q', g', e1, e2, fun way hw => ?_⟩
        by_cases z : way = i
        · subst z; exact e4
        · exact CovP_up f2 e2 e3 (f3 way (by omega))
      · show ws_X7_find_120 _ _ _ _ _ _ _ _ _ _ _ _ _ _ _ _ _ _ _ _ _ _ _ _ _ _ _ _ _ _
        unfold ws_X7_find_120
        obtain ⟨u1, u2⟩ := hu
        have cj : (nI j).toNatClampNeg = j := nI_clamp (by omega)
        have rl := restx_le (rdx nW wo lo kd M') i j
        obtain ⟨k1, k2', k3⟩ := hk j hj
        obtain ⟨mm1, mm2, mm3⟩ := hm j hj
        have mo1 : mo j + 1 = nI ((M' j).toNat + 1) := by
          rw [mm1, i1, iI_add, nI_iI]
          exact congrArg iI (by push_cast; omega)
        -- what comes next, once the digit is set
        have nxt : ∀ (r' : Nat) (gn : Nat → Int64), r' = restx (rdx nW wo lo kd M') i (j + 1) → gn j = lI (gvx nW wo lo kd M' (fun w => restx (rdx nW wo lo kd M') i w % rdx nW wo lo kd M' w) j) → (∀ w, w < j → gn w = u.2 w) → ∀ kb : Int32 → Int32 → (Nat → Int64) → Prop, (∀ v : Int32 × (Nat → Int64), v.1 = nI (restx (rdx nW wo lo kd M') i (j + 1)) ∧ (∀ w, w < j + 1 → v.2 w = lI (gvx nW wo lo kd M' (fun w => restx (rdx nW wo lo kd M') i w % rdx nW wo lo kd M' w) w)) → kb v.1 (nI (j + 1)) v.2) → kb (nI r') (nI (j + 1)) gn := by
          intro r' gn h1 h2 h3 kb k
          refine k (nI r', gn) ⟨by rw [h1], fun w hw => ?_⟩
          by_cases z : w = j
          · subst z; exact h2
          · show gn w = _
            rw [h3 w (by omega)]
            exact u2 w (by omega)
        have r1case : rdx nW wo lo kd M' j = 1 → restx (rdx nW wo lo kd M') i (j + 1) = restx (rdx nW wo lo kd M') i j := fun z => by
          simp only [restx]
          rw [z, Nat.div_one]
        have g0case : ¬ (j < nW ∧ wo j = 0 ∧ lo = 0 ∧ kd j = 1) → ¬ (j < nW ∧ wo j = 0 ∧ lo = 0 ∧ kd j = 2) → ∀ dg, gvx nW wo lo kd M' dg j = 0 ∧ rdx nW wo lo kd M' j = 1 := fun a b dg => by
          unfold gvx rdx
          rw [if_neg a, if_neg b, if_neg a, if_neg b]
          exact ⟨rfl, rfl⟩
        refine br_f (nI_ge hj (by omega)) ⟨vp_in_nI (by omega) (by omega), ?_⟩
        rw [cj, u1, nI_1 j]
        have j199 : ¬ (j < nW ∧ wo j = 0 ∧ lo = 0 ∧ kd j = 1) → ∀ (kb : Int32 → Int32 → (Nat → Int64) → Prop) (kx : (Nat → Int64) → Prop), (∀ v : Int32 × (Nat → Int64), v.1 = nI (restx (rdx nW wo lo kd M') i (j + 1)) ∧ (∀ w, w < j + 1 → v.2 w = lI (gvx nW wo lo kd M' (fun w => restx (rdx nW wo lo kd M') i w % rdx nW wo lo kd M' w) w)) → kb v.1 (nI (j + 1)) v.2) →
            wj_X7_find_199 lo (nI (prd (rdx nW wo lo kd M') nW)) (nI i) (nI (restx (rdx nW wo lo kd M') i j)) (nI j) (nI nG) (nI nW) t.1 t.2.1 t.2.2.1 t.2.2.2.1 (nI p) ls ca go va kn mo wo us t.2.2.2.2.1 t.2.2.2.2.2.1 prt t.2.2.2.2.2.2.1 t.2.2.2.2.2.2.2.1 t.2.2.2.2.2.2.2.2.1 (vp_updL u.2 j (0 : Int64)) kb kx post := by
          intro n1 kb kx k
          unfold wj_X7_find_199
          refine ⟨vp_in_nI (by omega) (by omega), ?_⟩
          rw [cj, nI_1 j]
          have zero : ¬ (j < nW ∧ wo j = 0 ∧ lo = 0 ∧ kd j = 2) → kb (nI (restx (rdx nW wo lo kd M') i j)) (nI (j + 1)) (vp_updL u.2 j (0 : Int64)) := fun n2 => by
            have gz := g0case n1 n2
            refine nxt _ _ (r1case (gz (fun _ => 0)).2).symm ?_ (fun w hw => pk_uLn (by omega)) kb k
            rw [pk_uLs, (gz _).1]
            rfl
          refine br_c (fun z1 => br_c (fun z2 => br_c (fun z3 => ?_) (fun z3 => ?_)) (fun z2 => ?_)) (fun z1 => ?_)
          · have z4 : kd j = 2 := by
              rw [k1, i2, iI_eq (ri _ (by omega) (by omega)) (ri _ (by omega) (by omega))] at z3
              exact z3
            have hh : j < nW ∧ wo j = 0 ∧ lo = 0 ∧ kd j = 2 := ⟨hj, z1, z2, z4⟩
            have r2 : rdx nW wo lo kd M' j = 2 := by unfold rdx; rw [if_neg n1, if_pos hh]
            have dv : nI (restx (rdx nW wo lo kd M') i j) / (2 : Int32) = nI (restx (rdx nW wo lo kd M') i j / 2) := pk_div (d := 2) (by omega) (by decide) (by decide)
            have rm : nI (restx (rdx nW wo lo kd M') i j) - nI (restx (rdx nW wo lo kd M') i j) / (2 : Int32) * (2 : Int32) = nI (restx (rdx nW wo lo kd M') i j % 2) := pk_rem (d := 2) (by omega) (by decide) (by decide)
            intro v hv
            rw [dv]
            refine nxt _ _ (by simp only [restx]; rw [r2]) ?_ (fun w hw => by rw [pk_uLn (by omega), pk_uLn (by omega)]) kb k
            have ml := Nat.mod_lt (restx (rdx nW wo lo kd M') i j) (by omega : 0 < 2)
            have mb := ab_mul (x := ((restx (rdx nW wo lo kd M') i j % 2 : Nat) : Int)) (X := 1) (y := M' j) (Y := 12) (by omega) (by omega) (by omega) (by omega)
            rw [pk_uLs, hv, rm, mm1, nI_iI, iI_mul, iI_l (ri _ (by omega) (by omega))]
            unfold gvx
            rw [if_neg n1, if_pos hh]
            (try dsimp only)
            rw [r2]
          · refine zero (fun y => z3 ?_)
            rw [k1, y.2.2.2]
            rfl
          · exact zero (fun y => z2 y.2.2.1)
          · exact zero (fun y => z1 y.2.1)
        refine br_c (fun z1 => br_c (fun z2 => br_c (fun z3 => ?_) (fun z3 => ?_)) (fun z2 => ?_)) (fun z1 => ?_)
        · have z4 : kd j = 1 := by
            rw [k1, i1, iI_eq (ri _ (by omega) (by omega)) (ri _ (by omega) (by omega))] at z3
            exact z3
          have hh : j < nW ∧ wo j = 0 ∧ lo = 0 ∧ kd j = 1 := ⟨hj, z1, z2, z4⟩
          have r2 : rdx nW wo lo kd M' j = (M' j).toNat + 1 := by unfold rdx; rw [if_pos hh]
          have dv : nI (restx (rdx nW wo lo kd M') i j) / nI ((M' j).toNat + 1) = nI (restx (rdx nW wo lo kd M') i j / ((M' j).toNat + 1)) := pk_div (by omega) (by omega) (by omega)
          have rm : nI (restx (rdx nW wo lo kd M') i j) - nI (restx (rdx nW wo lo kd M') i j) / nI ((M' j).toNat + 1) * nI ((M' j).toNat + 1) = nI (restx (rdx nW wo lo kd M') i j % ((M' j).toNat + 1)) := pk_rem (by omega) (by omega) (by omega)
          rw [mo1, rm, dv]
          refine ⟨nI_ne0 (by omega) (by omega), fun v hv => ⟨nI_ne0 (by omega) (by omega), ?_⟩⟩
          refine nxt _ _ (by simp only [restx]; rw [r2]) ?_ (fun w hw => by rw [pk_uLn (by omega), pk_uLn (by omega)]) _ k2
          have ml := Nat.mod_lt (restx (rdx nW wo lo kd M') i j) (by omega : 0 < (M' j).toNat + 1)
          rw [pk_uLs, hv, nI_iI, iI_l (ri _ (by omega) (by omega))]
          unfold gvx
          rw [if_pos hh]
          (try dsimp only)
          rw [r2]
        · refine j199 (fun y => z3 ?_) _ _ k2
          rw [k1, y.2.2.2]
          rfl
        · exact j199 (fun y => z2 y.2.2.1) _ _ k2
        · exact j199 (fun y => z1 y.2.1) _ _ k2
  · show ws_X7_find_14 _ _ _ _ _ _ _ _ _ _ _ _ _ _ _ _ _ _ _ _ _ _ _ _ _ _ _ _
    unfold ws_X7_find_14
    obtain ⟨s1, p, o, s2, s3, E⟩ := hs
    have Ep := E.1
    have ci : (nI i).toNatClampNeg = i := nI_clamp (by omega)
    obtain ⟨k1, k2, k3⟩ := hk i hi
    obtain ⟨mm1, mm2, mm3⟩ := hm i hi
    have pl := plt i (by omega)
    have pl2 := plt (i + 1) (by omega)
    have mo1 : mo i + 1 = nI ((M' i).toNat + 1) := by
      rw [mm1, i1, iI_add, nI_iI]
      exact congrArg iI (by push_cast; omega)
    refine br_f (nI_ge hi (by omega)) ⟨vp_in_nI (by omega) (by omega), ?_⟩
    rw [ci, s1, s2]
    have yes : (i < nW ∧ wo i = 0 ∧ (lo ≠ 0 ∨ kd i = 0)) → ∀ (kb : Int32 → Int32 → Int32 → (Nat → Int32) → Prop) (kx : Int32 → Int32 → (Nat → Int32) → Prop), (∀ v : Int32 × Int32 × (Nat → Int32), (v.1 = nI (prd (rdx nW wo lo kd M') (i + 1)) ∧ ∃ (p : Nat) (o : Nat → Nat), v.2.1 = nI p ∧ (∀ c, c < p → v.2.2 c = nI (o c)) ∧ EnumN (fun w => w < nW ∧ wo w = 0 ∧ (lo ≠ 0 ∨ kd w = 0)) (i + 1) p o) → kb v.1 (nI (i + 1)) v.2.1 v.2.2) → wj_X7_find_44 lo (nI (prd (rdx nW wo lo kd M') i)) (nI i) (nI nG) (nI nW) by_ bb bw (0 : Int32) (nI p) ls ca go va kn mo wo us x bx s.2.2 row right m given kb kx post := by
      intro y kb kx k
      unfold wj_X7_find_44
      have cp : (nI p).toNatClampNeg = p := nI_clamp (by omega)
      refine ⟨vp_in_nI (by omega) (by omega), ?_⟩
      rw [cp, nI_1 i, nI_1 p]
      refine k (nI (prd (rdx nW wo lo kd M') i), nI (p + 1), upd s.2.2 p (nI i)) ⟨?_, p + 1, fun j => if j = p then i else o j, rfl, fun c hc => ?_, EnumN_yes E y⟩
      · simp only [prd]
        rw [nop i y, Nat.mul_one]
      · show upd s.2.2 p (nI i) c = _
        by_cases e : c = p
        · subst e
          rw [pk_us]
          simp
        · rw [pk_un e]
          simp only [if_neg e]
          exact s3 c (by omega)
    have no : ¬ (i < nW ∧ wo i = 0 ∧ (lo ≠ 0 ∨ kd i = 0)) → ∀ (kb : Int32 → Int32 → Int32 → (Nat → Int32) → Prop) (kx : Int32 → Int32 → (Nat → Int32) → Prop), (∀ v : Int32 × Int32 × (Nat → Int32), (v.1 = nI (prd (rdx nW wo lo kd M') (i + 1)) ∧ ∃ (p : Nat) (o : Nat → Nat), v.2.1 = nI p ∧ (∀ c, c < p → v.2.2 c = nI (o c)) ∧ EnumN (fun w => w < nW ∧ wo w = 0 ∧ (lo ≠ 0 ∨ kd w = 0)) (i + 1) p o) → kb v.1 (nI (i + 1)) v.2.1 v.2.2) → wj_X7_find_67 lo (nI (prd (rdx nW wo lo kd M') i)) (nI i) (nI nG) (nI nW) by_ bb bw (0 : Int32) (nI p) ls ca go va kn mo wo us x bx s.2.2 row right m given kb kx post := by
      intro y kb kx k
      have fin : ∀ z : Nat, z = prd (rdx nW wo lo kd M') (i + 1) → kb (nI z) (nI (i + 1)) (nI p) s.2.2 := fun z hz => k (nI z, nI p, s.2.2) ⟨by rw [hz], p, o, rfl, s3, EnumN_no E y⟩
      unfold wj_X7_find_67
      refine ⟨vp_in_nI (by omega) (by omega), ?_⟩
      rw [ci, nI_1 i]
      refine br_c (fun z1 => br_c (fun z2 => ?_) (fun z2 => ?_)) (fun z1 => ?_)
      · have z3 : kd i = 1 := by
          rw [k1, i1, iI_eq (ri _ (by omega) (by omega)) (ri _ (by omega) (by omega))] at z2
          exact z2
        have z4 : lo = 0 := by
          by_cases e : lo = 0
          · exact e
          · exact absurd ⟨hi, z1, Or.inl e⟩ y
        rw [mo1, pk_mul]
        refine fin _ ?_
        simp only [prd]
        congr 1
        unfold rdx
        rw [if_pos ⟨hi, z1, z4, z3⟩]
      · have z3 : ¬ kd i = 1 := fun e => z2 (by rw [k1, e]; rfl)
        have z4 : lo = 0 := by
          by_cases e : lo = 0
          · exact e
          · exact absurd ⟨hi, z1, Or.inl e⟩ y
        have z5 : kd i = 2 := by
          rcases (by omega : kd i = 0 ∨ kd i = 1 ∨ kd i = 2) with d | d | d
          · exact absurd ⟨hi, z1, Or.inr d⟩ y
          · exact absurd d z3
          · exact d
        rw [two, pk_mul]
        refine fin _ ?_
        simp only [prd]
        congr 1
        unfold rdx
        rw [if_neg (fun t => z3 t.2.2.2), if_pos ⟨hi, z1, z4, z5⟩]
      · refine fin _ ?_
        simp only [prd]
        have : rdx nW wo lo kd M' i = 1 := by
          unfold rdx
          rw [if_neg (fun t => z1 t.2.1), if_neg (fun t => z1 t.2.1)]
        rw [this, Nat.mul_one]
    refine br_c (fun z1 => br_c (fun z2 => br_c (fun z3 => ?_) (fun z3 => ?_)) (fun z2 => ?_)) (fun z1 => ?_)
    · have z4 : kd i = 0 := by
        rw [k1, iI_0, iI_eq (ri _ (by omega) (by omega)) (ri _ (by omega) (by omega))] at z3
        exact z3
      exact yes ⟨hi, z1, Or.inr z4⟩ _ _ kk
    · have z4 : ¬ kd i = 0 := fun e => z3 (by rw [k1, e]; rfl)
      exact no (fun y => by
        rcases y.2.2 with e | e
        · exact e z2
        · exact z4 e) _ _ kk
    · exact yes ⟨hi, z1, Or.inl z2⟩ _ _ kk
    · exact no (fun y => z1 y.2.1) _ _ kk
end FM_
