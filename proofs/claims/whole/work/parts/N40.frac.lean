/-! fractions in least terms -/
theorem lN_lI (n : Nat) : lN n = lI n := (Int64.ofInt_eq_ofNat).symm
theorem abs_lN {a : Int} (h : rL a) : (if (0 : Int64) < lI a then lI a else - lI a) = lN a.natAbs := by
  have r0 : rL 0 := ⟨by omega, by omega⟩
  rw [lN_lI]
  by_cases z : 0 < a
  · rw [if_pos (by rw [lI_0, lI_lt r0 h]; exact z)]
    exact congrArg lI (by omega)
  · rw [if_neg (by rw [lI_0, lI_lt r0 h]; exact z), lI_neg]
    exact congrArg lI (by omega)
theorem mod_half {x y : Nat} (h0 : 0 < y) (h : y < x) : 2 * (x % y) < x := by
  have a := Nat.mod_lt x h0
  have b := Nat.div_add_mod x y
  have c : 1 ≤ x / y := Nat.div_pos (Nat.le_of_lt h) h0
  have d : y * 1 ≤ y * (x / y) := Nat.mul_le_mul_left y c
  omega
theorem sp_gcdloop {post : Int64 → Prop} {G : Nat} (hp : post (lN G)) : ∀ (k X Y t : Nat), X < 2 ^ 62 → Y < 2 ^ 62 → Y < 2 ^ k → t + 2 * k ≤ 100 → Nat.gcd X Y = G → ∃ n, wl_X6_gcd_15 (fun (x : Int64) => post x) post n (lN X) (lN Y) (nI t) := by
  intro k
  have zr : (0 : Int64) = lN 0 := rfl
  have stop : ∀ X t : Nat, Nat.gcd X 0 = G → ∃ n, wl_X6_gcd_15 (fun (x : Int64) => post x) post n (lN X) (lN 0) (nI t) := fun X t hg => by
    refine ⟨1, ?_⟩
    show ws_X6_gcd_15 _ _ _ _ _ _
    unfold ws_X6_gcd_15
    rw [Nat.gcd_zero_right] at hg
    rw [hg]
    exact br_c (fun _ => hp) (fun _ => br_t rfl hp)
  have step : ∀ X Y t : Nat, X < 2 ^ 62 → Y < 2 ^ 62 → 0 < Y → t < 100 → (∃ n, wl_X6_gcd_15 (fun (x : Int64) => post x) post n (lN Y) (lN (X % Y)) (nI (t + 1))) → ∃ n, wl_X6_gcd_15 (fun (x : Int64) => post x) post n (lN X) (lN Y) (nI t) := fun X Y t h1 h2 h3 h4 ⟨n, hn⟩ => by
    refine ⟨n + 1, ?_⟩
    show ws_X6_gcd_15 _ _ _ _ _ _
    unfold ws_X6_gcd_15
    have ne : ¬ lN Y = (0 : Int64) := by rw [zr, pk_lEQ (by omega) (by omega)]; omega
    refine br_f (nI_ge (b := 100) h4 (by omega)) (br_f ne ⟨ne, ?_⟩)
    rw [pk_lRem (by omega) h3 (by omega), nI_1 t]
    exact hn
  induction k with
  | zero =>
    intro X Y t h1 h2 h3 h4 hg
    have : Y = 0 := by omega
    subst this
    exact stop X t hg
  | succ k ih =>
    intro X Y t h1 h2 h3 h4 hg
    rcases Nat.eq_zero_or_pos Y with z | z
    · subst z
      exact stop X t hg
    · have m1 := Nat.mod_lt X z
      have g1 : Nat.gcd Y (X % Y) = G := by
        rw [← hg, Nat.gcd_comm X Y, Nat.gcd_rec Y X, Nat.gcd_comm]
      refine step X Y t h1 h2 z (by omega) ?_
      rcases Nat.eq_zero_or_pos (X % Y) with y | y
      · rw [y] at g1 ⊢
        exact stop Y (t + 1) g1
      · have m2 := mod_half y m1
        have g2 : Nat.gcd (X % Y) (Y % (X % Y)) = G := by
          rw [← g1, Nat.gcd_comm Y (X % Y), Nat.gcd_rec (X % Y) Y, Nat.gcd_comm]
        refine step Y (X % Y) (t + 1) h2 (by omega) y (by omega) (ih (X % Y) (Y % (X % Y)) (t + 2) (by omega) (by omega) ?_ (by omega) g2)
        have : 2 ^ (k + 1) = 2 ^ k * 2 := Nat.pow_succ 2 k
        omega
theorem sp_gcd {a b : Int} (ha : rL a) (ha2 : a.natAbs < 2 ^ 62) (b0 : 0 < b) (b1 : b < 2 ^ 49) {post : Int64 → Prop} (h : post (lN (Nat.gcd a.natAbs b.natAbs))) : wp_X6_gcd (lI a) (lI b) post := by
  unfold wp_X6_gcd
  rw [abs_lN ha, abs_lN ⟨by omega, by omega⟩]
  exact sp_gcdloop h 49 a.natAbs b.natAbs 0 ha2 (by omega) (by omega) (by omega) rfl
theorem sp_commonloop {post : Int64 → Prop} {G : Nat} (hp : post (lN G)) : ∀ (N X Y : Nat), Y < N → X < 2 ^ 62 → Y < 2 ^ 62 → Nat.gcd X Y = G → ∃ n, wl_X7_common_17 (fun (x : Int64) => post x) post n (lN X) (lN Y) := by
  have zr : (0 : Int64) = lN 0 := rfl
  intro N
  induction N with
  | zero => intro X Y h; omega
  | succ N ih =>
    intro X Y h h1 h2 hg
    rcases Nat.eq_zero_or_pos Y with z | z
    · subst z
      refine ⟨1, ?_⟩
      show ws_X7_common_17 _ _ _ _ _
      unfold ws_X7_common_17
      rw [Nat.gcd_zero_right] at hg
      rw [hg]
      exact br_t rfl hp
    · have m1 := Nat.mod_lt X z
      have g1 : Nat.gcd Y (X % Y) = G := by
        rw [← hg, Nat.gcd_comm X Y, Nat.gcd_rec Y X, Nat.gcd_comm]
      obtain ⟨n, hn⟩ := ih Y (X % Y) (by omega) h2 (by omega) g1
      refine ⟨n + 1, ?_⟩
      show ws_X7_common_17 _ _ _ _ _
      unfold ws_X7_common_17
      have ne : ¬ lN Y = (0 : Int64) := by rw [zr, pk_lEQ (by omega) (by omega)]; omega
      refine br_f ne ⟨ne, ?_⟩
      rw [pk_lRem (by omega) z (by omega)]
      exact hn
theorem sp_common {a b : Int} (ha : rL a) (ha2 : a.natAbs < 2 ^ 62) (b0 : 0 < b) (b1 : b < 2 ^ 49) {post : Int64 → Prop} (h : post (lN (Nat.gcd a.natAbs b.natAbs))) : wp_X7_common (lI a) (lI b) post := by
  have r0 : rL 0 := ⟨by omega, by omega⟩
  have eb : lI b = lN b.natAbs := by rw [lN_lI]; exact congrArg lI (by omega)
  unfold wp_X7_common
  rw [eb, lI_0]
  refine br_c (fun z => ?_) (fun z => ?_)
  · rw [lI_le r0 ha] at z
    have ea : lI a = lN a.natAbs := by rw [lN_lI]; exact congrArg lI (by omega)
    rw [ea]
    exact sp_commonloop h _ _ _ (Nat.lt_succ_self _) ha2 (by omega) rfl
  · rw [lI_le r0 ha] at z
    have ea : - lI a = lN a.natAbs := by rw [lN_lI, lI_neg]; exact congrArg lI (by omega)
    rw [ea]
    exact sp_commonloop h _ _ _ (Nat.lt_succ_self _) ha2 (by omega) rfl
/-- upper (0) and lower (1) number of a by b in least terms -/
def frc (a b : Int) (what : Int32) : Int := if what = 0 then a / ((Nat.gcd a.natAbs b.natAbs : Nat) : Int) else b / ((Nat.gcd a.natAbs b.natAbs : Nat) : Int)
theorem dv_exact {a : Int} {G : Nat} (hG : 0 < G) (hG2 : G < 2 ^ 49) (ha : rL a) (hd : (G : Int) ∣ a) : lI a / lN G = lI (a / (G : Int)) := by
  obtain ⟨k, hk⟩ := hd
  rw [lN_lI, hk]
  rw [hk] at ha
  rw [lI_exact (by omega) ha ⟨by omega, by omega⟩, Int.mul_ediv_cancel_left _ (by omega)]
theorem gcd_pos {a b : Int} (b0 : 0 < b) : 0 < Nat.gcd a.natAbs b.natAbs ∧ Nat.gcd a.natAbs b.natAbs ≤ b.natAbs :=
  ⟨Nat.gcd_pos_of_pos_right _ (by omega), Nat.gcd_le_right _ (by omega)⟩
theorem gcd_dvd {a b : Int} : ((Nat.gcd a.natAbs b.natAbs : Nat) : Int) ∣ a ∧ ((Nat.gcd a.natAbs b.natAbs : Nat) : Int) ∣ b :=
  ⟨Int.dvd_natAbs.mp (Int.natCast_dvd_natCast.mpr (Nat.gcd_dvd_left _ _)), Int.dvd_natAbs.mp (Int.natCast_dvd_natCast.mpr (Nat.gcd_dvd_right _ _))⟩
theorem sp_side {a b : Int} {what : Int32} (ha : -(2 ^ 60) ≤ a ∧ a ≤ 2 ^ 60) (b0 : 0 < b) (b1 : b < 2 ^ 49) {post : Int64 → Prop} (h : post (lI (frc a b what))) : wp_X6_side (lI a) (lI b) what post := by
  have g := gcd_pos (a := a) b0
  have d := gcd_dvd (a := a) (b := b)
  have rb : rL b := ⟨by omega, by omega⟩
  have ra : rL a := ⟨by omega, by omega⟩
  have zr : (0 : Int64) = lN 0 := rfl
  unfold wp_X6_side
  refine sp_gcd ra (by omega) b0 b1 ?_
  have ne : ¬ lN (Nat.gcd a.natAbs b.natAbs) = (0 : Int64) := by rw [zr, pk_lEQ (by omega) (by omega)]; omega
  unfold frc at h
  refine br_f ne (br_c (fun z => ⟨ne, ?_⟩) (fun z => ⟨ne, ?_⟩))
  · rw [dv_exact g.1 (by omega) ra d.1]
    rw [if_pos z] at h
    exact h
  · rw [dv_exact g.1 (by omega) rb d.2]
    rw [if_neg z] at h
    exact h
theorem sp_toldM {a b : Int} {what : Int32} (ha : -(2 ^ 60) ≤ a ∧ a ≤ 2 ^ 60) (b0 : 0 < b) (b1 : b < 2 ^ 49) {post : Int64 → Prop} (h : post (lI (frc a b what))) : wp_X7_told (lI a) (lI b) what post := by
  have g := gcd_pos (a := a) b0
  have d := gcd_dvd (a := a) (b := b)
  have rb : rL b := ⟨by omega, by omega⟩
  have ra : rL a := ⟨by omega, by omega⟩
  have zr : (0 : Int64) = lN 0 := rfl
  unfold wp_X7_told
  refine sp_common ra (by omega) b0 b1 ?_
  have ne : ¬ lN (Nat.gcd a.natAbs b.natAbs) = (0 : Int64) := by rw [zr, pk_lEQ (by omega) (by omega)]; omega
  unfold frc at h
  refine br_c (fun z => ⟨ne, ?_⟩) (fun z => ⟨ne, ?_⟩)
  · rw [dv_exact g.1 (by omega) ra d.1]
    rw [if_pos z] at h
    exact h
  · rw [dv_exact g.1 (by omega) rb d.2]
    rw [if_neg z] at h
    exact h
/-- the same ratio, the same fraction -/
theorem frc_eq {a b c d : Int} (b0 : 0 < b) (d0 : 0 < d) (h : a * d = c * b) (what : Int32) : frc a b what = frc c d what := by
  have g1 := gcd_pos (a := a) b0
  have g2 := gcd_pos (a := c) d0
  obtain ⟨⟨α, ha⟩, ⟨β, hb⟩⟩ := gcd_dvd (a := a) (b := b)
  obtain ⟨⟨γ, hc⟩, ⟨δ, hd⟩⟩ := gcd_dvd (a := c) (b := d)
  have cp1 : Nat.Coprime α.natAbs β.natAbs := by
    have e1 : α.natAbs = a.natAbs / Nat.gcd a.natAbs b.natAbs := by
      have : a.natAbs = Nat.gcd a.natAbs b.natAbs * α.natAbs := by
        have := congrArg Int.natAbs ha
        rw [Int.natAbs_mul, Int.natAbs_natCast] at this
        exact this
      exact (Nat.div_eq_of_eq_mul_right g1.1 this).symm
    have e2 : β.natAbs = b.natAbs / Nat.gcd a.natAbs b.natAbs := by
      have : b.natAbs = Nat.gcd a.natAbs b.natAbs * β.natAbs := by
        have := congrArg Int.natAbs hb
        rw [Int.natAbs_mul, Int.natAbs_natCast] at this
        exact this
      exact (Nat.div_eq_of_eq_mul_right g1.1 this).symm
    rw [e1, e2]
    exact Nat.coprime_div_gcd_div_gcd g1.1
  have cp2 : Nat.Coprime γ.natAbs δ.natAbs := by
    have e1 : γ.natAbs = c.natAbs / Nat.gcd c.natAbs d.natAbs := by
      have : c.natAbs = Nat.gcd c.natAbs d.natAbs * γ.natAbs := by
        have := congrArg Int.natAbs hc
        rw [Int.natAbs_mul, Int.natAbs_natCast] at this
        exact this
      exact (Nat.div_eq_of_eq_mul_right g2.1 this).symm
    have e2 : δ.natAbs = d.natAbs / Nat.gcd c.natAbs d.natAbs := by
      have : d.natAbs = Nat.gcd c.natAbs d.natAbs * δ.natAbs := by
        have := congrArg Int.natAbs hd
        rw [Int.natAbs_mul, Int.natAbs_natCast] at this
        exact this
      exact (Nat.div_eq_of_eq_mul_right g2.1 this).symm
    rw [e1, e2]
    exact Nat.coprime_div_gcd_div_gcd g2.1
  generalize hG : Nat.gcd a.natAbs b.natAbs = G at *
  generalize hH : Nat.gcd c.natAbs d.natAbs = H at *
  have Gp : (0 : Int) < G := by omega
  have Hp : (0 : Int) < H := by omega
  have β0 : 0 < β := by rw [hb] at b0; exact (mul_pos_i Gp).mp b0
  have δ0 : 0 < δ := by rw [hd] at d0; exact (mul_pos_i Hp).mp d0
  have cross : α * δ = γ * β := by
    have e : (G : Int) * H * (α * δ) = G * H * (γ * β) := by
      have e1 : (G : Int) * H * (α * δ) = (G * α) * (H * δ) := by grind
      have e2 : (G : Int) * H * (γ * β) = (H * γ) * (G * β) := by grind
      rw [e1, e2, ← ha, ← hd, ← hc, ← hb]
      exact h
    exact Int.eq_of_mul_eq_mul_left (by have := Int.mul_pos Gp Hp; omega) e
  have nc : α.natAbs * δ.natAbs = γ.natAbs * β.natAbs := by
    rw [← Int.natAbs_mul, ← Int.natAbs_mul, cross]
  have d1 : β.natAbs ∣ δ.natAbs := (Nat.Coprime.symm cp1).dvd_of_dvd_mul_left ⟨γ.natAbs, by rw [nc, Nat.mul_comm]⟩
  have d2 : δ.natAbs ∣ β.natAbs := (Nat.Coprime.symm cp2).dvd_of_dvd_mul_left ⟨α.natAbs, by rw [← nc, Nat.mul_comm]⟩
  have ebd : β = δ := by
    have := Nat.dvd_antisymm d1 d2
    omega
  have eac : α = γ := by
    rw [ebd] at cross
    exact Int.eq_of_mul_eq_mul_right (by omega) cross
  have q1 : a / (G : Int) = α := by rw [ha, Int.mul_ediv_cancel_left _ (by omega)]
  have q2 : b / (G : Int) = β := by rw [hb, Int.mul_ediv_cancel_left _ (by omega)]
  have q3 : c / (H : Int) = γ := by rw [hc, Int.mul_ediv_cancel_left _ (by omega)]
  have q4 : d / (H : Int) = δ := by rw [hd, Int.mul_ediv_cancel_left _ (by omega)]
  unfold frc
  rw [hG, hH, q1, q2, q3, q4, eac, ebd]
