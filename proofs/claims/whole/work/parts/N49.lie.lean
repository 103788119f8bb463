/-! lie -/
theorem lowk {P : Nat → Prop} (h0 : P 0) : ∀ j, ¬ P j → ∃ a, a < j ∧ P a ∧ ∀ c, a < c → c ≤ j → ¬ P c := by
  intro j
  induction j with
  | zero => exact fun n => absurd h0 n
  | succ j ih =>
    intro n
    by_cases z : P j
    · exact ⟨j, by omega, z, fun c c1 c2 => by rw [show c = j + 1 by omega]; exact n⟩
    · obtain ⟨a, a1, a2, a3⟩ := ih z
      refine ⟨a, by omega, a2, fun c c1 c2 => ?_⟩
      by_cases e : c = j + 1
      · rw [e]; exact n
      · exact a3 c c1 (by omega)
theorem upk {P : Nat → Prop} {m : Nat} (hm : P m) : ∀ d j, j + d = m → ¬ P j → ∃ b, j < b ∧ b ≤ m ∧ P b ∧ ∀ c, j ≤ c → c < b → ¬ P c := by
  intro d
  induction d with
  | zero => intro j e n; rw [show j = m by omega] at n; exact absurd hm n
  | succ d ih =>
    intro j e n
    by_cases z : P (j + 1)
    · exact ⟨j + 1, by omega, by omega, z, fun c c1 c2 => by rw [show c = j by omega]; exact n⟩
    · obtain ⟨b, a1, a2, a3, a4⟩ := ih (j + 1) (by omega) z
      refine ⟨b, by omega, a2, a3, fun c c1 c2 => ?_⟩
      by_cases e : c = j
      · rw [e]; exact n
      · exact a4 c (by omega) c2
section LIE
variable {told lst off : Nat → Prop} {lim : Nat → Int} {nW : Nat} {V kd M' : Nat → Int} {us : Nat → Nat → Int} {wi : Int32} {it le gof li va kn mo wo : Nat → Int32} {u : Nat → Nat → Int32} {nG : Nat} {gl : Nat → Nat} {ga wi' : Int32} {lt ls ca go wr kn' mo' wf ue : Nat → Int32}
variable {M k : Nat → Int} {Gt : (Nat → Int) → Int → Prop} {w t : Nat}
/-- the best when w's worth is told as j -/
def BJ (V M k : Nat → Int) (Gt : (Nat → Int) → Int → Prop) (w j : Nat) (q : Nat → Int) (g : Int) : Prop := IsB (VW V w (j : Nat)) M k Gt q g
theorem BJ_eq {j : Nat} {q q' : Nat → Int} {g g' : Int} (hw : w < 4) (a : BJ V M k Gt w j q g) (b : BJ V M k Gt w j q' g') : q w * g' = q' w * g :=
  (Ge_anti (a.2.2 q' g' b.1 b.2.1) (b.2.2 q g a.1 a.2.1)).1 w hw
theorem BJ_mono {j j' : Nat} {q q' : Nat → Int} {g g' : Int} (hw : w < 4) (h : j < j') (a : BJ V M k Gt w j q g) (b : BJ V M k Gt w j' q' g') : q w * g' ≤ q' w * g := by
  have e1 := Ge_dot (a.2.2 q' g' b.1 b.2.1)
  have e2 := Ge_dot (b.2.2 q g a.1 a.2.1)
  rw [dot_VW V _ hw, dot_VW V _ hw] at e1 e2
  have z : (dot V q' + ((j' : Int) - V w) * q' w) * g - (dot V q + ((j' : Int) - V w) * q w) * g' - ((dot V q' + ((j : Int) - V w) * q' w) * g - (dot V q + ((j : Int) - V w) * q w) * g') = ((j' : Int) - j) * (q' w * g - q w * g') := by grind
  rcases Int.lt_or_le (q' w * g) (q w * g') with y | y
  · have := Int.mul_pos (show (0 : Int) < (j' : Int) - j by omega) (show (0 : Int) < q w * g' - q' w * g by omega)
    have z2 : ((j' : Int) - j) * (q w * g' - q' w * g) = - (((j' : Int) - j) * (q' w * g - q w * g')) := by grind
    omega
  · exact y
def LG (V M k : Nat → Int) (Gt : (Nat → Int) → Int → Prop) (w t m : Nat) (q : Nat → Int) (g : Int) : Prop :=
  BJ V M k Gt w m q g ∧ ∀ (j : Nat) (p : Nat → Int) (e : Int), j ≤ t → BJ V M k Gt w j p e → ((t : Int) - j) * p w * g ≤ ((t : Int) - m) * q w * e ∧ (j < m → ((t : Int) - j) * p w * g < ((t : Int) - m) * q w * e)
theorem LG_one {m m' : Nat} (hm : m ≤ t) (hm' : m' ≤ t) {q q' : Nat → Int} {g g' : Int} (a : LG V M k Gt w t m q g) (b : LG V M k Gt w t m' q' g') : m = m' := by
  rcases Nat.lt_trichotomy m m' with y | y | y
  · have a1 := (a.2 m' q' g' hm' b.1).1
    have b1 := (b.2 m q g hm a.1).2 y
    omega
  · exact y
  · have a1 := (a.2 m' q' g' hm' b.1).2 y
    have b1 := (b.2 m q g hm a.1).1
    omega
/-- what was asked tells the greatest gain -/
theorem LG_asked {A G : Nat → Int} {up low : Nat → Int64} (hw : w < 4) {m : Nat} (nn : ∀ j q g, BJ V M k Gt w j q g → 0 ≤ q w ∧ 0 < g) (H : ∀ j, j < t → low j = 0 ∨ (KB A G up low j ∧ ∃ q g, BJ V M k Gt w j q g ∧ A j = q w ∧ G j = g))
    (k0 : KB A G up low 0) (k1 : KB A G up low (t - 1)) (gap : ∀ a b, a < b → b < t → KB A G up low a → KB A G up low b → (∀ c, a < c → c < b → low c = 0) → b - a ≤ 1 ∨ A a * G b = A b * G a)
    (mt : m < t) (km : KB A G up low m) (gr : ∀ j, j < t → KB A G up low j → ((t : Int) - j) * A j * G m ≤ ((t : Int) - m) * A m * G j ∧ (j < m → ((t : Int) - j) * A j * G m < ((t : Int) - m) * A m * G j)) : ∃ q g, LG V M k Gt w t m q g := by
  have own : ∀ j, j < t → KB A G up low j → ∃ q g, BJ V M k Gt w j q g ∧ A j = q w ∧ G j = g := fun j hj kj => by
    rcases H j hj with y | y
    · exact absurd y (KB_n kj)
    · exact y.2
  obtain ⟨q, g, m1, m2, m3⟩ := own m mt km
  refine ⟨q, g, m1, fun j p e jt bj => ?_⟩
  have nq := nn m q g m1
  have np := nn j p e bj
  by_cases ejt : j = t
  · subst ejt
    refine ⟨?_, fun z => by omega⟩
    have z1 : ((j : Int) - j) * p w * g = 0 := by
      rw [Int.sub_self, Int.zero_mul, Int.zero_mul]
    rw [z1]
    exact Int.mul_nonneg (Int.mul_nonneg (by omega) nq.1) (by omega)
  · by_cases z : low j = 0
    · obtain ⟨a, a1, a2, a3⟩ := lowk (P := fun j => low j ≠ 0) (KB_n k0) j (fun y => y z)
      obtain ⟨b, b1, b2, b3, b4⟩ := upk (P := fun j => low j ≠ 0) (KB_n k1) (t - 1 - j) j (by omega) (fun y => y z)
      have ka : KB A G up low a := by
        rcases H a (by omega) with y | y
        · exact absurd y a2
        · exact y.1
      have kb : KB A G up low b := by
        rcases H b (by omega) with y | y
        · exact absurd y b3
        · exact y.1
      have eq : A a * G b = A b * G a := by
        have em : ∀ c, a < c → c < b → low c = 0 := fun c c1 c2 => by
          rcases Nat.lt_or_ge j c with x | x
          · exact Classical.byContradiction (fun v => b4 c (by omega) c2 v)
          · exact Classical.byContradiction (fun v => a3 c c1 x v)
        rcases gap a b (by omega) (by omega) ka kb em with y | y
        · omega
        · exact y
      obtain ⟨qa, ga, x1, x2, x3⟩ := own a (by omega) ka
      obtain ⟨qb, gb, y1, y2, y3⟩ := own b (by omega) kb
      rw [x2, x3, y2, y3] at eq
      have na := nn a qa ga x1
      have nb := nn b qb gb y1
      have mo2 := BJ_mono hw b1 bj y1
      have h1 : p w * ga ≤ qa w * e := fr_le_le np.2 nb.2 na.2 mo2 (by omega)
      have h2 : ((t : Int) - j) * p w * ga ≤ ((t : Int) - a) * qa w * e := by
        have s1 := Int.mul_le_mul_of_nonneg_left h1 (show (0 : Int) ≤ (t : Int) - j by omega)
        have s2 := Int.mul_le_mul_of_nonneg_right (show (t : Int) - j ≤ (t : Int) - a by omega) (Int.mul_nonneg na.1 (show 0 ≤ e by omega))
        have t1 : ((t : Int) - j) * p w * ga = ((t : Int) - j) * (p w * ga) := by grind
        have t2 : ((t : Int) - a) * qa w * e = ((t : Int) - a) * (qa w * e) := by grind
        omega
      have h3 := gr a (by omega) ka
      rw [x2, x3, m2, m3] at h3
      exact ⟨fr_le_le np.2 na.2 nq.2 h2 h3.1, fun y => fr_le_lt np.2 na.2 nq.2 h2 (h3.2 (by omega))⟩
    · have kj : KB A G up low j := by
        rcases H j (by omega) with y | y
        · exact absurd y z
        · exact y.1
      obtain ⟨qa, ga, x1, x2, x3⟩ := own j (by omega) kj
      have na := nn j qa ga x1
      have h1 := BJ_eq hw bj x1
      have h2 : ((t : Int) - j) * p w * ga ≤ ((t : Int) - j) * qa w * e := by
        have t1 : ((t : Int) - j) * p w * ga = ((t : Int) - j) * (p w * ga) := by grind
        have t2 : ((t : Int) - j) * qa w * e = ((t : Int) - j) * (qa w * e) := by grind
        rw [t1, t2, h1]
        exact Int.le_refl _
      have h3 := gr j (by omega) kj
      rw [x2, x3, m2, m3] at h3
      exact ⟨fr_le_le np.2 na.2 nq.2 h2 h3.1, fun y => fr_le_lt np.2 na.2 nq.2 h2 (h3.2 (by omega))⟩
def LI (told lst off : Nat → Prop) (lim : Nat → Int) (nW : Nat) (V kd M' : Nat → Int) (us : Nat → Nat → Int) (wo : Nat → Int32) (w t : Nat) (r : Int32) : Prop :=
  ∃ (h : Prop) (q : Nat → Int) (g : Int), RB told lst off lim nW V kd M' us wo h q g ∧ (¬ h → r = -9) ∧ (h → ∃ m : Nat, m ≤ t ∧ r = nI m ∧ ∃ q g, LG V (aM nW wo M') kd (GH us lim lst (fun l => told l ∧ ¬ off l)) w t m q g)
theorem LI_one {r r' : Int32} (a : LI told lst off lim nW V kd M' us wo w t r) (b : LI told lst off lim nW V kd M' us wo w t r') : r = r' := by
  obtain ⟨h, q, g, a1, a2, a3⟩ := a
  obtain ⟨h', q', g', b1, b2, b3⟩ := b
  obtain ⟨e, _⟩ := RB_u _ _ _ _ _ _ a1 b1
  by_cases z : h
  · obtain ⟨m, a4, a5, _, _, a6⟩ := a3 z
    obtain ⟨m', b4, b5, _, _, b6⟩ := b3 (e.mp z)
    rw [a5, b5, LG_one a4 b4 a6 b6]
  · rw [a2 z, b2 (fun y => z (e.mpr y))]
end LIE
