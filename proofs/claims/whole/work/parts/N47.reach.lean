/-! reach -/
theorem Ge_dot {V x y : Nat → Int} {d e : Int} (h : Ge V x d y e) : dot V y * d ≤ dot V x * e := by
  have a : 0 ≤ co V 0 y * d - co V 0 x * e := by
    rcases h with h | h
    · rcases h with h | h <;> (try dsimp only at h) <;> omega
    · have := h.1
      (try dsimp only at this)
      omega
  rw [co_0, co_0, Int.neg_mul, Int.neg_mul] at a
  omega
def VW (V : Nat → Int) (w : Nat) (v : Int) : Nat → Int := fun j => if j = w then v else V j
theorem dot_VW (V x : Nat → Int) {w : Nat} (hw : w < 4) (v : Int) : dot (VW V w v) x = dot V x + (v - V w) * x w := by
  unfold dot VW
  rcases (by omega : w = 0 ∨ w = 1 ∨ w = 2 ∨ w = 3) with e | e | e | e <;> subst e <;> simp <;> grind
theorem dot_frac {q q' : Nat → Int} {g g' : Int} (U : Nat → Int) (h : ∀ w, w < 4 → q w * g' = q' w * g) : dot U q * g' = dot U q' * g := by
  have h0 := h 0 (by omega)
  have h1 := h 1 (by omega)
  have h2 := h 2 (by omega)
  have h3 := h 3 (by omega)
  unfold dot
  grind
theorem nI_half {a b : Nat} (h : a + b < 1000) : (nI a + nI b) / (2 : Int32) = nI ((a + b) / 2) := by
  rw [nI_iI, nI_iI, show (2 : Int32) = iI 2 from rfl, iI_add, iI_div (by unfold rI; omega) (by unfold rI; omega), nI_iI]
  refine congrArg iI ?_
  rw [Int.tdiv_eq_ediv_of_nonneg (by omega)]
  omega
theorem nI_d1 {a b : Nat} (h : a ≤ b) (hb : b < 1000) : nI b - nI a ≤ (1 : Int32) ↔ b - a ≤ 1 := by
  rw [nI_iI, nI_iI, show (1 : Int32) = iI 1 from rfl, iI_sub, iI_le (by unfold rI; omega) (by unfold rI; omega)]
  omega
theorem upd_2 (f : Nat → Int32) (k : Nat) (a b : Int32) : upd (upd f k a) k b = upd f k b := by
  funext j
  by_cases e : j = k
  · subst e; rw [pk_us, pk_us]
  · rw [pk_un e, pk_un e, pk_un e]
theorem upd_same (f : Nat → Int32) (k : Nat) : upd f k (f k) = f := by
  funext j
  by_cases e : j = k
  · subst e; rw [pk_us]
  · rw [pk_un e]
section REACH
variable {told lst off : Nat → Prop} {lim : Nat → Int} {nW : Nat} {V kd M' : Nat → Int} {us : Nat → Nat → Int} {wi : Int32} {it le gof li va kn mo wo : Nat → Int32} {u : Nat → Nat → Int32} {nG : Nat} {gl : Nat → Nat} {ga wi' : Int32} {lt ls ca go wr kn' mo' wf ue : Nat → Int32}
theorem TF_VW (C : TF told lst off lim nW V kd M' us wi it le gof li va kn mo wo u) (w : Nat) {v : Int} (h0 : 0 ≤ v) (h1 : v ≤ 198) : TF told lst off lim nW (VW V w v) kd M' us wi it le gof li (upd va w (iI v)) kn mo wo u := by
  obtain ⟨c1, c2, c3, c4, c5⟩ := C
  refine ⟨c1, c2, c3, fun j hj => ?_, c5⟩
  obtain ⟨a1, a2, a3, a4⟩ := c4 j hj
  unfold VW
  by_cases e : j = w
  · subst e; rw [pk_us, if_pos rfl]; exact ⟨rfl, h0, h1, a4⟩
  · rw [pk_un e, if_neg e]; exact ⟨a1, a2, a3, a4⟩
theorem TM_VW (D : TM told lst off lim nW V kd M' us nG gl wo ga wi' lt ls ca go wr kn' mo' wf ue) (w : Nat) (v : Int) : TM told lst off lim nW (VW V w v) kd M' us nG gl wo ga wi' lt ls ca go (upd wr w (iI v)) kn' mo' wf ue := by
  obtain ⟨E, d1, d2, d3, d4⟩ := D
  refine ⟨E, d1, d2, d3, fun j hj => ?_⟩
  obtain ⟨a1, a2⟩ := d4 j hj
  unfold VW
  by_cases e : j = w
  · subst e; rw [pk_us, if_pos rfl]; exact ⟨rfl, a2⟩
  · rw [pk_un e, if_neg e]; exact ⟨a1, a2⟩
theorem RB_V {V1 V2 k : Nat → Int} {h h' : Prop} {q q' : Nat → Int} {g g' : Int} (a : RB told lst off lim nW V1 k M' us wo h q g) (b : RB told lst off lim nW V2 k M' us wo h' q' g') : h → h' := fun z => by
  by_cases y : h'
  · exact y
  · exact (b.2 y q g (a.1 z).1 (a.1 z).2.1).elim
theorem sp_findWorth (C : TF told lst off lim nW V kd M' us wi it le gof li va kn mo wo u) {w : Nat} (hw : w < 4) {v : Int} (h0 : 0 ≤ v) (h1 : v ≤ 198)
    {ops hei held0 ph fh : Int32} {lw pv pl fv fl : Int64} {T : Nat → Nat → Int64} {fi opn : Nat → Int32} {px fx : Nat → Int64}
    {post : Int32 → Int32 → Int64 → Int32 → (Nat → Nat → Int64) → (Nat → Int32) → (Nat → Int32) → Int32 → Int64 → Int64 → (Nat → Int64) → Int32 → Int64 → Int64 → (Nat → Int64) → (Nat → Int32) → Prop}
    (hpost : ∀ (ops hei : Int32) (lw : Int64) (held : Int32) (T : Nat → Nat → Int64) (fi opn : Nat → Int32) (ph : Int32) (pv pl : Int64) (px : Nat → Int64) (fh : Int32) (fv fl : Int64) (fx : Nat → Int64) (h : Prop) (q : Nat → Int) (g : Int), FR (VW V w v) q g fh fv fl fx h → RB told lst off lim nW (VW V w v) kd M' us wo h q g → post ops hei lw held T fi opn ph pv pl px fh fv fl fx va) :
    wp_X6_findWorth ops hei lw held0 T fi opn ph pv pl px fh fv fl fx wi it le gof li va kn mo wo u (nI w) (iI v) post := by
  unfold wp_X6_findWorth
  have cw : (nI w).toNatClampNeg = w := nI_clamp (by omega)
  rw [cw]
  refine ⟨vp_in_nI hw (by omega), sp_heldFind (TF_VW C w h0 h1) (Or.inl rfl) (fun ops hei lw held T fi opn ph pv pl px fh fv fl fx h q g f1 f2 => ?_)⟩
  intro f hf
  have ef : f = va := by
    rw [hf]
    exact upd_back va w _
  rw [ef]
  rw [if_pos rfl] at f2
  exact hpost _ _ _ _ _ _ _ _ _ _ _ _ _ _ _ h q g f1 f2
/-- told k more, w's price would buy another best -/
def RP (told lst off : Nat → Prop) (lim : Nat → Int) (nW : Nat) (V kd M' : Nat → Int) (us : Nat → Nat → Int) (wo : Nat → Int32) (w k : Nat) : Prop :=
  ∃ (h : Prop) (q : Nat → Int) (g : Int), RB told lst off lim nW V kd M' us wo h q g ∧ h ∧ ∃ (x : Nat → Int) (e : Int), Pf (aM nW wo M') (GH us lim lst (fun l => told l ∧ ¬ off l)) x e ∧ Kd (aM nW wo M') kd x e ∧ dot (VW V w (V w + k)) q * e < dot (VW V w (V w + k)) x * g
theorem RP_own {w k : Nat} {h : Prop} {q : Nat → Int} {g : Int} (a : RB told lst off lim nW V kd M' us wo h q g) (y : h) (r : RP told lst off lim nW V kd M' us wo w k) : ∃ (x : Nat → Int) (e : Int), Pf (aM nW wo M') (GH us lim lst (fun l => told l ∧ ¬ off l)) x e ∧ Kd (aM nW wo M') kd x e ∧ dot (VW V w (V w + k)) q * e < dot (VW V w (V w + k)) x * g := by
  obtain ⟨h', q', g', a', y', x, e, p1, p2, p3⟩ := r
  refine ⟨x, e, p1, p2, ?_⟩
  obtain ⟨_, s1⟩ := RB_eq a' a
  have p4 := dot_frac (VW V w (V w + k)) (s1 y').1
  rcases Int.lt_or_le (dot (VW V w (V w + k)) q * e) (dot (VW V w (V w + k)) x * g) with z | z
  · exact z
  · have := frac_le p1.1 (a.1 y).1.1 p1.1 (a'.1 y').1.1 (a := dot (VW V w (V w + k)) x) (a' := dot (VW V w (V w + k)) x) rfl p4.symm z
    omega
theorem RP_iff {w k : Nat} {h : Prop} {q : Nat → Int} {g : Int} {h2 : Prop} {q2 : Nat → Int} {g2 : Int} (a : RB told lst off lim nW V kd M' us wo h q g) (y : h) (b : RB told lst off lim nW (VW V w (V w + k)) kd M' us wo h2 q2 g2) : RP told lst off lim nW V kd M' us wo w k ↔ ¬ dot (VW V w (V w + k)) q2 * g ≤ dot (VW V w (V w + k)) q * g2 := by
  have y2 := RB_V a b y
  have i2 := b.1 y2
  constructor
  · intro r l
    obtain ⟨x, e, p1, p2, p3⟩ := RP_own a y r
    have e1 := Ge_dot (i2.2.2 x e p1 p2)
    have g0 := (a.1 y).1.1
    have m1 := Int.mul_le_mul_of_nonneg_right e1 (Int.le_of_lt g0)
    have m2 := Int.mul_le_mul_of_nonneg_right l (Int.le_of_lt p1.1)
    have m3 := Int.mul_lt_mul_of_pos_right p3 i2.1.1
    have z1 : dot (VW V w (V w + k)) x * g2 * g = dot (VW V w (V w + k)) x * g * g2 := by grind
    have z2 : dot (VW V w (V w + k)) q2 * e * g = dot (VW V w (V w + k)) q2 * g * e := by grind
    have z3 : dot (VW V w (V w + k)) q * g2 * e = dot (VW V w (V w + k)) q * e * g2 := by grind
    omega
  · intro l
    exact ⟨h, q, g, a, y, q2, g2, i2.1, i2.2.1, by omega⟩
theorem RP_mono {w j k : Nat} (hw : w < 4) (jk : j ≤ k) (r : RP told lst off lim nW V kd M' us wo w j) : RP told lst off lim nW V kd M' us wo w k := by
  obtain ⟨h, q, g, a, y, x, e, p1, p2, p3⟩ := r
  refine ⟨h, q, g, a, y, x, e, p1, p2, ?_⟩
  have e2 := Ge_dot ((a.1 y).2.2 x e p1 p2)
  rw [dot_VW V _ hw, dot_VW V _ hw] at p3
  rw [dot_VW V _ hw, dot_VW V _ hw]
  have t1 : V w + (j : Int) - V w = j := by omega
  have t2 : V w + (k : Int) - V w = k := by omega
  rw [t1] at p3
  rw [t2]
  have B : (dot V x + (j : Int) * x w) * g - (dot V q + (j : Int) * q w) * e = (dot V x * g - dot V q * e) + (j : Int) * (x w * g - q w * e) := by grind
  have B' : (dot V x + (k : Int) * x w) * g - (dot V q + (k : Int) * q w) * e = (dot V x * g - dot V q * e) + (k : Int) * (x w * g - q w * e) := by grind
  generalize x w * g - q w * e = X at B B'
  have jb : 0 < (j : Int) * X := by omega
  have x0 : 0 < X := by
    rcases Int.lt_or_le 0 X with z | z
    · exact z
    · have := Int.mul_nonneg (Int.natCast_nonneg j) (show 0 ≤ -X by omega)
      rw [Int.mul_neg] at this
      omega
  have := Int.mul_le_mul_of_nonneg_right (show (j : Int) ≤ k by omega) (Int.le_of_lt x0)
  omega
def RC (told lst off : Nat → Prop) (lim : Nat → Int) (nW : Nat) (V kd M' : Nat → Int) (us : Nat → Nat → Int) (wo : Nat → Int32) (w : Nat) (r : Int32) : Prop :=
  ∃ (h : Prop) (q : Nat → Int) (g : Int), RB told lst off lim nW V kd M' us wo h q g ∧ (¬ h → r = -9) ∧ (h → ∃ k : Nat, 1 ≤ k ∧ k ≤ 100 ∧ (∀ j, 1 ≤ j → j < k → ¬ RP told lst off lim nW V kd M' us wo w j) ∧ (k < 100 → RP told lst off lim nW V kd M' us wo w k) ∧ r = if k ≤ 99 then nI k else -9)
theorem RC_one {w : Nat} {r r' : Int32} (a : RC told lst off lim nW V kd M' us wo w r) (b : RC told lst off lim nW V kd M' us wo w r') : r = r' := by
  obtain ⟨h, q, g, a1, a2, a3⟩ := a
  obtain ⟨h', q', g', b1, b2, b3⟩ := b
  obtain ⟨e, _⟩ := RB_u _ _ _ _ _ _ a1 b1
  by_cases z : h
  · obtain ⟨k, a4, a5, a6, a7, a8⟩ := a3 z
    obtain ⟨k', b4, b5, b6, b7, b8⟩ := b3 (e.mp z)
    have ek : k = k' := by
      rcases Nat.lt_trichotomy k k' with y | y | y
      · exact absurd (a7 (by omega)) (b6 k a4 y)
      · exact y
      · exact absurd (b7 (by omega)) (a6 k' b4 y)
    rw [a8, b8, ek]
  · rw [a2 z, b2 (fun y => z (e.mpr y))]
abbrev S18 := Int32 × Int32 × Int32 × Int32 × Int64 × Int32 × (Nat → Nat → Int64) × (Nat → Int32) × (Nat → Int32) × Int32 × Int64 × Int64 × (Nat → Int64) × Int32 × Int64 × Int64 × (Nat → Int64) × (Nat → Int32)
theorem eq_reach (C : TC told lst off lim nW V kd M' us wi it le gof li va kn mo wo u) (D : TM told lst off lim nW V kd M' us nG gl wo ga wi' lt ls ca go wr kn' mo' wf ue) {bk lk bh lh oh : Int32} {bv bl lv ll ov ol : Int64} {bx lx ox : Nat → Int64} (k0 : KN told lst off lim nW V kd M' us wo bk bh bv bl bx) (k1 : KN told lst off lim nW V (fun _ => 0) M' us wo lk lh lv ll lx)
    {ops hei held0 ph : Int32} {lw pv pl : Int64} {T : Nat → Nat → Int64} {fi opn : Nat → Int32} {px : Nat → Int64} {by_ bb bw : Int64} {ib pt : Int32} {x bx' row right m given : Nat → Int64} {part : Nat → Int32} (x1 : Int32) :
    ∃ Q : Int32 → Prop, (∀ r r', Q r → Q r' → r = r') ∧
      wp_X6_reach bk lk ops hei lw held0 T fi opn ph pv pl px bh bv bl bx lh lv ll lx oh ov ol ox wi it le gof li va kn mo wo u x1 (fun r bk lk _ _ _ _ _ _ _ _ _ _ _ bh bv bl bx lh lv ll lx _ _ _ _ va' => Q r ∧ KN told lst off lim nW V kd M' us wo bk bh bv bl bx ∧ KN told lst off lim nW V (fun _ => 0) M' us wo lk lh lv ll lx ∧ va' = va) ∧
      wp_X7_reach ga wi' by_ bb bw ib pt ls ca go wr kn' mo' wf ue x bx' part row right m given x1 (fun r _ _ _ _ _ wr' _ _ _ _ _ _ _ => Q r ∧ wr' = wr) := by
  have F := TC_TF C
  obtain ⟨hM, hV⟩ := TF_M F
  have hW := C.2.1
  have ewi := C.1
  have ewi' := D.2.2.1
  by_cases ok : ∃ w, w < nW ∧ x1 = nI w
  · obtain ⟨w, w1, w2⟩ := ok
    subst w2
    have cw : (nI w).toNatClampNeg = w := nI_clamp (by omega)
    have c4 := C.2.2.2.1 w (by omega)
    have d4 := D.2.2.2.2 w w1
    by_cases hz : wo w = 0
    · have hVk : ∀ k : Nat, k ≤ 99 → ∀ j, j < 4 → 0 ≤ VW V w (V w + k) j ∧ VW V w (V w + k) j ≤ 198 := fun k hk j hj => by
        unfold VW
        split
        · omega
        · exact hV j hj
      have vqk : ∀ {k : Nat} {G : (Nat → Int) → Int → Prop} {q : Nat → Int} {g : Int}, k ≤ 99 → IsB V (aM nW wo M') kd G q g → g ≤ 157464 → (0 ≤ dot (VW V w (V w + k)) q ∧ dot (VW V w (V w + k)) q ≤ 2000000000) := fun {k G q g} hk a hg => by
        obtain ⟨g0, hq⟩ := IsB_q hM a
        have a1 := dot_le (hVk k hk) (q := q) (B := 12 * g) hq
        omega
      refine ⟨RC told lst off lim nW V kd M' us wo w, fun r r' a b => RC_one a b, ?_, ?_⟩
      · unfold wp_X6_reach
        rw [cw, ewi]
        refine sp_isWishC (by omega) (fun _ _ _ => br_f (by decide) ?_) (fun n => absurd rfl (n w w1))
        rw [← ewi]
        refine sp_known0 F k0 (fun ops hei lw held T fi opn ph pv pl px fh fv fl fx h q g f1 f2 => br_t rfl ⟨vp_in_nI (by omega) (by omega), br_t hz ?_⟩)
        have n1 := KN_1 f1 f2
        rcases f1 with ⟨n, e⟩ | ⟨n, e1, e2, e3, e4, e5⟩
        · exact br_t e ⟨⟨h, q, g, f2, fun _ => rfl, fun y => absurd y n⟩, n1, k1, rfl⟩
        · refine br_f (by rw [e1]; decide) ?_
          have v1 := vq_le hM hV (f2.1 n) e4
          subst e2
          subst e3
          have fin : ∀ (m : Nat) (x4 : Int32) (c1 c2 : Int32) (c3 : Int64) (c4 : Int32) (c5 : Nat → Nat → Int64) (c6 c7 : Nat → Int32) (c8 : Int32) (c9 c10 : Int64) (c11 : Nat → Int64) (c12 : Int32) (c13 c14 : Int64) (c15 : Nat → Int64) (va1 : Nat → Int32) (a b : Nat), x4 = nI b → va1 = va → a < b → b ≤ 100 → b - a ≤ 1 → (∀ j, 1 ≤ j → j ≤ a → ¬ RP told lst off lim nW V kd M' us wo w j) → (b < 100 → RP told lst off lim nW V kd M' us wo w b) → wj_X6_reach_146 x4 1 lk c1 c2 c3 c4 c5 c6 c7 c8 c9 c10 c11 fh (lI (dot V q)) (lI g) fx lh lv ll lx c12 c13 c14 c15 wi it le gof li va1 kn mo wo u (fun r bk lk _ _ _ _ _ _ _ _ _ _ _ bh bv bl bx lh lv ll lx _ _ _ _ va' => RC told lst off lim nW V kd M' us wo w r ∧ KN told lst off lim nW V kd M' us wo bk bh bv bl bx ∧ KN told lst off lim nW V (fun _ => 0) M' us wo lk lh lv ll lx ∧ va' = va) := fun m x4 c1 c2 c3 c4 c5 c6 c7 c8 c9 c10 c11 c12 c13 c14 c15 va1 a b q2 w1 q3 q4 q5 q6 q7 => by
            unfold wj_X6_reach_146
            subst q2
            have e99 : nI b ≤ (99 : Int32) ↔ b ≤ 99 := by
              rw [nI_iI, show (99 : Int32) = iI 99 from rfl, iI_le (by unfold rI; omega) (by unfold rI; omega)]
              omega
            refine br_c (fun z => ⟨⟨h, q, g, f2, fun y => absurd n y, fun _ => ⟨b, by omega, q4, fun j j1 j2 => q6 j j1 (by omega), q7, ?_⟩⟩, n1, k1, w1⟩) (fun z => ⟨⟨h, q, g, f2, fun y => absurd n y, fun _ => ⟨b, by omega, q4, fun j j1 j2 => q6 j j1 (by omega), q7, ?_⟩⟩, n1, k1, w1⟩)
            · rw [if_pos (e99.mp z)]
            · rw [if_neg (fun y => z (e99.mpr y))]
          refine pk_loop (σ := S18) (fun m i s => wl_X6_reach_47 (nI w) 1 lk fh (lI (dot V q)) (lI g) fx lh lv ll lx wi it le gof li kn mo wo u _ _ m s.1 s.2.1 (nI i) s.2.2.1 s.2.2.2.1 s.2.2.2.2.1 s.2.2.2.2.2.1 s.2.2.2.2.2.2.1 s.2.2.2.2.2.2.2.1 s.2.2.2.2.2.2.2.2.1 s.2.2.2.2.2.2.2.2.2.1 s.2.2.2.2.2.2.2.2.2.2.1 s.2.2.2.2.2.2.2.2.2.2.2.1 s.2.2.2.2.2.2.2.2.2.2.2.2.1 s.2.2.2.2.2.2.2.2.2.2.2.2.2.1 s.2.2.2.2.2.2.2.2.2.2.2.2.2.2.1 s.2.2.2.2.2.2.2.2.2.2.2.2.2.2.2.1 s.2.2.2.2.2.2.2.2.2.2.2.2.2.2.2.2.1 s.2.2.2.2.2.2.2.2.2.2.2.2.2.2.2.2.2) (fun i s => s.2.2.2.2.2.2.2.2.2.2.2.2.2.2.2.2.2 = va ∧ ∃ a b : Nat, s.1 = nI a ∧ s.2.1 = nI b ∧ a < b ∧ b ≤ 100 ∧ (b - a - 1) * 2 ^ i ≤ 99 ∧ (∀ j, 1 ≤ j → j ≤ a → ¬ RP told lst off lim nW V kd M' us wo w j) ∧ (b < 100 → RP told lst off lim nW V kd M' us wo w b)) 8 0 (0, 100, ops, hei, lw, held, T, fi, opn, ph, pv, pl, px, oh, ov, ol, ox, va) (by omega) ⟨rfl, 0, 100, rfl, rfl, by omega, by omega, by omega, fun j _ _ => by omega, fun z => by omega⟩ (fun m s hs => ?_) (fun m i s hi hs kk => ?_)
          · show ws_X6_reach_47 _ _ _ _ _ _ _ _ _ _ _ _ _ _ _ _ _ _ _ _ _ _ _ _ _ _ _ _ _ _ _ _ _ _ _ _ _ _ _ _ _ _
            unfold ws_X6_reach_47
            refine br_t (by decide) ?_
            obtain ⟨w1, a, b, q1, q2, q3, q4, q5, q6, q7⟩ := hs
            exact fin m _ _ _ _ _ _ _ _ _ _ _ _ _ _ _ _ _ a b q2 w1 q3 q4 (by have : (2 : Nat) ^ 8 = 256 := rfl; omega) q6 q7
          · show ws_X6_reach_47 _ _ _ _ _ _ _ _ _ _ _ _ _ _ _ _ _ _ _ _ _ _ _ _ _ _ _ _ _ _ _ _ _ _ _ _ _ _ _ _ _ _
            unfold ws_X6_reach_47
            obtain ⟨x3, x4, a1, a2, a3, a4, a5, a6, a7, a8, a9, a10, a11, a12, a13, a14, a15, va1⟩ := s
            obtain ⟨w1, a, b, q1, q2, q3, q4, q5, q6, q7⟩ := hs
            (try dsimp only at w1 q1 q2)
            subst w1
            subst q1
            subst q2
            refine br_f (nI_ge (b := 8) hi (by omega)) (br_c (fun z => ?_) (fun z => ?_))
            · exact fin m _ _ _ _ _ _ _ _ _ _ _ _ _ _ _ _ _ a b rfl rfl q3 q4 ((nI_d1 (by omega) (by omega)).mp z) q6 q7
            · rw [nI_d1 (by omega) (by omega)] at z
              have ha := nI_half (a := a) (b := b) (by omega)
              generalize em : (a + b) / 2 = mid at ha
              have m9 : mid ≤ 99 := by omega
              have ex : va1 w + (nI a + nI b) / 2 = iI (V w + (mid : Nat)) := by
                rw [ha, c4.1, nI_iI, iI_add]
              (try dsimp only)
              rw [cw, ex, ha]
              refine ⟨vp_in_nI (by omega) (by omega), sp_findWorth F (by omega) (by omega) (by omega) (fun b1 b2 b3 b4 b5 b6 b7 b8 b9 b10 b11 fh2 fv2 fl2 fx2 h2 q2 g2 f3 f4 => ?_)⟩
              intro v hv
              have y2 := RB_V f2 f4 n
              rcases f3 with ⟨m, e⟩ | ⟨m, d1, d2, d3, d4, d5⟩
              · exact absurd y2 m
              · have L := RP_iff f2 n f4
                have v2 := vq_le hM (hVk mid m9) (f4.1 m) d4
                have v3 := vqk m9 (f2.1 n) e4
                have ev : v = lI (dot (VW V w (V w + (mid : Nat))) q) := by
                  rw [hv, e5 w (by omega), nI_iI, iI_l (by unfold rI; omega), lI_mul, lI_add, dot_VW V q (by omega)]
                  refine congrArg lI ?_
                  have : V w + (mid : Int) - V w = mid := by omega
                  rw [this]
                rw [ev, d2, d3]
                have lp := le_prod v2.1 v2.2 v3 v1.2
                have pw : 2 ^ (i + 1) = 2 ^ i * 2 := Nat.pow_succ 2 i
                refine br_c (fun y => ?_) (fun y => ?_)
                · rw [nI_1 i]
                  rw [lp] at y
                  refine kk (nI mid, nI b, b1, b2, b3, b4, b5, b6, b7, b8, b9, b10, b11, fh2, _, _, fx2, va1) ⟨rfl, mid, b, rfl, rfl, by omega, q4, ?_, fun j _ j2 r => (L.mp (RP_mono (by omega) j2 r)) y, q7⟩
                  rw [pw, Nat.mul_comm (2 ^ i) 2, ← Nat.mul_assoc]
                  exact Nat.le_trans (Nat.mul_le_mul_right (2 ^ i) (by omega)) q5
                · rw [nI_1 i]
                  rw [lp] at y
                  refine kk (nI a, nI mid, b1, b2, b3, b4, b5, b6, b7, b8, b9, b10, b11, fh2, _, _, fx2, va1) ⟨rfl, a, mid, rfl, rfl, by omega, by omega, ?_, q6, fun _ => L.mpr y⟩
                  rw [pw, Nat.mul_comm (2 ^ i) 2, ← Nat.mul_assoc]
                  exact Nat.le_trans (Nat.mul_le_mul_right (2 ^ i) (by omega)) q5
      · unfold wp_X7_reach
        rw [cw, ewi']
        refine sp_isWishM (by omega) (fun _ _ _ => br_f (by decide) ⟨vp_in_nI (by omega) (by omega), br_t (by rw [d4.2.2.2]; exact hz) ?_⟩) (fun n => absurd rfl (n w w1))
        rw [← ewi']
        refine sp_findMM F D (Or.inl rfl) (fun by_ bb bw ib pt x bx row right m given part h q g f1 f2 => ?_)
        rw [if_pos rfl] at f2
        rcases f1 with ⟨n, e⟩ | ⟨n, e1, e2, e3, g0, e4, hq, e5⟩
        · exact br_t e ⟨⟨h, q, g, f2, fun _ => rfl, fun y => absurd y n⟩, rfl⟩
        · refine br_f (by rw [e1]; decide) ?_
          have v1 := vq_le hM hV (f2.1 n) e4
          subst e2
          subst e3
          refine pk_loop (σ := SM14) (fun m i s => wl_X7_reach_64 (nI w) (lI (dot V q)) (lI g) (bx w) (wr w) ga wi' ls ca go kn' mo' wf ue _ _ m s.1 (nI i) s.2.1 s.2.2.1 s.2.2.2.1 s.2.2.2.2.1 s.2.2.2.2.2.1 s.2.2.2.2.2.2.1 s.2.2.2.2.2.2.2.1 s.2.2.2.2.2.2.2.2.1 s.2.2.2.2.2.2.2.2.2.1 s.2.2.2.2.2.2.2.2.2.2.1 s.2.2.2.2.2.2.2.2.2.2.2.1 s.2.2.2.2.2.2.2.2.2.2.2.2.1 s.2.2.2.2.2.2.2.2.2.2.2.2.2) (fun i s => (∀ a, upd s.2.2.2.2.2.2.1 w a = upd wr w a) ∧ 1 ≤ i ∧ ((s.1 = -9 ∧ ∀ j, 1 ≤ j → j < i → ¬ RP told lst off lim nW V kd M' us wo w j) ∨ ∃ k, 1 ≤ k ∧ k < 100 ∧ s.1 = nI k ∧ RP told lst off lim nW V kd M' us wo w k ∧ ∀ j, 1 ≤ j → j < k → ¬ RP told lst off lim nW V kd M' us wo w j)) 100 1 (-9, by_, lI g, lI (dot V q), ib, pt, wr, x, bx, part, row, right, m, given) (by omega) ⟨fun a => rfl, by omega, Or.inl ⟨rfl, fun j j1 j2 => by omega⟩⟩ (fun m s hs => ?_) (fun m i s hi hs kk => ?_)
          · show ws_X7_reach_64 _ _ _ _ _ _ _ _ _ _ _ _ _ _ _ _ _ _ _ _ _ _ _ _ _ _ _ _ _ _ _ _
            unfold ws_X7_reach_64
            refine br_t (by decide) ?_
            unfold wj_X7_reach_134
            obtain ⟨u1, u2, u3⟩ := hs
            rw [cw]
            refine ⟨vp_in_nI (by omega) (by omega), ?_, ?_⟩
            · refine ⟨h, q, g, f2, fun y => absurd n y, fun _ => ?_⟩
              rcases u3 with ⟨u4, u5⟩ | ⟨k, u4, u5, u6, u7, u8⟩
              · exact ⟨100, by omega, by omega, u5, fun z => by omega, by rw [u4, if_neg (by omega)]⟩
              · exact ⟨k, u4, by omega, u8, fun _ => u7, by rw [u6, if_pos (by omega)]⟩
            · rw [u1]
              exact upd_same wr w
          · show ws_X7_reach_64 _ _ _ _ _ _ _ _ _ _ _ _ _ _ _ _ _ _ _ _ _ _ _ _ _ _ _ _ _ _ _ _
            unfold ws_X7_reach_64
            obtain ⟨x9, a1, a2, a3, a4, a5, wr1, a7, a8, a9, a10, a11, a12, a13⟩ := s
            obtain ⟨u1, u2, u3⟩ := hs
            (try dsimp only at u1 u3)
            refine br_f (nI_ge (b := 100) hi (by omega)) ?_
            (try dsimp only)
            rcases u3 with ⟨u4, u5⟩ | ⟨k, u4, u5, u6, u7, u8⟩
            · have ex : wr w + nI i = iI (V w + (i : Nat)) := by rw [d4.1, nI_iI, iI_add]
              rw [cw, u1, ex]
              refine br_t u4 ⟨vp_in_nI (by omega) (by omega), sp_findMM (TF_VW F w (v := V w + (i : Nat)) (by omega) (by omega)) (TM_VW D w (V w + (i : Nat))) (Or.inl rfl) (fun by_ bb2 bw2 ib pt x bx' row right m given part h2 q2 g2 f3 f4 => ?_)⟩
              rw [if_pos rfl] at f4
              have y2 := RB_V f2 f4 n
              rcases f3 with ⟨n2, e⟩ | ⟨n2, d1, d2, d3, g02, d4', hq2, d5⟩
              · exact absurd y2 n2
              · have L := RP_iff f2 n f4
                have v2 := vq_le hM (hVk i (by omega)) (f4.1 n2) d4'
                have v3 := vqk (k := i) (by omega) (f2.1 n) e4
                have ev : lI (dot V q) + (nI i).toInt64 * bx w = lI (dot (VW V w (V w + (i : Nat))) q) := by
                  rw [e5 w w1, nI_iI, iI_l (by unfold rI; omega), lI_mul, lI_add, dot_VW V q (by omega)]
                  refine congrArg lI ?_
                  have : V w + (i : Int) - V w = i := by omega
                  rw [this]
                rw [ev, d2, d3]
                have lp := le_prod v2.1 v2.2 v3 v1.2
                refine br_c (fun y => ?_) (fun y => ?_)
                · rw [nI_1 i]
                  rw [lp] at y
                  refine kk (-9, by_, _, _, ib, pt, _, x, bx', part, row, right, m, given) ⟨fun a => upd_2 wr w _ a, by omega, Or.inl ⟨rfl, fun j j1 j2 => ?_⟩⟩
                  by_cases e : j = i
                  · subst e; exact fun r => L.mp r y
                  · exact u5 j j1 (by omega)
                · rw [nI_1 i]
                  rw [lp] at y
                  exact kk (nI i, by_, _, _, ib, pt, _, x, bx', part, row, right, m, given) ⟨fun a => upd_2 wr w _ a, by omega, Or.inr ⟨i, u2, hi, rfl, L.mpr y, u5⟩⟩
            · have ne : ¬ x9 = -9 := by
                rw [u6]
                intro z
                have := congrArg Int32.toInt z
                rw [nI_toInt (by omega), show (-9 : Int32).toInt = -9 from by decide] at this
                omega
              refine br_f ne ?_
              unfold wj_X7_reach_134
              rw [cw]
              refine ⟨vp_in_nI (by omega) (by omega), ?_, ?_⟩
              · exact ⟨h, q, g, f2, fun y => absurd n y, fun _ => ⟨k, u4, by omega, u8, fun _ => u7, by rw [u6, if_pos (by omega)]⟩⟩
              · rw [u1]
                exact upd_same wr w
    · refine ⟨fun r => r = -9, fun r r' a b => by rw [a, b], ?_, ?_⟩
      · unfold wp_X6_reach
        rw [cw, ewi]
        refine sp_isWishC (by omega) (fun _ _ _ => br_f (by decide) ?_) (fun n => absurd rfl (n w w1))
        rw [← ewi]
        exact sp_known0 F k0 (fun ops hei lw held T fi opn ph pv pl px fh fv fl fx h q g f1 f2 => br_t rfl ⟨vp_in_nI (by omega) (by omega), br_f hz ⟨rfl, KN_1 f1 f2, k1, rfl⟩⟩)
      · unfold wp_X7_reach
        rw [cw, ewi']
        exact sp_isWishM (by omega) (fun _ _ _ => br_f (by decide) ⟨vp_in_nI (by omega) (by omega), br_f (by rw [d4.2.2.2]; exact hz) ⟨rfl, rfl⟩⟩) (fun n => absurd rfl (n w w1))
  · refine ⟨fun r => r = -1, fun r r' a b => by rw [a, b], ?_, ?_⟩
    · unfold wp_X6_reach
      rw [ewi]
      refine sp_isWishC (by omega) (fun w h e => absurd ⟨w, h, e⟩ ok) (fun _ => br_t rfl ⟨rfl, k0, k1, rfl⟩)
    · unfold wp_X7_reach
      rw [ewi']
      refine sp_isWishM (by omega) (fun w h e => absurd ⟨w, h, e⟩ ok) (fun _ => br_t rfl ⟨rfl, rfl⟩)
end REACH
