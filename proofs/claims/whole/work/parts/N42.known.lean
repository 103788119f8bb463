/-! both finds give the same best -/
def TF (told lst off : Nat → Prop) (lim : Nat → Int) (nW : Nat) (V kd M' : Nat → Int) (us : Nat → Nat → Int) (wi : Int32) (it le gof li va kn mo wo : Nat → Int32) (u : Nat → Nat → Int32) : Prop :=
  wi = nI nW ∧ nW ≤ 4 ∧ (∀ l, l < 5 → (it l = 0 ∨ it l = 1) ∧ (it l = 1 ↔ told l) ∧ (le l = 0 ∨ le l = 1) ∧ (le l = 1 ↔ lst l) ∧ (gof l = 0 ∨ gof l = 1) ∧ (gof l = 1 ↔ off l) ∧ li l = iI (lim l) ∧ 0 ≤ lim l ∧ lim l ≤ 100)
  ∧ (∀ w, w < 4 → va w = iI (V w) ∧ 0 ≤ V w ∧ V w ≤ 198 ∧ (wo w = 0 ∨ wo w = 1) ∧ kn w = iI (kd w) ∧ 0 ≤ kd w ∧ kd w ≤ 2 ∧ mo w = iI (M' w) ∧ 0 ≤ M' w ∧ M' w ≤ 12 ∧ ∀ l, l < 5 → u w l = iI (us w l) ∧ 0 ≤ us w l ∧ us w l ≤ 9)
  ∧ (∀ w, w < nW → ∀ l, l < 5 → ¬ told l → us w l = 0)
section KN
variable {told lst off : Nat → Prop} {lim : Nat → Int} {nW : Nat} {V kd M' : Nat → Int} {us : Nat → Nat → Int} {wi : Int32} {it le gof li va kn mo wo : Nat → Int32} {u : Nat → Nat → Int32} {nG : Nat} {gl : Nat → Nat} {ga wi' : Int32} {lt ls ca go wr kn' mo' wf ue : Nat → Int32}
theorem TC_TF (C : TC told lst off lim nW V kd M' us wi it le gof li va kn mo wo u) : TF told lst off lim nW V kd M' us wi it le gof li va kn mo wo u := by
  obtain ⟨c1, c2, c3, c4, c5⟩ := C
  refine ⟨c1, c2, fun l hl => ?_, fun w hw => ?_, c5⟩
  · obtain ⟨a1, a2, a3, a4, a5, a6, a7, a8, a9⟩ := c3 l hl
    exact ⟨a1, a2, a3, a4, a5, a6, a7, a8, by omega⟩
  · obtain ⟨a1, a2, a3, a4⟩ := c4 w hw
    exact ⟨a1, a2, by omega, a4⟩
/-- the best of a table (kinds k), or none -/
def RB (told lst off : Nat → Prop) (lim : Nat → Int) (nW : Nat) (V k M' : Nat → Int) (us : Nat → Nat → Int) (wo : Nat → Int32) (h : Prop) (q : Nat → Int) (g : Int) : Prop :=
  (h → IsB V (aM nW wo M') k (GH us lim lst (fun l => told l ∧ ¬ off l)) q g) ∧ (¬ h → NoB (aM nW wo M') k (GH us lim lst (fun l => told l ∧ ¬ off l)))
theorem RB_eq {k : Nat → Int} {h h' : Prop} {q q' : Nat → Int} {g g' : Int} (a : RB told lst off lim nW V k M' us wo h q g) (b : RB told lst off lim nW V k M' us wo h' q' g') : (h ↔ h') ∧ (h → (∀ w, w < 4 → q w * g' = q' w * g) ∧ dot V q * g' = dot V q' * g) := by
  have e : h ↔ h' := by
    constructor
    · intro z
      by_cases y : h'
      · exact y
      · exact (b.2 y q g (a.1 z).1 (a.1 z).2.1).elim
    · intro z
      by_cases y : h
      · exact y
      · exact (a.2 y q' g' (b.1 z).1 (b.1 z).2.1).elim
  refine ⟨e, fun z => ?_⟩
  have i1 := a.1 z
  have i2 := b.1 (e.mp z)
  exact Ge_anti (i1.2.2 q' g' i2.1 i2.2.1) (i2.2.2 q g i1.1 i1.2.1)
theorem aM_0 {w : Nat} (h : nW ≤ w) : aM nW wo M' w = 0 := by
  unfold aM
  rw [if_neg (by omega)]
theorem GH_GM (hW : nW ≤ 4) (E : EnumN told 5 nG gl) (hgo : ∀ g, g < nG → (go g = 0 ↔ ¬ off (gl g))) {x : Nat → Int} {d : Int} (hx : ∀ w, w < 4 → nW ≤ w → x w = 0) : GH us lim lst (fun l => told l ∧ ¬ off l) x d ↔ GM nG nW (fun w g => us w (gl g)) (fun g => lim (gl g)) (fun g => lst (gl g)) go x d := by
  have key : ∀ l, dot (fun w => us w l) x = ssum (fun w => us w l * x w) nW := fun l => (dot_ssum hW hx).symm
  constructor
  · intro h g hg og
    have e := E.2.1 g hg
    have a := h (gl g) e.1 ⟨e.2, (hgo g hg).mp og⟩
    rw [key] at a
    refine ⟨fun z => ?_, fun z => ?_⟩
    · have s1 : sgl lst (gl g) = 1 := by unfold sgl; rw [if_pos z]
      rw [s1] at a
      dsimp only
      omega
    · have s1 : sgl lst (gl g) = -1 := by unfold sgl; rw [if_neg z]
      rw [s1] at a
      dsimp only
      omega
  · intro h l hl hb
    obtain ⟨g, hg, eg⟩ := E.2.2.2 l hl hb.1
    have a := h g hg ((hgo g hg).mpr (eg ▸ hb.2))
    rw [key]
    (try dsimp only at a)
    rw [eg] at a
    by_cases z : lst l
    · have s1 : sgl lst l = 1 := by unfold sgl; rw [if_pos z]
      rw [s1]
      have := a.1 z
      omega
    · have s1 : sgl lst l = -1 := by unfold sgl; rw [if_neg z]
      rw [s1]
      have := a.2 z
      omega
theorem Pf_0 {G : (Nat → Int) → Int → Prop} {x : Nat → Int} {d : Int} (p : Pf (aM nW wo M') G x d) : ∀ w, w < 4 → nW ≤ w → x w = 0 := fun w hw n => by
  have a := p.2.1 w hw
  rw [aM_0 n] at a
  omega
theorem Pf_iff (hW : nW ≤ 4) (E : EnumN told 5 nG gl) (hgo : ∀ g, g < nG → (go g = 0 ↔ ¬ off (gl g))) (x : Nat → Int) (d : Int) : Pf (aM nW wo M') (GM nG nW (fun w g => us w (gl g)) (fun g => lim (gl g)) (fun g => lst (gl g)) go) x d ↔ Pf (aM nW wo M') (GH us lim lst (fun l => told l ∧ ¬ off l)) x d := by
  constructor
  · intro p
    exact ⟨p.1, p.2.1, (GH_GM hW E hgo (Pf_0 p)).mpr p.2.2⟩
  · intro p
    exact ⟨p.1, p.2.1, (GH_GM hW E hgo (Pf_0 p)).mp p.2.2⟩
theorem aM_wo {wf : Nat → Int32} (h : ∀ w, w < nW → wf w = wo w) : aM nW wf M' = aM nW wo M' := by
  funext w
  unfold aM
  by_cases z : w < nW
  · rw [h w z]
  · rw [if_neg (fun y => z y.1), if_neg (fun y => z y.1)]
theorem sp_findMM (C : TF told lst off lim nW V kd M' us wi it le gof li va kn mo wo u) (D : TM told lst off lim nW V kd M' us nG gl wo ga wi' lt ls ca go wr kn' mo' wf ue) {lo : Int32} (hlo : lo = 0 ∨ lo = 1)
    {by_ bb bw : Int64} {ib pt : Int32} {x bx row right m given : Nat → Int64} {part : Nat → Int32}
    {post : Int32 → Int64 → Int64 → Int64 → Int32 → Int32 → (Nat → Int64) → (Nat → Int64) → (Nat → Int32) → (Nat → Int64) → (Nat → Int64) → (Nat → Int64) → (Nat → Int64) → Prop}
    (hpost : ∀ (by_ bb bw : Int64) (ib pt : Int32) (x bx row right m given : Nat → Int64) (part : Nat → Int32) (h : Prop) (q : Nat → Int) (g : Int), FM nW V q g bb bw ib bx h → RB told lst off lim nW V (if lo = 0 then kd else fun _ => 0) M' us wo h q g → post ib by_ bb bw ib pt x bx part row right m given) :
    wp_X7_find ga wi' by_ bb bw ib pt ls ca go wr kn' mo' wf ue x bx part row right m given lo post := by
  obtain ⟨c1, c2, c3, c4, c5⟩ := C
  obtain ⟨E, d1, d2, d3, d4⟩ := D
  have E5 := E.1
  subst d1
  subst d2
  have hgo : ∀ g, g < nG → (go g = 0 ↔ ¬ off (gl g)) := fun g hg => by
    obtain ⟨_, _, _, _, a5, a6, _⟩ := d3 g hg
    rcases a5 with z | z
    · rw [z]
      exact ⟨fun _ y => absurd (a6.mpr y) (by rw [z]; decide), fun _ => rfl⟩
    · rw [z]
      exact ⟨fun y => absurd y (by decide), fun y => absurd (a6.mp z) y⟩
  have am := aM_wo (M' := M') (fun w hw => (d4 w hw).2.2.2)
  refine sp_findM (U := fun w g => us w (gl g)) (lim := fun g => lim (gl g)) (lst := fun g => lst (gl g)) (M' := M') (V := V) (kd := kd) E5 c2 (fun g hg => ?_) (fun w hw => ?_) (fun w hw => ?_) (fun w hw => ⟨(c4 w hw).2.1, (c4 w hw).2.2.1⟩) (fun w hw => (d4 w hw).1) hlo (fun by_ bb bw ib pt x bx row right m given part h q g f1 f2 f3 => ?_)
  · obtain ⟨a1, a2, a3, a4, a5, a6, a7⟩ := d3 g hg
    have l5 := (E.2.1 g hg).1
    have b := c3 (gl g) l5
    refine ⟨a4, b.2.2.2.2.2.2.2.1, b.2.2.2.2.2.2.2.2, a3, fun w hw => ⟨a7 w hw, ?_⟩⟩
    exact ((c4 w (by omega)).2.2.2.2.2.2.2.2.2.2 (gl g) l5).2
  · have b := c4 w (by omega)
    exact ⟨(d4 w hw).2.2.1, b.2.2.2.2.2.2.2.2.1, b.2.2.2.2.2.2.2.2.2.1⟩
  · have b := c4 w (by omega)
    exact ⟨(d4 w hw).2.1, b.2.2.2.2.2.1, b.2.2.2.2.2.2.1⟩
  · rw [am] at f2 f3
    have pi := Pf_iff (wo := wo) (M' := M') (us := us) (lim := lim) (lst := lst) c2 E hgo
    refine hpost _ _ _ _ _ _ _ _ _ _ _ _ h q g f1 ⟨fun z => ?_, fun z y e py ky => f3 z y e ((pi y e).mpr py) ky⟩
    obtain ⟨p1, p2, p3⟩ := f2 z
    exact ⟨(pi q g).mp p1, p2, fun y e py ky => p3 y e ((pi y e).mpr py) ky⟩
theorem sp_findC (C : TF told lst off lim nW V kd M' us wi it le gof li va kn mo wo u) {held : Int32} {hb : Nat → Prop} (hh : ∀ l, l < 5 → (((held >>> (nI l &&& 31)) &&& (1 : Int32)) = 1 ↔ hb l)) {x2 : Int32} (hx2 : x2 = 0 ∨ x2 = 1)
    {ops hei held0 ph fh : Int32} {lw pv pl fv fl : Int64} {T : Nat → Nat → Int64} {fi opn : Nat → Int32} {px fx : Nat → Int64}
    {post : Int32 → Int32 → Int64 → Int32 → (Nat → Nat → Int64) → (Nat → Int32) → (Nat → Int32) → Int32 → Int64 → Int64 → (Nat → Int64) → Int32 → Int64 → Int64 → (Nat → Int64) → Prop}
    (hpost : ∀ (ops hei : Int32) (lw : Int64) (T : Nat → Nat → Int64) (fi opn : Nat → Int32) (ph : Int32) (pv pl : Int64) (px : Nat → Int64) (fh : Int32) (fv fl : Int64) (fx : Nat → Int64) (h : Prop) (q : Nat → Int) (g : Int), FR V q g fh fv fl fx h → (h → IsB V (aM nW wo M') (if x2 = 0 then kd else fun _ => 0) (GH us lim lst hb) q g) → (¬ h → NoB (aM nW wo M') (if x2 = 0 then kd else fun _ => 0) (GH us lim lst hb)) → post ops hei lw held T fi opn ph pv pl px fh fv fl fx) :
    wp_X1_find ops hei lw held0 T fi opn ph pv pl px wi le li va kn mo wo u fh fv fl fx x2 held post := by
  obtain ⟨c1, c2, c3, c4, c5⟩ := C
  subst c1
  refine sp_find (us := us) (lim := lim) (lst := lst) (V := V) (kd := kd) (M' := M') (fun l hl => ?_) hh (fun w hw => ?_) c2 (fun w hw => ?_) hx2 hpost
  · obtain ⟨a1, a2, a3, a4, a5, a6, a7, a8, a9⟩ := c3 l hl
    refine ⟨a7, a8, a9, ?_, fun w hw => (c4 w hw).2.2.2.2.2.2.2.2.2.2 l hl⟩
    rcases a3 with z | z
    · rw [z]
      exact ⟨fun _ y => absurd (a4.mpr y) (by rw [z]; decide), fun _ => rfl⟩
    · rw [z]
      exact ⟨fun y => absurd y (by decide), fun y => absurd (a4.mp z) y⟩
  · obtain ⟨a1, a2, a3, _⟩ := c4 w hw
    exact ⟨a1, a2, a3⟩
  · obtain ⟨_, _, _, _, a5, a6, a7, a8, a9, a10, _⟩ := c4 w (by omega)
    exact ⟨a5, a6, a7, a8, a9, a10⟩
theorem sp_heldFind (C : TF told lst off lim nW V kd M' us wi it le gof li va kn mo wo u) {x2 : Int32} (hx2 : x2 = 0 ∨ x2 = 1)
    {ops hei held0 ph fh : Int32} {lw pv pl fv fl : Int64} {T : Nat → Nat → Int64} {fi opn : Nat → Int32} {px fx : Nat → Int64}
    {post : Int32 → Int32 → Int64 → Int32 → (Nat → Nat → Int64) → (Nat → Int32) → (Nat → Int32) → Int32 → Int64 → Int64 → (Nat → Int64) → Int32 → Int64 → Int64 → (Nat → Int64) → Prop}
    (hpost : ∀ (ops hei : Int32) (lw : Int64) (held : Int32) (T : Nat → Nat → Int64) (fi opn : Nat → Int32) (ph : Int32) (pv pl : Int64) (px : Nat → Int64) (fh : Int32) (fv fl : Int64) (fx : Nat → Int64) (h : Prop) (q : Nat → Int) (g : Int), FR V q g fh fv fl fx h → RB told lst off lim nW V (if x2 = 0 then kd else fun _ => 0) M' us wo h q g → post ops hei lw held T fi opn ph pv pl px fh fv fl fx) :
    wp_X4_heldGates it gof (fun r => wp_X1_find ops hei lw held0 T fi opn ph pv pl px wi le li va kn mo wo u fh fv fl fx x2 r post) := by
  have c3 := C.2.2.1
  refine sp_heldGates (told := told) (off := off) (fun l hl => ⟨(c3 l hl).1, (c3 l hl).2.1⟩) (fun l hl => ⟨(c3 l hl).2.2.2.2.1, (c3 l hl).2.2.2.2.2.1⟩) (fun m hm => ?_)
  exact sp_findC C hm hx2 (fun ops hei lw T fi opn ph pv pl px fh fv fl fx h q g f1 f2 f3 => hpost _ _ _ _ _ _ _ _ _ _ _ _ _ _ _ h q g f1 ⟨f2, f3⟩)
/-! what is known -/
def KN (told lst off : Nat → Prop) (lim : Nat → Int) (nW : Nat) (V k M' : Nat → Int) (us : Nat → Nat → Int) (wo : Nat → Int32) (bk fh : Int32) (fv fl : Int64) (fx : Nat → Int64) : Prop :=
  (bk = 0 ∨ bk = 1) ∧ (bk = 1 → ∃ (h : Prop) (q : Nat → Int) (g : Int), FR V q g fh fv fl fx h ∧ RB told lst off lim nW V k M' us wo h q g)
theorem sp_known0 (C : TF told lst off lim nW V kd M' us wi it le gof li va kn mo wo u) {bk lk bh lh : Int32} {bv bl lv ll : Int64} {bx lx : Nat → Int64} (kb : KN told lst off lim nW V kd M' us wo bk bh bv bl bx)
    {ops hei held0 ph : Int32} {lw pv pl : Int64} {T : Nat → Nat → Int64} {fi opn : Nat → Int32} {px : Nat → Int64}
    {post : Nat → Int32 → Int32 → Int32 → Int32 → Int64 → Int32 → (Nat → Nat → Int64) → (Nat → Int32) → (Nat → Int32) → Int32 → Int64 → Int64 → (Nat → Int64) → Int32 → Int64 → Int64 → (Nat → Int64) → Int32 → Int64 → Int64 → (Nat → Int64) → Prop}
    (hpost : ∀ (ops hei : Int32) (lw : Int64) (held : Int32) (T : Nat → Nat → Int64) (fi opn : Nat → Int32) (ph : Int32) (pv pl : Int64) (px : Nat → Int64) (fh : Int32) (fv fl : Int64) (fx : Nat → Int64) (h : Prop) (q : Nat → Int) (g : Int), FR V q g fh fv fl fx h → RB told lst off lim nW V kd M' us wo h q g → post 0 1 lk ops hei lw held T fi opn ph pv pl px fh fv fl fx lh lv ll lx) :
    wp_X6_known bk lk ops hei lw held0 T fi opn ph pv pl px bh bv bl bx lh lv ll lx wi it le gof li va kn mo wo u (0 : Int32) post := by
  unfold wp_X6_known
  refine br_t rfl (br_c (fun z => ?_) (fun z => ?_))
  · exact sp_heldFind C (Or.inl rfl) (fun ops hei lw held T fi opn ph pv pl px fh fv fl fx h q g f1 f2 => hpost _ _ _ _ _ _ _ _ _ _ _ _ _ _ _ h q g f1 (by rw [if_pos rfl] at f2; exact f2))
  · obtain ⟨h, q, g, f1, f2⟩ := kb.2 (by rcases kb.1 with y | y; exact absurd y z; exact y)
    exact hpost _ _ _ _ _ _ _ _ _ _ _ _ _ _ _ h q g f1 f2
theorem sp_known1 (C : TF told lst off lim nW V kd M' us wi it le gof li va kn mo wo u) {bk lk bh lh : Int32} {bv bl lv ll : Int64} {bx lx : Nat → Int64} (kb : KN told lst off lim nW V (fun _ => 0) M' us wo lk lh lv ll lx)
    {ops hei held0 ph : Int32} {lw pv pl : Int64} {T : Nat → Nat → Int64} {fi opn : Nat → Int32} {px : Nat → Int64}
    {post : Nat → Int32 → Int32 → Int32 → Int32 → Int64 → Int32 → (Nat → Nat → Int64) → (Nat → Int32) → (Nat → Int32) → Int32 → Int64 → Int64 → (Nat → Int64) → Int32 → Int64 → Int64 → (Nat → Int64) → Int32 → Int64 → Int64 → (Nat → Int64) → Prop}
    (hpost : ∀ (ops hei : Int32) (lw : Int64) (held : Int32) (T : Nat → Nat → Int64) (fi opn : Nat → Int32) (ph : Int32) (pv pl : Int64) (px : Nat → Int64) (fh : Int32) (fv fl : Int64) (fx : Nat → Int64) (h : Prop) (q : Nat → Int) (g : Int), FR V q g fh fv fl fx h → RB told lst off lim nW V (fun _ => 0) M' us wo h q g → post 1 bk 1 ops hei lw held T fi opn ph pv pl px bh bv bl bx fh fv fl fx) :
    wp_X6_known bk lk ops hei lw held0 T fi opn ph pv pl px bh bv bl bx lh lv ll lx wi it le gof li va kn mo wo u (1 : Int32) post := by
  unfold wp_X6_known
  refine br_f (by decide) (br_c (fun z => ?_) (fun z => ?_))
  · exact sp_heldFind C (Or.inr rfl) (fun ops hei lw held T fi opn ph pv pl px fh fv fl fx h q g f1 f2 => hpost _ _ _ _ _ _ _ _ _ _ _ _ _ _ _ h q g f1 (by rw [if_neg (by decide)] at f2; exact f2))
  · obtain ⟨h, q, g, f1, f2⟩ := kb.2 (by rcases kb.1 with y | y; exact absurd y z; exact y)
    exact hpost _ _ _ _ _ _ _ _ _ _ _ _ _ _ _ h q g f1 f2
theorem KN_1 {k : Nat → Int} {fh : Int32} {fv fl : Int64} {fx : Nat → Int64} {h : Prop} {q : Nat → Int} {g : Int} (a : FR V q g fh fv fl fx h) (b : RB told lst off lim nW V k M' us wo h q g) : KN told lst off lim nW V k M' us wo 1 fh fv fl fx := ⟨Or.inr rfl, fun _ => ⟨h, q, g, a, b⟩⟩
theorem KN_0 {k : Nat → Int} {fh : Int32} {fv fl : Int64} {fx : Nat → Int64} : KN told lst off lim nW V k M' us wo 0 fh fv fl fx := ⟨Or.inl rfl, fun z => absurd z (by decide)⟩
theorem sp_isSide {x : Int32} {post : Int32 → Prop} (h1 : x = 0 ∨ x = 1 → post 1) (h0 : ¬ (x = 0 ∨ x = 1) → post 0) : wp_X6_isSide x post := by
  unfold wp_X6_isSide
  exact br_c (fun z => h1 (Or.inl z)) (fun z => br_c (fun y => h1 (Or.inr y)) (fun y => h0 (fun w => by rcases w with w | w; exact z w; exact y w)))
theorem sp_sideM {x : Int32} {post : Int32 → Prop} (h1 : x = 0 ∨ x = 1 → post 1) (h0 : ¬ (x = 0 ∨ x = 1) → post 0) : wp_X7_in x.toInt64 (0 : Int64) (1 : Int64) post := by
  rw [lI_0, lI_1]
  refine sp_inX ⟨by omega, by omega⟩ ⟨by omega, by omega⟩ (fun a b => h1 ?_) (fun n => h0 (fun w => n ?_))
  · obtain ⟨j, hj, ej⟩ := toInt_nI (n := 2) a (by omega) (by omega)
    rcases (by omega : j = 0 ∨ j = 1) with e | e <;> subst e
    · exact Or.inl ej
    · exact Or.inr ej
  · rcases w with w | w <;> rw [w] <;> decide
end KN
