/-! clash, jam, off -/
theorem lt0_iff (x : Int32) : x < (0 : Int32) ↔ x.toInt < 0 := by
  rw [Int32.lt_iff_toInt_lt]
  exact Iff.rfl
theorem le_k (x : Int32) {k : Int} (h : rI k) : x ≤ iI k ↔ x.toInt ≤ k := by
  rw [Int32.le_iff_toInt_le, iI_toInt h]
theorem k_lt (x : Int32) {k : Int} (h : rI k) : iI k < x ↔ k < x.toInt := by
  rw [Int32.lt_iff_toInt_lt, iI_toInt h]
section JAM
variable {told lst off : Nat → Prop} {lim : Nat → Int} {nW : Nat} {V kd M' : Nat → Int} {us : Nat → Nat → Int} {wi : Int32} {it le gof li va kn mo wo : Nat → Int32} {u : Nat → Nat → Int32} {nG : Nat} {gl : Nat → Nat} {ga wi' : Int32} {lt ls ca go wr kn' mo' wf ue : Nat → Int32}
theorem eq_clash (C : TC told lst off lim nW V kd M' us wi it le gof li va kn mo wo u) (D : TM told lst off lim nW V kd M' us nG gl wo ga wi' lt ls ca go wr kn' mo' wf ue) {bk lk bh lh oh : Int32} {bv bl lv ll ov ol : Int64} {bx lx ox : Nat → Int64} (k0 : KN told lst off lim nW V kd M' us wo bk bh bv bl bx) (k1 : KN told lst off lim nW V (fun _ => 0) M' us wo lk lh lv ll lx)
    {ops hei held0 ph : Int32} {lw pv pl : Int64} {T : Nat → Nat → Int64} {fi opn : Nat → Int32} {px : Nat → Int64} {by_ bb bw : Int64} {ib pt : Int32} {x bx' row right m given : Nat → Int64} {part was : Nat → Int32} (x1 : Int32) :
    ∃ Q : Int32 → Prop, (∀ r r', Q r → Q r' → r = r') ∧
      wp_X6_clash bk lk ops hei lw held0 T fi opn ph pv pl px bh bv bl bx lh lv ll lx oh ov ol ox wi it le gof li va kn mo wo u x1 (fun r bk lk _ _ _ _ _ _ _ _ _ _ _ bh bv bl bx lh lv ll lx _ _ _ _ => Q r ∧ KN told lst off lim nW V kd M' us wo bk bh bv bl bx ∧ KN told lst off lim nW V (fun _ => 0) M' us wo lk lh lv ll lx) ∧
      wp_X7_clash ga wi' by_ bb bw ib pt ls ca go wr kn' mo' wf ue x bx' part row right m given was x1 (fun r _ _ _ _ _ go' _ _ _ _ _ _ _ _ => Q r ∧ go' = go) := by
  by_cases s1 : x1 = 0 ∨ x1 = 1
  · exact ⟨CA (CS told lst off lim nW M' us wo nG gl) x1, fun r r' a b => CA_one a b, eq_clashC C D.1 k0 k1 s1, eq_clashM (TC_TF C) D s1⟩
  · refine ⟨fun r => r = -1, fun r r' a b => by rw [a, b], ?_, ?_⟩
    · unfold wp_X6_clash
      exact sp_isSide (fun a => absurd a s1) (fun _ => br_t rfl ⟨rfl, k0, k1⟩)
    · unfold wp_X7_clash
      exact sp_sideM (fun a => absurd a s1) (fun _ => br_t rfl ⟨rfl, rfl⟩)
def limS (lim : Nat → Int) (l : Nat) (v : Int) : Nat → Int := fun j => if j = l then v else lim j
theorem TC_limS (C : TC told lst off lim nW V kd M' us wi it le gof li va kn mo wo u) {l : Nat} {v : Int} (h0 : 0 ≤ v) (h1 : v ≤ 99) : TC told lst off (limS lim l v) nW V kd M' us wi it le gof (upd li l (iI v)) va kn mo wo u := by
  obtain ⟨c1, c2, c3, c4, c5⟩ := C
  refine ⟨c1, c2, fun j hj => ?_, c4, c5⟩
  obtain ⟨a1, a2, a3, a4, a5, a6, a7, a8, a9⟩ := c3 j hj
  unfold limS
  by_cases e : j = l
  · subst e
    rw [pk_us, if_pos rfl]
    exact ⟨a1, a2, a3, a4, a5, a6, rfl, h0, h1⟩
  · rw [pk_un e, if_neg e]
    exact ⟨a1, a2, a3, a4, a5, a6, a7, a8, a9⟩
theorem TM_limS (D : TM told lst off lim nW V kd M' us nG gl wo ga wi' lt ls ca go wr kn' mo' wf ue) {g : Nat} (hg : g < nG) (v : Int) : TM told lst off (limS lim (gl g) v) nW V kd M' us nG gl wo ga wi' lt ls (upd ca g (iI v)) go wr kn' mo' wf ue := by
  obtain ⟨E, d1, d2, d3, d4⟩ := D
  refine ⟨E, d1, d2, fun j hj => ?_, d4⟩
  obtain ⟨a1, a2, a3, a4, a5⟩ := d3 j hj
  refine ⟨a1, a2, a3, ?_, a5⟩
  unfold limS
  by_cases e : j = g
  · subst e
    rw [pk_us, if_pos rfl]
  · have ne : gl j ≠ gl g := by
      rcases Nat.lt_or_ge j g with z | z
      · have := E.2.2.1 j g z hg; omega
      · have := E.2.2.1 g j (by omega) hj; omega
    rw [pk_un e, a4, if_neg ne]
theorem eq_jam (C : TC told lst off lim nW V kd M' us wi it le gof li va kn mo wo u) (D : TM told lst off lim nW V kd M' us nG gl wo ga wi' lt ls ca go wr kn' mo' wf ue) {bk lk bh lh : Int32} {bv bl lv ll : Int64} {bx lx : Nat → Int64} (k0 : KN told lst off lim nW V kd M' us wo bk bh bv bl bx) (k1 : KN told lst off lim nW V (fun _ => 0) M' us wo lk lh lv ll lx) (x1 x2 : Int32) :
    ∃ (r : Int32) (lim' : Nat → Int), wp_X6_jam bk lk it li x1 x2 (fun y bk lk li' => y = r ∧ KN told lst off lim' nW V kd M' us wo bk bh bv bl bx ∧ KN told lst off lim' nW V (fun _ => 0) M' us wo lk lh lv ll lx ∧ TC told lst off lim' nW V kd M' us wi it le gof li' va kn mo wo u) ∧
      wp_X7_jam ga ca x1 x2 (fun y ca' => y = r ∧ TM told lst off lim' nW V kd M' us nG gl wo ga wi' lt ls ca' go wr kn' mo' wf ue) := by
  have E := D.1
  have E5 := E.1
  have ega := D.2.1
  have c3 := C.2.2.1
  have hit : ∀ l, l < 5 → (it l = 0 ∨ it l = 1) ∧ (it l = 1 ↔ told l) := fun l hl => ⟨(c3 l hl).1, (c3 l hl).2.1⟩
  have z99 : (99 : Int32) = iI 99 := rfl
  have l99 : (99 : Int64) = lI 99 := rfl
  by_cases ok : ∃ g, g < nG ∧ x1 = nI g ∧ 0 ≤ x2.toInt ∧ x2.toInt ≤ 99
  · obtain ⟨g, g1, g2, h0, h1⟩ := ok
    have l5 := (E.2.1 g g1).1
    have cl : (nI (gl g)).toNatClampNeg = gl g := nI_clamp (by omega)
    have cg : (nI g).toNatClampNeg = g := nI_clamp (by omega)
    refine ⟨iI (lim (gl g)), limS lim (gl g) x2.toInt, ?_, ?_⟩
    · unfold wp_X6_jam
      refine sp_letterOf E hit (fun g' h e => br_f (nI_pos (by have := (E.2.1 g' h).1; omega)) ?_) (fun n => absurd g2 (n g g1))
      have eg : g' = g := by
        rw [g2, nI_eq (by omega) (by omega)] at e
        exact e.symm
      subst eg
      rw [cl, z99]
      refine br_f (by rw [lt0_iff]; omega) (br_t ((le_k x2 (by unfold rI; omega)).mpr h1) ⟨vp_in_nI l5 (by omega), ?_⟩)
      unfold wp_X6_forgetClearings
      have t := TC_limS C (l := gl g') (v := x2.toInt) h0 h1
      rw [iI_of] at t
      exact ⟨(c3 _ l5).2.2.2.2.2.2.1, KN_0, KN_0, t⟩
    · unfold wp_X7_jam
      rw [ega, g2]
      refine sp_isGateM (by omega) (fun _ _ _ => br_f (by decide) ?_) (fun n => absurd rfl (n g g1))
      rw [lI_0, l99]
      refine sp_inX ⟨by omega, by omega⟩ ⟨by omega, by omega⟩ (fun _ _ => br_f (by decide) ⟨vp_in_nI (by omega) (by omega), ?_⟩) (fun n => absurd ⟨h0, h1⟩ n)
      rw [cg, ← ega]
      have t := TM_limS D g1 x2.toInt
      rw [iI_of] at t
      exact ⟨(D.2.2.2.1 g g1).2.2.2.1, t⟩
  · refine ⟨-1, lim, ?_, ?_⟩
    · unfold wp_X6_jam
      refine sp_letterOf E hit (fun g' h e => br_f (nI_pos (by have := (E.2.1 g' h).1; omega)) ?_) (fun n => br_t (by decide) ⟨rfl, k0, k1, C⟩)
      rw [z99]
      refine br_c (fun _ => ⟨rfl, k0, k1, C⟩) (fun z => br_c (fun y => ?_) (fun _ => ⟨rfl, k0, k1, C⟩))
      rw [lt0_iff] at z
      rw [le_k x2 (by unfold rI; omega)] at y
      exact absurd ⟨g', h, e, by omega, y⟩ ok
    · unfold wp_X7_jam
      rw [ega]
      refine sp_isGateM (by omega) (fun g' h e => br_f (by decide) ?_) (fun n => br_t rfl ⟨rfl, ega ▸ D⟩)
      rw [lI_0, l99]
      exact sp_inX ⟨by omega, by omega⟩ ⟨by omega, by omega⟩ (fun y1 y2 => absurd ⟨g', h, e, y1, y2⟩ ok) (fun _ => br_t rfl ⟨rfl, ega ▸ D⟩)
/-- a gate turned off or on -/
def offS (off : Nat → Prop) (l : Nat) (p : Prop) : Nat → Prop := fun j => (j = l ∧ p) ∨ (j ≠ l ∧ off j)
theorem offS_s {l : Nat} {p : Prop} : offS off l p l ↔ p := ⟨fun y => by rcases y with y | y; exact y.2; exact absurd rfl y.1, fun y => Or.inl ⟨rfl, y⟩⟩
theorem offS_n {l j : Nat} {p : Prop} (h : j ≠ l) : offS off l p j ↔ off j := ⟨fun y => by rcases y with y | y; exact absurd y.1 h; exact y.2, fun y => Or.inr ⟨h, y⟩⟩
theorem TC_offS (C : TC told lst off lim nW V kd M' us wi it le gof li va kn mo wo u) {l : Nat} {x : Int32} (hx : x = 0 ∨ x = 1) : TC told lst (offS off l (x = 1)) lim nW V kd M' us wi it le (upd gof l x) li va kn mo wo u := by
  obtain ⟨c1, c2, c3, c4, c5⟩ := C
  refine ⟨c1, c2, fun j hj => ?_, c4, c5⟩
  obtain ⟨a1, a2, a3, a4, a5, a6, a7⟩ := c3 j hj
  by_cases e : j = l
  · subst e
    rw [pk_us, offS_s]
    exact ⟨a1, a2, a3, a4, hx, Iff.rfl, a7⟩
  · rw [pk_un e, offS_n e]
    exact ⟨a1, a2, a3, a4, a5, a6, a7⟩
theorem TM_offS (D : TM told lst off lim nW V kd M' us nG gl wo ga wi' lt ls ca go wr kn' mo' wf ue) {g : Nat} (hg : g < nG) {x : Int32} (hx : x = 0 ∨ x = 1) : TM told lst (offS off (gl g) (x = 1)) lim nW V kd M' us nG gl wo ga wi' lt ls ca (upd go g x) wr kn' mo' wf ue := by
  obtain ⟨E, d1, d2, d3, d4⟩ := D
  refine ⟨E, d1, d2, fun j hj => ?_, d4⟩
  obtain ⟨a1, a2, a3, a4, a5, a6, a7⟩ := d3 j hj
  by_cases e : j = g
  · subst e
    rw [pk_us, offS_s]
    exact ⟨a1, a2, a3, a4, hx, Iff.rfl, a7⟩
  · have ne : gl j ≠ gl g := by
      rcases Nat.lt_or_ge j g with z | z
      · have := E.2.2.1 j g z hg; omega
      · have := E.2.2.1 g j (by omega) hj; omega
    rw [pk_un e, offS_n ne]
    exact ⟨a1, a2, a3, a4, a5, a6, a7⟩
theorem TC_woS (C : TC told lst off lim nW V kd M' us wi it le gof li va kn mo wo u) {w : Nat} {x : Int32} (hx : x = 0 ∨ x = 1) : TC told lst off lim nW V kd M' us wi it le gof li va kn mo (upd wo w x) u := by
  obtain ⟨c1, c2, c3, c4, c5⟩ := C
  refine ⟨c1, c2, c3, fun j hj => ?_, c5⟩
  obtain ⟨a1, a2, a3, a4, a5⟩ := c4 j hj
  refine ⟨a1, a2, a3, ?_, a5⟩
  by_cases e : j = w
  · subst e; rw [pk_us]; exact hx
  · rw [pk_un e]; exact a4
theorem TM_woS (D : TM told lst off lim nW V kd M' us nG gl wo ga wi' lt ls ca go wr kn' mo' wf ue) (w : Nat) (x : Int32) : TM told lst off lim nW V kd M' us nG gl (upd wo w x) ga wi' lt ls ca go wr kn' mo' (upd wf w x) ue := by
  obtain ⟨E, d1, d2, d3, d4⟩ := D
  refine ⟨E, d1, d2, d3, fun j hj => ?_⟩
  obtain ⟨a1, a2, a3, a4⟩ := d4 j hj
  refine ⟨a1, a2, a3, ?_⟩
  by_cases e : j = w
  · subst e; rw [pk_us, pk_us]
  · rw [pk_un e, pk_un e]; exact a4
end JAM
