/-! the search: its two loops, and itself -/
def cno (f : Nat → Int) : Nat := (if f 0 = -1 then 1 else 0) + (if f 1 = -1 then 1 else 0) + (if f 2 = -1 then 1 else 0) + (if f 3 = -1 then 1 else 0)
theorem cno_uf {f : Nat → Int} {w : Nat} (hw : w < 4) (hf : f w = -1) {z : Int} (hz : 0 ≤ z) : cno (uf f w z) + 1 = cno f := by
  have nz : ¬ z = -1 := by omega
  revert hf
  refine c4 (P := fun w => f w = -1 → cno (uf f w z) + 1 = cno f) ?_ ?_ ?_ ?_ hw <;> intro hf <;> simp [cno, uf, hf, nz] <;> omega
def Fok (M kd : Nat → Int) (nW : Nat) (mo : Nat → Int32) (f : Nat → Int) : Prop := ∀ w, w < 4 → (f w = -1 → w < nW ∧ mo w = iI (M w)) ∧ (f w ≠ -1 → 0 ≤ f w ∧ f w ≤ M w ∧ (kd w = 2 → f w = 0 ∨ f w = M w))
def FixO (w : Nat) (f : Nat → Int) (fi : Nat → Int32) : Prop := ∀ v, v < 4 → v ≠ w → fi v = iI (f v) ∧ -1 ≤ f v ∧ f v ≤ 12
theorem past_belowC {V M kd : Nat → Int} {G : (Nat → Int) → Int → Prop} (gc : GC G) {f : Nat → Int} {w : Nat} (hf : f w = -1) {p : Nat → Int} {c : Int} (hp : IsL V M G f p c) {z : Int} (hz : z * c ≤ p w)
    {h : Prop} {q : Nat → Int} {g : Int} (fd : Fnd M kd G h q g) (hq : CovP V M G (uf f w z) h q g) {y : Nat → Int} {e : Int} (hy : Pf M G y e) (fy : Fx f y e) (lt : y w < z * e) : h ∧ Ge V q g y e := by
  have hk : 0 < z * e - y w := by omega
  have hl : 0 ≤ p w - z * c := by omega
  have m1 := mix_Pf gc hp.1 hy hk hl
  have m2 := mix_Fx (z * e - y w) (p w - z * c) hp.2.1 fy
  obtain ⟨hh, m3⟩ := hq _ _ m1 (Fx_uf' m2 (by (try dsimp only); grind))
  exact ⟨hh, Ge_trans (fd hh).1.1 m1.1 hy.1 m3 (mix_Ge (Int.le_of_lt hk) (hp.2.2 y e hy fy))⟩
theorem past_aboveC {V M kd : Nat → Int} {G : (Nat → Int) → Int → Prop} (gc : GC G) {f : Nat → Int} {w : Nat} (hf : f w = -1) {p : Nat → Int} {c : Int} (hp : IsL V M G f p c) {z : Int} (hz : p w ≤ z * c)
    {h : Prop} {q : Nat → Int} {g : Int} (fd : Fnd M kd G h q g) (hq : CovP V M G (uf f w z) h q g) {y : Nat → Int} {e : Int} (hy : Pf M G y e) (fy : Fx f y e) (lt : z * e < y w) : h ∧ Ge V q g y e := by
  have hk : 0 < y w - z * e := by omega
  have hl : 0 ≤ z * c - p w := by omega
  have m1 := mix_Pf gc hp.1 hy hk hl
  have m2 := mix_Fx (y w - z * e) (z * c - p w) hp.2.1 fy
  obtain ⟨hh, m3⟩ := hq _ _ m1 (Fx_uf' m2 (by (try dsimp only); grind))
  exact ⟨hh, Ge_trans (fd hh).1.1 m1.1 hy.1 m3 (mix_Ge (Int.le_of_lt hk) (hp.2.2 y e hy fy))⟩
abbrev TRec : Type := Int32 → Int32 → Int64 → Int32 → (Nat → Nat → Int64) → (Nat → Int32) → (Nat → Int32) → Int32 → Int64 → Int64 → (Nat → Int64) → Int32 → (Nat → Int32) → (Nat → Int32) → (Nat → Int32) → (Nat → Int32) → (Nat → Int32) → (Nat → Nat → Int32) → Int32 → Int64 → Int64 → (Nat → Int64) → Int32 → Int32 → (Int32 → Int32 → Int32 → Int64 → (Nat → Nat → Int64) → (Nat → Int32) → (Nat → Int32) → Int32 → Int64 → Int64 → (Nat → Int64) → Int32 → Int64 → Int64 → (Nat → Int64) → Prop) → Prop
def RecOK (rec : TRec) (V M kd lim : Nat → Int) (us : Nat → Nat → Int) (lst hb : Nat → Prop) (nW : Nat) (held : Int32) (le li va kn mo : Nat → Int32) (u : Nat → Nat → Int32) (dep : Nat) (x2 : Int32) : Prop :=
  ∀ (f : Nat → Int) (h : Prop) (q : Nat → Int) (g : Int) (ops hei : Int32) (lw : Int64) (T : Nat → Nat → Int64) (fi opn : Nat → Int32) (ph : Int32) (pv pl : Int64) (px : Nat → Int64) (fh : Int32) (fv fl : Int64) (fx : Nat → Int64) (post : Int32 → Int32 → Int32 → Int64 → (Nat → Nat → Int64) → (Nat → Int32) → (Nat → Int32) → Int32 → Int64 → Int64 → (Nat → Int64) → Int32 → Int64 → Int64 → (Nat → Int64) → Prop),
    cno f + dep ≤ 4 → FixR f fi → Fok M kd nW mo f → FR V q g fh fv fl fx h → Fnd M kd (GH us lim lst hb) h q g →
    (∀ (r ops hei : Int32) (lw : Int64) (T : Nat → Nat → Int64) (fi opn : Nat → Int32) (ph : Int32) (pv pl : Int64) (px : Nat → Int64) (fh : Int32) (fv fl : Int64) (fx : Nat → Int64) (h' : Prop) (q' : Nat → Int) (g' : Int), FixR f fi → FR V q' g' fh fv fl fx h' → SP V M kd (GH us lim lst hb) f h q g (¬ r = 0) h' q' g' → post r ops hei lw T fi opn ph pv pl px fh fv fl fx) →
    rec ops hei lw held T fi opn ph pv pl px (nI nW) le li va kn mo u fh fv fl fx x2 (nI dep) post
theorem uf_FixR {f : Nat → Int} {fi : Nat → Int32} {w : Nat} (h : FixO w f fi) {x : Nat} (hx : x ≤ 12) : FixR (uf f w x) (upd fi w (nI x)) := by
  intro v hv
  by_cases e : v = w
  · subst e
    rw [uf_same, pk_us, nI_iI]
    exact ⟨rfl, by omega, by omega⟩
  · rw [uf_other f _ e, pk_un e]
    exact h v hv e
theorem uf_Fok {M kd f : Nat → Int} {nW : Nat} {mo : Nat → Int32} {w : Nat} (h : Fok M kd nW mo f) {x : Nat} (hx : (x : Int) ≤ M w) (hk : kd w = 2 → (x : Int) = 0 ∨ (x : Int) = M w) : Fok M kd nW mo (uf f w x) := by
  intro v hv
  by_cases e : v = w
  · subst e
    rw [uf_same]
    exact ⟨fun z => by omega, fun _ => ⟨by omega, hx, hk⟩⟩
  · rw [uf_other f _ e]
    exact h v hv
theorem Fix_O {f : Nat → Int} {fi : Nat → Int32} {w : Nat} {z : Int} (h : FixR (uf f w z) fi) : FixO w f fi := by
  intro v hv e
  have := h v hv
  rw [uf_other f _ e] at this
  exact this
section LOOPS
variable {rec : TRec} {V M kd lim : Nat → Int} {us : Nat → Nat → Int} {lst hb : Nat → Prop} {nW dep : Nat} {held x8 : Int32} {le li va kn mo : Nat → Int32} {u : Nat → Nat → Int32}
theorem lp_down (R : RecOK rec V M kd lim us lst hb nW held le li va kn mo u (dep + 1) 0) (hd : dep ≤ 4) {f : Nat → Int} {w : Nat} (hw : w < 4) (hf : f w = -1) (cn : cno f + dep ≤ 4) (fo : Fok M kd nW mo f) {p : Nat → Int} {c : Int} (hp : IsL V M (GH us lim lst hb) f p c) (hM : M w ≤ 12)
    {kx : Int32 → Int32 → Int64 → (Nat → Nat → Int64) → (Nat → Int32) → (Nat → Int32) → Int32 → Int64 → Int64 → (Nat → Int64) → Int32 → Int64 → Int64 → (Nat → Int64) → Prop}
    {post : Int32 → Int32 → Int32 → Int64 → (Nat → Nat → Int64) → (Nat → Int32) → (Nat → Int32) → Int32 → Int64 → Int64 → (Nat → Int64) → Int32 → Int64 → Int64 → (Nat → Int64) → Prop} :
    ∀ (x : Nat), (x : Int) ≤ M w → (x : Int) * c ≤ p w → (kd w = 2 → x = 0) → ∀ (h : Prop) (q : Nat → Int) (g : Int) (ops hei : Int32) (lw : Int64) (T : Nat → Nat → Int64) (fi opn : Nat → Int32) (ph : Int32) (pv pl : Int64) (px : Nat → Int64) (fh : Int32) (fv fl : Int64) (fx : Nat → Int64),
      FixO w f fi → FR V q g fh fv fl fx h → Fnd M kd (GH us lim lst hb) h q g →
      (∀ (ops hei : Int32) (lw : Int64) (T : Nat → Nat → Int64) (fi opn : Nat → Int32) (ph : Int32) (pv pl : Int64) (px : Nat → Int64) (fh : Int32) (fv fl : Int64) (fx : Nat → Int64) (h' : Prop) (q' : Nat → Int) (g' : Int), FixO w f fi → FR V q' g' fh fv fl fx h' → Fnd M kd (GH us lim lst hb) h' q' g' → Up V h q g h' q' g' → Cov V M kd (GH us lim lst hb) (fun y e => Fx f y e ∧ ∃ k : Int, y w = k * e ∧ k ≤ x) h' q' g' → kx ops hei lw T fi opn ph pv pl px fh fv fl fx) →
      wl_X1_search_135 rec (nI dep) (nI w) x8 held (nI nW) le li va kn mo u kx post (x + 2) (nI x) ops hei lw T fi opn ph pv pl px fh fv fl fx := by
  intro x
  have cw : (nI w).toNatClampNeg = w := nI_clamp (by omega)
  have gc := GH_GC us lim lst hb
  induction x with
  | zero =>
    intro hxM hxp hk h q g ops hei lw T fi opn ph pv pl px fh fv fl fx fO fr fd K
    show ws_X1_search_135 _ _ _ _ _ _ _ _ _ _ _ _ _ _ _ _ _ _ _ _ _ _ _ _ _ _ _ _ _ _
    unfold ws_X1_search_135
    refine br_f (by decide) ⟨vp_in_nI hw (by omega), ?_⟩
    rw [cw, nI_1 dep]
    refine R (uf f w 0) h q g _ _ _ _ _ _ _ _ _ _ _ _ _ _ _ (by have := cno_uf hw hf (z := 0) (by omega); omega) (uf_FixR (x := 0) fO (by omega)) (uf_Fok (x := 0) fo (by omega) (fun _ => Or.inl rfl)) fr fd (fun r ops hei lw T fi opn ph pv pl px fh fv fl fx h' q' g' a1 a2 a3 => ?_)
    obtain ⟨s1, s2, s3, s4⟩ := a3
    have cov : Cov V M kd (GH us lim lst hb) (fun y e => Fx f y e ∧ ∃ k : Int, y w = k * e ∧ k ≤ (0 : Nat)) h' q' g' := by
      intro y e py ky ⟨fy, k, k1, k2⟩
      have k0 : k = 0 := by
        have := (py.2.1 w hw).1
        rcases Int.lt_or_le k 0 with z | z
        · exfalso
          have := Int.mul_pos (a := -k) (b := e) (by omega) py.1
          rw [Int.neg_mul] at this
          omega
        · omega
      exact s3 y e py ky (Fx_uf' fy (by rw [k1, k0]))
    refine br_c (fun _ => K _ _ _ _ _ _ _ _ _ _ _ _ _ _ h' q' g' (Fix_O a1) a2 s1 s2 cov) (fun _ => ?_)
    show ws_X1_search_135 _ _ _ _ _ _ _ _ _ _ _ _ _ _ _ _ _ _ _ _ _ _ _ _ _ _ _ _ _ _
    unfold ws_X1_search_135
    exact br_t (by decide) (K _ _ _ _ _ _ _ _ _ _ _ _ _ _ h' q' g' (Fix_O a1) a2 s1 s2 cov)
  | succ x ih =>
    intro hxM hxp hk h q g ops hei lw T fi opn ph pv pl px fh fv fl fx fO fr fd K
    have c0 := hp.1.1
    show ws_X1_search_135 _ _ _ _ _ _ _ _ _ _ _ _ _ _ _ _ _ _ _ _ _ _ _ _ _ _ _ _ _ _
    unfold ws_X1_search_135
    refine br_f (nI_pos (by omega)) ⟨vp_in_nI hw (by omega), ?_⟩
    rw [cw, nI_1 dep]
    refine R (uf f w ((x + 1 : Nat) : Int)) h q g _ _ _ _ _ _ _ _ _ _ _ _ _ _ _ (by have := cno_uf hw hf (z := ((x + 1 : Nat) : Int)) (by omega); omega) (uf_FixR (x := x + 1) fO (by omega)) (uf_Fok (x := x + 1) fo hxM (fun z => by have := hk z; omega)) fr fd (fun r ops hei lw T fi opn ph pv pl px fh fv fl fx h' q' g' a1 a2 a3 => ?_)
    obtain ⟨s1, s2, s3, s4⟩ := a3
    refine br_c (fun z => ?_) (fun z => ?_)
    · refine K _ _ _ _ _ _ _ _ _ _ _ _ _ _ h' q' g' (Fix_O a1) a2 s1 s2 (fun y e py ky ⟨fy, k, k1, k2⟩ => ?_)
      have cp := s4 (fun n => n z)
      rcases Int.lt_or_le k ((x + 1 : Nat) : Int) with t | t
      · have := Int.mul_lt_mul_of_pos_right t py.1
        exact past_belowC gc hf hp hxp s1 cp py fy (by rw [k1]; exact this)
      · have : k = ((x + 1 : Nat) : Int) := by omega
        exact s3 y e py ky (Fx_uf' fy (by rw [k1, this]))
    · have e1 : nI (x + 1) + (-1 : Int32) = nI x := pk_m1 x
      rw [e1]
      refine ih (by omega) ?_ (fun z => by have := hk z; omega) h' q' g' _ _ _ _ _ _ _ _ _ _ _ _ _ _ (Fix_O a1) a2 s1 (fun ops hei lw T fi opn ph pv pl px fh fv fl fx h'' q'' g'' b1 b2 b3 b4 b5 => ?_)
      · have e2 : ((x + 1 : Nat) : Int) * c = (x : Int) * c + c := by push_cast; grind
        omega
      · refine K _ _ _ _ _ _ _ _ _ _ _ _ _ _ h'' q'' g'' b1 b2 b3 (Up_trans fd s1 b3 s2 b4) (fun y e py ky ⟨fy, k, k1, k2⟩ => ?_)
        rcases Int.lt_or_le k ((x + 1 : Nat) : Int) with t | t
        · exact b5 y e py ky ⟨fy, k, k1, by omega⟩
        · have : k = ((x + 1 : Nat) : Int) := by omega
          exact Cov_up s1 b3 b4 s3 y e py ky (Fx_uf' fy (by rw [k1, this]))
theorem lp_up (R : RecOK rec V M kd lim us lst hb nW held le li va kn mo u (dep + 1) 0) (hd : dep ≤ 4) {f : Nat → Int} {w : Nat} (hw : w < 4) (hf : f w = -1) (cn : cno f + dep ≤ 4) (fo : Fok M kd nW mo f) {p : Nat → Int} {c : Int} (hp : IsL V M (GH us lim lst hb) f p c) (hM : M w ≤ 12) (hM0 : 0 ≤ M w)
    {kx : Int32 → Int32 → Int64 → (Nat → Nat → Int64) → (Nat → Int32) → (Nat → Int32) → Int32 → Int64 → Int64 → (Nat → Int64) → Int32 → Int64 → Int64 → (Nat → Int64) → Prop}
    {post : Int32 → Int32 → Int32 → Int64 → (Nat → Nat → Int64) → (Nat → Int32) → (Nat → Int32) → Int32 → Int64 → Int64 → (Nat → Int64) → Int32 → Int64 → Int64 → (Nat → Int64) → Prop} :
    ∀ (j x : Nat), (x : Int) + j = M w + 1 → p w ≤ (x : Int) * c → (kd w = 2 → (x : Int) = M w ∨ (x : Int) = M w + 1) → ∀ (h : Prop) (q : Nat → Int) (g : Int) (ops hei : Int32) (lw : Int64) (T : Nat → Nat → Int64) (fi opn : Nat → Int32) (ph : Int32) (pv pl : Int64) (px : Nat → Int64) (fh : Int32) (fv fl : Int64) (fx : Nat → Int64),
      FixO w f fi → FR V q g fh fv fl fx h → Fnd M kd (GH us lim lst hb) h q g →
      (∀ (ops hei : Int32) (lw : Int64) (T : Nat → Nat → Int64) (fi opn : Nat → Int32) (ph : Int32) (pv pl : Int64) (px : Nat → Int64) (fh : Int32) (fv fl : Int64) (fx : Nat → Int64) (h' : Prop) (q' : Nat → Int) (g' : Int), FixO w f fi → FR V q' g' fh fv fl fx h' → Fnd M kd (GH us lim lst hb) h' q' g' → Up V h q g h' q' g' → Cov V M kd (GH us lim lst hb) (fun y e => Fx f y e ∧ ∃ k : Int, y w = k * e ∧ x ≤ k) h' q' g' → kx ops hei lw T fi opn ph pv pl px fh fv fl fx) →
      wl_X1_search_176 rec (nI dep) (nI w) held (nI nW) le li va kn mo u kx post (j + 1) (nI x) ops hei lw T fi opn ph pv pl px fh fv fl fx := by
  intro j
  have cw : (nI w).toNatClampNeg = w := nI_clamp (by omega)
  have gc := GH_GC us lim lst hb
  have mw := ((fo w hw).1 hf).2
  have ri : ∀ z : Int, -3000 ≤ z → z ≤ 3000 → rI z := fun z a b => ⟨by omega, by omega⟩
  have top : ∀ (x : Nat), M w < (x : Int) → ∀ y e, Pf M (GH us lim lst hb) y e → ∀ k : Int, y w = k * e → (x : Int) ≤ k → False := fun x hx y e py k k1 k2 => by
    have a := (py.2.1 w hw).2
    have b := Int.mul_lt_mul_of_pos_right (by omega : M w < k) py.1
    omega
  induction j with
  | zero =>
    intro x hx hxp hk h q g ops hei lw T fi opn ph pv pl px fh fv fl fx fO fr fd K
    show ws_X1_search_176 _ _ _ _ _ _ _ _ _ _ _ _ _ _ _ _ _ _ _ _ _ _ _ _ _ _ _ _ _
    unfold ws_X1_search_176
    refine ⟨vp_in_nI hw (by omega), ?_⟩
    rw [cw, mw]
    refine br_t ?_ (K _ _ _ _ _ _ _ _ _ _ _ _ _ _ h q g fO fr fd (Up_refl V h q g) (fun y e py _ ⟨_, k, k1, k2⟩ => (top x (by omega) y e py k k1 k2).elim))
    rw [nI_iI, iI_lt (ri _ (by omega) (by omega)) (ri _ (by omega) (by omega))]
    omega
  | succ j ih =>
    intro x hx hxp hk h q g ops hei lw T fi opn ph pv pl px fh fv fl fx fO fr fd K
    have c0 := hp.1.1
    show ws_X1_search_176 _ _ _ _ _ _ _ _ _ _ _ _ _ _ _ _ _ _ _ _ _ _ _ _ _ _ _ _ _
    unfold ws_X1_search_176
    refine ⟨vp_in_nI hw (by omega), ?_⟩
    rw [cw, mw]
    refine br_f ?_ ?_
    · rw [nI_iI, iI_lt (ri _ (by omega) (by omega)) (ri _ (by omega) (by omega))]
      omega
    rw [nI_1 dep]
    refine R (uf f w (x : Int)) h q g _ _ _ _ _ _ _ _ _ _ _ _ _ _ _ (by have := cno_uf hw hf (z := (x : Int)) (by omega); omega) (uf_FixR fO (by omega)) (uf_Fok fo (by omega) (fun z => by have := hk z; omega)) fr fd (fun r ops hei lw T fi opn ph pv pl px fh fv fl fx h' q' g' a1 a2 a3 => ?_)
    obtain ⟨s1, s2, s3, s4⟩ := a3
    refine br_c (fun z => ?_) (fun z => ?_)
    · refine K _ _ _ _ _ _ _ _ _ _ _ _ _ _ h' q' g' (Fix_O a1) a2 s1 s2 (fun y e py ky ⟨fy, k, k1, k2⟩ => ?_)
      have cp := s4 (fun n => n z)
      rcases Int.lt_or_le (x : Int) k with t | t
      · have := Int.mul_lt_mul_of_pos_right t py.1
        exact past_aboveC gc hf hp hxp s1 cp py fy (by rw [k1]; exact this)
      · have : k = (x : Int) := by omega
        exact s3 y e py ky (Fx_uf' fy (by rw [k1, this]))
    · rw [nI_1 x]
      refine ih (x + 1) (by omega) ?_ (fun z => by have := hk z; omega) h' q' g' _ _ _ _ _ _ _ _ _ _ _ _ _ _ (Fix_O a1) a2 s1 (fun ops hei lw T fi opn ph pv pl px fh fv fl fx h'' q'' g'' b1 b2 b3 b4 b5 => ?_)
      · have e2 : ((x + 1 : Nat) : Int) * c = (x : Int) * c + c := by push_cast; grind
        omega
      · refine K _ _ _ _ _ _ _ _ _ _ _ _ _ _ h'' q'' g'' b1 b2 b3 (Up_trans fd s1 b3 s2 b4) (fun y e py ky ⟨fy, k, k1, k2⟩ => ?_)
        rcases Int.lt_or_le (x : Int) k with t | t
        · exact b5 y e py ky ⟨fy, k, k1, by omega⟩
        · have : k = (x : Int) := by omega
          exact Cov_up s1 b3 b4 s3 y e py ky (Fx_uf' fy (by rw [k1, this]))
end LOOPS
