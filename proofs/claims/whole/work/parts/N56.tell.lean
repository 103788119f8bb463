/-! tell -/
theorem lt_k (x : Int32) {k : Int} (h : rI k) : x < iI k ↔ x.toInt < k := by
  rw [Int32.lt_iff_toInt_lt, iI_toInt h]
def OKT (x y : Int32) : Prop := (-999 ≤ x.toInt ∧ x.toInt ≤ 999) ∧ 1 ≤ y.toInt ∧ y.toInt ≤ 12
theorem sp_canTell {x y : Int32} {post : Int32 → Prop} (h1 : OKT x y → post 1) (h0 : ¬ OKT x y → post 0) : wp_X5_canTell x y post := by
  unfold wp_X5_canTell
  have a1 : (-999 : Int32) = iI (-999) := by decide
  have a2 : (999 : Int32) = iI 999 := rfl
  have a3 : (1 : Int32) = iI 1 := rfl
  have a4 : (12 : Int32) = iI 12 := rfl
  have p1 := fun (q : Int32) (hq : q = 1) (z : OKT x y) => hq ▸ h1 z
  rw [a1, a2, show (y < 1) = (y < iI 1) from rfl, a4, lt_k x (by unfold rI; omega), k_lt x (by unfold rI; omega), lt_k y (by unfold rI; omega), k_lt y (by unfold rI; omega)]
  unfold OKT at h1 h0
  exact br_c (fun z => h0 (by omega)) (fun z1 => br_c (fun z => h0 (by omega)) (fun z2 => br_c (fun z => h0 (by omega)) (fun z3 => br_c (fun z => h0 (by omega)) (fun z4 => h1 (by omega)))))
/-- a told number, scaled -/
def Sc (a b : Int32) (z : Int) : Prop := (-999 ≤ a.toInt ∧ a.toInt ≤ 999) ∧ (1 ≤ b.toInt ∧ b.toInt ≤ 12) ∧ z = a.toInt * (27720 / b.toInt)
theorem Sc_q {b : Int} (h : 1 ≤ b ∧ b ≤ 12) : 2310 ≤ 27720 / b ∧ 27720 / b ≤ 27720 := by
  rcases (by omega : b = 1 ∨ b = 2 ∨ b = 3 ∨ b = 4 ∨ b = 5 ∨ b = 6 ∨ b = 7 ∨ b = 8 ∨ b = 9 ∨ b = 10 ∨ b = 11 ∨ b = 12) with e | e | e | e | e | e | e | e | e | e | e | e <;> subst e <;> decide
theorem Sc_b {a b : Int32} {z : Int} (h : Sc a b z) : -27692280 ≤ z ∧ z ≤ 27692280 := by
  obtain ⟨h1, h2, h3⟩ := h
  have := Sc_q h2
  have m := ab_mul (x := a.toInt) (X := 999) (y := 27720 / b.toInt) (Y := 27720) (by omega) (by omega) (by omega) (by omega)
  omega
theorem Sc_l {a b : Int32} {z : Int} (h : Sc a b z) : ¬ b = 0 ∧ a.toInt64 * ((27720 : Int32) / b).toInt64 = lI z := by
  obtain ⟨h1, h2, h3⟩ := h
  have q := Sc_q h2
  refine ⟨fun e => ?_, ?_⟩
  · rw [e, show (0 : Int32).toInt = 0 from rfl] at h2
    omega
  · have ed : (27720 : Int32) / b = iI (27720 / b.toInt) := by
      rw [show (27720 : Int32) / b = iI 27720 / iI b.toInt from by rw [iI_of]; rfl, iI_div (by unfold rI; omega) (by unfold rI; omega), Int.tdiv_eq_ediv_of_nonneg (by omega)]
    rw [ed, iI_l (by unfold rI; omega), i64_lI, lI_mul, h3]
theorem Sc_0 {a b : Int32} {z : Int} (h : Sc a b z) : (a = 0 ↔ z = 0) ∧ (a < 0 ↔ z < 0) ∧ (0 < a ↔ 0 < z) := by
  obtain ⟨h1, h2, h3⟩ := h
  have q := Sc_q h2
  have s : (a.toInt = 0 → z = 0) ∧ (a.toInt < 0 → z < 0) ∧ (0 < a.toInt → 0 < z) := by
    refine ⟨fun e => by rw [h3, e, Int.zero_mul], fun e => ?_, fun e => ?_⟩
    · have := Int.mul_pos (show 0 < - a.toInt by omega) (show 0 < 27720 / b.toInt by omega)
      rw [Int.neg_mul] at this
      omega
    · have := Int.mul_pos e (show 0 < 27720 / b.toInt by omega)
      omega
  have e0 : a = 0 ↔ a.toInt = 0 := by
    rw [← Int32.toInt_inj]
    exact Iff.rfl
  rw [e0, lt0_iff, Int32.lt_iff_toInt_lt]
  have z0 : (0 : Int32).toInt = 0 := rfl
  rw [z0]
  refine ⟨?_, ?_, ?_⟩ <;> omega
def TLC (X P : Nat → Int) (tx tp : Nat → Int64) : Prop := (∀ w, w < 4 → tx w = lI (X w) ∧ -27692280 ≤ X w ∧ X w ≤ 27692280) ∧ ∀ l, l < 5 → tp l = lI (P l) ∧ -27692280 ≤ P l ∧ P l ≤ 27692280
def TLM (nW nG : Nat) (gl : Nat → Nat) (X P : Nat → Int) (tu td pu pd : Nat → Int32) : Prop := (∀ w, w < nW → Sc (tu w) (td w) (X w)) ∧ ∀ g, g < nG → Sc (pu g) (pd g) (P (gl g))
section TELL
variable {told lst off : Nat → Prop} {lim : Nat → Int} {nW : Nat} {V kd M' : Nat → Int} {us : Nat → Nat → Int} {wi : Int32} {it le gof li va kn mo wo : Nat → Int32} {u : Nat → Nat → Int32} {nG : Nat} {gl : Nat → Nat} {ga wi' : Int32} {lt ls ca go wr kn' mo' wf ue : Nat → Int32}
variable {X P : Nat → Int} {tx tp : Nat → Int64} {tu td pu pd : Nat → Int32}
theorem sp_scaled {x y : Int32} {z : Int} (h : Sc x y z) {post : Int64 → Prop} (hp : post (lI z)) : wp_X5_scaled x y post := by
  unfold wp_X5_scaled
  obtain ⟨h1, h2⟩ := Sc_l h
  rw [h2]
  exact br_f h1 ⟨h1, hp⟩
theorem sp_inT {x y : Int32} {Q R : Prop} (h1 : OKT x y → R) (h0 : ¬ OKT x y → Q) : wp_X7_in x.toInt64 (-999 : Int64) (999 : Int64) (fun r6 => ((r6 = 0 → Q) ∧ (¬ r6 = 0 → wp_X7_in y.toInt64 (1 : Int64) (12 : Int64) (fun r8 => ((r8 = 0 → Q) ∧ (¬ r8 = 0 → R)))))) := by
  rw [show (-999 : Int64) = lI (-999) from by decide, show (999 : Int64) = lI 999 from rfl, lI_1, show (12 : Int64) = lI 12 from rfl]
  refine sp_inX ⟨by omega, by omega⟩ ⟨by omega, by omega⟩ (fun a b => br_f (by decide) (sp_inX ⟨by omega, by omega⟩ ⟨by omega, by omega⟩ (fun c d => br_f (by decide) (h1 ⟨⟨a, b⟩, c, d⟩)) (fun n => br_t rfl (h0 (fun o => n o.2))))) (fun n => br_t rfl (h0 (fun o => n o.1)))
theorem TLC_x {w : Nat} {z : Int} (A : TLC X P tx tp) (hz : -27692280 ≤ z ∧ z ≤ 27692280) : TLC (limS X w z) P (vp_updL tx w (lI z)) tp := by
  refine ⟨fun j hj => ?_, A.2⟩
  unfold limS
  by_cases e : j = w
  · subst e; rw [pk_uLs, if_pos rfl]; exact ⟨rfl, hz⟩
  · rw [pk_uLn e, if_neg e]; exact A.1 j hj
theorem TLC_p {l : Nat} {z : Int} (A : TLC X P tx tp) (hz : -27692280 ≤ z ∧ z ≤ 27692280) : TLC X (limS P l z) tx (vp_updL tp l (lI z)) := by
  refine ⟨A.1, fun j hj => ?_⟩
  unfold limS
  by_cases e : j = l
  · subst e; rw [pk_uLs, if_pos rfl]; exact ⟨rfl, hz⟩
  · rw [pk_uLn e, if_neg e]; exact A.2 j hj
theorem TLM_x {w : Nat} {x y : Int32} {z : Int} (A : TLM nW nG gl X P tu td pu pd) (hz : Sc x y z) : TLM nW nG gl (limS X w z) P (upd tu w x) (upd td w y) pu pd := by
  refine ⟨fun j hj => ?_, A.2⟩
  unfold limS
  by_cases e : j = w
  · subst e; rw [pk_us, pk_us, if_pos rfl]; exact hz
  · rw [pk_un e, pk_un e, if_neg e]; exact A.1 j hj
theorem TLM_p (E : EnumN told 5 nG gl) {g : Nat} (hg : g < nG) {x y : Int32} {z : Int} (A : TLM nW nG gl X P tu td pu pd) (hz : Sc x y z) : TLM nW nG gl X (limS P (gl g) z) tu td (upd pu g x) (upd pd g y) := by
  refine ⟨A.1, fun j hj => ?_⟩
  unfold limS
  by_cases e : j = g
  · subst e; rw [pk_us, pk_us, if_pos rfl]; exact hz
  · have ne : gl j ≠ gl g := by
      rcases Nat.lt_or_ge j g with z | z
      · have := E.2.2.1 j g z hg; omega
      · have := E.2.2.1 g j (by omega) hj; omega
    rw [pk_un e, pk_un e, if_neg ne]; exact A.2 j hj
theorem eq_tell (C : TC told lst off lim nW V kd M' us wi it le gof li va kn mo wo u) (D : TM told lst off lim nW V kd M' us nG gl wo ga wi' lt ls ca go wr kn' mo' wf ue) (A : TLC X P tx tp) (B : TLM nW nG gl X P tu td pu pd) (x1 x2 x3 x4 : Int32) :
    ∃ (r : Int32) (X' P' : Nat → Int), wp_X6_tell tx tp wi it x1 x2 x3 x4 (fun y tx' tp' => y = r ∧ TLC X' P' tx' tp') ∧
      wp_X7_tell ga wi' tu td pu pd x1 x2 x3 x4 (fun y tu' td' pu' pd' => y = r ∧ TLM nW nG gl X' P' tu' td' pu' pd') := by
  have E := D.1
  have E5 := E.1
  have ega := D.2.1
  have ewi := C.1
  have hW := C.2.1
  have ewi' := D.2.2.1
  have c3 := C.2.2.1
  have hit : ∀ l, l < 5 → (it l = 0 ∨ it l = 1) ∧ (it l = 1 ↔ told l) := fun l hl => ⟨(c3 l hl).1, (c3 l hl).2.1⟩
  by_cases s1 : x1 = 0 ∨ x1 = 1
  · by_cases s3 : OKT x3 x4
    · have hz : Sc x3 x4 (x3.toInt * (27720 / x4.toInt)) := ⟨s3.1, s3.2, rfl⟩
      by_cases g0 : x1 = 0
      · subst g0
        by_cases ok : ∃ w, w < nW ∧ x2 = nI w
        · obtain ⟨w, w1, w2⟩ := ok
          subst w2
          have cw : (nI w).toNatClampNeg = w := nI_clamp (by omega)
          refine ⟨1, limS X w (x3.toInt * (27720 / x4.toInt)), P, ?_, ?_⟩
          · unfold wp_X6_tell
            rw [ewi]
            refine sp_two (fun _ => br_t rfl ?_) (fun n => absurd s1 n)
            refine sp_isWishC (by omega) (fun _ _ _ => br_f (by decide) ?_) (fun n => absurd rfl (n w w1))
            unfold wj_X6_tell_39
            refine br_f (nI_pos (by omega)) (sp_canTell (fun _ => br_f (by decide) (br_t rfl (sp_scaled hz ⟨vp_in_nI (by omega) (by omega), rfl, ?_⟩))) (fun n => absurd s3 n))
            rw [cw]
            exact TLC_x A (Sc_b hz)
          · unfold wp_X7_tell
            rw [ewi']
            refine sp_sideM (fun _ => br_f (by decide) (br_t rfl ?_)) (fun n => absurd s1 n)
            refine sp_isWishM (by omega) (fun _ _ _ => br_f (by decide) ?_) (fun n => absurd rfl (n w w1))
            unfold wj_X7_tell_33
            refine sp_inT (fun _ => br_t rfl ⟨vp_in_nI (by omega) (by omega), rfl, ?_⟩) (fun n => absurd s3 n)
            rw [cw]
            exact TLM_x B hz
        · refine ⟨-1, X, P, ?_, ?_⟩
          · unfold wp_X6_tell
            rw [ewi]
            refine sp_two (fun _ => br_t rfl ?_) (fun n => absurd s1 n)
            refine sp_isWishC (by omega) (fun w h e => absurd ⟨w, h, e⟩ ok) (fun n => br_t rfl ?_)
            unfold wj_X6_tell_39
            exact br_t (by decide) ⟨rfl, A⟩
          · unfold wp_X7_tell
            rw [ewi']
            exact sp_sideM (fun _ => br_f (by decide) (br_t rfl (sp_isWishM (by omega) (fun w h e => absurd ⟨w, h, e⟩ ok) (fun n => br_t rfl ⟨rfl, B⟩)))) (fun n => absurd s1 n)
      · have x11 : x1 = 1 := by rcases s1 with q | q; exact absurd q g0; exact q
        subst x11
        by_cases ok : ∃ g, g < nG ∧ x2 = nI g
        · obtain ⟨g, g1, g2⟩ := ok
          subst g2
          have l5 := (E.2.1 g g1).1
          have cl : (nI (gl g)).toNatClampNeg = gl g := nI_clamp (by omega)
          have cg : (nI g).toNatClampNeg = g := nI_clamp (by omega)
          refine ⟨1, X, limS P (gl g) (x3.toInt * (27720 / x4.toInt)), ?_, ?_⟩
          · unfold wp_X6_tell
            refine sp_two (fun _ => br_f (by decide) ?_) (fun n => absurd s1 n)
            refine sp_letterOf E hit (fun g' h e => ?_) (fun n => absurd rfl (n g g1))
            have eg : g = g' := by
              rw [nI_eq (by omega) (by omega)] at e
              exact e
            subst eg
            unfold wj_X6_tell_39
            refine br_f (nI_pos (by omega)) (sp_canTell (fun _ => br_f (by decide) (br_f (by decide) (sp_scaled hz ⟨vp_in_nI (by omega) (by omega), rfl, ?_⟩))) (fun n => absurd s3 n))
            rw [cl]
            exact TLC_p A (Sc_b hz)
          · unfold wp_X7_tell
            rw [ega]
            refine sp_sideM (fun _ => br_f (by decide) (br_f (by decide) ?_)) (fun n => absurd s1 n)
            refine sp_isGateM (by omega) (fun _ _ _ => br_f (by decide) ?_) (fun n => absurd rfl (n g g1))
            unfold wj_X7_tell_33
            refine sp_inT (fun _ => br_f (by decide) ⟨vp_in_nI (by omega) (by omega), rfl, ?_⟩) (fun n => absurd s3 n)
            rw [cg]
            exact TLM_p E g1 B hz
        · refine ⟨-1, X, P, ?_, ?_⟩
          · unfold wp_X6_tell
            refine sp_two (fun _ => br_f (by decide) ?_) (fun n => absurd s1 n)
            refine sp_letterOf E hit (fun g h e => absurd ⟨g, h, e⟩ ok) (fun n => ?_)
            unfold wj_X6_tell_39
            exact br_t (by decide) ⟨rfl, A⟩
          · unfold wp_X7_tell
            rw [ega]
            exact sp_sideM (fun _ => br_f (by decide) (br_f (by decide) (sp_isGateM (by omega) (fun g h e => absurd ⟨g, h, e⟩ ok) (fun n => br_t rfl ⟨rfl, B⟩)))) (fun n => absurd s1 n)
    · refine ⟨-1, X, P, ?_, ?_⟩
      · have bad : ∀ s0 : Int32, wj_X6_tell_39 x1 x3 x4 s0 tx tp wi it (fun y tx' tp' => y = -1 ∧ TLC X P tx' tp') := fun s0 => by
          unfold wj_X6_tell_39
          exact br_c (fun _ => ⟨rfl, A⟩) (fun _ => sp_canTell (fun y => absurd y s3) (fun _ => br_t rfl ⟨rfl, A⟩))
        unfold wp_X6_tell
        refine sp_two (fun _ => br_c (fun _ => ?_) (fun _ => ?_)) (fun n => absurd s1 n)
        · rw [ewi] at bad ⊢
          exact sp_isWishC (by omega) (fun _ _ _ => br_f (by decide) (bad _)) (fun _ => br_t rfl (bad _))
        · exact sp_letterOf E hit (fun _ _ _ => bad _) (fun _ => bad _)
      · have bad : wj_X7_tell_33 x1 x2 x3 x4 ga wi' tu td pu pd (fun y tu' td' pu' pd' => y = -1 ∧ TLM nW nG gl X P tu' td' pu' pd') := by
          unfold wj_X7_tell_33
          exact sp_inT (fun y => absurd y s3) (fun _ => ⟨rfl, B⟩)
        unfold wp_X7_tell
        rw [ega, ewi'] at bad ⊢
        exact sp_sideM (fun _ => br_f (by decide) (br_c (fun _ => sp_isWishM (by omega) (fun _ _ _ => br_f (by decide) bad) (fun _ => br_t rfl ⟨rfl, B⟩)) (fun _ => sp_isGateM (by omega) (fun _ _ _ => br_f (by decide) bad) (fun _ => br_t rfl ⟨rfl, B⟩)))) (fun n => absurd s1 n)
  · refine ⟨-1, X, P, ?_, ?_⟩
    · unfold wp_X6_tell
      exact sp_two (fun y => absurd y s1) (fun _ => ⟨rfl, A⟩)
    · unfold wp_X7_tell
      exact sp_sideM (fun y => absurd y s1) (fun _ => br_t rfl ⟨rfl, B⟩)
end TELL
