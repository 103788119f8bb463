/-! off -/
section OFF
variable {told lst off : Nat → Prop} {lim : Nat → Int} {nW : Nat} {V kd M' : Nat → Int} {us : Nat → Nat → Int} {wi : Int32} {it le gof li va kn mo wo : Nat → Int32} {u : Nat → Nat → Int32} {nG : Nat} {gl : Nat → Nat} {ga wi' : Int32} {lt ls ca go wr kn' mo' wf ue : Nat → Int32}
theorem side_iff (x : Int32) : (x = 0 ∨ x = 1) ↔ 0 ≤ x.toInt ∧ x.toInt ≤ 1 := by
  constructor
  · intro y; rcases y with y | y <;> rw [y] <;> decide
  · intro y
    obtain ⟨j, hj, ej⟩ := toInt_nI (n := 2) y.1 (by omega) (by omega)
    rcases (by omega : j = 0 ∨ j = 1) with e | e <;> subst e
    · exact Or.inl ej
    · exact Or.inr ej
theorem sp_two {x : Int32} {Q : Prop} {R : Prop} (h1 : x = 0 ∨ x = 1 → R) (h0 : ¬ (x = 0 ∨ x = 1) → Q) : ((x < 0 → Q) ∧ (¬ x < 0 → ((x ≤ 1 → R) ∧ (¬ x ≤ 1 → Q)))) := by
  rw [side_iff] at h1 h0
  have z1 : (1 : Int32) = iI 1 := rfl
  rw [lt0_iff, z1, le_k x (by unfold rI; omega)]
  exact ⟨fun y => h0 (by omega), fun y => ⟨fun z => h1 (by omega), fun z => h0 (by omega)⟩⟩
theorem sp_two' {x : Int32} {Q : Prop} {R : Prop} (h1 : x = 0 ∨ x = 1 → R) (h0 : ¬ (x = 0 ∨ x = 1) → Q) : ((x < 0 → Q) ∧ (¬ x < 0 → ((1 < x → Q) ∧ (¬ 1 < x → R)))) := by
  rw [side_iff] at h1 h0
  have z1 : (1 : Int32) = iI 1 := rfl
  rw [lt0_iff, z1, k_lt x (by unfold rI; omega)]
  exact ⟨fun y => h0 (by omega), fun y => ⟨fun z => h0 (by omega), fun z => h1 (by omega)⟩⟩
theorem eq_off (C : TC told lst off lim nW V kd M' us wi it le gof li va kn mo wo u) (D : TM told lst off lim nW V kd M' us nG gl wo ga wi' lt ls ca go wr kn' mo' wf ue) {bk lk bh lh : Int32} {bv bl lv ll : Int64} {bx lx : Nat → Int64} (k0 : KN told lst off lim nW V kd M' us wo bk bh bv bl bx) (k1 : KN told lst off lim nW V (fun _ => 0) M' us wo lk lh lv ll lx) (x1 x2 x3 : Int32) :
    ∃ (r : Int32) (off' : Nat → Prop) (wo' : Nat → Int32), wp_X6_off bk lk wi it gof wo x1 x2 x3 (fun y bk lk gof' w => y = r ∧ w = wo' ∧ KN told lst off' lim nW V kd M' us wo' bk bh bv bl bx ∧ KN told lst off' lim nW V (fun _ => 0) M' us wo' lk lh lv ll lx ∧ TC told lst off' lim nW V kd M' us wi it le gof' li va kn mo wo' u) ∧
      wp_X7_off ga wi' go wf x1 x2 x3 (fun y go' wf' => y = r ∧ TM told lst off' lim nW V kd M' us nG gl wo' ga wi' lt ls ca go' wr kn' mo' wf' ue) := by
  have E := D.1
  have E5 := E.1
  have ega := D.2.1
  have ewi := C.1
  have hW := C.2.1
  have ewi' := D.2.2.1
  have c3 := C.2.2.1
  have hit : ∀ l, l < 5 → (it l = 0 ∨ it l = 1) ∧ (it l = 1 ↔ told l) := fun l hl => ⟨(c3 l hl).1, (c3 l hl).2.1⟩
  by_cases s1 : x1 = 0 ∨ x1 = 1
  · by_cases s3 : x3 = 0 ∨ x3 = 1
    · by_cases g0 : x1 = 0
      · subst g0
        by_cases ok : ∃ g, g < nG ∧ x2 = nI g
        · obtain ⟨g, g1, g2⟩ := ok
          subst g2
          have l5 := (E.2.1 g g1).1
          have cl : (nI (gl g)).toNatClampNeg = gl g := nI_clamp (by omega)
          have cg : (nI g).toNatClampNeg = g := nI_clamp (by omega)
          have a5 := (c3 (gl g) l5).2.2.2.2
          have d5 := (D.2.2.2.1 g g1).2.2.2.2
          have eo : go g = gof (gl g) := by
            rcases d5.1 with y | y
            · rcases a5.1 with z | z
              · rw [y, z]
              · have := d5.2.1.mpr (a5.2.1.mp z)
                rw [y] at this
                exact absurd this (by decide)
            · rw [y, a5.2.1.mpr (d5.2.1.mp y)]
          have tc := TC_offS C (l := gl g) s3
          have tm := TM_offS D g1 s3
          refine ⟨gof (gl g), offS off (gl g) (x3 = 1), wo, ?_, ?_⟩
          · unfold wp_X6_off
            refine sp_two' (fun _ => sp_two (fun _ => br_t rfl ?_) (fun n => absurd s3 n)) (fun n => absurd s1 n)
            refine sp_letterOf E hit (fun g' h e => ?_) (fun n => absurd rfl (n g g1))
            have eg : g = g' := by
              rw [nI_eq (by omega) (by omega)] at e
              exact e
            subst eg
            unfold wj_X6_off_48
            refine br_t (nI_pos' (by omega)) (br_t rfl ?_)
            unfold wj_X6_off_78_b wp_X6_bit wj_X6_off_104_b wp_X6_forgetClearings
            rw [cl]
            refine ⟨vp_in_nI l5 (by omega), br_c (fun z => ?_) (fun z => ?_)⟩
            · refine br_c (fun y => ⟨vp_in_nI l5 (by omega), z.symm, rfl, KN_0, KN_0, ?_⟩) (fun y => ⟨vp_in_nI l5 (by omega), z.symm, rfl, KN_0, KN_0, ?_⟩)
              · subst y; exact tc
              · have : x3 = 0 := by rcases s3 with q | q; exact q; exact absurd q y
                subst this; exact tc
            · have z1 : gof (gl g) = 1 := by rcases a5.1 with q | q; exact absurd q z; exact q
              refine br_c (fun y => ⟨vp_in_nI l5 (by omega), z1.symm, rfl, KN_0, KN_0, ?_⟩) (fun y => ⟨vp_in_nI l5 (by omega), z1.symm, rfl, KN_0, KN_0, ?_⟩)
              · subst y; exact tc
              · have : x3 = 0 := by rcases s3 with q | q; exact q; exact absurd q y
                subst this; exact tc
          · unfold wp_X7_off
            rw [ega]
            refine sp_sideM (fun _ => br_f (by decide) (br_t rfl ?_)) (fun n => absurd s1 n)
            refine sp_isGateM (by omega) (fun _ _ _ => br_f (by decide) ?_) (fun n => absurd rfl (n g g1))
            unfold wj_X7_off_33
            refine sp_sideM (fun _ => br_f (by decide) (br_t rfl ⟨vp_in_nI (by omega) (by omega), ?_⟩)) (fun n => absurd s3 n)
            unfold wj_X7_off_64 wj_X7_off_85 wj_X7_off_105
            rw [cg, ← ega]
            have fin : ∀ v : Int32, v = x3 → ((go g = 0 → (0 : Int32) = gof (gl g) ∧ TM told lst (offS off (gl g) (x3 = 1)) lim nW V kd M' us nG gl wo ga wi' lt ls ca (upd go g v) wr kn' mo' wf ue) ∧ (¬ go g = 0 → (1 : Int32) = gof (gl g) ∧ TM told lst (offS off (gl g) (x3 = 1)) lim nW V kd M' us nG gl wo ga wi' lt ls ca (upd go g v) wr kn' mo' wf ue)) := fun v hv => by
              subst hv
              refine ⟨fun z => ⟨by rw [← eo, z], tm⟩, fun z => ⟨?_, tm⟩⟩
              rcases d5.1 with q | q
              · exact absurd q z
              · rw [← eo, q]
            refine br_t rfl (br_c (fun y => ⟨vp_in_nI (by omega) (by omega), fin 1 y.symm⟩) (fun y => ⟨vp_in_nI (by omega) (by omega), fin 0 ?_⟩))
            rcases s3 with q | q
            · exact q.symm
            · exact absurd q y
        · refine ⟨-1, off, wo, ?_, ?_⟩
          · unfold wp_X6_off
            refine sp_two' (fun _ => sp_two (fun _ => br_t rfl ?_) (fun n => absurd s3 n)) (fun n => absurd s1 n)
            refine sp_letterOf E hit (fun g' h e => absurd ⟨g', h, e⟩ ok) (fun n => ?_)
            unfold wj_X6_off_48
            exact br_f (by decide) ⟨rfl, rfl, k0, k1, C⟩
          · unfold wp_X7_off
            rw [ega]
            exact sp_sideM (fun _ => br_f (by decide) (br_t rfl (sp_isGateM (by omega) (fun g' h e => absurd ⟨g', h, e⟩ ok) (fun n => br_t rfl ⟨rfl, ega ▸ D⟩)))) (fun n => absurd s1 n)
      · have x11 : x1 = 1 := by rcases s1 with q | q; exact absurd q g0; exact q
        subst x11
        by_cases ok : ∃ w, w < nW ∧ x2 = nI w
        · obtain ⟨w, w1, w2⟩ := ok
          subst w2
          have cw : (nI w).toNatClampNeg = w := nI_clamp (by omega)
          have c4 := (C.2.2.2.1 w (by omega)).2.2.2.1
          have eo := (D.2.2.2.2 w w1).2.2.2
          have tc := TC_woS C (w := w) s3
          have tm := TM_woS D w x3
          refine ⟨wo w, off, upd wo w x3, ?_, ?_⟩
          · unfold wp_X6_off
            rw [ewi]
            refine sp_two' (fun _ => sp_two (fun _ => br_f (by decide) ?_) (fun n => absurd s3 n)) (fun n => absurd s1 n)
            refine sp_isWishC (by omega) (fun _ _ _ => br_f (by decide) ?_) (fun n => absurd rfl (n w w1))
            unfold wj_X6_off_48
            refine br_t (nI_pos' (by omega)) (br_f (by decide) ?_)
            unfold wj_X6_off_78 wp_X6_bit wj_X6_off_104 wp_X6_forgetClearings
            rw [cw, ← ewi]
            refine ⟨vp_in_nI (by omega) (by omega), br_c (fun z => ?_) (fun z => ?_)⟩
            · refine br_c (fun y => ⟨vp_in_nI (by omega) (by omega), z.symm, ?_, KN_0, KN_0, ?_⟩) (fun y => ⟨vp_in_nI (by omega) (by omega), z.symm, ?_, KN_0, KN_0, ?_⟩)
              · subst y; rfl
              · exact tc
              · have : x3 = 0 := by rcases s3 with q | q; exact q; exact absurd q y
                subst this; rfl
              · exact tc
            · have z1 : wo w = 1 := by rcases c4 with q | q; exact absurd q z; exact q
              refine br_c (fun y => ⟨vp_in_nI (by omega) (by omega), z1.symm, ?_, KN_0, KN_0, ?_⟩) (fun y => ⟨vp_in_nI (by omega) (by omega), z1.symm, ?_, KN_0, KN_0, ?_⟩)
              · subst y; rfl
              · exact tc
              · have : x3 = 0 := by rcases s3 with q | q; exact q; exact absurd q y
                subst this; rfl
              · exact tc
          · unfold wp_X7_off
            rw [ewi']
            refine sp_sideM (fun _ => br_f (by decide) (br_f (by decide) ?_)) (fun n => absurd s1 n)
            refine sp_isWishM (by omega) (fun _ _ _ => br_f (by decide) ?_) (fun n => absurd rfl (n w w1))
            unfold wj_X7_off_33
            refine sp_sideM (fun _ => br_f (by decide) (br_f (by decide) ⟨vp_in_nI (by omega) (by omega), ?_⟩)) (fun n => absurd s3 n)
            unfold wj_X7_off_64 wj_X7_off_104 wj_X7_off_105
            rw [cw, ← ewi']
            have fin : ∀ v : Int32, v = x3 → ((wf w = 0 → (0 : Int32) = wo w ∧ TM told lst off lim nW V kd M' us nG gl (upd wo w x3) ga wi' lt ls ca go wr kn' mo' (upd wf w v) ue) ∧ (¬ wf w = 0 → (1 : Int32) = wo w ∧ TM told lst off lim nW V kd M' us nG gl (upd wo w x3) ga wi' lt ls ca go wr kn' mo' (upd wf w v) ue)) := fun v hv => by
              subst hv
              refine ⟨fun z => ⟨by rw [← eo, z], tm⟩, fun z => ⟨?_, tm⟩⟩
              rcases c4 with q | q
              · exact absurd (eo.trans q) z
              · rw [q]
            refine br_f (by decide) (br_c (fun y => ⟨vp_in_nI (by omega) (by omega), fin 1 y.symm⟩) (fun y => ⟨vp_in_nI (by omega) (by omega), fin 0 ?_⟩))
            rcases s3 with q | q
            · exact q.symm
            · exact absurd q y
        · refine ⟨-1, off, wo, ?_, ?_⟩
          · unfold wp_X6_off
            rw [ewi]
            refine sp_two' (fun _ => sp_two (fun _ => br_f (by decide) ?_) (fun n => absurd s3 n)) (fun n => absurd s1 n)
            refine sp_isWishC (by omega) (fun w h e => absurd ⟨w, h, e⟩ ok) (fun n => br_t rfl ?_)
            unfold wj_X6_off_48
            exact br_f (by decide) ⟨rfl, rfl, k0, k1, ewi ▸ C⟩
          · unfold wp_X7_off
            rw [ewi']
            exact sp_sideM (fun _ => br_f (by decide) (br_f (by decide) (sp_isWishM (by omega) (fun w h e => absurd ⟨w, h, e⟩ ok) (fun n => br_t rfl ⟨rfl, ewi' ▸ D⟩)))) (fun n => absurd s1 n)
    · refine ⟨-1, off, wo, ?_, ?_⟩
      · unfold wp_X6_off
        exact sp_two' (fun _ => sp_two (fun y => absurd y s3) (fun _ => ⟨rfl, rfl, k0, k1, C⟩)) (fun n => absurd s1 n)
      · unfold wp_X7_off
        rw [ega, ewi']
        refine sp_sideM (fun _ => br_f (by decide) (br_c (fun _ => sp_isGateM (by omega) (fun _ _ _ => br_f (by decide) ?_) (fun _ => br_t rfl ⟨rfl, ?_⟩)) (fun _ => sp_isWishM (by omega) (fun _ _ _ => br_f (by decide) ?_) (fun _ => br_t rfl ⟨rfl, ?_⟩)))) (fun n => absurd s1 n)
        · unfold wj_X7_off_33
          exact sp_sideM (fun y => absurd y s3) (fun _ => br_t rfl ⟨rfl, by rw [← ega, ← ewi']; exact D⟩)
        · rw [← ega, ← ewi']; exact D
        · unfold wj_X7_off_33
          exact sp_sideM (fun y => absurd y s3) (fun _ => br_t rfl ⟨rfl, by rw [← ega, ← ewi']; exact D⟩)
        · rw [← ega, ← ewi']; exact D
  · refine ⟨-1, off, wo, ?_, ?_⟩
    · unfold wp_X6_off
      exact sp_two' (fun y => absurd y s1) (fun _ => ⟨rfl, rfl, k0, k1, C⟩)
    · unfold wp_X7_off
      exact sp_sideM (fun y => absurd y s1) (fun _ => br_t rfl ⟨rfl, D⟩)
end OFF
