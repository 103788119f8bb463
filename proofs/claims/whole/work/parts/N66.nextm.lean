/-! the reference's next token -/
/-- behind the spaces -/
def ntM (o_typed : Int32) (o_sort : Int32) (o_text : Nat → Int32) (post : Int32 → Int32 → Int32 → Int32 → Prop) (o_at_32 : Int32) : Prop :=
  (wp_X7_here o_typed o_at_32 o_text (fun (r33 : Int32) => ((0 ≤ r33 → (wp_X7_in ((r33).toInt64) (97 : Int64) (122 : Int64) (fun (r35 : Int32) => ((r35 = 0 → (wp_X7_in ((r33).toInt64) (48 : Int64) (57 : Int64) (fun (r37 : Int32) => ((r37 = 0 → (wp_X7_in ((r33).toInt64) (65 : Int64) (69 : Int64) (fun (r39 : Int32) => ((r39 = 0 → ((r33 = (59 : Int32) → post (o_at_32 + (1 : Int32)) o_at_32 (4 : Int32) (r33 - (65 : Int32))) ∧
   (¬ r33 = (59 : Int32) → post (o_at_32 + (1 : Int32)) o_at_32 (5 : Int32) (r33 - (65 : Int32))))) ∧
   (¬ r39 = 0 → post (o_at_32 + (1 : Int32)) o_at_32 (2 : Int32) (r33 - (65 : Int32))))))) ∧
   (¬ r37 = 0 → ∃ n47, wl_X7_next_147 r33 o_typed o_at_32 o_sort o_text (fun (o_at_42 : Int32) (o_value_43 : Int32) => (((999 : Int32) < o_value_43 → post o_at_42 o_at_32 (5 : Int32) o_value_43) ∧
   (¬ (999 : Int32) < o_value_43 → ((r33 = (48 : Int32) → (((o_at_42 - o_at_32) ≤ (1 : Int32) → post o_at_42 o_at_32 (3 : Int32) o_value_43) ∧
   (¬ (o_at_42 - o_at_32) ≤ (1 : Int32) → post o_at_42 o_at_32 (5 : Int32) o_value_43))) ∧
   (¬ r33 = (48 : Int32) → post o_at_42 o_at_32 (3 : Int32) o_value_43))))) post n47 o_at_32 (0 : Int32)))))) ∧
   (¬ r35 = 0 → ∃ n51, wl_X7_next_66 o_typed o_at_32 o_sort (0 : Int32) o_text (fun (o_at_48 : Int32) => (wp_X7_wordOf o_text o_at_32 o_at_48 (fun (r49 : Int32) => ((r49 = (-9 : Int32) → post o_at_48 o_at_32 (5 : Int32) r49) ∧
   (¬ r49 = (-9 : Int32) → post o_at_48 o_at_32 (1 : Int32) r49))))) post n51 o_at_32))))) ∧
   (¬ 0 ≤ r33 → post o_at_32 o_at_32 (0 : Int32) (0 : Int32)))))
section NXM
variable {L : Nat} {τ : Nat → Int} {t : Nat → Int32}
/-- is the byte between -/
theorem sp_inB {v : Int} (h0 : -128 ≤ v) (h1 : v ≤ 127) {a b : Int} (a0 : 0 ≤ a) (b0 : b ≤ 127) (a1 : a ≤ 127) (b1 : 0 ≤ b) {post : Int32 → Prop} (k1 : a ≤ v ∧ v ≤ b → post 1) (k0 : ¬ (a ≤ v ∧ v ≤ b) → post 0) : wp_X7_in (iI (v % 256)).toInt64 (lI a) (lI b) post := by
  have r : (iI (v % 256)).toInt = v % 256 := iI_toInt (by unfold rI; omega)
  refine sp_inX ⟨by omega, by omega⟩ ⟨by omega, by omega⟩ (fun x y => k1 ?_) (fun x => k0 (fun y => x ?_))
  · rw [r] at x y
    omega
  · rw [r]
    omega
theorem dig_loopM (B : TB L τ t) {x1 x2 x3 : Int32} {kx : Int32 → Int32 → Prop} {post : Int32 → Int32 → Int32 → Int32 → Prop} {s : Nat} (ha : s ≤ L) (h : ∀ e, Rn L τ dig s e → kx (nI e) (iI (vN τ s (e - s)))) : ∃ n, wl_X7_next_147 x1 (nI L) x2 x3 t kx post n (nI s) 0 := by
  have hL := B.1
  refine pk_loop (σ := Int32) (fun n i q => wl_X7_next_147 x1 (nI L) x2 x3 t kx post n (nI i) q) (fun i q => s ≤ i ∧ q = iI (vN τ s (i - s)) ∧ ∀ j, s ≤ j → j < i → dig (τ j)) L s 0 ha ⟨Nat.le_refl _, by rw [Nat.sub_self]; rfl, fun j j1 j2 => by omega⟩ (fun n q hq => ?_) (fun n i q hi hq kk => ?_)
  · obtain ⟨q1, rfl, q3⟩ := hq
    show ws_X7_next_147 _ _ _ _ _ _ _ _ _ _
    unfold ws_X7_next_147
    refine sp_here B hL (fun _ => ?_) (fun z => by omega)
    rw [show (48 : Int64) = lI 48 from rfl, show (57 : Int64) = lI 57 from rfl]
    refine sp_inX ⟨by omega, by omega⟩ ⟨by omega, by omega⟩ (fun x y => absurd x (by decide)) (fun _ => br_t rfl (h L ⟨q1, Nat.le_refl _, q3, fun z => by omega⟩))
  · obtain ⟨q1, rfl, q3⟩ := hq
    show ws_X7_next_147 _ _ _ _ _ _ _ _ _ _
    unfold ws_X7_next_147
    obtain ⟨b1, b2, b3⟩ := B.2 i hi
    have vr := vN_at q3
    refine sp_here B (by omega) (fun z => by omega) (fun _ => ?_)
    rw [show (48 : Int64) = lI 48 from rfl, show (57 : Int64) = lI 57 from rfl]
    refine sp_inB b2 b3 (by omega) (by omega) (by omega) (by omega) (fun d => br_f (by decide) ?_) (fun d => br_t rfl (h i ⟨q1, by omega, q3, fun _ => d⟩))
    have vs := vN_s τ q1
    rw [show (999 : Int32) = iI 999 from rfl, iI_le (by unfold rI; omega) (by unfold rI; omega)]
    unfold wj_X7_next_197
    rw [nI_1 i]
    refine br_c (fun z => ?_) (fun z => ?_)
    · rw [if_pos (by omega)] at vs
      refine sp_here B (by omega) (fun z => by omega) (fun _ => ?_)
      refine kk _ ⟨by omega, ?_, digs_ext q3 d⟩
      rw [vs, show (10 : Int32) = iI 10 from rfl, show (48 : Int32) = iI 48 from rfl, iI_mul, iI_add, iI_sub]
      congr 1
      omega
    · rw [if_neg (by omega)] at vs
      exact kk _ ⟨by omega, by rw [vs], digs_ext q3 d⟩
theorem sml_loopM (B : TB L τ t) {x1 x2 x3 : Int32} {kx : Int32 → Prop} {post : Int32 → Int32 → Int32 → Int32 → Prop} {s : Nat} (ha : s ≤ L) (h : ∀ e, Rn L τ sml s e → kx (nI e)) : ∃ n, wl_X7_next_66 (nI L) x1 x2 x3 t kx post n (nI s) := by
  have hL := B.1
  refine pk_loop (σ := Unit) (fun n i _ => wl_X7_next_66 (nI L) x1 x2 x3 t kx post n (nI i)) (fun i _ => s ≤ i ∧ ∀ j, s ≤ j → j < i → sml (τ j)) L s () ha ⟨Nat.le_refl _, fun j j1 j2 => by omega⟩ (fun n q hq => ?_) (fun n i q hi hq kk => ?_)
  · obtain ⟨q1, q3⟩ := hq
    show ws_X7_next_66 _ _ _ _ _ _ _ _ _
    unfold ws_X7_next_66
    refine sp_here B hL (fun _ => ?_) (fun z => by omega)
    rw [show (97 : Int64) = lI 97 from rfl, show (122 : Int64) = lI 122 from rfl]
    refine sp_inX ⟨by omega, by omega⟩ ⟨by omega, by omega⟩ (fun x y => absurd x (by decide)) (fun _ => br_t rfl (h L ⟨q1, Nat.le_refl _, q3, fun z => by omega⟩))
  · obtain ⟨q1, q3⟩ := hq
    show ws_X7_next_66 _ _ _ _ _ _ _ _ _
    unfold ws_X7_next_66
    obtain ⟨b1, b2, b3⟩ := B.2 i hi
    refine sp_here B (by omega) (fun z => by omega) (fun _ => ?_)
    rw [show (97 : Int64) = lI 97 from rfl, show (122 : Int64) = lI 122 from rfl, nI_1 i]
    exact sp_inB b2 b3 (by omega) (by omega) (by omega) (by omega) (fun d => br_f (by decide) (kk () ⟨by omega, digs_ext q3 d⟩)) (fun d => br_t rfl (h i ⟨q1, by omega, q3, fun _ => d⟩))
theorem code_gate {post : Int64 → Prop} (h : post (lI 139055)) : wp_X7_code 103 97 116 101 0 post := by
  have g : ∀ y, y = lI 139055 → post y := fun y e => e ▸ h
  unfold wp_X7_code wp_X7_spelled
  exact br_f (by decide) (br_f (by decide) (br_f (by decide) (br_f (by decide) (br_t (by decide) (g _ (by decide))))))
theorem code_wish {post : Int64 → Prop} (h : post (lI 459791)) : wp_X7_code 119 105 115 104 0 post := by
  have g : ∀ y, y = lI 459791 → post y := fun y e => e ▸ h
  unfold wp_X7_code wp_X7_spelled
  exact br_f (by decide) (br_f (by decide) (br_f (by decide) (br_f (by decide) (br_t (by decide) (g _ (by decide))))))
theorem code_most {post : Int64 → Prop} (h : post (lI 267347)) : wp_X7_code 109 111 115 116 0 post := by
  have g : ∀ y, y = lI 267347 → post y := fun y e => e ▸ h
  unfold wp_X7_code wp_X7_spelled
  exact br_f (by decide) (br_f (by decide) (br_f (by decide) (br_f (by decide) (br_t (by decide) (g _ (by decide))))))
theorem code_least {post : Int64 → Prop} (h : post (lI 6476969)) : wp_X7_code 108 101 97 115 116 post := by
  have g : ∀ y, y = lI 6476969 → post y := fun y e => e ▸ h
  unfold wp_X7_code wp_X7_spelled
  exact br_f (by decide) (br_f (by decide) (br_f (by decide) (br_f (by decide) (br_f (by decide) (g _ (by decide))))))
theorem code_part {post : Int64 → Prop} (h : post (lI 316163)) : wp_X7_code 112 97 114 116 0 post := by
  have g : ∀ y, y = lI 316163 → post y := fun y e => e ▸ h
  unfold wp_X7_code wp_X7_spelled
  exact br_f (by decide) (br_f (by decide) (br_f (by decide) (br_f (by decide) (br_t (by decide) (g _ (by decide))))))
theorem code_whole {post : Int64 → Prop} (h : post (lI 12391871)) : wp_X7_code 119 104 111 108 101 post := by
  have g : ∀ y, y = lI 12391871 → post y := fun y e => e ▸ h
  unfold wp_X7_code wp_X7_spelled
  exact br_f (by decide) (br_f (by decide) (br_f (by decide) (br_f (by decide) (br_f (by decide) (g _ (by decide))))))
theorem code_all {post : Int64 → Prop} (h : post (lI 1065)) : wp_X7_code 97 108 108 0 0 post := by
  have g : ∀ y, y = lI 1065 → post y := fun y e => e ▸ h
  unfold wp_X7_code wp_X7_spelled
  exact br_f (by decide) (br_f (by decide) (br_f (by decide) (br_t (by decide) (br_t (by decide) (g _ (by decide))))))
theorem sp27_r : ∀ k, k ≤ 6 → ∀ s, (∀ j, j < k → sml (τ (s + j))) → 0 ≤ sp27 τ s k ∧ sp27 τ s k ≤ 387420488 := by
  intro k hk s h
  have S : ∀ j, j < k → sp27 τ s (j + 1) = sp27 τ s j * 27 + (τ (s + j) - 96) ∧ 97 ≤ τ (s + j) ∧ τ (s + j) ≤ 122 := fun j hj => ⟨rfl, h j hj⟩
  have z : sp27 τ s 0 = 0 := rfl
  have s0 := S 0
  have s1 := S 1
  have s2 := S 2
  have s3 := S 3
  have s4 := S 4
  have s5 := S 5
  simp only [Nat.zero_add, Nat.reduceAdd] at s0 s1 s2 s3 s4 s5
  rcases (by omega : k = 0 ∨ k = 1 ∨ k = 2 ∨ k = 3 ∨ k = 4 ∨ k = 5 ∨ k = 6) with rfl | rfl | rfl | rfl | rfl | rfl | rfl <;> omega
def wM (k : Nat) : Int32 := if k = 0 then 3 else if k = 1 then 4 else if k = 2 then 5 else if k = 3 then 6 else if k = 4 then 0 else if k = 5 then 1 else if k = 6 then 2 else -9
theorem sp_word38 {s e : Nat} (se : s ≤ e) (he : e ≤ 300) {X : Int} (r0 : 0 ≤ X) (r1 : X ≤ 387420488) (hX : e - s ≤ 5 → X = sp27 τ s (e - s)) {post : Int32 → Prop} (h : post (wM (whW τ s (e - s)))) : wj_X7_wordOf_38 (nI s) (nI e) (lI X) t post := by
  have rX : rL X := ⟨by omega, by omega⟩
  have d : nI e - nI s ≤ (5 : Int32) ↔ e - s ≤ 5 := by
    rw [nI_m se]
    exact nI_leI (b := 5) (by omega) (by omega)
  by_cases n5 : e - s ≤ 5
  · have eX := hX n5
    have f217 : ∀ s0, s0 = wM (whW τ s (e - s)) → wj_X7_wordOf_217 (nI s) (nI e) s0 t post := fun s0 e0 => by
      subst e0
      unfold wj_X7_wordOf_217
      exact br_t (d.mpr n5) h
    unfold whW at f217
    rw [if_neg (by omega), ← eX] at f217
    have f190 : ∀ s0, (X ≠ 6476969 → s0 = wM (if X = 139055 then 0 else if X = 459791 then 1 else if X = 267347 then 2 else if X = 316163 then 4 else if X = 12391871 then 5 else if X = 1065 then 6 else 7)) → wj_X7_wordOf_190 (nI s) (nI e) (lI X) s0 t post := fun s0 e0 => by
      unfold wj_X7_wordOf_190
      refine code_least ?_
      rw [lI_eq rX ⟨by omega, by omega⟩]
      refine br_c (fun z => f217 _ ?_) (fun z => f217 _ ?_)
      · rw [if_neg (by omega), if_neg (by omega), if_neg (by omega), if_pos z]; rfl
      · rw [e0 z, if_neg (show ¬ X = 6476969 from z)]
    have f165 : ∀ s0, (X ≠ 6476969 → X ≠ 267347 → s0 = wM (if X = 139055 then 0 else if X = 459791 then 1 else if X = 316163 then 4 else if X = 12391871 then 5 else if X = 1065 then 6 else 7)) → wj_X7_wordOf_165 (nI s) (nI e) (lI X) s0 t post := fun s0 e0 => by
      unfold wj_X7_wordOf_165
      refine code_most ?_
      rw [lI_eq rX ⟨by omega, by omega⟩]
      refine br_c (fun z => f190 _ (fun y => ?_)) (fun z => f190 _ (fun y => ?_))
      · rw [if_neg (by omega), if_neg (by omega), if_pos z]; rfl
      · rw [e0 y z, if_neg (show ¬ X = 267347 from z)]
    have f140 : ∀ s0, (X ≠ 6476969 → X ≠ 267347 → X ≠ 459791 → s0 = wM (if X = 139055 then 0 else if X = 316163 then 4 else if X = 12391871 then 5 else if X = 1065 then 6 else 7)) → wj_X7_wordOf_140 (nI s) (nI e) (lI X) s0 t post := fun s0 e0 => by
      unfold wj_X7_wordOf_140
      refine code_wish ?_
      rw [lI_eq rX ⟨by omega, by omega⟩]
      refine br_c (fun z => f165 _ (fun y x => ?_)) (fun z => f165 _ (fun y x => ?_))
      · rw [if_neg (by omega), if_pos z]; rfl
      · rw [e0 y x z, if_neg (show ¬ X = 459791 from z)]
    have f115 : ∀ s0, (X ≠ 139055 → s0 = wM (if X = 316163 then 4 else if X = 12391871 then 5 else if X = 1065 then 6 else 7)) → wj_X7_wordOf_115 (nI s) (nI e) (lI X) s0 t post := fun s0 e0 => by
      unfold wj_X7_wordOf_115
      refine code_gate ?_
      rw [lI_eq rX ⟨by omega, by omega⟩]
      refine br_c (fun z => f140 _ (fun y x w => ?_)) (fun z => f140 _ (fun y x w => ?_))
      · rw [if_pos z]; rfl
      · rw [e0 z, if_neg (show ¬ X = 139055 from z)]
    have f91 : ∀ s0, (X ≠ 1065 → s0 = wM (if X = 316163 then 4 else if X = 12391871 then 5 else 7)) → wj_X7_wordOf_91 (nI s) (nI e) (lI X) s0 t post := fun s0 e0 => by
      unfold wj_X7_wordOf_91
      refine code_all ?_
      rw [lI_eq rX ⟨by omega, by omega⟩]
      refine br_c (fun z => f115 _ (fun y => ?_)) (fun z => f115 _ (fun y => ?_))
      · rw [if_neg (by omega), if_neg (by omega), if_pos z]; rfl
      · rw [e0 z, if_neg (show ¬ X = 1065 from z)]
    have f65 : ∀ s0, (X ≠ 12391871 → s0 = wM (if X = 316163 then 4 else 7)) → wj_X7_wordOf_65 (nI s) (nI e) (lI X) s0 t post := fun s0 e0 => by
      unfold wj_X7_wordOf_65
      refine code_whole ?_
      rw [lI_eq rX ⟨by omega, by omega⟩]
      refine br_c (fun z => f91 _ (fun y => ?_)) (fun z => f91 _ (fun y => ?_))
      · rw [if_neg (by omega), if_pos z]; rfl
      · rw [e0 z, if_neg (show ¬ X = 12391871 from z)]
    unfold wj_X7_wordOf_38
    refine code_part ?_
    rw [lI_eq rX ⟨by omega, by omega⟩]
    refine br_c (fun z => f65 _ (fun y => ?_)) (fun z => f65 _ (fun y => ?_))
    · rw [if_pos z]; rfl
    · rw [if_neg z]; rfl
  · have f217 : ∀ s0, wj_X7_wordOf_217 (nI s) (nI e) s0 t post := fun s0 => by
      unfold wj_X7_wordOf_217
      unfold whW at h
      rw [if_pos (by omega)] at h
      exact br_f (fun q => n5 (d.mp q)) h
    have f190 : ∀ s0, wj_X7_wordOf_190 (nI s) (nI e) (lI X) s0 t post := fun s0 => by
      unfold wj_X7_wordOf_190
      exact code_least (br_c (fun _ => f217 _) (fun _ => f217 _))
    have f165 : ∀ s0, wj_X7_wordOf_165 (nI s) (nI e) (lI X) s0 t post := fun s0 => by
      unfold wj_X7_wordOf_165
      exact code_most (br_c (fun _ => f190 _) (fun _ => f190 _))
    have f140 : ∀ s0, wj_X7_wordOf_140 (nI s) (nI e) (lI X) s0 t post := fun s0 => by
      unfold wj_X7_wordOf_140
      exact code_wish (br_c (fun _ => f165 _) (fun _ => f165 _))
    have f115 : ∀ s0, wj_X7_wordOf_115 (nI s) (nI e) (lI X) s0 t post := fun s0 => by
      unfold wj_X7_wordOf_115
      exact code_gate (br_c (fun _ => f140 _) (fun _ => f140 _))
    have f91 : ∀ s0, wj_X7_wordOf_91 (nI s) (nI e) (lI X) s0 t post := fun s0 => by
      unfold wj_X7_wordOf_91
      exact code_all (br_c (fun _ => f115 _) (fun _ => f115 _))
    have f65 : ∀ s0, wj_X7_wordOf_65 (nI s) (nI e) (lI X) s0 t post := fun s0 => by
      unfold wj_X7_wordOf_65
      exact code_whole (br_c (fun _ => f91 _) (fun _ => f91 _))
    unfold wj_X7_wordOf_38
    exact code_part (br_c (fun _ => f65 _) (fun _ => f65 _))
theorem sp_wordOf (B : TB L τ t) {s e : Nat} (r : Rn L τ sml s e) {post : Int32 → Prop} (h : post (wM (whW τ s (e - s)))) : wp_X7_wordOf t (nI s) (nI e) post := by
  have hL := B.1
  obtain ⟨r1, r2, r3, r4⟩ := id r
  have a6 : nI s + (6 : Int32) = nI (s + 6) := nI_add s 6
  have fin : ∀ i, s ≤ i → i ≤ s + 6 → i ≤ e → (i = e ∨ i = s + 6) → wj_X7_wordOf_38 (nI s) (nI e) (lI (sp27 τ s (i - s))) t post := fun i i1 i2 i3 i4 => by
    have q := sp27_r (τ := τ) (i - s) (by omega) s (fun j hj => Rn_off r j (by omega))
    exact sp_word38 r1 (by omega) q.1 q.2 (fun z => by rw [show i = e by omega]) h
  unfold wp_X7_wordOf
  refine pk_loop (σ := Int64) (fun n i q => wl_X7_wordOf_5 (nI s) (nI e) t (fun x3 => wj_X7_wordOf_38 (nI s) (nI e) x3 t post) post n q (nI i)) (fun i q => s ≤ i ∧ i ≤ e ∧ i ≤ s + 6 ∧ q = lI (sp27 τ s (i - s))) (s + 7) s 0 (by omega) ⟨by omega, by omega, by omega, by rw [Nat.sub_self]; rfl⟩ (fun n q hq => by omega) (fun n i q hi hq kk => ?_)
  obtain ⟨i1, i2, i3, rfl⟩ := hq
  show ws_X7_wordOf_5 _ _ _ _ _ _ _ _
  unfold ws_X7_wordOf_5
  have ci : (nI i).toNatClampNeg = i := nI_clamp (by omega)
  rw [nI_leI (by omega) (by omega), a6, nI_leI (by omega) (by omega)]
  refine br_c (fun z => fin i i1 i3 i2 (Or.inl (by omega))) (fun z => br_c (fun y => fin i i1 i3 i2 (Or.inr (by omega))) (fun y => ?_))
  obtain ⟨b1, b2, b3⟩ := B.2 i (by omega)
  have sm := r3 i i1 (by omega)
  unfold sml at sm
  refine ⟨vp_in_nI (by omega) (by omega), ?_⟩
  unfold wp_X7_spelled
  rw [ci, b1, nI_1 i, iI_0, iI_eq (by unfold rI; omega) (by unfold rI; omega), iI_l (by unfold rI; omega)]
  refine br_f (by omega) (kk _ ⟨by omega, by omega, by omega, ?_⟩)
  rw [show (27 : Int64) = lI 27 from rfl, show (97 : Int64) = lI 97 from rfl, show (1 : Int64) = lI 1 from rfl, lI_mul, lI_add, lI_sub, lI_add, show i + 1 - s = (i - s) + 1 by omega]
  show _ = lI (sp27 τ s (i - s) * 27 + (τ (s + (i - s)) - 96))
  rw [show s + (i - s) = i by omega]
  congr 1
  omega
def srt (c : Nat) : Nat := if c = 0 then 0 else if c = 1 then 5 else if c = 2 then 4 else if c = 3 then 2 else if c = 4 then 3 else 1
/-- the value cell of the reference -/
def VM (c : Nat) (v : Int) (x : Int32) : Prop := ((c = 3 ∨ c = 4 ∨ c = 9) → x = iI v) ∧ (c = 5 → x = 3) ∧ (c = 6 → x = 4) ∧ (c = 7 → x = 5) ∧ (c = 8 → x = 6)
theorem VM_0 {c : Nat} {v : Int} {x : Int32} (h : c ≤ 2) : VM c v x := ⟨fun q => by omega, fun q => by omega, fun q => by omega, fun q => by omega, fun q => by omega⟩
theorem VM_n {c : Nat} {v : Int} {x : Int32} (h : c = 3 ∨ c = 4) (e : x = iI v) : VM c v x := ⟨fun q => e, fun q => by omega, fun q => by omega, fun q => by omega, fun q => by omega⟩
theorem wM_srt : ∀ k, k < 8 → (wM k = (-9 : Int32) → srt (wcode k) = 5 ∧ VM (wcode k) ((k : Int) - 4) (wM k)) ∧ (wM k ≠ (-9 : Int32) → srt (wcode k) = 1 ∧ VM (wcode k) ((k : Int) - 4) (wM k)) := by
  intro k hk
  rcases (by omega : k = 0 ∨ k = 1 ∨ k = 2 ∨ k = 3 ∨ k = 4 ∨ k = 5 ∨ k = 6 ∨ k = 7) with rfl | rfl | rfl | rfl | rfl | rfl | rfl | rfl
  · exact ⟨fun y => absurd y (by decide), fun _ => ⟨by decide, fun q => absurd q (by decide), fun _ => rfl, fun q => absurd q (by decide), fun q => absurd q (by decide), fun q => absurd q (by decide)⟩⟩
  · exact ⟨fun y => absurd y (by decide), fun _ => ⟨by decide, fun q => absurd q (by decide), fun q => absurd q (by decide), fun _ => rfl, fun q => absurd q (by decide), fun q => absurd q (by decide)⟩⟩
  · exact ⟨fun y => absurd y (by decide), fun _ => ⟨by decide, fun q => absurd q (by decide), fun q => absurd q (by decide), fun q => absurd q (by decide), fun _ => rfl, fun q => absurd q (by decide)⟩⟩
  · exact ⟨fun y => absurd y (by decide), fun _ => ⟨by decide, fun q => absurd q (by decide), fun q => absurd q (by decide), fun q => absurd q (by decide), fun q => absurd q (by decide), fun _ => rfl⟩⟩
  · exact ⟨fun y => absurd y (by decide), fun _ => ⟨by decide, fun _ => by decide, fun q => absurd q (by decide), fun q => absurd q (by decide), fun q => absurd q (by decide), fun q => absurd q (by decide)⟩⟩
  · exact ⟨fun y => absurd y (by decide), fun _ => ⟨by decide, fun _ => by decide, fun q => absurd q (by decide), fun q => absurd q (by decide), fun q => absurd q (by decide), fun q => absurd q (by decide)⟩⟩
  · exact ⟨fun y => absurd y (by decide), fun _ => ⟨by decide, fun _ => by decide, fun q => absurd q (by decide), fun q => absurd q (by decide), fun q => absurd q (by decide), fun q => absurd q (by decide)⟩⟩
  · exact ⟨fun _ => ⟨by decide, fun q => absurd q (by decide), fun q => absurd q (by decide), fun q => absurd q (by decide), fun q => absurd q (by decide), fun q => absurd q (by decide)⟩, fun y => absurd (show wM 7 = -9 by decide) y⟩
theorem sp_ntM (B : TB L τ t) {x2 : Int32} {a s : Nat} (k : Sk L τ a s) {post : Int32 → Int32 → Int32 → Int32 → Prop} (h : ∀ z, VM (tc L τ a) (tv L τ a) z → post (nI (te L τ a)) (nI (ts L τ a)) (nI (srt (tc L τ a))) z) : ntM (nI L) x2 t post (nI s) := by
  have hL := B.1
  obtain ⟨k1, k2, k3, k4⟩ := id k
  have H : ∀ e' s' c v, tk L τ a = (e', s', c, v) → ∀ z, VM c v z → post (nI e') (nI s') (nI (srt c)) z := fun e' s' c v q => by
    unfold te ts tc tv at h
    rw [q] at h
    exact h
  clear h
  unfold ntM
  refine sp_here B (by omega) (fun z => br_f (by decide) ?_) (fun z => ?_)
  · exact H _ _ _ _ (tk_end k (by omega)) _ (VM_0 (by omega))
  · obtain ⟨b1, b2, b3⟩ := B.2 s z
    rw [show (0 : Int32) ≤ iI (τ s % 256) ↔ (0 : Int) ≤ τ s % 256 from iI_le (a := 0) (by unfold rI; omega) (by unfold rI; omega)]
    refine br_t (by omega) ?_
    rw [show (97 : Int64) = lI 97 from rfl, show (122 : Int64) = lI 122 from rfl, show (48 : Int64) = lI 48 from rfl, show (57 : Int64) = lI 57 from rfl, show (65 : Int64) = lI 65 from rfl, show (69 : Int64) = lI 69 from rfl]
    refine sp_inB b2 b3 (by omega) (by omega) (by omega) (by omega) (fun m => br_f (by decide) ?_) (fun m => br_t rfl (sp_inB b2 b3 (by omega) (by omega) (by omega) (by omega) (fun d => br_f (by decide) ?_) (fun d => br_t rfl (sp_inB b2 b3 (by omega) (by omega) (by omega) (by omega) (fun c => br_f (by decide) ?_) (fun c => br_t rfl ?_)))))
    · refine sml_loopM B (by omega) (fun e r => sp_wordOf B r ?_)
      have g := H _ _ _ _ (tk_sml k z (fun q => by unfold dig at q; omega) m r)
      have w := wM_srt (whW τ s (e - s)) (by have := whW_r τ s (e - s); omega)
      refine br_c (fun y => ?_) (fun y => ?_)
      · have := g _ (w.1 y).2
        rw [(w.1 y).1] at this
        exact this
      · have := g _ (w.2 y).2
        rw [(w.2 y).1] at this
        exact this
    · refine dig_loopM B (by omega) (fun e r => ?_)
      have vr := vN_at r.2.2.1
      have g := H _ _ _ _ (tk_dig k z d r)
      rw [show (999 : Int32) = iI 999 from rfl, iI_lt (by unfold rI; omega) (by unfold rI; omega), show (48 : Int32) = iI 48 from rfl, iI_eq (by unfold rI; omega) (by unfold rI; omega), nI_d1 r.1 (by have := r.2.1; omega)]
      have yes : vN τ s (e - s) ≤ 999 ∧ ¬ (τ s = 48 ∧ 1 < e - s) → post (nI e) (nI s) 3 (iI (vN τ s (e - s))) := fun y => by
        rw [if_pos y] at g
        exact g _ (VM_n (Or.inr rfl) rfl)
      have no : ¬ (vN τ s (e - s) ≤ 999 ∧ ¬ (τ s = 48 ∧ 1 < e - s)) → post (nI e) (nI s) 5 (iI (vN τ s (e - s))) := fun y => by
        rw [if_neg y] at g
        exact g _ (VM_0 (by omega))
      have d' := d
      unfold dig at d'
      refine br_c (fun y => no (by omega)) (fun y => br_c (fun u => br_c (fun w => yes (by omega)) (fun w => no (by omega))) (fun u => yes (by omega)))
    · have g := H _ _ _ _ (tk_sgn k z (fun q => by unfold dig at q; omega) (fun q => by unfold sml at q; omega))
      rw [if_neg (by omega), if_pos c] at g
      rw [nI_1 s, show (65 : Int32) = iI 65 from rfl, iI_sub, show τ s % 256 = τ s by omega]
      exact g _ (VM_n (Or.inl rfl) rfl)
    · have g := H _ _ _ _ (tk_sgn k z (fun q => by unfold dig at q; omega) (fun q => by unfold sml at q; omega))
      rw [if_neg c] at g
      rw [show (59 : Int32) = iI 59 from rfl, iI_eq (by unfold rI; omega) (by unfold rI; omega), nI_1 s]
      refine br_c (fun y => ?_) (fun y => ?_)
      · rw [if_pos (by omega)] at g
        exact g _ (VM_0 (by omega))
      · rw [if_neg (by omega)] at g
        exact g _ (VM_0 (by omega))
theorem sp_nextM (B : TB L τ t) {x1 x2 x3 : Int32} {a : Nat} (ha : a ≤ L) {post : Int32 → Int32 → Int32 → Int32 → Prop} (h : ∀ z, VM (tc L τ a) (tv L τ a) z → post (nI (te L τ a)) (nI (ts L τ a)) (nI (srt (tc L τ a))) z) : wp_X7_next (nI L) (nI a) x1 x2 x3 t post := by
  have hL := B.1
  unfold wp_X7_next
  refine sp_here B (by omega) (fun z => br_f (by decide) (sp_ntM (x2 := x2) B ⟨Nat.le_refl _, ha, fun j j1 j2 => by omega, fun q => by omega⟩ h)) (fun z => ?_)
  obtain ⟨b1, b2, b3⟩ := B.2 a z
  rw [show (32 : Int32) = iI 32 from rfl, iI_eq (by unfold rI; omega) (by unfold rI; omega)]
  refine br_c (fun y => ?_) (fun y => sp_ntM (x2 := x2) B ⟨Nat.le_refl _, ha, fun j j1 j2 => by omega, fun _ q => y (by omega)⟩ h)
  rw [nI_1 a]
  refine skip_loopM B (by omega) (fun s k => ?_)
  obtain ⟨k1, k2, k3, k4⟩ := k
  refine sp_ntM (x2 := x2) B (a := a) ⟨by omega, k2, fun j j1 j2 => ?_, k4⟩ h
  by_cases e : j = a
  · subst e; omega
  · exact k3 j (by omega) j2
end NXM
