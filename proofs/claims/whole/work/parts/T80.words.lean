theorem arrK {ty : FieldType} {A : Array Value} {s : State} (h : (Cond.arrayClass ty).before A s = true) : ∃ cA : ClassId, ArrOfT s cA ty ∧ s.vm.findClass ("[" ++ ty.toString) = some cA := by
  obtain ⟨cA, kA, comp, h1, h2, h3⟩ := Cond.arrayClass_spec h
  exact ⟨cA, fun n z => ⟨fun k h => (by cases h), kA, h2, comp, h3⟩, h1⟩
theorem arrO {ty : FieldType} {A : Array Value} {s : State} (h : (Cond.arrayOver (.array ty)).before A s = true) : ∃ cA : ClassId, ArrOfT s cA (.array ty) ∧ s.vm.findClass ("[" ++ (FieldType.array ty).toString) = some cA := by
  obtain ⟨comp, cA, kA, h1, h2, h3, h4⟩ := Cond.arrayOver_specA h
  exact ⟨cA, fun n z => ⟨fun k h => (by cases h), kA, h2, comp, h3⟩, h4⟩
set_option maxHeartbeats 4000000 in
set_option maxRecDepth 100000 in
/-- classes and arrays as the tables have them -/
theorem law_K {s : State} {A : Array Value} (hts : ∀ w ∈ wsL_law, w.before A s = true) (hts0 : ∀ w ∈ lw_tbl, w.before A s = true) : ∃ (D : va_G) (cy : Nat → ClassId), va_K D vwCl (tysA cy) s := by
  obtain ⟨c0, iS0, hK0⟩ := u_known (C := RX0) (T := TX0) (N := 2) (n := 2) hts (by decide +kernel) (hts (.instantiable RX0 2) (by decide +kernel))
  obtain ⟨c1, iS1, hK1⟩ := u_known (C := RX1) (T := TX1) (N := 8) (n := 8) hts (by decide +kernel) (hts (.instantiable RX1 8) (by decide +kernel))
  obtain ⟨c2, iS2, hK2⟩ := u_known (C := RX2) (T := TX2) (N := 4) (n := 4) hts (by decide +kernel) (hts (.instantiable RX2 4) (by decide +kernel))
  obtain ⟨c3, iS3, hK3⟩ := u_known (C := RX3) (T := TX3) (N := 6) (n := 6) hts (by decide +kernel) (hts (.instantiable RX3 6) (by decide +kernel))
  obtain ⟨c4, iS4, hK4⟩ := u_known (C := RX4) (T := TX4) (N := 10) (n := 10) hts (by decide +kernel) (hts (.instantiable RX4 10) (by decide +kernel))
  obtain ⟨c5, iS5, hK5⟩ := u_known (C := RX5) (T := TX5) (N := 2) (n := 2) hts (by decide +kernel) (hts (.instantiable RX5 2) (by decide +kernel))
  obtain ⟨c6, iS6, hK6⟩ := u_known (C := RX6) (T := TX6) (N := 12) (n := 12) hts (by decide +kernel) (hts (.instantiable RX6 12) (by decide +kernel))
  obtain ⟨c7, iS7, hK7⟩ := u_known (C := RX7) (T := TX7) (N := 43) (n := 43) hts (by decide +kernel) (hts (.instantiable RX7 43) (by decide +kernel))
  obtain ⟨y0, a0, b0⟩ := arrK (hts (.arrayClass .byte) (by decide +kernel))
  obtain ⟨y1, a1, b1⟩ := arrK (hts (.arrayClass .int) (by decide +kernel))
  obtain ⟨y2, a2, b2⟩ := arrK (hts (.arrayClass .long) (by decide +kernel))
  obtain ⟨y3, a3, b3⟩ := arrK (hts (.arrayClass .boolean) (by decide +kernel))
  obtain ⟨y4, a4, b4⟩ := arrO (hts0 (.arrayOver (.array .int)) (by decide +kernel))
  obtain ⟨y5, a5, b5⟩ := arrO (hts0 (.arrayOver (.array .long)) (by decide +kernel))
  refine ⟨(fun k => if k = 0 then c0 else if k = 1 then c1 else if k = 2 then c2 else if k = 3 then c3 else if k = 4 then c4 else if k = 5 then c5 else if k = 6 then c6 else c7, fun k => if k = 0 then iS0 else if k = 1 then iS1 else if k = 2 then iS2 else if k = 3 then iS3 else if k = 4 then iS4 else if k = 5 then iS5 else if k = 6 then iS6 else iS7), fun k => if k = 0 then y0 else if k = 1 then y1 else if k = 2 then y2 else if k = 3 then y3 else if k = 4 then y4 else y5, ?_, ?_⟩
  · intro k q hq
    match k, hq with
    | 0, hq => cases hq; exact hK0
    | 1, hq => cases hq; exact hK1
    | 2, hq => cases hq; exact hK2
    | 3, hq => cases hq; exact hK3
    | 4, hq => cases hq; exact hK4
    | 5, hq => cases hq; exact hK5
    | 6, hq => cases hq; exact hK6
    | 7, hq => cases hq; exact hK7
    | k + 8, hq => simp [vwCl] at hq
  · intro k q hq
    match k, hq with
    | 0, hq => cases hq; exact ⟨a0, b0⟩
    | 1, hq => cases hq; exact ⟨a1, b1⟩
    | 2, hq => cases hq; exact ⟨a2, b2⟩
    | 3, hq => cases hq; exact ⟨a3, b3⟩
    | 4, hq => cases hq; exact ⟨a4, b4⟩
    | 5, hq => cases hq; exact ⟨a5, b5⟩
    | k + 6, hq => simp [tysA] at hq
set_option maxRecDepth 100000 in
theorem law_N {s : State} {A : Array Value} (hts : ∀ w ∈ lw_tbl, w.before A s = true) : NW s :=
  ⟨va_Nw.of rfl (hts (.methodLinkNest RX4 52 yX6_bit RX6) (by decide +kernel)),
   va_Nw.of rfl (hts (.methodLinkNest RX1 25 yX2_init RX6) (by decide +kernel)),
   va_Nw.of rfl (hts (.methodLinkNest RX6 9 yX3_init RX6) (by decide +kernel)),
   va_Nw.of rfl (hts (.methodLinkNest RX6 18 yX5_init RX6) (by decide +kernel)),
   va_Nw.of rfl (hts (.methodLinkNest RX6 25 yX1_init RX6) (by decide +kernel)),
   va_Nw.of rfl (hts (.methodLinkNest RX6 32 yX2_init RX6) (by decide +kernel)),
   va_Nw.of rfl (hts (.methodLinkNest RX6 45 yX0_init RX6) (by decide +kernel)),
   va_Nw.of rfl (hts (.methodLinkNest RX6 52 yX4_init RX6) (by decide +kernel))⟩
set_option maxHeartbeats 4000000 in
set_option maxRecDepth 100000 in
theorem law_S {s : State} {A : Array Value} (hts : ∀ w ∈ lw_tbl, w.before A s = true) (hgv : (Jvm.Cond.and given_1 narrow_1).before A s = true) : ∃ K : (Nat → Nat) × (Nat → Nat), SW K (fun q : Nat => s.heap.size ≤ q) s s.heap ∧ SR K s := by
  have hf := flat_of_before _ hgv
  have hA : ∀ a : Nat, a < s.heap.size → ¬ (fun q : Nat => s.heap.size ≤ q) a := fun a h => Nat.not_le.mpr h
  obtain ⟨adK, adV, hS, hev⟩ := vk_Sof (N := 7) (tm := fun i => Term.string RX3 ([89, 95, 97, 99, 101, 106, 108].getD i 0)) (len := slen) (byt := sbyt) (A := fun q : Nat => s.heap.size ≤ q) (args := A) (s := s) (by decide)
   (fun i hi => by
    rcases (by omega : i = 0 ∨ i = 1 ∨ i = 2 ∨ i = 3 ∨ i = 4 ∨ i = 5 ∨ i = 6) with rfl | rfl | rfl | rfl | rfl | rfl | rfl
    · exact hf _ (by decide +kernel)
    · exact hf _ (by decide +kernel)
    · exact hf _ (by decide +kernel)
    · exact hf _ (by decide +kernel)
    · exact hf _ (by decide +kernel)
    · exact hf _ (by decide +kernel)
    · exact hf _ (by decide +kernel)
    )
   (fun i hi => by
    rcases (by omega : i = 0 ∨ i = 1 ∨ i = 2 ∨ i = 3 ∨ i = 4 ∨ i = 5 ∨ i = 6) with rfl | rfl | rfl | rfl | rfl | rfl | rfl
    · exact hf _ (by decide +kernel)
    · exact hf _ (by decide +kernel)
    · exact hf _ (by decide +kernel)
    · exact hf _ (by decide +kernel)
    · exact hf _ (by decide +kernel)
    · exact hf _ (by decide +kernel)
    · exact hf _ (by decide +kernel)
    )
   (fun i hi => by
    rcases (by omega : i = 0 ∨ i = 1 ∨ i = 2 ∨ i = 3 ∨ i = 4 ∨ i = 5 ∨ i = 6) with rfl | rfl | rfl | rfl | rfl | rfl | rfl
    · exact hf _ (by decide +kernel)
    · exact hf _ (by decide +kernel)
    · exact hf _ (by decide +kernel)
    · exact hf _ (by decide +kernel)
    · exact hf _ (by decide +kernel)
    · exact hf _ (by decide +kernel)
    · exact hf _ (by decide +kernel)
    )
   (fun i hi => by
    rcases (by omega : i = 0 ∨ i = 1 ∨ i = 2 ∨ i = 3 ∨ i = 4 ∨ i = 5 ∨ i = 6) with rfl | rfl | rfl | rfl | rfl | rfl | rfl
    · exact hf _ (by decide +kernel)
    · exact hf _ (by decide +kernel)
    · exact hf _ (by decide +kernel)
    · exact hf _ (by decide +kernel)
    · exact hf _ (by decide +kernel)
    · exact hf _ (by decide +kernel)
    · exact hf _ (by decide +kernel)
    )
   (fun i hi => by
    rcases (by omega : i = 0 ∨ i = 1 ∨ i = 2 ∨ i = 3 ∨ i = 4 ∨ i = 5 ∨ i = 6) with rfl | rfl | rfl | rfl | rfl | rfl | rfl
    · intro j hj
      have hj : j < 4 := hj
      rcases (by omega : j = 0 ∨ j = 1 ∨ j = 2 ∨ j = 3) with rfl | rfl | rfl | rfl
      · exact hf _ (by decide +kernel)
      · exact hf _ (by decide +kernel)
      · exact hf _ (by decide +kernel)
      · exact hf _ (by decide +kernel)
    · intro j hj
      have hj : j < 4 := hj
      rcases (by omega : j = 0 ∨ j = 1 ∨ j = 2 ∨ j = 3) with rfl | rfl | rfl | rfl
      · exact hf _ (by decide +kernel)
      · exact hf _ (by decide +kernel)
      · exact hf _ (by decide +kernel)
      · exact hf _ (by decide +kernel)
    · intro j hj
      have hj : j < 4 := hj
      rcases (by omega : j = 0 ∨ j = 1 ∨ j = 2 ∨ j = 3) with rfl | rfl | rfl | rfl
      · exact hf _ (by decide +kernel)
      · exact hf _ (by decide +kernel)
      · exact hf _ (by decide +kernel)
      · exact hf _ (by decide +kernel)
    · intro j hj
      have hj : j < 5 := hj
      rcases (by omega : j = 0 ∨ j = 1 ∨ j = 2 ∨ j = 3 ∨ j = 4) with rfl | rfl | rfl | rfl | rfl
      · exact hf _ (by decide +kernel)
      · exact hf _ (by decide +kernel)
      · exact hf _ (by decide +kernel)
      · exact hf _ (by decide +kernel)
      · exact hf _ (by decide +kernel)
    · intro j hj
      have hj : j < 4 := hj
      rcases (by omega : j = 0 ∨ j = 1 ∨ j = 2 ∨ j = 3) with rfl | rfl | rfl | rfl
      · exact hf _ (by decide +kernel)
      · exact hf _ (by decide +kernel)
      · exact hf _ (by decide +kernel)
      · exact hf _ (by decide +kernel)
    · intro j hj
      have hj : j < 5 := hj
      rcases (by omega : j = 0 ∨ j = 1 ∨ j = 2 ∨ j = 3 ∨ j = 4) with rfl | rfl | rfl | rfl | rfl
      · exact hf _ (by decide +kernel)
      · exact hf _ (by decide +kernel)
      · exact hf _ (by decide +kernel)
      · exact hf _ (by decide +kernel)
      · exact hf _ (by decide +kernel)
    · intro j hj
      have hj : j < 3 := hj
      rcases (by omega : j = 0 ∨ j = 1 ∨ j = 2) with rfl | rfl | rfl
      · exact hf _ (by decide +kernel)
      · exact hf _ (by decide +kernel)
      · exact hf _ (by decide +kernel)
    )
   (fun i j hi hj ne => by
    rcases (by omega : i = 0 ∨ i = 1 ∨ i = 2 ∨ i = 3 ∨ i = 4 ∨ i = 5 ∨ i = 6) with rfl | rfl | rfl | rfl | rfl | rfl | rfl <;> rcases (by omega : j = 0 ∨ j = 1 ∨ j = 2 ∨ j = 3 ∨ j = 4 ∨ j = 5 ∨ j = 6) with rfl | rfl | rfl | rfl | rfl | rfl | rfl <;> first | exact absurd rfl ne | exact Or.inl (hf _ (by decide +kernel)) | exact Or.inr (hf _ (by decide +kernel))) hA
  refine ⟨(adK, adV), ⟨hS, va_Zof (hts (.laysStatic "java/lang/String" "COMPACT_STRINGS" "Z") (by decide +kernel)) (hts (.initialized "java/lang/String") (by decide +kernel)) (va_eqt (hf (Jvm.Cond.eq (Jvm.Term.static "java/lang/String" "COMPACT_STRINGS" "Z") (Jvm.Term.int (1 : Int32))) (by decide +kernel))) hA, va_Zqof (hts (.laysStatic "jdk/internal/util/Preconditions" "SIOOBE_FORMATTER" "Ljava/util/function/BiFunction;") (by decide +kernel)) (hts (.initialized "jdk/internal/util/Preconditions") (by decide +kernel)) (hf _ (by decide +kernel)) hA⟩, ⟨vk_R.of (hts (.stringRef RX3 89 "gate") (by decide +kernel)) (hev 0 (by decide)), vk_R.of (hts (.stringRef RX3 95 "wish") (by decide +kernel)) (hev 1 (by decide)), vk_R.of (hts (.stringRef RX3 97 "most") (by decide +kernel)) (hev 2 (by decide)), vk_R.of (hts (.stringRef RX3 99 "least") (by decide +kernel)) (hev 3 (by decide)), vk_R.of (hts (.stringRef RX3 101 "part") (by decide +kernel)) (hev 4 (by decide)), vk_R.of (hts (.stringRef RX3 106 "whole") (by decide +kernel)) (hev 5 (by decide)), vk_R.of (hts (.stringRef RX3 108 "all") (by decide +kernel)) (hev 6 (by decide))⟩⟩
