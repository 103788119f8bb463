/-! base: the world of a method (cells by their places), calls, rows of two dimensions -/
abbrev tysA (cy : Nat → ClassId) : List (ClassId × FieldType) := [(cy 0, .byte), (cy 1, .int), (cy 2, .long), (cy 3, .boolean), (cy 4, .array .int), (cy 5, .array .long)]
/-- links to nest mates' private members -/
def NW (U : State) : Prop := va_Nw (.methodLinkNest RX4 52 yX6_bit RX6) U ∧ va_Nw (.methodLinkNest RX1 25 yX2_init RX6) U ∧ va_Nw (.methodLinkNest RX6 9 yX3_init RX6) U ∧ va_Nw (.methodLinkNest RX6 18 yX5_init RX6) U ∧ va_Nw (.methodLinkNest RX6 25 yX1_init RX6) U ∧ va_Nw (.methodLinkNest RX6 32 yX2_init RX6) U ∧ va_Nw (.methodLinkNest RX6 45 yX0_init RX6) U ∧ va_Nw (.methodLinkNest RX6 52 yX4_init RX6) U
theorem NW.moved {s U : State} (hW : s.WarmedH U.vm) (h : NW s) : NW U :=
  ⟨h.1.warmM hW, h.2.1.warmM hW, h.2.2.1.warmM hW, h.2.2.2.1.warmM hW, h.2.2.2.2.1.warmM hW, h.2.2.2.2.2.1.warmM hW, h.2.2.2.2.2.2.1.warmM hW, h.2.2.2.2.2.2.2.warmM hW⟩
theorem NW.same {s U : State} (e : s.vm = U.vm) (h : NW s) : NW U :=
  ⟨va_Nw.same rfl e h.1, va_Nw.same rfl e h.2.1, va_Nw.same rfl e h.2.2.1, va_Nw.same rfl e h.2.2.2.1, va_Nw.same rfl e h.2.2.2.2.1, va_Nw.same rfl e h.2.2.2.2.2.1, va_Nw.same rfl e h.2.2.2.2.2.2.1, va_Nw.same rfl e h.2.2.2.2.2.2.2⟩
/-- at a method's start -/
def wI (D : va_G) (cy : Nat → ClassId) (sz : Nat) (ws : va_W) (U : State) : Prop := U.heap.size = sz ∧ va_P D vwCl ws U.heap ∧ va_K D vwCl (tysA cy) U ∧ NW U ∧ va_D (fun _ => True) ws
/-- at its end -/
def wO (D : va_G) (cy : Nat → ClassId) (A : Nat → Prop) (ws : va_W) (t : State) : Prop := va_P D vwCl ws t.heap ∧ va_K D vwCl (tysA cy) t ∧ va_D A ws
theorem wI_blind {As : List Value} {D : va_G} {cy : Nat → ClassId} {sz : Nat} {ws : va_W} : FrameBlind (va_Pc As (wI D cy sz ws)) := by
  intro a U g mk q
  obtain ⟨q0, q1, qP, qK, qN, qD⟩ := q
  exact ⟨q0, q1, qP, va_K.moved (u := U) (U := U.calling g mk a) (Vm.Alike.refl U.vm) qK, NW.same (s := U) (U := U.calling g mk a) rfl qN, qD⟩
theorem wI_at {As : List Value} {D : va_G} {cy : Nat → ClassId} {ws : va_W} {A : Nat → Prop} {s : State} {H : Heap} (hP : va_P D vwCl ws H) (hD : va_D A ws) (hK : va_K D vwCl (tysA cy) s) (hN : NW s) : ∀ U : State, U.heap = H → s.WarmedH U.vm → va_Pc As (wI D cy H.size ws) As.toArray U :=
  fun U hU hW => ⟨rfl, by rw [hU], by rw [hU]; exact hP, va_K.moved hW.alike hK, hN.moved hW, hD.weaken (fun _ _ _ _ => trivial)⟩
theorem preV {As : List Value} {D : va_G} {cy : Nat → ClassId} {ws : va_W} {A : Nat → Prop} {s : State} {H : Heap} {b ci q0 : Nat} {q : vw_C} {fs : List Value} (hP : va_P D vwCl ws H) (hD : va_D A ws) (hK : va_K D vwCl (tysA cy) s) (hN : NW s) (hc : vwCl[ci]? = some q) (he : ws[q0]? = some (b, .inr (ci, fs))) : PreV s H q.1 b (va_Pc (.ref b :: As) (wI D cy H.size ws)) As :=
  ⟨wI_blind, va_recv hK hP hc he, wI_at (As := .ref b :: As) hP hD hK hN⟩
theorem preS {As : List Value} {D : va_G} {cy : Nat → ClassId} {ws : va_W} {A : Nat → Prop} {s : State} {H : Heap} (hP : va_P D vwCl ws H) (hD : va_D A ws) (hK : va_K D vwCl (tysA cy) s) (hN : NW s) : PreS s H (va_Pc As (wI D cy H.size ws)) As :=
  ⟨wI_blind, wI_at (As := As) hP hD hK hN⟩
def pick (ws : va_W) (is : List Nat) : va_W := is.filterMap (fun i => ws[i]?)
theorem fm_of {ws wc : va_W} {is : List Nat} (h : is.map (fun i => ws[i]?) = wc.map some) : is.filterMap (fun i => ws[i]?) = wc := by
  have e : is.filterMap (fun i => ws[i]?) = (is.map (fun i => ws[i]?)).filterMap id := by rw [List.filterMap_map]; rfl
  rw [e, h, List.filterMap_map]
  simp
theorem cutC {D : va_G} {cl : List vw_C} {A : Nat → Prop} {ws wc : va_W} {H : Heap} (hP : va_P D cl ws H) (hD : va_D A ws) (is : List Nat) (hn : va_nd is = true) (h : is.map (fun i => ws[i]?) = wc.map some) : va_P D cl wc H ∧ va_D A wc := ⟨hP.sub is (fm_of h), hD.sub is hn h⟩
theorem joinC {D : va_G} {cy : Nat → ClassId} {A0 : Nat → Prop} {ws wc w1 wd : va_W} {H H1 : Heap} {t : State} (hP : va_P D vwCl ws H) (hD : va_D A0 ws) (isC isR : List Nat) (hC : isC.map (fun i => ws[i]?) = wc.map some) (hR : isR.map (fun i => ws[i]?) = (pick ws isR).map some) (hn : va_nd isR = true) (hdis : ∀ i ∈ isR, i ∉ isC)
    (hk : ∀ q : Nat, q < H.size → ¬ va_A wc H.size q → H1[q]? = H[q]?) (hF : ∀ q, va_A wc H.size q → A0 q) (ht : t.heap = H1) (hB : wO D cy (va_A wc H.size) w1 t) (pm : List Nat) (hpn : va_nd pm = true) (hpm : pm.map (fun i => (pick ws isR ++ w1)[i]?) = wd.map some) : va_P D vwCl wd H1 ∧ va_D A0 wd := by
  obtain ⟨b1, -, b3⟩ := hB
  rw [ht] at b1
  obtain ⟨j1, j2⟩ := va_join hP hD isC isR hC hR hn hdis hk hF b1 b3
  exact cutC j1 j2 pm hpn hpm
/-- cells put back at their places -/
def sets : va_W → List Nat → va_W → va_W
  | ws, i :: is, c :: cs => sets (ws.set i c) is cs
  | ws, _, _ => ws
theorem sets_get : ∀ (is : List Nat) (cs ws : va_W), is.length = cs.length → ∀ (k : Nat) (q : Nat × va_E), (sets ws is cs)[k]? = some q → (∃ j : Nat, is[j]? = some k ∧ cs[j]? = some q) ∨ (k ∉ is ∧ ws[k]? = some q)
  | [], cs, ws, _, k, q, h => Or.inr ⟨List.not_mem_nil, by simpa [sets] using h⟩
  | i :: is, [], ws, hl, k, q, h => by simp at hl
  | i :: is, c :: cs, ws, hl, k, q, h => by
    have hl2 : is.length = cs.length := by simpa using hl
    rcases sets_get is cs (ws.set i c) hl2 k q h with ⟨j, h1, h2⟩ | ⟨h1, h2⟩
    · exact Or.inl ⟨j + 1, by simpa using h1, by simpa using h2⟩
    · rw [List.getElem?_set] at h2
      by_cases e : i = k
      · subst e
        rw [if_pos rfl] at h2
        by_cases e2 : i < ws.length
        · rw [if_pos e2] at h2
          exact Or.inl ⟨0, rfl, by simpa using h2⟩
        · rw [if_neg e2] at h2
          cases h2
      · rw [if_neg e] at h2
        exact Or.inr ⟨fun z => (List.mem_cons.mp z).elim (fun y => e y.symm) h1, h2⟩
theorem map_at {is : List Nat} {ws w : va_W} (hs : is.map (fun i => ws[i]?) = w.map some) {k : Nat} {q : Nat × va_E} (hq : w[k]? = some q) : ∃ i, is[k]? = some i ∧ ws[i]? = some q := by
  have h1 : (is.map (fun i => ws[i]?))[k]? = some (some q) := by rw [hs, List.getElem?_map, hq]; rfl
  rw [List.getElem?_map] at h1
  cases hi : is[k]? with
  | none => rw [hi] at h1; cases h1
  | some i => rw [hi] at h1; exact ⟨i, rfl, by injection h1⟩
theorem joinS {D : va_G} {cy : Nat → ClassId} {A0 : Nat → Prop} {ws wc w1 : va_W} {H H1 : Heap} {t : State} (hP : va_P D vwCl ws H) (hD : va_D A0 ws) (isC : List Nat) (hnd : va_nd isC = true) (hC : isC.map (fun i => ws[i]?) = wc.map some) (ha : w1.map Prod.fst = wc.map Prod.fst)
    (hk : ∀ q : Nat, q < H.size → ¬ va_A wc H.size q → H1[q]? = H[q]?) (ht : t.heap = H1) (hB : wO D cy (va_A wc H.size) w1 t) : va_P D vwCl (sets ws isC w1) H1 ∧ va_D A0 (sets ws isC w1) := by
  obtain ⟨b1, -, b3⟩ := hB
  rw [ht] at b1
  have hlen : isC.length = w1.length := by
    have e1 := congrArg List.length hC
    have e2 := congrArg List.length ha
    simp at e1 e2
    omega
  have addr : ∀ (j : Nat) (q : Nat × va_E), w1[j]? = some q → ∃ (i : Nat) (q0 : Nat × va_E), isC[j]? = some i ∧ ws[i]? = some q0 ∧ wc[j]? = some q0 ∧ q0.1 = q.1 := by
    intro j q hq
    have e1 : (wc.map Prod.fst)[j]? = some q.1 := by rw [← ha, List.getElem?_map, hq]; rfl
    rw [List.getElem?_map] at e1
    cases h0 : wc[j]? with
    | none => rw [h0] at e1; cases e1
    | some q0 =>
      rw [h0] at e1
      obtain ⟨i, h1, h2⟩ := map_at hC h0
      exact ⟨i, q0, h1, h2, rfl, by injection e1⟩
  have old : ∀ (k : Nat) (q : Nat × va_E), (sets ws isC w1)[k]? = some q → ∃ q0 : Nat × va_E, ws[k]? = some q0 ∧ q0.1 = q.1 := by
    intro k q hq
    rcases sets_get isC w1 ws hlen k q hq with ⟨j, h1, h2⟩ | ⟨h1, h2⟩
    · obtain ⟨i, q0, g1, g2, -, g4⟩ := addr j q h2
      rw [h1] at g1
      cases g1
      exact ⟨q0, g2, g4⟩
    · exact ⟨q, h2, rfl⟩
  refine ⟨fun k q hq => ?_, fun i j p q hi hj e => ?_, fun k q hq => ?_⟩
  · rcases sets_get isC w1 ws hlen k q hq with ⟨j, -, h2⟩ | ⟨h1, h2⟩
    · exact b1 j q h2
    · refine (hP k q h2).kept (hk q.1 (hP k q h2).lt ?_)
      intro hv
      rcases hv with ⟨j, e, hj⟩ | hv
      · obtain ⟨i, g1, g2⟩ := map_at hC hj
        have e2 : i = k := hD.1 i k _ _ g2 h2 rfl
        subst e2
        exact h1 (List.mem_of_getElem? g1)
      · exact absurd (hP k q h2).lt (Nat.not_lt.mpr hv)
  · obtain ⟨p0, g1, g2⟩ := old i p hi
    obtain ⟨q0, g3, g4⟩ := old j q hj
    exact hD.1 i j p0 q0 g1 g3 (by rw [g2, g4, e])
  · obtain ⟨q0, g1, g2⟩ := old k q hq
    rw [← g2]
    exact hD.2 k q0 g1
theorem joinT {D : va_G} {cy : Nat → ClassId} {A0 : Nat → Prop} {ws wc w1 wd : va_W} {H H1 : Heap} {t : State} (hP : va_P D vwCl ws H) (hD : va_D A0 ws) (isC isR : List Nat) (hC : isC.map (fun i => ws[i]?) = wc.map some)
    (hk : ∀ q : Nat, q < H.size → ¬ va_A wc H.size q → H1[q]? = H[q]?) (ht : t.heap = H1) (hB : wO D cy (va_A wc H.size) w1 t) (hC1 : isC.map (fun i => wd[i]?) = w1.map some) (hRd : isR.map (fun i => wd[i]?) = isR.map (fun i => ws[i]?)) {N : Nat} (hN : wd.length = N) (hcov : ∀ k, k < N → k ∈ isC ∨ k ∈ isR) (ha : w1.map Prod.fst = wc.map Prod.fst) : va_P D vwCl wd H1 ∧ va_D A0 wd := by
  obtain ⟨b1, -, b3⟩ := hB
  rw [ht] at b1
  have inC : ∀ (k : Nat) (q : Nat × va_E), k ∈ isC → wd[k]? = some q → ∃ j : Nat, isC[j]? = some k ∧ w1[j]? = some q := by
    intro k q hm hq
    obtain ⟨j, hj⟩ := List.getElem?_of_mem hm
    have h1 : (isC.map (fun i => wd[i]?))[j]? = some (some q) := by rw [List.getElem?_map, hj, ← hq]; rfl
    rw [hC1, List.getElem?_map] at h1
    cases h0 : w1[j]? with
    | none => rw [h0] at h1; cases h1
    | some q2 => rw [h0] at h1; exact ⟨j, hj, by injection h1 with z; rw [← z]; exact h0⟩
  have inR : ∀ (k : Nat) (q : Nat × va_E), k ∈ isR → wd[k]? = some q → ws[k]? = some q := by
    intro k q hm hq
    obtain ⟨j, hj⟩ := List.getElem?_of_mem hm
    have h1 : (isR.map (fun i => wd[i]?))[j]? = some (some q) := by rw [List.getElem?_map, hj, ← hq]; rfl
    rw [hRd, List.getElem?_map, hj] at h1
    injection h1
  have addr : ∀ (j : Nat) (q : Nat × va_E), w1[j]? = some q → ∃ (i : Nat) (q0 : Nat × va_E), isC[j]? = some i ∧ ws[i]? = some q0 ∧ q0.1 = q.1 := by
    intro j q hq
    have e1 : (wc.map Prod.fst)[j]? = some q.1 := by rw [← ha, List.getElem?_map, hq]; rfl
    rw [List.getElem?_map] at e1
    cases h0 : wc[j]? with
    | none => rw [h0] at e1; cases e1
    | some q0 =>
      rw [h0] at e1
      obtain ⟨i, h1, h2⟩ := map_at hC h0
      exact ⟨i, q0, h1, h2, by injection e1⟩
  have old : ∀ (k : Nat) (q : Nat × va_E), wd[k]? = some q → ∃ q0 : Nat × va_E, ws[k]? = some q0 ∧ q0.1 = q.1 := by
    intro k q hq
    have hl : k < N := by rw [← hN]; exact (List.getElem?_eq_some_iff.mp hq).1
    rcases hcov k hl with hm | hm
    · obtain ⟨j, h1, h2⟩ := inC k q hm hq
      obtain ⟨i, q0, g1, g2, g4⟩ := addr j q h2
      rw [h1] at g1
      cases g1
      exact ⟨q0, g2, g4⟩
    · exact ⟨q, inR k q hm hq, rfl⟩
  refine ⟨fun k q hq => ?_, fun i j p q hi hj e => ?_, fun k q hq => ?_⟩
  · have hl : k < N := by rw [← hN]; exact (List.getElem?_eq_some_iff.mp hq).1
    by_cases hm : k ∈ isC
    · obtain ⟨j, -, h2⟩ := inC k q hm hq
      exact b1 j q h2
    · have h2 := inR k q ((hcov k hl).resolve_left hm) hq
      refine (hP k q h2).kept (hk q.1 (hP k q h2).lt ?_)
      intro hv
      rcases hv with ⟨j, e, hj⟩ | hv
      · obtain ⟨i, g1, g2⟩ := map_at hC hj
        have e2 : i = k := hD.1 i k _ _ g2 h2 rfl
        subst e2
        exact hm (List.mem_of_getElem? g1)
      · exact absurd (hP k q h2).lt (Nat.not_lt.mpr hv)
  · obtain ⟨p0, g1, g2⟩ := old i p hi
    obtain ⟨q0, g3, g4⟩ := old j q hj
    exact hD.1 i j p0 q0 g1 g3 (by rw [g2, g4, e])
  · obtain ⟨q0, g1, g2⟩ := old k q hq
    rw [← g2]
    exact hD.2 k q0 g1
/-- the same, what stays and the addresses written out (so that no two worlds are held against each other) -/
theorem joinU {D : va_G} {cy : Nat → ClassId} {A0 : Nat → Prop} {ws wc w1 wd wr : va_W} {H H1 : Heap} {t : State} (hP : va_P D vwCl ws H) (hD : va_D A0 ws) (isC isR ads : List Nat) (hC : isC.map (fun i => ws[i]?) = wc.map some)
    (hk : ∀ q : Nat, q < H.size → ¬ va_A wc H.size q → H1[q]? = H[q]?) (ht : t.heap = H1) (hB : wO D cy (va_A wc H.size) w1 t) (hC1 : isC.map (fun i => wd[i]?) = w1.map some) (hR0 : isR.map (fun i => ws[i]?) = wr.map some) (hR1 : isR.map (fun i => wd[i]?) = wr.map some) {N : Nat} (hN : wd.length = N) (hcov : ∀ k, k < N → k ∈ isC ∨ k ∈ isR) (ha0 : wc.map Prod.fst = ads) (ha1 : w1.map Prod.fst = ads) : va_P D vwCl wd H1 ∧ va_D A0 wd :=
  joinT hP hD isC isR hC hk ht hB hC1 (hR1.trans hR0.symm) hN hcov (ha1.trans ha0.symm)
theorem wO_at {D : va_G} {cy : Nat → ClassId} {A : Nat → Prop} {ws : va_W} {s t : State} {H : Heap} (ht : t.heap = H) (hW : s.WarmedH t.vm) (hP : va_P D vwCl ws H) (hK : va_K D vwCl (tysA cy) s) (hD : va_D A ws) : wO D cy A ws t := ⟨by rw [ht]; exact hP, va_K.moved hW.alike hK, hD⟩
/-! lcmp with the branch behind it -/
theorem lc_lt {x y : Int64} : lg_cmp x y < 0 ↔ x < y := by
  unfold lg_cmp
  simp only [gt_iff_lt, Int64.lt_iff_toInt_lt, ← Int64.toInt_inj]
  repeat' split
  all_goals first | (constructor <;> intro h <;> first | omega | (exact absurd h (by decide))) | (simp; omega)
theorem lc_eq {x y : Int64} : lg_cmp x y = 0 ↔ x = y := by
  unfold lg_cmp
  simp only [gt_iff_lt, Int64.lt_iff_toInt_lt, ← Int64.toInt_inj]
  repeat' split
  all_goals first | (constructor <;> intro h <;> first | omega | (exact absurd h (by decide))) | (simp; omega)
theorem lc_ge {x y : Int64} : 0 ≤ lg_cmp x y ↔ y ≤ x := lg_cmp_ge x y
theorem lc_gt {x y : Int64} : 0 < lg_cmp x y ↔ y < x := by
  unfold lg_cmp
  simp only [gt_iff_lt, Int64.lt_iff_toInt_lt, ← Int64.toInt_inj]
  repeat' split
  all_goals first | (constructor <;> intro h <;> first | omega | (exact absurd h (by decide))) | (simp; omega)
theorem lc_le {x y : Int64} : lg_cmp x y ≤ 0 ↔ x ≤ y := by
  unfold lg_cmp
  simp only [gt_iff_lt, Int64.lt_iff_toInt_lt, Int64.le_iff_toInt_le, ← Int64.toInt_inj]
  repeat' split
  all_goals first | (constructor <;> intro h <;> first | omega | (exact absurd h (by decide))) | (simp; omega)
/-! rows of two dimensions -/
def mref (r : Nat → Nat) (n : Nat) : Nat → Option Nat := fun i => if i < n then some (r i) else none
def mrows (r : Nat → Nat) (n : Nat) (f : Nat → va_E) : va_W := (List.range n).map (fun k => (r k, f k))
theorem mrows_len (r : Nat → Nat) (n : Nat) (f : Nat → va_E) : (mrows r n f).length = n := by simp [mrows]
theorem mrows_get {X Y : va_W} {r : Nat → Nat} {n : Nat} {f : Nat → va_E} {k q : Nat} (hk : k < n) (hq : q = X.length) : (X ++ mrows r n f ++ Y)[q + k]? = some (r k, f k) := by
  subst hq
  rw [List.append_assoc, List.getElem?_append_right (by omega), List.getElem?_append_left (by rw [mrows_len]; omega)]
  simp [mrows, hk]
theorem mrows_out {X Y : va_W} {r : Nat → Nat} {n : Nat} {f : Nat → va_E} {i : Nat} (h : X.length + n ≤ i) : (X ++ mrows r n f ++ Y)[i]? = Y[i - (X.length + n)]? := by
  have e : (X ++ mrows r n f).length = X.length + n := by rw [List.length_append, mrows_len]
  rw [List.getElem?_append_right (by omega), e]
theorem mrows_set {X Y : va_W} {r : Nat → Nat} {n : Nat} {f g : Nat → va_E} {k q : Nat} (hk : k < n) (hq : q = X.length) (hg : ∀ j, j < n → g j = if j = k then g k else f j) : (X ++ mrows r n f ++ Y).set (q + k) (r k, g k) = X ++ mrows r n g ++ Y := by
  subst hq
  apply List.ext_getElem?
  intro i
  rw [List.getElem?_set]
  by_cases h : X.length + k = i
  · subst h
    rw [if_pos rfl, if_pos (by simp [mrows]; omega), mrows_get hk rfl]
  · rw [if_neg h]
    by_cases h1 : i < X.length
    · rw [List.append_assoc, List.append_assoc, List.getElem?_append_left h1, List.getElem?_append_left h1]
    · by_cases h2 : i < X.length + n
      · obtain ⟨j, rfl⟩ : ∃ j, i = X.length + j := ⟨i - X.length, by omega⟩
        rw [mrows_get (by omega) rfl, mrows_get (by omega) rfl, hg j (by omega), if_neg (by omega)]
      · rw [mrows_out (by omega), mrows_out (by omega)]
section BASE
variable {p : Program} {l : Launch} {e : Env} {R : Room} {s : State} {m : MethodId} {args : Array Value} {below : List Frame} {meth : Method} {c : Code} {H : Heap} {locs : List Loc} {cells slots : Nat} {Q : State → Prop}
variable {cc : ByteArray} {pc : Nat} {ls : Array Slot} {rest : List Value} {D : va_G} {cl : List vw_C} {A : Nat → Prop} {a : Nat} {tys : List (ClassId × FieldType)} {ws : va_W} {H0 : Heap}
/-- aaload of an outer array -/
theorem mx_ald (hexec : p.tables.exec = Jvm.exec) (hb : c.code = cc) (hK : va_K D cl tys s) (hP : va_P D cl ws H) (q0 t0 : Nat) {cA : ClassId} {n : Nat} {r : Nat → Nat} {ty : FieldType} (ha : ws[q0]? = some (a, .inl (cA, n, .inr (.inr (.inr (.inr (mref r n))))))) (ht : tys[t0]? = some (cA, .array ty)) {i : Int32} (hin : vp_in i n) (hdg : decode cc pc = .ok (.aaload, 1))
    (kk : W p l e R s m args below meth c H locs cells slots Q (F0 m (pc + 1) ls (.ref (r i.toNatClampNeg) :: rest))) : W p l e R s m args below meth c H locs cells slots Q (F0 m pc ls (.int i :: .ref a :: rest)) := by
  have hlt : i.toNatClampNeg < n := Nat.not_le.mp fun q => hin (Or.inr q)
  have hm : va_rf (mref r n i.toNatClampNeg) = .ref (r i.toNatClampNeg) := by unfold mref; rw [if_pos hlt]; rfl
  rw [← hm] at kk
  exact W.aald (v := va_rf (mref r n i.toNatClampNeg)) (ty := .array ty) hexec hb (hP q0 _ ha) ((hK.2 t0 _ ht).1 n (fun j => va_rf (mref r n j))) rfl (fun q => by cases q) (by show ¬ (i < 0 ∨ (arrV _ _ _).slots.size ≤ _); rw [arrV_size]; exact hin) (by show (arrV _ _ _).slots[_]? = _; rw [arrV_read _ _ hlt]) rfl rfl hdg kk
end BASE
/-! contracts: what a walk is given -/
section CONTR
variable {l : Launch} {y : MethodName} {ws ws' : List Cond} {rm : Room} {cc : ByteArray} {maxL : Nat} {own : String} {D : va_G} {cy : Nat → ClassId} {sz : Nat} {As : List Value} {w0 : va_W} {S : Type} {wOut : S → va_W}
/-- the start that every contract's walk has -/
def cW (l : Launch) (rm : Room) (ws : List Cond) (cc : ByteArray) (maxL : Nat) (own : String) (D : va_G) (cy : Nat → ClassId) (As : List Value) (w0 : va_W) (ret : Program → Env → State → MethodId → Array Value → List Frame → Method → Code → (Nat → Prop) → (State → Prop) → Prop) : Prop :=
  ∀ (p : Program) (e : Env) (s : State) (m : MethodId) (args : Array Value) (below : List Frame) (meth : Method) (c : Code) (A : Nat → Prop) (Q : State → Prop), p.tables.exec = Jvm.exec → c.code = cc → c.maxLocals = maxL → s.vm.findClass own = some m.cls → (∀ w ∈ ws, w.before args s = true) → va_K D vwCl (tysA cy) s → NW s → va_P D vwCl w0 s.heap → va_D A w0 → va_S A s.heap s.heap [] → (∀ q : Nat, s.heap.size ≤ q → A q) → ret p e s m args below meth c A Q →
    W p l e rm s m args below meth c s.heap [] 0 0 Q (entryFrame m As.toArray maxL)
theorem contrI {post : Int32 → S → Prop} (hy : plainFor y = true) (hw : ws = Cond.code y cc maxL (some .int) :: ws') (ho : y.cls = own)
    (body : cW l rm ws cc maxL own D cy As w0 (fun p e s m args below meth c A Q => ∀ (r : Int32) (u : S) (H : Heap) (locs : List Loc) (ls : Array Slot) (pc : Nat), post r u → va_P D vwCl (wOut u) H → va_D A (wOut u) → va_S A s.heap H locs → decode cc pc = .ok (.ireturn, 1) → W p l e rm s m args below meth c H locs 0 0 Q (F0 m pc ls [.int r]))) :
    Met l y ws rm (va_Pc As (wI D cy sz w0)) (va_Qi post (fun u t => wO D cy (va_A w0 sz) (wOut u) t) (va_A w0 sz)) 0 0 (va_A w0 sz) := by
  refine va_MetF (cc := cc) (maxL := maxL) (ret := some .int) hy hw ?_
  intro p e s m args below meth c s₁ B hml hv
  obtain ⟨rfl, hsz, hP, hK, hN, hD0⟩ := hv
  have hlocks := B.notSynchronized
  have hr := B.returns
  subst hsz
  refine body p e s m As.toArray below meth c (va_A w0 s.heap.size) _ B.exec B.bytes hml (by rw [← ho]; exact findClass_of_methodNamed B.named) (atoms_spec (ws := ws) B.pre) hK hN hP (hD0.self (sz := s.heap.size)) va_S.rf (fun q h => Or.inr h) ?_
  intro r u H locs ls pc hp hP hD hS hd
  exact W.iret (v := r) B.exec B.bytes hr (fun t ht hW => ⟨⟨r, u, rfl, hp, wO_at ht hW hP hK hD⟩, hS.F ht⟩) hS.2.2 hd
theorem contrZ {post : Int32 → S → Prop} {ty : FieldType} (hy : plainFor y = true) (hw : ws = Cond.code y cc maxL (some ty) :: ws') (ho : y.cls = own)
    (body : cW l rm ws cc maxL own D cy As w0 (fun p e s m args below meth c A Q => ∀ (r : Int32) (u : S) (H : Heap) (locs : List Loc) (ls : Array Slot) (pc : Nat), narrow ty (.int r) = .int r → post r u → va_P D vwCl (wOut u) H → va_D A (wOut u) → va_S A s.heap H locs → decode cc pc = .ok (.ireturn, 1) → W p l e rm s m args below meth c H locs 0 0 Q (F0 m pc ls [.int r]))) :
    Met l y ws rm (va_Pc As (wI D cy sz w0)) (va_Qi post (fun u t => wO D cy (va_A w0 sz) (wOut u) t) (va_A w0 sz)) 0 0 (va_A w0 sz) := by
  refine va_MetF (cc := cc) (maxL := maxL) (ret := some ty) hy hw ?_
  intro p e s m args below meth c s₁ B hml hv
  obtain ⟨rfl, hsz, hP, hK, hN, hD0⟩ := hv
  have hlocks := B.notSynchronized
  have hr := B.returns
  subst hsz
  refine body p e s m As.toArray below meth c (va_A w0 s.heap.size) _ B.exec B.bytes hml (by rw [← ho]; exact findClass_of_methodNamed B.named) (atoms_spec (ws := ws) B.pre) hK hN hP (hD0.self (sz := s.heap.size)) va_S.rf (fun q h => Or.inr h) ?_
  intro r u H locs ls pc hn hp hP hD hS hd
  exact W.zret (v := r) B.exec B.bytes hr hn (fun t ht hW => ⟨⟨r, u, rfl, hp, wO_at ht hW hP hK hD⟩, hS.F ht⟩) hS.2.2 hd
theorem contrL {post : Int64 → S → Prop} (hy : plainFor y = true) (hw : ws = Cond.code y cc maxL (some .long) :: ws') (ho : y.cls = own)
    (body : cW l rm ws cc maxL own D cy As w0 (fun p e s m args below meth c A Q => ∀ (r : Int64) (u : S) (H : Heap) (locs : List Loc) (ls : Array Slot) (pc : Nat), post r u → va_P D vwCl (wOut u) H → va_D A (wOut u) → va_S A s.heap H locs → decode cc pc = .ok (.lreturn, 1) → W p l e rm s m args below meth c H locs 0 0 Q (F0 m pc ls [.long r]))) :
    Met l y ws rm (va_Pc As (wI D cy sz w0)) (va_Ql post (fun u t => wO D cy (va_A w0 sz) (wOut u) t) (va_A w0 sz)) 0 0 (va_A w0 sz) := by
  refine va_MetF (cc := cc) (maxL := maxL) (ret := some .long) hy hw ?_
  intro p e s m args below meth c s₁ B hml hv
  obtain ⟨rfl, hsz, hP, hK, hN, hD0⟩ := hv
  have hlocks := B.notSynchronized
  have hr := B.returns
  subst hsz
  refine body p e s m As.toArray below meth c (va_A w0 s.heap.size) _ B.exec B.bytes hml (by rw [← ho]; exact findClass_of_methodNamed B.named) (atoms_spec (ws := ws) B.pre) hK hN hP (hD0.self (sz := s.heap.size)) va_S.rf (fun q h => Or.inr h) ?_
  intro r u H locs ls pc hp hP hD hS hd
  exact W.lret (v := r) B.exec B.bytes hr (fun t ht hW => ⟨⟨r, u, rfl, hp, wO_at ht hW hP hK hD⟩, hS.F ht⟩) hS.2.2 hd
theorem contrV {post : S → Prop} (hy : plainFor y = true) (hw : ws = Cond.code y cc maxL none :: ws') (ho : y.cls = own)
    (body : cW l rm ws cc maxL own D cy As w0 (fun p e s m args below meth c A Q => ∀ (u : S) (H : Heap) (locs : List Loc) (ls : Array Slot) (pc : Nat), post u → va_P D vwCl (wOut u) H → va_D A (wOut u) → va_S A s.heap H locs → decode cc pc = .ok (.return_, 1) → W p l e rm s m args below meth c H locs 0 0 Q (F0 m pc ls []))) :
    Met l y ws rm (va_Pc As (wI D cy sz w0)) (va_Qv post (fun u t => wO D cy (va_A w0 sz) (wOut u) t) (va_A w0 sz)) 0 0 (va_A w0 sz) := by
  refine va_MetF (cc := cc) (maxL := maxL) (ret := none) hy hw ?_
  intro p e s m args below meth c s₁ B hml hv
  obtain ⟨rfl, hsz, hP, hK, hN, hD0⟩ := hv
  have hlocks := B.notSynchronized
  have hr := B.returns
  subst hsz
  refine body p e s m As.toArray below meth c (va_A w0 s.heap.size) _ B.exec B.bytes hml (by rw [← ho]; exact findClass_of_methodNamed B.named) (atoms_spec (ws := ws) B.pre) hK hN hP (hD0.self (sz := s.heap.size)) va_S.rf (fun q h => Or.inr h) ?_
  intro u H locs ls pc hp hP hD hS hd
  exact W.vret B.exec B.bytes hr (fun t ht hW => ⟨⟨u, rfl, hp, wO_at ht hW hP hK hD⟩, hS.F ht⟩) hS.2.2 hd
/-- the locals at the entry -/
theorem ent {p : Program} {e : Env} {R : Room} {s : State} {m : MethodId} {args : Array Value} {below : List Frame} {meth : Method} {c : Code} {H : Heap} {Q : State → Prop} {n : Nat} (As : List Value) (h : (lg_sl As).length ≤ n) (k : ∀ ls : Array Slot, lv_has ls n (lv_args 0 As) → W p l e R s m args below meth c H [] 0 0 Q (F0 m 0 ls [])) : W p l e R s m args below meth c H [] 0 0 Q (entryFrame m As.toArray n) := by
  have hl := lv_entry As (n := n) h
  rw [lg_entry_eq]
  exact k _ hl
end CONTR
/-! more words for the walks -/
theorem in_lt {i : Int32} {n : Nat} (h : vp_in i n) : i.toNatClampNeg < n := Nat.not_le.mp fun q => h (Or.inr q)
def rowI (cA : ClassId) (w : Nat) (M : Nat → Nat → Int32) : Nat → va_E := fun k => .inl (cA, w, .inl (M k))
def rowJ (cA : ClassId) (w : Nat) (M : Nat → Nat → Int64) : Nat → va_E := fun k => .inl (cA, w, .inr (.inl (M k)))
theorem sw_out4 {x : Int32} (h0 : ¬ x = (0 : Int32)) (h1 : ¬ x = (1 : Int32)) (h2 : ¬ x = (2 : Int32)) (h3 : ¬ x = (3 : Int32)) : x.toInt < 0 ∨ (3 : Int) < x.toInt := by
  rw [← Int32.toInt_inj] at h0 h1 h2 h3
  simp at h0 h1 h2 h3
  omega
theorem sw_out5 {x : Int32} (h0 : ¬ x = (0 : Int32)) (h1 : ¬ x = (1 : Int32)) (h2 : ¬ x = (2 : Int32)) (h3 : ¬ x = (3 : Int32)) (h4 : ¬ x = (4 : Int32)) : x.toInt < 0 ∨ (4 : Int) < x.toInt := by
  rw [← Int32.toInt_inj] at h0 h1 h2 h3 h4
  simp at h0 h1 h2 h3 h4
  omega
theorem mget0 {E Y : va_W} {r : Nat → Nat} {n : Nat} {f : Nat → va_E} {k q : Nat} (hk : k < n) (hq : q = E.length := by rfl) : (E ++ mrows r n f ++ Y)[q + k]? = some (r k, f k) := mrows_get hk hq
theorem mget1 {E B Y : va_W} {r : Nat → Nat} {n : Nat} {f : Nat → va_E} {k q : Nat} (hk : k < n) (hq : q = (E ++ B).length := by rfl) : (E ++ B ++ (mrows r n f ++ Y))[q + k]? = some (r k, f k) := by
  rw [← List.append_assoc (E ++ B)]
  exact mrows_get hk hq
theorem mputJ0 {E Y : va_W} {r : Nat → Nat} {n w : Nat} {cA : ClassId} {M : Nat → Nat → Int64} {g : Nat → Int64} {k q : Nat} (hk : k < n) (hq : q = E.length := by rfl) : (E ++ mrows r n (rowJ cA w M) ++ Y).set (q + k) (r k, .inl (cA, w, .inr (.inl g))) = E ++ mrows r n (rowJ cA w (va_up M k g)) ++ Y := by
  have h := mrows_set (X := E) (Y := Y) (r := r) (n := n) (f := rowJ cA w M) (g := rowJ cA w (va_up M k g)) hk hq (fun j _ => by by_cases e : j = k <;> simp [rowJ, va_up, e])
  rw [← h]
  simp [rowJ, va_up]
theorem mputI0 {E Y : va_W} {r : Nat → Nat} {n w : Nat} {cA : ClassId} {M : Nat → Nat → Int32} {g : Nat → Int32} {k q : Nat} (hk : k < n) (hq : q = E.length := by rfl) : (E ++ mrows r n (rowI cA w M) ++ Y).set (q + k) (r k, .inl (cA, w, .inl g)) = E ++ mrows r n (rowI cA w (va_up M k g)) ++ Y := by
  have h := mrows_set (X := E) (Y := Y) (r := r) (n := n) (f := rowI cA w M) (g := rowI cA w (va_up M k g)) hk hq (fun j _ => by by_cases e : j = k <;> simp [rowI, va_up, e])
  rw [← h]
  simp [rowI, va_up]
theorem mputJ1 {E B Y : va_W} {r : Nat → Nat} {n w : Nat} {cA : ClassId} {M : Nat → Nat → Int64} {g : Nat → Int64} {k q : Nat} (hk : k < n) (hq : q = (E ++ B).length := by rfl) : (E ++ B ++ (mrows r n (rowJ cA w M) ++ Y)).set (q + k) (r k, .inl (cA, w, .inr (.inl g))) = E ++ B ++ (mrows r n (rowJ cA w (va_up M k g)) ++ Y) := by
  rw [← List.append_assoc (E ++ B), mputJ0 hk hq, List.append_assoc (E ++ B)]
theorem mputI1 {E B Y : va_W} {r : Nat → Nat} {n w : Nat} {cA : ClassId} {M : Nat → Nat → Int32} {g : Nat → Int32} {k q : Nat} (hk : k < n) (hq : q = (E ++ B).length := by rfl) : (E ++ B ++ (mrows r n (rowI cA w M) ++ Y)).set (q + k) (r k, .inl (cA, w, .inl g)) = E ++ B ++ (mrows r n (rowI cA w (va_up M k g)) ++ Y) := by
  rw [← List.append_assoc (E ++ B), mputI0 hk hq, List.append_assoc (E ++ B)]
/-! the same, rows written out -/
abbrev rows14 (r : Nat → Nat) (f : Nat → va_E) : va_W := [(r 0, f 0), (r 1, f 1), (r 2, f 2), (r 3, f 3), (r 4, f 4), (r 5, f 5), (r 6, f 6), (r 7, f 7), (r 8, f 8), (r 9, f 9), (r 10, f 10), (r 11, f 11), (r 12, f 12), (r 13, f 13)]
abbrev rows4 (r : Nat → Nat) (f : Nat → va_E) : va_W := [(r 0, f 0), (r 1, f 1), (r 2, f 2), (r 3, f 3)]
theorem rows14_eq (r : Nat → Nat) (f : Nat → va_E) : rows14 r f = mrows r 14 f := rfl
theorem rows4_eq (r : Nat → Nat) (f : Nat → va_E) : rows4 r f = mrows r 4 f := rfl
theorem gJ0 {E Y : va_W} {r : Nat → Nat} {f : Nat → va_E} {k q : Nat} (hk : k < 14) (hq : q = E.length := by rfl) : (E ++ rows14 r f ++ Y)[q + k]? = some (r k, f k) := mget0 hk hq
theorem gI0 {E Y : va_W} {r : Nat → Nat} {f : Nat → va_E} {k q : Nat} (hk : k < 4) (hq : q = E.length := by rfl) : (E ++ rows4 r f ++ Y)[q + k]? = some (r k, f k) := mget0 hk hq
theorem gJ1 {E B Y : va_W} {r : Nat → Nat} {f : Nat → va_E} {k q : Nat} (hk : k < 14) (hq : q = (E ++ B).length := by rfl) : (E ++ B ++ (rows14 r f ++ Y))[q + k]? = some (r k, f k) := mget1 hk hq
theorem gI1 {E B Y : va_W} {r : Nat → Nat} {f : Nat → va_E} {k q : Nat} (hk : k < 4) (hq : q = (E ++ B).length := by rfl) : (E ++ B ++ (rows4 r f ++ Y))[q + k]? = some (r k, f k) := mget1 hk hq
theorem pJ0 {E Y : va_W} {r : Nat → Nat} {w : Nat} {cA : ClassId} {M : Nat → Nat → Int64} {g : Nat → Int64} {k q : Nat} (hk : k < 14) (hq : q = E.length := by rfl) : (E ++ rows14 r (rowJ cA w M) ++ Y).set (q + k) (r k, .inl (cA, w, .inr (.inl g))) = E ++ rows14 r (rowJ cA w (va_up M k g)) ++ Y := mputJ0 hk hq
theorem pI0 {E Y : va_W} {r : Nat → Nat} {w : Nat} {cA : ClassId} {M : Nat → Nat → Int32} {g : Nat → Int32} {k q : Nat} (hk : k < 4) (hq : q = E.length := by rfl) : (E ++ rows4 r (rowI cA w M) ++ Y).set (q + k) (r k, .inl (cA, w, .inl g)) = E ++ rows4 r (rowI cA w (va_up M k g)) ++ Y := mputI0 hk hq
theorem pJ1 {E B Y : va_W} {r : Nat → Nat} {w : Nat} {cA : ClassId} {M : Nat → Nat → Int64} {g : Nat → Int64} {k q : Nat} (hk : k < 14) (hq : q = (E ++ B).length := by rfl) : (E ++ B ++ (rows14 r (rowJ cA w M) ++ Y)).set (q + k) (r k, .inl (cA, w, .inr (.inl g))) = E ++ B ++ (rows14 r (rowJ cA w (va_up M k g)) ++ Y) := mputJ1 hk hq
theorem pI1 {E B Y : va_W} {r : Nat → Nat} {w : Nat} {cA : ClassId} {M : Nat → Nat → Int32} {g : Nat → Int32} {k q : Nat} (hk : k < 4) (hq : q = (E ++ B).length := by rfl) : (E ++ B ++ (rows4 r (rowI cA w M) ++ Y)).set (q + k) (r k, .inl (cA, w, .inl g)) = E ++ B ++ (rows4 r (rowI cA w (va_up M k g)) ++ Y) := mputI1 hk hq
/-! a call that has one cell, at a place that is computed -/
theorem cut1 {D : va_G} {cl : List vw_C} {A : Nat → Prop} {ws : va_W} {H : Heap} {q a : Nat} {e : va_E} (hP : va_P D cl ws H) (hD : va_D A ws) (h : ws[q]? = some (a, e)) : va_P D cl [(a, e)] H ∧ va_D A [(a, e)] := by
  refine ⟨fun k x hx => ?_, fun i j x y hi hj _ => ?_, fun k x hx => ?_⟩
  · have h0 : k < 1 := (List.getElem?_eq_some_iff.mp hx).1
    rw [show k = 0 by omega] at hx
    cases hx
    exact hP q _ h
  · have h0 : i < 1 := (List.getElem?_eq_some_iff.mp hi).1
    have h1 : j < 1 := (List.getElem?_eq_some_iff.mp hj).1
    omega
  · have h0 : k < 1 := (List.getElem?_eq_some_iff.mp hx).1
    rw [show k = 0 by omega] at hx
    cases hx
    exact hD.2 q _ h
theorem free1 {A0 : Nat → Prop} {ws : va_W} {H0 H : Heap} {locs : List Loc} {q a : Nat} {e : va_E} (hD : va_D A0 ws) (hS : va_S A0 H0 H locs) (hA : ∀ q, H0.size ≤ q → A0 q) (h : ws[q]? = some (a, e)) : ∀ x, va_A [(a, e)] H.size x → A0 x := by
  intro x hx
  rcases hx with ⟨k, e2, hk⟩ | hx
  · have h0 : k < 1 := (List.getElem?_eq_some_iff.mp hk).1
    rw [show k = 0 by omega] at hk
    cases hk
    exact hD.2 q _ h
  · exact hA x (Nat.le_trans hS.1 hx)
theorem join1 {D : va_G} {cy : Nat → ClassId} {A0 : Nat → Prop} {ws : va_W} {H H1 : Heap} {t : State} {q a : Nat} {e e2 : va_E} (hP : va_P D vwCl ws H) (hD : va_D A0 ws) (h : ws[q]? = some (a, e)) (hk : ∀ x : Nat, x < H.size → ¬ va_A [(a, e)] H.size x → H1[x]? = H[x]?) (ht : t.heap = H1) (hB : wO D cy (va_A [(a, e)] H.size) [(a, e2)] t) : va_P D vwCl (ws.set q (a, e2)) H1 ∧ va_D A0 (ws.set q (a, e2)) := by
  obtain ⟨b1, -, -⟩ := hB
  rw [ht] at b1
  refine ⟨fun k x hx => ?_, hD.set h⟩
  rw [List.getElem?_set] at hx
  by_cases hq : q = k
  · subst hq
    rw [if_pos rfl, if_pos (List.getElem?_eq_some_iff.mp h).1] at hx
    cases hx
    exact b1 0 _ rfl
  · rw [if_neg hq] at hx
    refine (hP k x hx).kept (hk x.1 (hP k x hx).lt ?_)
    intro hv
    rcases hv with ⟨k2, e3, hk2⟩ | hv
    · have h0 : k2 < 1 := (List.getElem?_eq_some_iff.mp hk2).1
      rw [show k2 = 0 by omega] at hk2
      have e4 : a = x.1 := by injection hk2 with z; injection z
      exact hq (hD.1 q k _ _ h hx e4)
    · exact absurd (hP k x hx).lt (Nat.not_lt.mpr hv)
theorem fit_of {x : Int32} (h : narrow .boolean (.int x) = .int x) : fits .boolean (.int x) = true := by
  have h1 : x &&& 1 = x := by injection h
  have h2 : x = 0 ∨ x = 1 := by
    have e := pk_and x (m := 1) 1 rfl
    rw [h1] at e
    have l2 : x.toBitVec.toNat % 2 ^ 1 < 2 := Nat.mod_lt _ (by decide)
    generalize x.toBitVec.toNat % 2 ^ 1 = j at e l2
    rcases (show j = 0 ∨ j = 1 by omega) with rfl | rfl
    · left; exact e
    · right; exact e
  rcases h2 with rfl | rfl <;> rfl
