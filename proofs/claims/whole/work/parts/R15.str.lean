/-! String constants: the seven words of the reader -/
def SW (K : (Nat → Nat) × (Nat → Nat)) (A : Nat → Prop) (U : State) (H : Heap) : Prop := vk_S 7 slen sbyt K.1 K.2 A U H ∧ va_Z "java/lang/String" "COMPACT_STRINGS" "Z" (.int 1) A U H ∧ va_Zq "jdk/internal/util/Preconditions" "SIOOBE_FORMATTER" "Ljava/util/function/BiFunction;" A U H
def SR (K : (Nat → Nat) × (Nat → Nat)) (U : State) : Prop := vk_R RX3 89 "gate" (K.1 0) U ∧ vk_R RX3 95 "wish" (K.1 1) U ∧ vk_R RX3 97 "most" (K.1 2) U ∧ vk_R RX3 99 "least" (K.1 3) U ∧ vk_R RX3 101 "part" (K.1 4) U ∧ vk_R RX3 106 "whole" (K.1 5) U ∧ vk_R RX3 108 "all" (K.1 6) U
theorem SW.moved {K : (Nat → Nat) × (Nat → Nat)} {A : Nat → Prop} {u U : State} {H : Heap} (hvm : u.vm.Alike U.vm) (h : SW K A u H) : SW K A U H := ⟨h.1.moved hvm, va_Z.moved hvm h.2.1, va_Zq.moved hvm h.2.2⟩
theorem SW.kept {K : (Nat → Nat) × (Nat → Nat)} {A : Nat → Prop} {U : State} {H H1 : Heap} (h : SW K A U H) (hq : ∀ a : Nat, a < H.size → ¬ A a → H1[a]? = H[a]?) : SW K A U H1 := ⟨h.1.kept hq, h.2.1.kept hq, h.2.2.kept hq⟩
theorem SW.narrow {K : (Nat → Nat) × (Nat → Nat)} {A B : Nat → Prop} {U : State} {H : Heap} (h : SW K A U H) (hAB : ∀ q, B q → A q) : SW K B U H := ⟨h.1.narrow hAB, h.2.1.narrow hAB, h.2.2.narrow hAB⟩
theorem SR.warm {K : (Nat → Nat) × (Nat → Nat)} {s U : State} (hW : s.WarmedH U.vm) (h : SR K s) : SR K U := ⟨h.1.warm hW, h.2.1.warm hW, h.2.2.1.warm hW, h.2.2.2.1.warm hW, h.2.2.2.2.1.warm hW, h.2.2.2.2.2.1.warm hW, h.2.2.2.2.2.2.warm hW⟩
theorem SR.same {K : (Nat → Nat) × (Nat → Nat)} {u U : State} (hv : U.vm = u.vm) (h : SR K u) : SR K U := ⟨h.1.same hv, h.2.1.same hv, h.2.2.1.same hv, h.2.2.2.1.same hv, h.2.2.2.2.1.same hv, h.2.2.2.2.2.1.same hv, h.2.2.2.2.2.2.same hv⟩
def wIs (D : va_G) (cy : Nat → ClassId) (sz : Nat) (ws : va_W) (K : (Nat → Nat) × (Nat → Nat)) (U : State) : Prop := wI D cy sz ws U ∧ SW K (va_A ws sz) U U.heap ∧ SR K U
theorem wIs_blind {As : List Value} {D : va_G} {cy : Nat → ClassId} {sz : Nat} {ws : va_W} {K : (Nat → Nat) × (Nat → Nat)} : FrameBlind (va_Pc As (wIs D cy sz ws K)) := by
  intro a U g mk q
  obtain ⟨q0, q1, q2, q3⟩ := q
  have h := wI_blind (As := As) (D := D) (cy := cy) (sz := sz) (ws := ws) a U g mk ⟨q0, q1⟩
  exact ⟨h.1, h.2, SW.moved (u := U) (U := U.calling g mk a) (Vm.Alike.refl U.vm) q2, SR.same (u := U) (U := U.calling g mk a) rfl q3⟩
theorem wIs_at {As : List Value} {D : va_G} {cy : Nat → ClassId} {ws : va_W} {K : (Nat → Nat) × (Nat → Nat)} {A : Nat → Prop} {s : State} {H : Heap} {locs : List Loc} (hP : va_P D vwCl ws H) (hD : va_D A ws) (hK : va_K D vwCl (tysA cy) s) (hN : NW s) (hW0 : SW K A s s.heap) (hR0 : SR K s) (hS : va_S A s.heap H locs) (hF : ∀ q, va_A ws H.size q → A q) : ∀ U : State, U.heap = H → s.WarmedH U.vm → va_Pc As (wIs D cy H.size ws K) As.toArray U :=
  fun U hU hW => ⟨rfl, (wI_at (As := As) hP hD hK hN U hU hW).2, by rw [hU]; exact ((hW0.kept hS.2.1).narrow hF).moved hW.alike, hR0.warm hW⟩
theorem preVs {As : List Value} {D : va_G} {cy : Nat → ClassId} {ws : va_W} {K : (Nat → Nat) × (Nat → Nat)} {A : Nat → Prop} {s : State} {H : Heap} {locs : List Loc} {b ci q0 : Nat} {q : vw_C} {fs : List Value} (hP : va_P D vwCl ws H) (hD : va_D A ws) (hK : va_K D vwCl (tysA cy) s) (hN : NW s) (hW0 : SW K A s s.heap) (hR0 : SR K s) (hS : va_S A s.heap H locs) (hF : ∀ q, va_A ws H.size q → A q) (hc : vwCl[ci]? = some q) (he : ws[q0]? = some (b, .inr (ci, fs))) : PreV s H q.1 b (va_Pc (.ref b :: As) (wIs D cy H.size ws K)) As :=
  ⟨wIs_blind, va_recv hK hP hc he, wIs_at (As := .ref b :: As) hP hD hK hN hW0 hR0 hS hF⟩
theorem preVk {As : List Value} {D : va_G} {cy : Nat → ClassId} {ws : va_W} {K : (Nat → Nat) × (Nat → Nat)} {A : Nat → Prop} {s : State} {H : Heap} {locs : List Loc} {k : Nat} (hP : va_P D vwCl ws H) (hD : va_D A ws) (hK : va_K D vwCl (tysA cy) s) (hN : NW s) (hW0 : SW K A s s.heap) (hR0 : SR K s) (hS : va_S A s.heap H locs) (hF : ∀ q, va_A ws H.size q → A q) (hk : k < 7) : PreV s H RJ0 (K.1 k) (va_Pc (.ref (K.1 k) :: As) (wIs D cy H.size ws K)) As :=
  ⟨wIs_blind, vk_recv hW0.1 hk hS, wIs_at (As := .ref (K.1 k) :: As) hP hD hK hN hW0 hR0 hS hF⟩
theorem preSs {As : List Value} {D : va_G} {cy : Nat → ClassId} {ws : va_W} {K : (Nat → Nat) × (Nat → Nat)} {A : Nat → Prop} {s : State} {H : Heap} {locs : List Loc} (hP : va_P D vwCl ws H) (hD : va_D A ws) (hK : va_K D vwCl (tysA cy) s) (hN : NW s) (hW0 : SW K A s s.heap) (hR0 : SR K s) (hS : va_S A s.heap H locs) (hF : ∀ q, va_A ws H.size q → A q) : PreS s H (va_Pc As (wIs D cy H.size ws K)) As :=
  ⟨wIs_blind, wIs_at (As := As) hP hD hK hN hW0 hR0 hS hF⟩
section CONTRS
variable {l : Launch} {y : MethodName} {ws ws' : List Cond} {rm : Room} {cc : ByteArray} {maxL : Nat} {own : String} {D : va_G} {cy : Nat → ClassId} {sz : Nat} {As : List Value} {w0 : va_W} {S : Type} {wOut : S → va_W} {K : (Nat → Nat) × (Nat → Nat)}
def cWs (l : Launch) (rm : Room) (ws : List Cond) (cc : ByteArray) (maxL : Nat) (own : String) (D : va_G) (cy : Nat → ClassId) (As : List Value) (w0 : va_W) (K : (Nat → Nat) × (Nat → Nat)) (ret : Program → Env → State → MethodId → Array Value → List Frame → Method → Code → (Nat → Prop) → (State → Prop) → Prop) : Prop :=
  ∀ (p : Program) (e : Env) (s : State) (m : MethodId) (args : Array Value) (below : List Frame) (meth : Method) (c : Code) (A : Nat → Prop) (Q : State → Prop), p.tables.exec = Jvm.exec → c.code = cc → c.maxLocals = maxL → s.vm.findClass own = some m.cls → (∀ w ∈ ws, w.before args s = true) → va_K D vwCl (tysA cy) s → NW s → va_P D vwCl w0 s.heap → va_D A w0 → va_S A s.heap s.heap [] → (∀ q : Nat, s.heap.size ≤ q → A q) → SW K A s s.heap → SR K s → ret p e s m args below meth c A Q →
    W p l e rm s m args below meth c s.heap [] 0 0 Q (entryFrame m As.toArray maxL)
theorem contrIs {post : Int32 → S → Prop} (hy : plainFor y = true) (hw : ws = Cond.code y cc maxL (some .int) :: ws') (ho : y.cls = own)
    (body : cWs l rm ws cc maxL own D cy As w0 K (fun p e s m args below meth c A Q => ∀ (r : Int32) (u : S) (H : Heap) (locs : List Loc) (ls : Array Slot) (pc : Nat), post r u → va_P D vwCl (wOut u) H → va_D A (wOut u) → va_S A s.heap H locs → decode cc pc = .ok (.ireturn, 1) → W p l e rm s m args below meth c H locs 0 0 Q (F0 m pc ls [.int r]))) :
    Met l y ws rm (va_Pc As (wIs D cy sz w0 K)) (va_Qi post (fun u t => wO D cy (va_A w0 sz) (wOut u) t) (va_A w0 sz)) 0 0 (va_A w0 sz) := by
  refine va_MetF (cc := cc) (maxL := maxL) (ret := some .int) hy hw ?_
  intro p e s m args below meth c s₁ B hml hv
  obtain ⟨rfl, ⟨hsz, hP, hK, hN, hD0⟩, hW0, hR0⟩ := hv
  have hlocks := B.notSynchronized
  have hr := B.returns
  subst hsz
  refine body p e s m As.toArray below meth c (va_A w0 s.heap.size) _ B.exec B.bytes hml (by rw [← ho]; exact findClass_of_methodNamed B.named) (atoms_spec (ws := ws) B.pre) hK hN hP (hD0.self (sz := s.heap.size)) va_S.rf (fun q h => Or.inr h) hW0 hR0 ?_
  intro r u H locs ls pc hp hP hD hS hd
  exact W.iret (v := r) B.exec B.bytes hr (fun t ht hW => ⟨⟨r, u, rfl, hp, wO_at ht hW hP hK hD⟩, hS.F ht⟩) hS.2.2 hd
theorem contrZs {post : Int32 → S → Prop} {ty : FieldType} (hy : plainFor y = true) (hw : ws = Cond.code y cc maxL (some ty) :: ws') (ho : y.cls = own)
    (body : cWs l rm ws cc maxL own D cy As w0 K (fun p e s m args below meth c A Q => ∀ (r : Int32) (u : S) (H : Heap) (locs : List Loc) (ls : Array Slot) (pc : Nat), narrow ty (.int r) = .int r → post r u → va_P D vwCl (wOut u) H → va_D A (wOut u) → va_S A s.heap H locs → decode cc pc = .ok (.ireturn, 1) → W p l e rm s m args below meth c H locs 0 0 Q (F0 m pc ls [.int r]))) :
    Met l y ws rm (va_Pc As (wIs D cy sz w0 K)) (va_Qi post (fun u t => wO D cy (va_A w0 sz) (wOut u) t) (va_A w0 sz)) 0 0 (va_A w0 sz) := by
  refine va_MetF (cc := cc) (maxL := maxL) (ret := some ty) hy hw ?_
  intro p e s m args below meth c s₁ B hml hv
  obtain ⟨rfl, ⟨hsz, hP, hK, hN, hD0⟩, hW0, hR0⟩ := hv
  have hlocks := B.notSynchronized
  have hr := B.returns
  subst hsz
  refine body p e s m As.toArray below meth c (va_A w0 s.heap.size) _ B.exec B.bytes hml (by rw [← ho]; exact findClass_of_methodNamed B.named) (atoms_spec (ws := ws) B.pre) hK hN hP (hD0.self (sz := s.heap.size)) va_S.rf (fun q h => Or.inr h) hW0 hR0 ?_
  intro r u H locs ls pc hn hp hP hD hS hd
  exact W.zret (v := r) B.exec B.bytes hr hn (fun t ht hW => ⟨⟨r, u, rfl, hp, wO_at ht hW hP hK hD⟩, hS.F ht⟩) hS.2.2 hd
theorem contrVs {post : S → Prop} (hy : plainFor y = true) (hw : ws = Cond.code y cc maxL none :: ws') (ho : y.cls = own)
    (body : cWs l rm ws cc maxL own D cy As w0 K (fun p e s m args below meth c A Q => ∀ (u : S) (H : Heap) (locs : List Loc) (ls : Array Slot) (pc : Nat), post u → va_P D vwCl (wOut u) H → va_D A (wOut u) → va_S A s.heap H locs → decode cc pc = .ok (.return_, 1) → W p l e rm s m args below meth c H locs 0 0 Q (F0 m pc ls []))) :
    Met l y ws rm (va_Pc As (wIs D cy sz w0 K)) (va_Qv post (fun u t => wO D cy (va_A w0 sz) (wOut u) t) (va_A w0 sz)) 0 0 (va_A w0 sz) := by
  refine va_MetF (cc := cc) (maxL := maxL) (ret := none) hy hw ?_
  intro p e s m args below meth c s₁ B hml hv
  obtain ⟨rfl, ⟨hsz, hP, hK, hN, hD0⟩, hW0, hR0⟩ := hv
  have hlocks := B.notSynchronized
  have hr := B.returns
  subst hsz
  refine body p e s m As.toArray below meth c (va_A w0 s.heap.size) _ B.exec B.bytes hml (by rw [← ho]; exact findClass_of_methodNamed B.named) (atoms_spec (ws := ws) B.pre) hK hN hP (hD0.self (sz := s.heap.size)) va_S.rf (fun q h => Or.inr h) hW0 hR0 ?_
  intro u H locs ls pc hp hP hD hS hd
  exact W.vret B.exec B.bytes hr (fun t ht hW => ⟨⟨u, rfl, hp, wO_at ht hW hP hK hD⟩, hS.F ht⟩) hS.2.2 hd
end CONTRS
set_option maxHeartbeats 4000000 in
set_option maxRecDepth 100000 in
theorem c_coder (l : Launch) (D : va_G) (cy : Nat → ClassId) (K : (Nat → Nat) × (Nat → Nat)) (sz : Nat) {k : Nat} (hk : k < 7) : Met l yJ0_coder_7d493 wsJ0_coder_7d493 ({ frames := 0, cells := 0, slots := 0, locals := 0 }) (va_Pc [.ref (K.1 k)] (wIs D cy sz [] K)) (va_Qi (fun (r : Int32) (u : Unit) => r = 0) (fun (u : Unit) t => wO D cy (va_A [] sz) [] t) (va_A [] sz)) 0 0 (va_A [] sz) := by
  refine contrZs (S := Unit) (post := fun (r : Int32) (u : Unit) => r = 0) (wOut := fun (u : Unit) => []) (cc := cJ0_coder_7d493) (maxL := 1) (own := RJ0) (by decide +kernel) rfl rfl ?_
  intro p e s m args below meth c A Q hx hb hml hown hts hK hN hP hD hS hA hSW hSR hret
  refine ent [.ref (K.1 k)] (Nat.le_of_ble_eq_true rfl) (fun ls hl => ?_)
  have hl : lv_has ls 1 [(0, .ref (K.1 k))] := hl
  refine va_gets hx hb hSW.2.1 hS hown (hts (.fieldLink RJ0 38 "java/lang/String" "COMPACT_STRINGS" "Z") (by decide +kernel)) (fun _ h9 => h9) dJ0_coder_7d493_0 ?_
  refine lv_if_eq (tgt := 13) hx hb dJ0_coder_7d493_3 (by decide) (fun c1 => absurd c1 (by decide)) (fun c1 => ?_)
  refine lv_aload_n hx hb dJ0_coder_7d493_6 rfl (lv_at hl 0 rfl) ?_
  refine vk_getf hx hb (hSW.1.1 k hk).2.1 hS hown (hts (.fieldLink RJ0 15 "java/lang/String" "coder" "B") (by decide +kernel)) (fun _ h9 => h9) dJ0_coder_7d493_7 ?_
  refine lv_goto (tgt := 14) hx hb dJ0_coder_7d493_10 (by decide) ?_
  exact hret 0 () _ _ _ _ rfl rfl hP hD hS dJ0_coder_7d493_14
set_option maxHeartbeats 4000000 in
set_option maxRecDepth 100000 in
theorem c_isLatin1 (l : Launch) (D : va_G) (cy : Nat → ClassId) (K : (Nat → Nat) × (Nat → Nat)) (sz : Nat) {k : Nat} (hk : k < 7) : Met l yJ0_isLatin1_aae02 wsJ0_isLatin1_aae02 ({ frames := 0, cells := 0, slots := 0, locals := 0 }) (va_Pc [.ref (K.1 k)] (wIs D cy sz [] K)) (va_Qi (fun (r : Int32) (u : Unit) => r = 1) (fun (u : Unit) t => wO D cy (va_A [] sz) [] t) (va_A [] sz)) 0 0 (va_A [] sz) := by
  refine contrZs (S := Unit) (post := fun (r : Int32) (u : Unit) => r = 1) (wOut := fun (u : Unit) => []) (cc := cJ0_isLatin1_aae02) (maxL := 1) (own := RJ0) (by decide +kernel) rfl rfl ?_
  intro p e s m args below meth c A Q hx hb hml hown hts hK hN hP hD hS hA hSW hSR hret
  refine ent [.ref (K.1 k)] (Nat.le_of_ble_eq_true rfl) (fun ls hl => ?_)
  have hl : lv_has ls 1 [(0, .ref (K.1 k))] := hl
  refine va_gets hx hb hSW.2.1 hS hown (hts (.fieldLink RJ0 38 "java/lang/String" "COMPACT_STRINGS" "Z") (by decide +kernel)) (fun _ h9 => h9) dJ0_isLatin1_aae02_0 ?_
  refine lv_if_eq (tgt := 17) hx hb dJ0_isLatin1_aae02_3 (by decide) (fun c1 => absurd c1 (by decide)) (fun c1 => ?_)
  refine lv_aload_n hx hb dJ0_isLatin1_aae02_6 rfl (lv_at hl 0 rfl) ?_
  refine vk_getf hx hb (hSW.1.1 k hk).2.1 hS hown (hts (.fieldLink RJ0 15 "java/lang/String" "coder" "B") (by decide +kernel)) (fun _ h9 => h9) dJ0_isLatin1_aae02_7 ?_
  refine lv_if_ne (tgt := 17) hx hb dJ0_isLatin1_aae02_10 (by decide) (fun c1 => absurd rfl c1) (fun c1 => ?_)
  refine lv_iconst (v := 1) hx hb dJ0_isLatin1_aae02_13 (by decide) ?_
  refine lv_goto (tgt := 18) hx hb dJ0_isLatin1_aae02_14 (by decide) ?_
  exact hret 1 () _ _ _ _ rfl rfl hP hD hS dJ0_isLatin1_aae02_18
set_option maxRecDepth 20000 in
theorem ggJ0_length_8abf5_J0_coder_7d493 : GoodIn wsJ0_length_8abf5 wsJ0_coder_7d493 := goodIn_r _ [6, 7, 8] (by decide +kernel) (by decide +kernel)
set_option maxRecDepth 20000 in
theorem gJ0_length_8abf5_J0_coder_7d493 : GoodIn wsJ0_length_8abf5 (wsV RJ0 335 RJ0 yJ0_coder_7d493 wsJ0_coder_7d493) := goodIn_app (goodIn_of _ (by decide +kernel)) ggJ0_length_8abf5_J0_coder_7d493
set_option maxHeartbeats 4000000 in
set_option maxRecDepth 100000 in
theorem c_strlen (l : Launch) (D : va_G) (cy : Nat → ClassId) (K : (Nat → Nat) × (Nat → Nat)) (sz : Nat) {k : Nat} (hk : k < 7) : Met l yJ0_length_8abf5 wsJ0_length_8abf5 ({ frames := 1, cells := 0, slots := 0, locals := 20 }) (va_Pc [.ref (K.1 k)] (wIs D cy sz [] K)) (va_Qi (fun (r : Int32) (u : Unit) => r = Int32.ofNat (slen.getD k 0)) (fun (u : Unit) t => wO D cy (va_A [] sz) [] t) (va_A [] sz)) 0 0 (va_A [] sz) := by
  refine contrIs (S := Unit) (post := fun (r : Int32) (u : Unit) => r = Int32.ofNat (slen.getD k 0)) (wOut := fun (u : Unit) => []) (cc := cJ0_length_8abf5) (maxL := 1) (own := RJ0) (by decide +kernel) rfl rfl ?_
  intro p e s m args below meth c A Q hx hb hml hown hts hK hN hP hD hS hA hSW hSR hret
  refine ent [.ref (K.1 k)] (Nat.le_of_ble_eq_true rfl) (fun ls hl => ?_)
  have hl : lv_has ls 1 [(0, .ref (K.1 k))] := hl
  refine lv_aload_n hx hb dJ0_length_8abf5_0 rfl (lv_at hl 0 rfl) ?_
  refine vk_getf hx hb (hSW.1.1 k hk).2.2.1 hS hown (hts (.fieldLink RJ0 9 "java/lang/String" "value" "[B") (by decide +kernel)) (fun _ h9 => h9) dJ0_length_8abf5_1 ?_
  refine va_tlen hx hb (hSW.1.1 k hk).2.2.2 hS rfl dJ0_length_8abf5_4 ?_
  refine lv_aload_n hx hb dJ0_length_8abf5_5 rfl (lv_at hl 0 rfl) ?_
  obtain ⟨hPc, hDc⟩ := cutC (wc := []) hP hD [] (by decide) rfl
  have hFc := va_free (wc := []) hD hS hA [] rfl
  refine va_calli (va_runV (As := []) (rest := [.int (Int32.ofNat (slen.getD k 0))]) ⟨hx, hb, hml, hown, hts⟩ (c_coder l D cy K _ hk) (cwV 0 hts gJ0_length_8abf5_J0_coder_7d493 rfl rfl rfl (by decide +kernel) ⟨Nat.le_of_ble_eq_true rfl, Nat.le_of_ble_eq_true rfl⟩) (preVk hPc hDc hK hN hSW hSR hS hFc hk) rfl rfl hl.1 rfl (lv_room (Nat.le_of_ble_eq_true rfl)) dJ0_length_8abf5_6 ⟨Nat.zero_le _, Nat.zero_le _⟩) hS (fun q _ h => hFc q h) hFc (fun r u t H1 locs ht hvm h hB hz1 hk1 hS => ?_)
  obtain ⟨hP, hD⟩ := joinC (wd := []) hP hD [] [] rfl rfl (by decide) (by decide) hk1 hFc ht hB [] (by decide) rfl
  subst h
  refine lv_ishr hx hb dJ0_length_8abf5_9 ?_
  exact hret _ () _ _ _ _ (sb_shr0 _) hP hD hS dJ0_length_8abf5_10
set_option maxHeartbeats 4000000 in
set_option maxRecDepth 100000 in
theorem c_ci3 (l : Launch) (D : va_G) (cy : Nat → ClassId) (sz : Nat) {i n : Int32} {v : Value} (hv : v = .null ∨ ∃ t, v = .ref t) (h1 : ¬ i < 0) (h2 : i < n) : Met l yJ3_checkIndex_8e157 wsJ3_checkIndex_8e157 ({ frames := 0, cells := 0, slots := 0, locals := 0 }) (va_Pc [.int i, .int n, v] (wI D cy sz [])) (va_Qi (fun (r : Int32) (u : Unit) => True) (fun (u : Unit) t => wO D cy (va_A [] sz) [] t) (va_A [] sz)) 0 0 (va_A [] sz) := by
  refine contrI (S := Unit) (post := fun (r : Int32) (u : Unit) => True) (wOut := fun (u : Unit) => []) (cc := cJ3_checkIndex_8e157) (maxL := 3) (own := RJ3) (by decide +kernel) rfl rfl ?_
  intro p e s m args below meth c A Q hx hb hml hown hts hK hN hP hD hS hA hret
  rcases hv with rfl | ⟨t, rfl⟩
  · refine ent [.int i, .int n, .null] (Nat.le_of_ble_eq_true rfl) (fun ls hl => ?_)
    have hl : lv_has ls 3 [(0, .int i), (1, .int n), (2, .null)] := hl
    refine lv_iload_n hx hb dJ3_checkIndex_8e157_0 rfl (lv_at hl 0 rfl) ?_
    refine lv_if_lt (tgt := 9) hx hb dJ3_checkIndex_8e157_1 (by decide) (fun c1 => absurd c1 h1) (fun c1 => ?_)
    refine lv_iload_n hx hb dJ3_checkIndex_8e157_4 rfl (lv_at hl 0 rfl) ?_
    refine lv_iload_n hx hb dJ3_checkIndex_8e157_5 rfl (lv_at hl 1 rfl) ?_
    refine lv_icmp_lt (tgt := 16) hx hb dJ3_checkIndex_8e157_6 (by decide) (fun c1 => ?_) (fun c1 => absurd h2 c1)
    refine lv_iload_n hx hb dJ3_checkIndex_8e157_16 rfl (lv_at hl 0 rfl) ?_
    exact hret _ () _ _ _ _ trivial hP hD hS dJ3_checkIndex_8e157_17
  · refine ent [.int i, .int n, .ref t] (Nat.le_of_ble_eq_true rfl) (fun ls hl => ?_)
    have hl : lv_has ls 3 [(0, .int i), (1, .int n), (2, .ref t)] := hl
    refine lv_iload_n hx hb dJ3_checkIndex_8e157_0 rfl (lv_at hl 0 rfl) ?_
    refine lv_if_lt (tgt := 9) hx hb dJ3_checkIndex_8e157_1 (by decide) (fun c1 => absurd c1 h1) (fun c1 => ?_)
    refine lv_iload_n hx hb dJ3_checkIndex_8e157_4 rfl (lv_at hl 0 rfl) ?_
    refine lv_iload_n hx hb dJ3_checkIndex_8e157_5 rfl (lv_at hl 1 rfl) ?_
    refine lv_icmp_lt (tgt := 16) hx hb dJ3_checkIndex_8e157_6 (by decide) (fun c1 => ?_) (fun c1 => absurd h2 c1)
    refine lv_iload_n hx hb dJ3_checkIndex_8e157_16 rfl (lv_at hl 0 rfl) ?_
    exact hret _ () _ _ _ _ trivial hP hD hS dJ3_checkIndex_8e157_17
set_option maxRecDepth 20000 in
theorem ggJ0_checkIndex_df160_J3_checkIndex_8e157 : GoodIn wsJ0_checkIndex_df160 wsJ3_checkIndex_8e157 := goodIn_r _ [5] (by decide +kernel) (by decide +kernel)
set_option maxRecDepth 20000 in
theorem gJ0_checkIndex_df160_J3_checkIndex_8e157 : GoodIn wsJ0_checkIndex_df160 (va_wsS RJ0 1059 yJ3_checkIndex_8e157 wsJ3_checkIndex_8e157) := goodIn_app (goodIn_of _ (by decide +kernel)) ggJ0_checkIndex_df160_J3_checkIndex_8e157
theorem zq_val {C n d : String} {A : Nat → Prop} {U : State} {H : Heap} (h : va_Zq C n d A U H) : ∃ v : Value, (v = .null ∨ ∃ t, v = .ref t) ∧ va_Z C n d v A U H := by
  rcases h with h | ⟨t, h⟩
  · exact ⟨_, Or.inl rfl, h⟩
  · exact ⟨_, Or.inr ⟨t, rfl⟩, h⟩
set_option maxHeartbeats 4000000 in
set_option maxRecDepth 100000 in
theorem c_ci0 (l : Launch) (D : va_G) (cy : Nat → ClassId) (K : (Nat → Nat) × (Nat → Nat)) (sz : Nat) {i n : Int32} (h1 : ¬ i < 0) (h2 : i < n) : Met l yJ0_checkIndex_df160 wsJ0_checkIndex_df160 ({ frames := 1, cells := 0, slots := 0, locals := 22 }) (va_Pc [.int i, .int n] (wIs D cy sz [] K)) (va_Qv (fun (u : Unit) => True) (fun (u : Unit) t => wO D cy (va_A [] sz) [] t) (va_A [] sz)) 0 0 (va_A [] sz) := by
  refine contrVs (S := Unit) (post := fun (u : Unit) => True) (wOut := fun (u : Unit) => []) (cc := cJ0_checkIndex_df160) (maxL := 2) (own := RJ0) (by decide +kernel) rfl rfl ?_
  intro p e s m args below meth c A Q hx hb hml hown hts hK hN hP hD hS hA hSW hSR hret
  refine ent [.int i, .int n] (Nat.le_of_ble_eq_true rfl) (fun ls hl => ?_)
  have hl : lv_has ls 2 [(0, .int i), (1, .int n)] := hl
  refine lv_iload_n hx hb dJ0_checkIndex_df160_0 rfl (lv_at hl 0 rfl) ?_
  refine lv_iload_n hx hb dJ0_checkIndex_df160_1 rfl (lv_at hl 1 rfl) ?_
  obtain ⟨v, hv, hZ⟩ := zq_val hSW.2.2
  refine va_gets hx hb hZ hS hown (hts (.fieldLink RJ0 1053 "jdk/internal/util/Preconditions" "SIOOBE_FORMATTER" "Ljava/util/function/BiFunction;") (by decide +kernel)) (fun _ h9 => h9) dJ0_checkIndex_df160_2 ?_
  obtain ⟨hPc, hDc⟩ := cutC (wc := []) hP hD [] (by decide) rfl
  have hFc := va_free (wc := []) hD hS hA [] rfl
  refine va_calli (va_runS (As := [.int i, .int n, v]) (rest := []) ⟨hx, hb, hml, hown, hts⟩ (c_ci3 l D cy _ hv h1 h2) (va_cwS 3 hts gJ0_checkIndex_df160_J3_checkIndex_8e157 rfl rfl rfl (by decide +kernel) ⟨Nat.le_of_ble_eq_true rfl, Nat.le_of_ble_eq_true rfl⟩) (preS hPc hDc hK hN) rfl rfl hl.1 rfl (lv_room (Nat.le_of_ble_eq_true rfl)) dJ0_checkIndex_df160_5 ⟨Nat.zero_le _, Nat.zero_le _⟩) hS (fun q _ h => hFc q h) hFc (fun r u t H1 locs ht hvm h hB hz1 hk1 hS => ?_)
  obtain ⟨hP, hD⟩ := joinC (wd := []) hP hD [] [] rfl rfl (by decide) (by decide) hk1 hFc ht hB [] (by decide) rfl
  refine lv_pop hx hb dJ0_checkIndex_df160_8 rfl ?_
  exact hret () _ _ _ _ trivial hP hD hS dJ0_checkIndex_df160_9
set_option maxRecDepth 20000 in
theorem ggJ1_charAt_3b067_J0_checkIndex_df160 : GoodIn wsJ1_charAt_3b067 wsJ0_checkIndex_df160 := goodIn_r _ [4, 5, 6, 7, 8, 9] (by decide +kernel) (by decide +kernel)
set_option maxRecDepth 20000 in
theorem gJ1_charAt_3b067_J0_checkIndex_df160 : GoodIn wsJ1_charAt_3b067 (va_wsS RJ1 9 yJ0_checkIndex_df160 wsJ0_checkIndex_df160) := goodIn_app (goodIn_of _ (by decide +kernel)) ggJ1_charAt_3b067_J0_checkIndex_df160
theorem lt_ofNat {i : Int32} {n : Nat} (h : vp_in i n) (hn : n < 2 ^ 31) : ¬ i < 0 ∧ i < Int32.ofNat n := by
  obtain ⟨j, hj, rfl⟩ := vp_in_of h hn
  exact ⟨nI_pos (by omega), nI_lt hj hn⟩
theorem slen_lt {k : Nat} (hk : k < 7) : slen.getD k 0 < 2 ^ 31 := by
  rcases (show k = 0 ∨ k = 1 ∨ k = 2 ∨ k = 3 ∨ k = 4 ∨ k = 5 ∨ k = 6 by omega) with rfl | rfl | rfl | rfl | rfl | rfl | rfl <;> decide
set_option maxHeartbeats 4000000 in
set_option maxRecDepth 100000 in
theorem c_charAt1 (l : Launch) (D : va_G) (cy : Nat → ClassId) (K : (Nat → Nat) × (Nat → Nat)) (sz : Nat) {k : Nat} {i : Int32} (hk : k < 7) (hi : vp_in i (slen.getD k 0)) : Met l yJ1_charAt_3b067 wsJ1_charAt_3b067 ({ frames := 2, cells := 0, slots := 0, locals := 43 }) (va_Pc [.ref (K.2 k), .int i] (wIs D cy sz [] K)) (va_Qi (fun (r : Int32) (u : Unit) => r = sch k i.toNatClampNeg &&& 255) (fun (u : Unit) t => wO D cy (va_A [] sz) [] t) (va_A [] sz)) 0 0 (va_A [] sz) := by
  refine contrZs (S := Unit) (post := fun (r : Int32) (u : Unit) => r = sch k i.toNatClampNeg &&& 255) (wOut := fun (u : Unit) => []) (cc := cJ1_charAt_3b067) (maxL := 2) (own := RJ1) (by decide +kernel) rfl rfl ?_
  intro p e s m args below meth c A Q hx hb hml hown hts hK hN hP hD hS hA hSW hSR hret
  refine ent [.ref (K.2 k), .int i] (Nat.le_of_ble_eq_true rfl) (fun ls hl => ?_)
  have hl : lv_has ls 2 [(0, .ref (K.2 k)), (1, .int i)] := hl
  refine lv_iload_n hx hb dJ1_charAt_3b067_0 rfl (lv_at hl 1 rfl) ?_
  refine lv_aload_n hx hb dJ1_charAt_3b067_1 rfl (lv_at hl 0 rfl) ?_
  refine va_tlen hx hb (hSW.1.1 k hk).2.2.2 hS rfl dJ1_charAt_3b067_2 ?_
  obtain ⟨hPc, hDc⟩ := cutC (wc := []) hP hD [] (by decide) rfl
  have hFc := va_free (wc := []) hD hS hA [] rfl
  have hlt := lt_ofNat hi (slen_lt hk)
  refine va_callv (va_runS (As := [.int i, .int (Int32.ofNat (slen.getD k 0))]) (rest := []) ⟨hx, hb, hml, hown, hts⟩ (c_ci0 l D cy K _ hlt.1 hlt.2) (va_cwS 2 hts gJ1_charAt_3b067_J0_checkIndex_df160 rfl rfl rfl (by decide +kernel) ⟨Nat.le_of_ble_eq_true rfl, Nat.le_of_ble_eq_true rfl⟩) (preSs hPc hDc hK hN hSW hSR hS hFc) rfl rfl hl.1 rfl (lv_room (Nat.le_of_ble_eq_true rfl)) dJ1_charAt_3b067_3 ⟨Nat.zero_le _, Nat.zero_le _⟩) hS (fun q _ h => hFc q h) hFc (fun u t H1 locs ht hvm h hB hz1 hk1 hS => ?_)
  obtain ⟨hP, hD⟩ := joinC (wd := []) hP hD [] [] rfl rfl (by decide) (by decide) hk1 hFc ht hB [] (by decide) rfl
  refine lv_aload_n hx hb dJ1_charAt_3b067_6 rfl (lv_at hl 0 rfl) ?_
  refine lv_iload_n hx hb dJ1_charAt_3b067_7 rfl (lv_at hl 1 rfl) ?_
  refine va_tb hx hb (hSW.1.1 k hk).2.2.2 hS hi (v := .int (sch k i.toNatClampNeg)) rfl dJ1_charAt_3b067_8 ?_
  refine lv_sipush (v := 255) hx hb dJ1_charAt_3b067_9 (by decide) ?_
  refine lv_iand hx hb dJ1_charAt_3b067_12 ?_
  refine lv_i2c hx hb dJ1_charAt_3b067_13 rfl ?_
  rw [sc_c2]
  exact hret _ () _ _ _ _ (sc_nar _) rfl hP hD hS dJ1_charAt_3b067_14
set_option maxRecDepth 20000 in
theorem ggJ0_charAt_5068e_J0_isLatin1_aae02 : GoodIn wsJ0_charAt_5068e wsJ0_isLatin1_aae02 := goodIn_r _ [6, 7, 8] (by decide +kernel) (by decide +kernel)
set_option maxRecDepth 20000 in
theorem gJ0_charAt_5068e_J0_isLatin1_aae02 : GoodIn wsJ0_charAt_5068e (wsV RJ0 492 RJ0 yJ0_isLatin1_aae02 wsJ0_isLatin1_aae02) := goodIn_app (goodIn_of _ (by decide +kernel)) ggJ0_charAt_5068e_J0_isLatin1_aae02
set_option maxRecDepth 20000 in
theorem ggJ0_charAt_5068e_J1_charAt_3b067 : GoodIn wsJ0_charAt_5068e wsJ1_charAt_3b067 := goodIn_r _ [12, 13, 14, 5, 15, 16, 17, 18, 19, 20] (by decide +kernel) (by decide +kernel)
set_option maxRecDepth 20000 in
theorem gJ0_charAt_5068e_J1_charAt_3b067 : GoodIn wsJ0_charAt_5068e (va_wsS RJ0 495 yJ1_charAt_3b067 wsJ1_charAt_3b067) := goodIn_app (goodIn_of _ (by decide +kernel)) ggJ0_charAt_5068e_J1_charAt_3b067
set_option maxHeartbeats 4000000 in
set_option maxRecDepth 100000 in
theorem c_charAt (l : Launch) (D : va_G) (cy : Nat → ClassId) (K : (Nat → Nat) × (Nat → Nat)) (sz : Nat) {k : Nat} {i : Int32} (hk : k < 7) (hi : vp_in i (slen.getD k 0)) : Met l yJ0_charAt_5068e wsJ0_charAt_5068e ({ frames := 3, cells := 0, slots := 0, locals := 64 }) (va_Pc [.ref (K.1 k), .int i] (wIs D cy sz [] K)) (va_Qi (fun (r : Int32) (u : Unit) => r = sch k i.toNatClampNeg &&& 255) (fun (u : Unit) t => wO D cy (va_A [] sz) [] t) (va_A [] sz)) 0 0 (va_A [] sz) := by
  refine contrZs (S := Unit) (post := fun (r : Int32) (u : Unit) => r = sch k i.toNatClampNeg &&& 255) (wOut := fun (u : Unit) => []) (cc := cJ0_charAt_5068e) (maxL := 2) (own := RJ0) (by decide +kernel) rfl rfl ?_
  intro p e s m args below meth c A Q hx hb hml hown hts hK hN hP hD hS hA hSW hSR hret
  refine ent [.ref (K.1 k), .int i] (Nat.le_of_ble_eq_true rfl) (fun ls hl => ?_)
  have hl : lv_has ls 2 [(0, .ref (K.1 k)), (1, .int i)] := hl
  refine lv_aload_n hx hb dJ0_charAt_5068e_0 rfl (lv_at hl 0 rfl) ?_
  obtain ⟨hPc, hDc⟩ := cutC (wc := []) hP hD [] (by decide) rfl
  have hFc := va_free (wc := []) hD hS hA [] rfl
  refine va_calli (va_runV (As := []) (rest := []) ⟨hx, hb, hml, hown, hts⟩ (c_isLatin1 l D cy K _ hk) (cwV 0 hts gJ0_charAt_5068e_J0_isLatin1_aae02 rfl rfl rfl (by decide +kernel) ⟨Nat.le_of_ble_eq_true rfl, Nat.le_of_ble_eq_true rfl⟩) (preVk hPc hDc hK hN hSW hSR hS hFc hk) rfl rfl hl.1 rfl (lv_room (Nat.le_of_ble_eq_true rfl)) dJ0_charAt_5068e_1 ⟨Nat.zero_le _, Nat.zero_le _⟩) hS (fun q _ h => hFc q h) hFc (fun r u t H1 locs ht hvm h hB hz1 hk1 hS => ?_)
  obtain ⟨hP, hD⟩ := joinC (wd := []) hP hD [] [] rfl rfl (by decide) (by decide) hk1 hFc ht hB [] (by decide) rfl
  subst h
  refine lv_if_eq (tgt := 16) hx hb dJ0_charAt_5068e_4 (by decide) (fun c1 => absurd c1 (by decide)) (fun c1 => ?_)
  refine lv_aload_n hx hb dJ0_charAt_5068e_7 rfl (lv_at hl 0 rfl) ?_
  refine vk_getf hx hb (hSW.1.1 k hk).2.2.1 hS hown (hts (.fieldLink RJ0 9 "java/lang/String" "value" "[B") (by decide +kernel)) (fun _ h9 => h9) dJ0_charAt_5068e_8 ?_
  refine lv_iload_n hx hb dJ0_charAt_5068e_11 rfl (lv_at hl 1 rfl) ?_
  obtain ⟨hPc, hDc⟩ := cutC (wc := []) hP hD [] (by decide) rfl
  have hFc := va_free (wc := []) hD hS hA [] rfl
  refine va_calli (va_runS (As := [.ref (K.2 k), .int i]) (rest := []) ⟨hx, hb, hml, hown, hts⟩ (c_charAt1 l D cy K _ hk hi) (va_cwS 2 hts gJ0_charAt_5068e_J1_charAt_3b067 rfl rfl rfl (by decide +kernel) ⟨Nat.le_of_ble_eq_true rfl, Nat.le_of_ble_eq_true rfl⟩) (preSs hPc hDc hK hN hSW hSR hS hFc) rfl rfl hl.1 rfl (lv_room (Nat.le_of_ble_eq_true rfl)) dJ0_charAt_5068e_12 ⟨Nat.zero_le _, Nat.zero_le _⟩) hS (fun q _ h => hFc q h) hFc (fun r u t H1 locs ht hvm h hB hz1 hk1 hS => ?_)
  obtain ⟨hP, hD⟩ := joinC (wd := []) hP hD [] [] rfl rfl (by decide) (by decide) hk1 hFc ht hB [] (by decide) rfl
  subst h
  exact hret _ () _ _ _ _ (sc_nar _) rfl hP hD hS dJ0_charAt_5068e_15
