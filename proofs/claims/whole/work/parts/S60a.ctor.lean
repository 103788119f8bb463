/-! constructors: what their walks are given; new arrays of the known classes -/
def wIc (D : va_G) (cy : Nat → ClassId) (sz : Nat) (ws : va_W) (U : State) : Prop := wI D cy sz ws U ∧ va_AOA .int U ∧ va_AOA .long U
theorem wIc_blind {As : List Value} {D : va_G} {cy : Nat → ClassId} {sz : Nat} {ws : va_W} : FrameBlind (va_Pc As (wIc D cy sz ws)) := by
  intro a U g mk q
  obtain ⟨q0, q1, q2, q3⟩ := q
  have h := wI_blind (As := As) (D := D) (cy := cy) (sz := sz) (ws := ws) a U g mk ⟨q0, q1⟩
  exact ⟨h.1, h.2, over_moved (u := U) (E := U.calling g mk a) (Vm.Alike.refl U.vm) q2, over_moved (u := U) (E := U.calling g mk a) (Vm.Alike.refl U.vm) q3⟩
theorem preC {As : List Value} {D : va_G} {cy : Nat → ClassId} {ws : va_W} {A : Nat → Prop} {s : State} {H : Heap} (hP : va_P D vwCl ws H) (hD : va_D A ws) (hK : va_K D vwCl (tysA cy) s) (hN : NW s) (h1 : va_AOA .int s) (h2 : va_AOA .long s) : PreS s H (va_Pc As (wIc D cy H.size ws)) As :=
  ⟨wIc_blind, fun U hU hW => ⟨rfl, (wI_at (As := As) hP hD hK hN U hU hW).2, over_moved hW.alike h1, over_moved hW.alike h2⟩⟩
section CTOR
variable {l : Launch} {y : MethodName} {ws ws' : List Cond} {rm : Room} {cc : ByteArray} {maxL : Nat} {own : String} {D : va_G} {cy : Nat → ClassId} {sz : Nat} {As : List Value} {w0 : va_W} {S : Type} {wOut : S → va_W}
theorem contrC {post : S → Prop} {mc ms : Nat} (hy : plainFor y = true) (hw : ws = Cond.code y cc maxL none :: ws') (ho : y.cls = own) (hnm : y.name = "<init>")
    (body : ∀ (p : Program) (e : Env) (s : State) (m : MethodId) (args : Array Value) (below : List Frame) (meth : Method) (c : Code) (A : Nat → Prop) (Q : State → Prop), p.tables.exec = Jvm.exec → c.code = cc → c.maxLocals = maxL → s.vm.findClass own = some m.cls → (∀ w ∈ ws, w.before args s = true) → va_K D vwCl (tysA cy) s → NW s → va_P D vwCl w0 s.heap → va_D A w0 → va_S A s.heap s.heap [] → (∀ q : Nat, s.heap.size ≤ q → A q) → va_AOA .int s → va_AOA .long s → meth.name = "<init>" →
      (∀ (u : S) (H : Heap) (locs : List Loc) (ls : Array Slot) (pc : Nat), post u → va_P D vwCl (wOut u) H → va_D A (wOut u) → va_S A s.heap H locs → decode cc pc = .ok (.return_, 1) → W p l e rm s m args below meth c H locs mc ms Q (F0 m pc ls [])) →
      W p l e rm s m args below meth c s.heap [] 0 0 Q (entryFrame m As.toArray maxL)) :
    Met l y ws rm (va_Pc As (wIc D cy sz w0)) (va_Qv post (fun u t => wO D cy (va_A w0 sz) (wOut u) t) (va_A w0 sz)) mc ms (va_A w0 sz) := by
  refine va_MetF (cc := cc) (maxL := maxL) (ret := none) hy hw ?_
  intro p e s m args below meth c s₁ B hml hv
  obtain ⟨rfl, ⟨hsz, hP, hK, hN, hD0⟩, h1, h2⟩ := hv
  have hlocks := B.notSynchronized
  have hr := B.returns
  subst hsz
  refine body p e s m As.toArray below meth c (va_A w0 s.heap.size) _ B.exec B.bytes hml (by rw [← ho]; exact findClass_of_methodNamed B.named) (atoms_spec (ws := ws) B.pre) hK hN hP (hD0.self (sz := s.heap.size)) va_S.rf (fun q h => Or.inr h) h1 h2 ((name_of_methodNamed B.named B.method).1.trans hnm) ?_
  intro u H locs ls pc hp hP hD hS hd
  exact W.vret B.exec B.bytes hr (fun t ht hW => ⟨⟨u, rfl, hp, wO_at ht hW hP hK hD⟩, hS.F ht⟩) hS.2.2 hd
end CTOR
section NEWS
variable {p : Program} {l : Launch} {e : Env} {R : Room} {s : State} {m : MethodId} {args : Array Value} {below : List Frame} {meth : Method} {c : Code} {H : Heap} {locs : List Loc} {cells slots : Nat} {Q : State → Prop}
variable {cc : ByteArray} {pc : Nat} {ls : Array Slot} {rest : List Value} {D : va_G} {A : Nat → Prop} {cy : Nat → ClassId} {ws : va_W} {H0 : Heap}
theorem newX (hexec : p.tables.exec = Jvm.exec) (hb : c.code = cc) {atype : ArrayType} {ty : FieldType} (harr : (Cond.arrayClass (newarray.typeOf atype)).before args s = true) (hty : newarray.typeOf atype = ty) (hK : va_K D vwCl (tysA cy) s) (hP : va_P D vwCl ws H) (hD : va_D A ws) (hS : va_S A H0 H locs) (hA : ∀ q, H0.size ≤ q → A q) (t0 : Nat) {cA0 : ClassId} (ht : (tysA cy)[t0]? = some (cA0, ty)) (hr : ∀ cA : ClassId, va_RA s cA ty → s.vm.findClass ("[" ++ ty.toString) = some cA)
    {n : Int32} {N' : Nat} {a0 : vp_A} (ha : ∀ cA : ClassId, vp_cell cA a0 = arrV cA N' (fun _ => defaultValue ty)) (hn : ¬ n < 0) (hN : n.toNatClampNeg = N') (hbytes : N' * componentBytes ty ≤ 536870912) (hcells : cells + 1 ≤ R.cells) (hslots : slots + N' ≤ R.slots) (hdg : decode cc pc = .ok (.newarray atype, 2))
    (kk : ∀ (q : Nat) (H1 : Heap), va_P D vwCl (ws ++ [(q, .inl (cA0, a0))]) H1 → va_D A (ws ++ [(q, .inl (cA0, a0))]) → va_S A H0 H1 locs →
      W p l e R s m args below meth c H1 locs (cells + 1) (slots + N') Q (F0 m (pc + 2) ls (.ref q :: rest))) : W p l e R s m args below meth c H locs cells slots Q (F0 m pc ls (.int n :: rest)) := by
  refine va_newa (ty := ty) hexec hb harr hty hK hP hD hS hA ha hn hN hbytes hcells hslots hdg (fun q cA H1 hK1 hP1 hD1 hS1 => ?_)
  have e : cA = cA0 := by
    have h1 := hr _ (hK1.2 6 (cA, ty) rfl).2
    have h2 := hr _ (hK.2 t0 _ ht).2
    rw [h1] at h2
    injection h2
  subst e
  exact kk q H1 hP1 hD1 hS1
theorem pl_rows {r : Nat → Nat} {n : Nat} {f : Nat → va_E} {x : va_E} : va_pl ([] ++ (List.range n).map r) (vr_up f ((List.range n).map r) x) = mrows r n (fun _ => x) := by
  unfold va_pl mrows
  rw [List.nil_append, List.map_map]
  apply List.map_congr_left
  intro k hk
  show (r k, vr_up f ((List.range n).map r) x (r k)) = (r k, x)
  rw [vr_up_in (List.mem_map.mpr ⟨k, hk, rfl⟩)]
theorem newM (hexec : p.tables.exec = Jvm.exec) (hb : c.code = cc) {own : String} {index : Nat} {ty : FieldType} (hown : s.vm.findClass own = some m.cls) (hclink : (Cond.classLink own index ("[" ++ (FieldType.array ty).toString)).before args s = true) (hover : va_AOA ty s) (harr : (Cond.arrayClass ty).before args s = true) {cI cO : ClassId} (hI : s.vm.findClass (FieldType.array ty).toString = some cI) (hO : s.vm.findClass ("[" ++ (FieldType.array ty).toString) = some cO)
    (hK : va_K D vwCl (tysA cy) s) (hP : va_P D vwCl ws H) (hD : va_D A ws) (hS : va_S A H0 H locs) (hA : ∀ q, H0.size ≤ q → A q) {n k : Int32} {N' K' : Nat} {z : vp_A} (hn : ¬ n < 0) (hk : ¬ k < 0) (hN : n.toNatClampNeg = N') (hM : k.toNatClampNeg = K')
    (hb1 : N' * 4 ≤ 536870912) (hb2 : K' * componentBytes ty ≤ 536870912) (hb3 : K' ≤ 536870912) (hdf : fits ty (defaultValue ty) = true) (hdd : (defaultValue ty).isDefault = true) (hcells : cells + (1 + N') ≤ R.cells) (hslots : slots + (N' + N' * K') ≤ R.slots) (hz : ∀ c : ClassId, Jvm.Free.Multi.innerC c K' (defaultValue ty) = vp_cell c z) (hdg : decode cc pc = .ok (.multianewarray index 2, 4))
    (kk : ∀ (q : Nat) (r : Nat → Nat) (H1 : Heap), va_P D vwCl (ws ++ [(q, .inl (cO, N', .inr (.inr (.inr (.inr (mref r N'))))))] ++ mrows r N' (fun _ => .inl (cI, z))) H1 → va_D A (ws ++ [(q, .inl (cO, N', .inr (.inr (.inr (.inr (mref r N'))))))] ++ mrows r N' (fun _ => .inl (cI, z))) → va_S A H0 H1 locs →
      W p l e R s m args below meth c H1 locs (cells + 1 + N') (slots + N' + N' * K') Q (F0 m (pc + 4) ls (.ref q :: rest))) : W p l e R s m args below meth c H locs cells slots Q (F0 m pc ls (.int k :: .int n :: rest)) := by
  have e0 : ws ++ va_pl [] (fun _ => (.inr (0, []) : va_E)) = ws := by show ws ++ [] = ws; rw [List.append_nil]
  refine va_mna (X := ws) (L := []) (f := fun _ => .inr (0, [])) hexec hb hown hclink hover harr hI hK (by rw [e0]; exact hP) (by rw [e0]; exact hD) hS hA hn hk hN hM hb1 hb2 hb3 hdf hdd hcells hslots hz hdg (fun q r cA H1 _ _ hK1 hP1 hD1 hS1 => ?_)
  have e : cA = cO := by
    have h1 : s.vm.findClass ("[" ++ (FieldType.array ty).toString) = some cA := (hK1.2 6 (cA, .array ty) rfl).2
    rw [h1] at hO
    injection hO
  subst e
  rw [pl_rows] at hP1 hD1
  exact kk q r H1 hP1 hD1 hS1
end NEWS
theorem newM_I {cA : ClassId} {K : Nat} : Jvm.Free.Multi.innerC cA K (defaultValue .int) = vp_cell cA (K, .inl (fun _ => 0)) := arrV_new cA K (.int 0)
theorem newM_J {cA : ClassId} {K : Nat} : Jvm.Free.Multi.innerC cA K (defaultValue .long) = vp_cell cA (K, .inr (.inl (fun _ => 0))) := arrV_new cA K (.long 0)
theorem joinA {D : va_G} {cy : Nat → ClassId} {A0 : Nat → Prop} {ws wc w1 : va_W} {H H1 : Heap} {t : State} (hP : va_P D vwCl ws H) (hD : va_D A0 ws) (isC isR : List Nat) (hC : isC.map (fun i => ws[i]?) = wc.map some) (hR : isR.map (fun i => ws[i]?) = (pick ws isR).map some) (hn : va_nd isR = true) (hdis : ∀ i ∈ isR, i ∉ isC)
    (hk : ∀ q : Nat, q < H.size → ¬ va_A wc H.size q → H1[q]? = H[q]?) (hF : ∀ q, va_A wc H.size q → A0 q) (ht : t.heap = H1) (hB : wO D cy (va_A wc H.size) w1 t) : va_P D vwCl (pick ws isR ++ w1) H1 ∧ va_D A0 (pick ws isR ++ w1) := by
  obtain ⟨b1, -, b3⟩ := hB
  rw [ht] at b1
  exact va_join hP hD isC isR hC hR hn hdis hk hF b1 b3
