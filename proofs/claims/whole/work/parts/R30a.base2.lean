/-! base, second part: a method that returns one of two references -/
section CONTR2
variable {l : Launch} {y : MethodName} {ws ws' : List Cond} {rm : Room} {cc : ByteArray} {maxL : Nat} {own : String} {D : va_G} {cy : Nat → ClassId} {sz : Nat} {As : List Value} {w0 : va_W} {S : Type} {wOut : S → va_W}
theorem contrR {post : Nat → S → Prop} {ty : String} {r0 r1 : Nat} (hy : plainFor y = true) (hw : ws = Cond.code y cc maxL (some (.object ty)) :: ws') (ho : y.cls = own)
    (body : cW l rm ws cc maxL own D cy As w0 (fun p e s m args below meth c A Q => ∀ (r : Nat) (u : S) (H : Heap) (locs : List Loc) (ls : Array Slot) (pc : Nat), post r u → va_P D vwCl (wOut u) H → va_D A (wOut u) → va_S A s.heap H locs → decode cc pc = .ok (.areturn, 1) → W p l e rm s m args below meth c H locs 0 0 Q (F0 m pc ls [.ref (if r = 0 then r0 else r1)]))) :
    Met l y ws rm (va_Pc As (wI D cy sz w0)) (va_Qr (fun u : Nat × S => post u.1 u.2) (fun u a t => wO D cy (va_A w0 sz) (wOut u.2) t ∧ a = if u.1 = 0 then r0 else r1) (va_A w0 sz)) 0 0 (va_A w0 sz) := by
  refine va_MetF (cc := cc) (maxL := maxL) (ret := some (.object ty)) hy hw ?_
  intro p e s m args below meth c s₁ B hml hv
  obtain ⟨rfl, hsz, hP, hK, hN, hD0⟩ := hv
  have hlocks := B.notSynchronized
  have hr := B.returns
  subst hsz
  refine body p e s m As.toArray below meth c (va_A w0 s.heap.size) _ B.exec B.bytes hml (by rw [← ho]; exact findClass_of_methodNamed B.named) (atoms_spec (ws := ws) B.pre) hK hN hP (hD0.self (sz := s.heap.size)) va_S.rf (fun q h => Or.inr h) ?_
  intro r u H locs ls pc hp hP hD hS hd
  exact W.aret (v := .ref (if r = 0 then r0 else r1)) B.exec B.bytes hr (Or.inl ⟨_, rfl⟩) (Or.inr ⟨_, rfl⟩) (fun t ht hW => ⟨⟨(r, u), _, rfl, hp, wO_at ht hW hP hK hD, rfl⟩, hS.F ht⟩) hS.2.2 hd
end CONTR2
