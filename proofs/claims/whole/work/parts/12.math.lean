/-! the body of a method of java.lang.Math: that class has native rows for others of its methods, so it is plain by its method, not by its class (Met.ofW of the kit asks the class) -/
section HJ
variable {l : Launch} {y : MethodName} {ws ws' : List Cond} {rm : Room} {av : List Value} {D : va_G} {tys : List (ClassId × FieldType)} {w0 w1 : va_W} {cc : ByteArray} {maxL : Nat}
theorem hJ_body {r : Int64} (hy : plainFor y = true) (hw : ws = .code y cc maxL (some .long) :: ws') (hn : (lg_sl av).length ≤ maxL)
    (body : ∀ (p : Program) (e : Env) (s : State) (m : MethodId) (below : List Frame) (meth : Method) (cd : Code) (A : Nat → Prop) (ls : Array Slot) (Q : State → Prop), hAt p s m meth cd av cc maxL (some .long) ws y.cls →
      (∀ q, s.heap.size ≤ q → A q) → va_P D vwCl w0 s.heap → va_K D vwCl tys s → va_D A w0 → va_S A s.heap s.heap [] → lv_has ls maxL (lv_args 0 av) →
      (∀ (H : Heap) (locs : List Loc) (ls : Array Slot) (pc : Nat) (v : Int64), va_P D vwCl w1 H → va_D A w1 → va_S A s.heap H locs → v = r → decode cc pc = .ok (.lreturn, 1) → W p l e rm s m av.toArray below meth cd H locs 0 0 Q (F0 m pc ls [.long v])) →
      W p l e rm s m av.toArray below meth cd s.heap [] 0 0 Q (F0 m 0 ls [])) : mL l y ws rm av D tys w0 w1 r := by
  intro sz
  refine MetFree.of_bodySF (code := cc) (maxLocals := maxL) (ret := some .long) hy ?_ ?_
  · intro args s m h hn
    obtain ⟨meth, c, h1, h2, h3, h4, h5, h6, -, -⟩ := Cond.code_spec hn (atoms_spec (ws := ws) h _ (by rw [hw]; exact List.mem_cons_self))
    exact ⟨meth, c, h1, h2, h3, h4, h5, h6⟩
  · intro p e s m args below meth c s₁ B hml hv _
    have hh0 : s₁.heap = s.heap := by rw [B.state]; rfl
    obtain ⟨rfl, hsz, hP, hK, hD0, hV0⟩ := hv
    subst hsz
    have hat : hAt p s m meth c av cc maxL (some .long) ws y.cls := ⟨⟨B.exec, B.bytes, hml, findClass_of_methodNamed B.named, atoms_spec (ws := ws) B.pre⟩, B.returns, B.notSynchronized, hV0⟩
    have K : W p l e (headSpec ws rm).room s m av.toArray below meth c s.heap [] 0 0 (MQ below (hQL D w1 r (va_A w0 s.heap.size)) av.toArray s 0 0 (va_A w0 s.heap.size)) (entryFrame m av.toArray maxL) := by
      rw [lg_entry_eq]
      exact body p e s m below meth c (va_A w0 s.heap.size) _ _ hat (fun q h => Or.inr h) hP hK (hD0.self (sz := s.heap.size)) va_S.rf (lv_entry av (n := maxL) hn)
        (fun H locs ls pc v hP hD hS hv hd => h_lret hat.1.1 hat.1.2.1 hat.2.1 hat.2.2.1 hP hD hS hv hd)
    obtain ⟨t, a1, o, b1, b2, b3⟩ := K s₁ hh0 (Stand.of_body B)
    exact ⟨t, o, a1, b1, b2, ⟨b3.1, b3.2⟩⟩
end HJ
