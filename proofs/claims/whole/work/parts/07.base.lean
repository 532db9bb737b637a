abbrev vwCl : List vw_C := [(RX0, TX0, 2), (RX1, TX1, 2), (RX2, TX2, 3), (RX3, TX3, 8)]
/-! The rules that all methods of this claim are walked by: a contract over a world of cells that answers one value (mI, mL, mV), one that always throws (mX), the body of each, its end, a call of each. -/
section HB
def hE1 : String := "java/lang/IllegalStateException"
def hE2 : String := "java/util/NoSuchElementException"
def hE3 : String := "java/lang/IndexOutOfBoundsException"
def hE4 : String := "java/lang/IllegalArgumentException"
/-- words of the tables beside a method's own list -/
def hV (U : State) : Prop :=
  va_Nw (.castable "java/lang/IllegalStateException" "java/lang/IllegalStateException") U ∧ va_Nw (.castable "java/util/NoSuchElementException" "java/util/NoSuchElementException") U ∧
  va_Nw (.castable "java/lang/IndexOutOfBoundsException" "java/lang/IndexOutOfBoundsException") U ∧ va_Nw (.castable "java/lang/IllegalArgumentException" "java/lang/IllegalArgumentException") U ∧
  va_Nw (.fieldLinkNest RX2 44 "HeapAndDeque$LeastFirst" "count" "I" RX2) U ∧ va_Nw (.fieldLinkNest RX2 52 "HeapAndDeque$Row" "count" "I" RX2) U ∧
  va_Nw (.methodLinkNest RX2 9 yX0_init RX2) U ∧ va_Nw (.methodLinkNest RX2 21 yX1_init RX2) U ∧
  va_Nw (.declares (Bundle.initS "java/lang/RuntimeException")) U ∧ va_Nw (.declares (Bundle.initS "java/lang/Exception")) U ∧ va_Nw (.declares (Bundle.initS Bundle.tN)) U ∧
  va_Nc "java/lang/IllegalStateException" "java/lang/IllegalArgumentException" U
/-- the words of a throw that a method's own list doesn't hold -/
def hBad (E : String) : List Cond := [.castable E E, .declares (Bundle.initS "java/lang/RuntimeException"), .declares (Bundle.initS "java/lang/Exception"), .declares (Bundle.initS Bundle.tN)]
theorem hV.warm {s U : State} (hW : s.WarmedH U.vm) (q : hV s) : hV U :=
  ⟨va_Nw.warmC hW q.1, va_Nw.warmC hW q.2.1, va_Nw.warmC hW q.2.2.1, va_Nw.warmC hW q.2.2.2.1, va_Nw.warmF hW q.2.2.2.2.1, va_Nw.warmF hW q.2.2.2.2.2.1, va_Nw.warmM hW q.2.2.2.2.2.2.1, va_Nw.warmM hW q.2.2.2.2.2.2.2.1, va_Nw.warmD hW q.2.2.2.2.2.2.2.2.1, va_Nw.warmD hW q.2.2.2.2.2.2.2.2.2.1, va_Nw.warmD hW q.2.2.2.2.2.2.2.2.2.2.1, va_Nc.moved hW.alike q.2.2.2.2.2.2.2.2.2.2.2⟩
theorem hBad_ok {E : String} {args : Array Value} {s : State} (h : va_Nw (.castable E E) s) (q : hV s) : ∀ w ∈ hBad E, w.before args s = true :=
  vx_c (va_Nw.use rfl h) (vx_c (va_Nw.use rfl q.2.2.2.2.2.2.2.2.1) (vx_c (va_Nw.use rfl q.2.2.2.2.2.2.2.2.2.1) (vx_c (va_Nw.use rfl q.2.2.2.2.2.2.2.2.2.2.1) vx_n)))
/-- what a throw needs beside: the two statics of Throwable, the texts -/
def hZ (U : State) : Prop :=
  vx_Zq Bundle.tN "UNASSIGNED_STACK" Bundle.steD (fun q => U.heap.size ≤ q) U U.heap ∧ vx_Zq Bundle.tN "SUPPRESSED_SENTINEL" Bundle.listD (fun q => U.heap.size ≤ q) U U.heap ∧
  (∃ a, vk_R RX0 21 "the queue holds 200" a U) ∧ (∃ a, vk_R RX0 28 "the queue holds none" a U) ∧ (∃ a, vk_R RX2 55 "the queue would hold more than 200" a U) ∧ (∃ a, vk_R RX1 44 "the row has no such place" a U) ∧
  (∃ a, vk_R RX2 120 "the row would hold more than 200" a U) ∧ (∃ a, vk_R RX1 21 "the row holds 200" a U) ∧ (∃ a, vk_R RX2 124 "the tag is out of range" a U) ∧ (∃ a, vk_R RX1 28 "the row holds none" a U)
theorem hZ.move {s U : State} (hW : s.WarmedH U.vm) (hz : s.heap.size ≤ U.heap.size) (hk : ∀ q : Nat, q < s.heap.size → U.heap[q]? = s.heap[q]?) (h : hZ s) : hZ U := by
  obtain ⟨h1, h2, ⟨a3, h3⟩, ⟨a4, h4⟩, ⟨a5, h5⟩, ⟨a6, h6⟩, ⟨a7, h7⟩, ⟨a8, h8⟩, ⟨a9, h9⟩, ⟨a10, h10⟩⟩ := h
  refine ⟨?_, ?_, ⟨a3, vk_R.warm hW h3⟩, ⟨a4, vk_R.warm hW h4⟩, ⟨a5, vk_R.warm hW h5⟩, ⟨a6, vk_R.warm hW h6⟩, ⟨a7, vk_R.warm hW h7⟩, ⟨a8, vk_R.warm hW h8⟩, ⟨a9, vk_R.warm hW h9⟩, ⟨a10, vk_R.warm hW h10⟩⟩
  · exact ((h1.kept (H1 := U.heap) (fun a ha _ => hk a ha)).moved hW.alike).narrow (fun q hq => Nat.le_trans hz hq)
  · exact ((h2.kept (H1 := U.heap) (fun a ha _ => hk a ha)).moved hW.alike).narrow (fun q hq => Nat.le_trans hz hq)
def hPre (D : va_G) (tys : List (ClassId × FieldType)) (ws : va_W) (sz : Nat) : State → Prop := fun U => U.heap.size = sz ∧ va_P D vwCl ws U.heap ∧ va_K D vwCl tys U ∧ va_D (fun _ => True) ws ∧ hV U
def hB (D : va_G) (A : Nat → Prop) (ws : va_W) {S : Type} : S → State → Prop := fun _ t => va_P D vwCl ws t.heap ∧ va_D A ws
abbrev hQI (D : va_G) (w1 : va_W) (r : Int32) (A : Nat → Prop) : Array Value → State → Outcome → State → Prop := va_Qi (fun (x : Int32) (_ : Unit) => x = r) (hB D A w1) A
abbrev hQL (D : va_G) (w1 : va_W) (r : Int64) (A : Nat → Prop) : Array Value → State → Outcome → State → Prop := va_Ql (fun (x : Int64) (_ : Unit) => x = r) (hB D A w1) A
abbrev hQV (D : va_G) (w1 : va_W) (A : Nat → Prop) : Array Value → State → Outcome → State → Prop := va_Qv (fun (_ : Unit) => True) (hB D A w1) A
/-- from the world w0 the method answers r and leaves the world w1 -/
def mI (l : Launch) (y : MethodName) (ws : List Cond) (rm : Room) (av : List Value) (D : va_G) (tys : List (ClassId × FieldType)) (w0 w1 : va_W) (r : Int32) : Prop := ∀ sz : Nat, Met l y ws rm (va_Pc av (hPre D tys w0 sz)) (hQI D w1 r (va_A w0 sz)) 0 0 (va_A w0 sz)
def mL (l : Launch) (y : MethodName) (ws : List Cond) (rm : Room) (av : List Value) (D : va_G) (tys : List (ClassId × FieldType)) (w0 w1 : va_W) (r : Int64) : Prop := ∀ sz : Nat, Met l y ws rm (va_Pc av (hPre D tys w0 sz)) (hQL D w1 r (va_A w0 sz)) 0 0 (va_A w0 sz)
def mV (l : Launch) (y : MethodName) (ws : List Cond) (rm : Room) (av : List Value) (D : va_G) (tys : List (ClassId × FieldType)) (w0 w1 : va_W) : Prop := ∀ sz : Nat, Met l y ws rm (va_Pc av (hPre D tys w0 sz)) (hQV D w1 (va_A w0 sz)) 0 0 (va_A w0 sz)
abbrev hQX (E : String) (sz : Nat) : String → State → State → Prop := vx_X (fun (_ : Unit) => True) (fun E' _ _ => E' = E) (fun q => sz ≤ q)
/-- from the world w0 the method throws a new E, and writes nothing -/
def mX (l : Launch) (y : MethodName) (ws : List Cond) (rm : Room) (av : List Value) (D : va_G) (tys : List (ClassId × FieldType)) (w0 : va_W) (E : String) : Prop := ∀ sz : Nat, vx_Met l y ws rm (va_Pc av (fun U => hPre D tys w0 sz U ∧ hZ U)) (fun _ _ _ _ => False) (hQX E sz) 1 6 (fun q => sz ≤ q)
theorem h_blind {av : List Value} {D : va_G} {tys : List (ClassId × FieldType)} {w0 : va_W} {sz : Nat} : FrameBlind (va_Pc av (hPre D tys w0 sz)) := fun a U g mk q => by
  obtain ⟨q0, q1, q2, q3, q4, q5⟩ := q
  exact ⟨q0, q1, q2, va_K.moved (u := U) (U := U.calling g mk a) (Vm.Alike.refl U.vm) q3, q4, hV.warm (U := U.calling g mk a) (State.WarmedH.refl U) q5⟩
theorem h_blindX {av : List Value} {D : va_G} {tys : List (ClassId × FieldType)} {w0 : va_W} {sz : Nat} : FrameBlind (va_Pc av (fun U => hPre D tys w0 sz U ∧ hZ U)) := fun a U g mk q => by
  obtain ⟨q0, ⟨q1, q2, q3, q4, q5⟩, q6⟩ := q
  exact ⟨q0, ⟨q1, q2, va_K.moved (u := U) (U := U.calling g mk a) (Vm.Alike.refl U.vm) q3, q4, hV.warm (U := U.calling g mk a) (State.WarmedH.refl U) q5⟩, hZ.move (U := U.calling g mk a) (State.WarmedH.refl U) (Nat.le_refl _) (fun _ _ => rfl) q6⟩
theorem fm_of {α β : Type} {f : α → Option β} {is : List α} {w : List β} (h : is.map f = w.map some) : is.filterMap f = w := by
  have : is.filterMap f = (is.map f).filterMap id := by rw [List.filterMap_map]; rfl
  rw [this, h, List.filterMap_map]
  exact List.filterMap_some
/-- what a body has at its start -/
def hAt (p : Program) (s : State) (m : MethodId) (meth : Method) (c : Code) (av : List Value) (cc : ByteArray) (maxL : Nat) (ret : Option FieldType) (ws : List Cond) (own : String) : Prop :=
  (p.tables.exec = Jvm.exec ∧ c.code = cc ∧ c.maxLocals = maxL ∧ s.vm.findClass own = some m.cls ∧ ∀ w ∈ ws, w.before av.toArray s = true) ∧ meth.sig.returnType = ret ∧ meth.locks = false ∧ hV s
theorem h_body {l : Launch} {y : MethodName} {ws ws' : List Cond} {rm : Room} {av : List Value} {D : va_G} {tys : List (ClassId × FieldType)} {w0 : va_W} {cc : ByteArray} {maxL mc ms : Nat} {ret : Option FieldType} {Qc : (Nat → Prop) → Array Value → State → Outcome → State → Prop}
    (hy : plainName y.cls = true) (hw : ws = .code y cc maxL ret :: ws') (hn : (lg_sl av).length ≤ maxL)
    (body : ∀ (p : Program) (e : Env) (s : State) (m : MethodId) (below : List Frame) (meth : Method) (c : Code) (A : Nat → Prop) (ls : Array Slot), hAt p s m meth c av cc maxL ret ws y.cls →
      (∀ q, s.heap.size ≤ q → A q) → va_P D vwCl w0 s.heap → va_K D vwCl tys s → va_D A w0 → va_S A s.heap s.heap [] → lv_has ls maxL (lv_args 0 av) →
      W p l e rm s m av.toArray below meth c s.heap [] 0 0 (MQ below (Qc A) av.toArray s mc ms A) (F0 m 0 ls [])) (sz : Nat) : Met l y ws rm (va_Pc av (hPre D tys w0 sz)) (Qc (va_A w0 sz)) mc ms (va_A w0 sz) := by
  refine Met.ofW (cc := cc) (maxL := maxL) (ret := ret) hy hw ?_
  intro p e s m args below meth c s₁ B hml hv
  obtain ⟨rfl, hsz, hP, hK, hD0, hV0⟩ := hv
  subst hsz
  rw [lg_entry_eq]
  exact body p e s m below meth c (va_A w0 s.heap.size) _ ⟨⟨B.exec, B.bytes, hml, findClass_of_methodNamed B.named, atoms_spec (ws := ws) B.pre⟩, B.returns, B.notSynchronized, hV0⟩ (fun q h => Or.inr h) hP hK (hD0.self (sz := s.heap.size)) va_S.rf (lv_entry av (n := maxL) hn)
abbrev hEX (below : List Frame) (E : String) (s : State) (av : List Value) : State → Prop := vx_MQ below (fun _ _ _ _ => False) (hQX E s.heap.size) av.toArray s 1 6 (fun q => s.heap.size ≤ q)
theorem hX_body {l : Launch} {y : MethodName} {ws ws' : List Cond} {rm : Room} {av : List Value} {D : va_G} {tys : List (ClassId × FieldType)} {w0 : va_W} {cc : ByteArray} {maxL : Nat} {ret : Option FieldType} {E : String}
    (hy : plainName y.cls = true) (hw : ws = .code y cc maxL ret :: ws') (hn : (lg_sl av).length ≤ maxL)
    (body : ∀ (p : Program) (e : Env) (s : State) (m : MethodId) (below : List Frame) (meth : Method) (c : Code) (ls : Array Slot), hAt p s m meth c av cc maxL ret ws y.cls → (∀ x ∈ c.exceptionTable.toList, False) → hZ s →
      va_P D vwCl w0 s.heap → va_K D vwCl tys s → va_D (fun _ => True) w0 → va_S (fun q => s.heap.size ≤ q) s.heap s.heap [] → lv_has ls maxL (lv_args 0 av) →
      W p l e rm s m av.toArray below meth c s.heap [] 0 0 (hEX below E s av) (F0 m 0 ls [])) : mX l y ws rm av D tys w0 E := by
  intro sz
  refine vx_ofW (cc := cc) (maxL := maxL) (ret := ret) hy hw ?_
  intro p e s m args below meth c s₁ B hml hnt hv
  obtain ⟨rfl, ⟨hsz, hP, hK, hD0, hV0⟩, hZ0⟩ := hv
  subst hsz
  rw [lg_entry_eq]
  exact body p e s m below meth c _ ⟨⟨B.exec, B.bytes, hml, findClass_of_methodNamed B.named, atoms_spec (ws := ws) B.pre⟩, B.returns, B.notSynchronized, hV0⟩ hnt hZ0 hP hK hD0 va_S.rf (lv_entry av (n := maxL) hn)
end HB
section HE
variable {p : Program} {l : Launch} {e : Env} {R : Room} {s : State} {m : MethodId} {args : Array Value} {below : List Frame} {meth : Method} {c : Code} {H : Heap} {locs : List Loc} {cells slots : Nat} {Q : State → Prop}
variable {A : Nat → Prop} {H0 : Heap} {cc : ByteArray} {D : va_G} {tys tysC : List (ClassId × FieldType)} {w w0 w1 wc wr w' : va_W} {ls : Array Slot} {pc : Nat} {rest st0 : List Value}
theorem h_iret {ty : FieldType} {v r : Int32} (hx : p.tables.exec = Jvm.exec) (hb : c.code = cc) (hr : meth.sig.returnType = some ty) (hlocks : meth.locks = false) (hn : narrow ty (.int v) = .int v) (hP : va_P D vwCl w1 H) (hD : va_D A w1) (hS : va_S A s.heap H locs) (hv : v = r) (hdg : decode cc pc = .ok (.ireturn, 1)) :
    W p l e R s m args below meth c H locs 0 0 (MQ below (hQI D w1 r A) args s 0 0 A) (F0 m pc ls [.int v]) :=
  W.zret hx hb hr hn (fun t ht hW => ⟨⟨v, (), rfl, hv, by rw [ht]; exact hP, hD⟩, hS.F ht⟩) hS.2.2 hdg hlocks
theorem h_lret {v r : Int64} (hx : p.tables.exec = Jvm.exec) (hb : c.code = cc) (hr : meth.sig.returnType = some .long) (hlocks : meth.locks = false) (hP : va_P D vwCl w1 H) (hD : va_D A w1) (hS : va_S A s.heap H locs) (hv : v = r) (hdg : decode cc pc = .ok (.lreturn, 1)) :
    W p l e R s m args below meth c H locs 0 0 (MQ below (hQL D w1 r A) args s 0 0 A) (F0 m pc ls [.long v]) :=
  W.lret hx hb hr (fun t ht hW => ⟨⟨v, (), rfl, hv, by rw [ht]; exact hP, hD⟩, hS.F ht⟩) hS.2.2 hdg hlocks
theorem h_vret (hx : p.tables.exec = Jvm.exec) (hb : c.code = cc) (hr : meth.sig.returnType = none) (hlocks : meth.locks = false) (hP : va_P D vwCl w1 H) (hD : va_D A w1) (hS : va_S A s.heap H locs) (hdg : decode cc pc = .ok (.return_, 1)) :
    W p l e R s m args below meth c H locs 0 0 (MQ below (hQV D w1 A) args s 0 0 A) (F0 m pc ls []) :=
  W.vret hx hb hr (fun t ht hW => ⟨⟨(), rfl, trivial, by rw [ht]; exact hP, hD⟩, hS.F ht⟩) hS.2.2 hdg hlocks
/-- the frame rule of a call: the callee's cells cut out, put back, all in one order -/
abbrev hCut (w wc wr w1 w' : va_W) (tys tysC : List (ClassId × FieldType)) (isC isR isJ isT : List Nat) : Prop :=
  isC.map (fun i => w[i]?) = wc.map some ∧ isR.map (fun i => w[i]?) = wr.map some ∧ isJ.map (fun i => (wr ++ w1)[i]?) = w'.map some ∧ isT.filterMap (fun i => tys[i]?) = tysC ∧ (va_nd isC = true ∧ va_nd isR = true ∧ va_nd isJ = true) ∧ ∀ i ∈ isR, i ∉ isC
theorem h_back {H1 : Heap} {isC isR isJ isT : List Nat} (hc : hCut w wc wr w1 w' tys tysC isC isR isJ isT) (hP : va_P D vwCl w H) (hD : va_D A w) (hS : va_S A H0 H locs) (hA : ∀ q, H0.size ≤ q → A q)
    (hk1 : ∀ q : Nat, q < H.size → ¬ va_A wc H.size q → H1[q]? = H[q]?) (hP1 : va_P D vwCl w1 H1) (hD1 : va_D (va_A wc H.size) w1) : va_P D vwCl w' H1 ∧ va_D A w' := by
  obtain ⟨h1, h2, h3, -, ⟨-, n2, n3⟩, h6⟩ := hc
  obtain ⟨hP2, hD2⟩ := va_join (wr := wr) (w1 := w1) hP hD isC isR h1 h2 n2 h6 hk1 (va_free (wc := wc) hD hS hA isC h1) hP1 hD1
  exact ⟨hP2.sub isJ (fm_of h3), hD2.sub isJ n3 h3⟩
theorem h_pre {U : State} {isC isR isJ isT : List Nat} (hc : hCut w wc wr w1 w' tys tysC isC isR isJ isT) (hP : va_P D vwCl w H) (hK : va_K D vwCl tys s) (hD : va_D A w) (hv : hV s) (hU : U.heap = H) (hW : s.WarmedH U.vm) : hPre D tysC wc H.size U := by
  obtain ⟨h1, h2, h3, h4, ⟨n1, n2, n3⟩, h6⟩ := hc
  refine ⟨by rw [hU], by rw [hU]; exact hP.sub isC (fm_of h1), va_K.moved hW.alike (hK.sub isT h4), (hD.sub isC n1 h1).weaken (fun _ _ _ _ => trivial), hV.warm hW hv⟩
section Calls
variable {y : MethodName} {bytes : ByteArray} {maxL nL n index : Nat} {ret : Option FieldType} {ws : List Cond} {rm : Room} {Ts : List Cond} {own C : String} {b : Addr} {As : List Value}
theorem hc_iV {r : Int32} (S : CallFix p m c cc nL s args Ts own) (hM : mI l y ws rm (.ref b :: As) D tysC wc w1 r) (cw : CallW R s args own C index y bytes maxL ret ws rm 0 0 n)
    (hP : va_P D vwCl w H) (hK : va_K D vwCl tys s) (hD : va_D A w) (hS : va_S A H0 H locs) (hA : ∀ q, H0.size ≤ q → A q) (hv : hV s)
    (isC isR isJ isT : List Nat) (hc : hCut w wc wr w1 w' tys tysC isC isR isJ isT) (q0 ci : Nat) {qc : vw_C} {fs : List Value} (he : w[q0]? = some (b, .inr (ci, fs))) (hci : vwCl[ci]? = some qc) (hC : qc.1 = C)
    (hn : As.length = n) (hsz : ls.size = nL) (hst : st0 = As.reverse ++ .ref b :: rest) (hcat : (rest.map fun v => v.category).sum ≤ 8) (hdg : decode cc pc = .ok (.invokevirtual index, 3)) (hroom : cells ≤ R.cells ∧ slots ≤ R.slots)
    (kk : ∀ (H1 : Heap) (locs1 : List Loc), va_P D vwCl w' H1 → va_D A w' → va_S A H0 H1 locs1 → W p l e R s m args below meth c H1 locs1 cells slots Q (F0 m (pc + 3) ls (.int r :: rest))) : W p l e R s m args below meth c H locs cells slots Q (F0 m pc ls st0) := by
  have hFc := va_free (wc := wc) hD hS hA isC hc.1
  subst hC
  refine va_calli (va_runV (As := As) (rest := rest) S (hM H.size) cw ⟨h_blind, va_recv hK hP hci he, fun U hU hW => ⟨rfl, h_pre hc hP hK hD hv hU hW⟩⟩ rfl hn hsz hst (lv_room hcat) hdg hroom) hS (fun q _ h => hFc q h) hFc (fun r1 u t H1 locs1 ht hvm hw hB hz1 hk1 hS1 => ?_)
  obtain ⟨hP1, hD1⟩ := hB
  rw [ht] at hP1
  obtain ⟨hP2, hD2⟩ := h_back hc hP hD hS hA hk1 hP1 hD1
  rw [hw]
  exact kk H1 locs1 hP2 hD2 hS1
theorem hc_lV {r : Int64} (S : CallFix p m c cc nL s args Ts own) (hM : mL l y ws rm (.ref b :: As) D tysC wc w1 r) (cw : CallW R s args own C index y bytes maxL ret ws rm 0 0 n)
    (hP : va_P D vwCl w H) (hK : va_K D vwCl tys s) (hD : va_D A w) (hS : va_S A H0 H locs) (hA : ∀ q, H0.size ≤ q → A q) (hv : hV s)
    (isC isR isJ isT : List Nat) (hc : hCut w wc wr w1 w' tys tysC isC isR isJ isT) (q0 ci : Nat) {qc : vw_C} {fs : List Value} (he : w[q0]? = some (b, .inr (ci, fs))) (hci : vwCl[ci]? = some qc) (hC : qc.1 = C)
    (hn : As.length = n) (hsz : ls.size = nL) (hst : st0 = As.reverse ++ .ref b :: rest) (hcat : (rest.map fun v => v.category).sum ≤ 8) (hdg : decode cc pc = .ok (.invokevirtual index, 3)) (hroom : cells ≤ R.cells ∧ slots ≤ R.slots)
    (kk : ∀ (H1 : Heap) (locs1 : List Loc), va_P D vwCl w' H1 → va_D A w' → va_S A H0 H1 locs1 → W p l e R s m args below meth c H1 locs1 cells slots Q (F0 m (pc + 3) ls (.long r :: rest))) : W p l e R s m args below meth c H locs cells slots Q (F0 m pc ls st0) := by
  have hFc := va_free (wc := wc) hD hS hA isC hc.1
  subst hC
  refine va_calll (va_runV (As := As) (rest := rest) S (hM H.size) cw ⟨h_blind, va_recv hK hP hci he, fun U hU hW => ⟨rfl, h_pre hc hP hK hD hv hU hW⟩⟩ rfl hn hsz hst (lv_room hcat) hdg hroom) hS (fun q _ h => hFc q h) hFc (fun r1 u t H1 locs1 ht hvm hw hB hz1 hk1 hS1 => ?_)
  obtain ⟨hP1, hD1⟩ := hB
  rw [ht] at hP1
  obtain ⟨hP2, hD2⟩ := h_back hc hP hD hS hA hk1 hP1 hD1
  rw [hw]
  exact kk H1 locs1 hP2 hD2 hS1
theorem hc_vV (S : CallFix p m c cc nL s args Ts own) (hM : mV l y ws rm (.ref b :: As) D tysC wc w1) (cw : CallW R s args own C index y bytes maxL ret ws rm 0 0 n)
    (hP : va_P D vwCl w H) (hK : va_K D vwCl tys s) (hD : va_D A w) (hS : va_S A H0 H locs) (hA : ∀ q, H0.size ≤ q → A q) (hv : hV s)
    (isC isR isJ isT : List Nat) (hc : hCut w wc wr w1 w' tys tysC isC isR isJ isT) (q0 ci : Nat) {qc : vw_C} {fs : List Value} (he : w[q0]? = some (b, .inr (ci, fs))) (hci : vwCl[ci]? = some qc) (hC : qc.1 = C)
    (hn : As.length = n) (hsz : ls.size = nL) (hst : st0 = As.reverse ++ .ref b :: rest) (hcat : (rest.map fun v => v.category).sum ≤ 8) (hdg : decode cc pc = .ok (.invokevirtual index, 3)) (hroom : cells ≤ R.cells ∧ slots ≤ R.slots)
    (kk : ∀ (H1 : Heap) (locs1 : List Loc), va_P D vwCl w' H1 → va_D A w' → va_S A H0 H1 locs1 → W p l e R s m args below meth c H1 locs1 cells slots Q (F0 m (pc + 3) ls rest)) : W p l e R s m args below meth c H locs cells slots Q (F0 m pc ls st0) := by
  have hFc := va_free (wc := wc) hD hS hA isC hc.1
  subst hC
  refine va_callv (va_runV (As := As) (rest := rest) S (hM H.size) cw ⟨h_blind, va_recv hK hP hci he, fun U hU hW => ⟨rfl, h_pre hc hP hK hD hv hU hW⟩⟩ rfl hn hsz hst (lv_room hcat) hdg hroom) hS (fun q _ h => hFc q h) hFc (fun u t H1 locs1 ht hvm hw hB hz1 hk1 hS1 => ?_)
  obtain ⟨hP1, hD1⟩ := hB
  rw [ht] at hP1
  obtain ⟨hP2, hD2⟩ := h_back hc hP hD hS hA hk1 hP1 hD1
  exact kk H1 locs1 hP2 hD2 hS1
/-- a static method that touches no cell -/
theorem hc_lS {r : Int64} (S : CallFix p m c cc nL s args Ts own) (hM : mL l y ws rm As D [] [] [] r) (cw : CallB R s args own index y bytes maxL ret ws rm 0 0 n ∧ (Cond.static y).before args s = true)
    (hK : va_K D vwCl tys s) (hS : va_S A H0 H locs) (hA : ∀ q, H0.size ≤ q → A q) (hv : hV s)
    (hn : As.length = n) (hsz : ls.size = nL) (hst : st0 = As.reverse ++ rest) (hcat : (rest.map fun v => v.category).sum ≤ 8) (hdg : decode cc pc = .ok (.invokestatic index, 3)) (hroom : cells ≤ R.cells ∧ slots ≤ R.slots)
    (kk : ∀ (H1 : Heap) (locs1 : List Loc), (∀ w : va_W, va_P D vwCl w H → va_P D vwCl w H1) → H.size ≤ H1.size → (∀ q : Nat, q < H.size → H1[q]? = H[q]?) → va_S A H0 H1 locs1 → W p l e R s m args below meth c H1 locs1 cells slots Q (F0 m (pc + 3) ls (.long r :: rest))) : W p l e R s m args below meth c H locs cells slots Q (F0 m pc ls st0) := by
  have hFc : ∀ q, va_A [] H.size q → A q := fun q h => hA q (by
    rcases h with ⟨k, e1, h⟩ | h
    · simp at h
    · exact Nat.le_trans hS.1 h)
  refine va_calll (va_runS (As := As) (rest := rest) S (hM H.size) cw ⟨h_blind, fun U hU hW => ⟨rfl, by rw [hU], fun k q h => by simp at h, va_K.moved hW.alike (hK.sub (tys' := []) [] rfl), ⟨fun i j p q h => by simp at h, fun k q h => by simp at h⟩, hV.warm hW hv⟩⟩ rfl hn hsz hst (lv_room hcat) hdg hroom) hS (fun q _ h => hFc q h) hFc (fun r1 u t H1 locs1 ht hvm hw hB hz1 hk1 hS1 => ?_)
  have hk2 : ∀ q : Nat, q < H.size → H1[q]? = H[q]? := fun q hq => hk1 q hq (fun h => by
    rcases h with ⟨k, e1, h⟩ | h
    · simp at h
    · exact absurd hq (Nat.not_lt.mpr h))
  rw [hw]
  exact kk H1 locs1 (fun w h => h.kept (fun k q hk => hk2 _ (vx_lt h hk))) hz1 hk2 hS1
theorem hc_iS {r : Int32} (S : CallFix p m c cc nL s args Ts own) (hM : mI l y ws rm As D [] [] [] r) (cw : CallB R s args own index y bytes maxL ret ws rm 0 0 n ∧ (Cond.static y).before args s = true)
    (hK : va_K D vwCl tys s) (hS : va_S A H0 H locs) (hA : ∀ q, H0.size ≤ q → A q) (hv : hV s)
    (hn : As.length = n) (hsz : ls.size = nL) (hst : st0 = As.reverse ++ rest) (hcat : (rest.map fun v => v.category).sum ≤ 8) (hdg : decode cc pc = .ok (.invokestatic index, 3)) (hroom : cells ≤ R.cells ∧ slots ≤ R.slots)
    (kk : ∀ (H1 : Heap) (locs1 : List Loc), (∀ w : va_W, va_P D vwCl w H → va_P D vwCl w H1) → H.size ≤ H1.size → (∀ q : Nat, q < H.size → H1[q]? = H[q]?) → va_S A H0 H1 locs1 → W p l e R s m args below meth c H1 locs1 cells slots Q (F0 m (pc + 3) ls (.int r :: rest))) : W p l e R s m args below meth c H locs cells slots Q (F0 m pc ls st0) := by
  have hFc : ∀ q, va_A [] H.size q → A q := fun q h => hA q (by
    rcases h with ⟨k, e1, h⟩ | h
    · simp at h
    · exact Nat.le_trans hS.1 h)
  refine va_calli (va_runS (As := As) (rest := rest) S (hM H.size) cw ⟨h_blind, fun U hU hW => ⟨rfl, by rw [hU], fun k q h => by simp at h, va_K.moved hW.alike (hK.sub (tys' := []) [] rfl), ⟨fun i j p q h => by simp at h, fun k q h => by simp at h⟩, hV.warm hW hv⟩⟩ rfl hn hsz hst (lv_room hcat) hdg hroom) hS (fun q _ h => hFc q h) hFc (fun r1 u t H1 locs1 ht hvm hw hB hz1 hk1 hS1 => ?_)
  have hk2 : ∀ q : Nat, q < H.size → H1[q]? = H[q]? := fun q hq => hk1 q hq (fun h => by
    rcases h with ⟨k, e1, h⟩ | h
    · simp at h
    · exact absurd hq (Nat.not_lt.mpr h))
  rw [hw]
  exact kk H1 locs1 (fun w h => h.kept (fun k q hk => hk2 _ (vx_lt h hk))) hz1 hk2 hS1
end Calls
end HE
section HW
variable {p : Program} {l : Launch} {e : Env} {R : Room} {s : State} {m : MethodId} {args : Array Value} {below : List Frame} {meth : Method} {c : Code} {H : Heap} {locs : List Loc} {cells slots : Nat} {Q : State → Prop}
variable {A : Nat → Prop} {H0 : Heap} {cc : ByteArray} {D : va_G} {cl : List vw_C} {tys : List (ClassId × FieldType)} {ws : va_W} {ls : Array Slot} {pc : Nat} {rest : List Value} {a : Nat}
theorem hw_i {x y : Int32} (h : x = y) (k : W p l e R s m args below meth c H locs cells slots Q (F0 m pc ls (.int y :: rest))) : W p l e R s m args below meth c H locs cells slots Q (F0 m pc ls (.int x :: rest)) := h ▸ k
theorem hw_l {x y : Int64} (h : x = y) (k : W p l e R s m args below meth c H locs cells slots Q (F0 m pc ls (.long y :: rest))) : W p l e R s m args below meth c H locs cells slots Q (F0 m pc ls (.long x :: rest)) := h ▸ k
theorem h_in {k n : Nat} (hk : k < n) (hn : n < 2 ^ 31) : vp_in (nI k) n := vp_in_nI hk hn
theorem h_iald (hexec : p.tables.exec = Jvm.exec) (hb : c.code = cc) (hK : va_K D cl tys s) (hP : va_P D cl ws H) (q0 t0 : Nat) {cA : ClassId} {n k : Nat} {f : Nat → Int32} (ha : ws[q0]? = some (a, .inl (cA, n, .inl f))) (ht : tys[t0]? = some (cA, .int)) (hn : n < 2 ^ 31) (hk : k < n) (hdg : decode cc pc = .ok (.iaload, 1))
    (kk : W p l e R s m args below meth c H locs cells slots Q (F0 m (pc + 1) ls (.int (f k) :: rest))) : W p l e R s m args below meth c H locs cells slots Q (F0 m pc ls (.int (nI k) :: .ref a :: rest)) :=
  va_iald hexec hb hK hP q0 t0 ha ht (vp_in_nI hk hn) hdg (hw_i (by rw [nI_clamp (Nat.lt_trans hk hn)]) kk)
theorem h_lald (hexec : p.tables.exec = Jvm.exec) (hb : c.code = cc) (hK : va_K D cl tys s) (hP : va_P D cl ws H) (q0 t0 : Nat) {cA : ClassId} {n k : Nat} {f : Nat → Int64} (ha : ws[q0]? = some (a, .inl (cA, n, .inr (.inl f)))) (ht : tys[t0]? = some (cA, .long)) (hn : n < 2 ^ 31) (hk : k < n) (hdg : decode cc pc = .ok (.laload, 1))
    (kk : W p l e R s m args below meth c H locs cells slots Q (F0 m (pc + 1) ls (.long (f k) :: rest))) : W p l e R s m args below meth c H locs cells slots Q (F0 m pc ls (.int (nI k) :: .ref a :: rest)) :=
  va_lald hexec hb hK hP q0 t0 ha ht (vp_in_nI hk hn) hdg (hw_l (by rw [nI_clamp (Nat.lt_trans hk hn)]) kk)
theorem h_iast (hexec : p.tables.exec = Jvm.exec) (hb : c.code = cc) (hK : va_K D cl tys s) (hP : va_P D cl ws H) (hD : va_D A ws) (hS : va_S A H0 H locs) (q0 t0 : Nat) {cA : ClassId} {n k : Nat} {f : Nat → Int32} (ha : ws[q0]? = some (a, .inl (cA, n, .inl f))) (ht : tys[t0]? = some (cA, .int)) {x : Int32} (hn : n < 2 ^ 31) (hk : k < n) (hdg : decode cc pc = .ok (.iastore, 1))
    (kk : ∀ (H1 : Heap) (locs1 : List Loc), va_P D cl (ws.set q0 (a, .inl (cA, n, .inl (upd f k x)))) H1 → va_D A (ws.set q0 (a, .inl (cA, n, .inl (upd f k x)))) → va_S A H0 H1 locs1 → W p l e R s m args below meth c H1 locs1 cells slots Q (F0 m (pc + 1) ls rest)) : W p l e R s m args below meth c H locs cells slots Q (F0 m pc ls (.int x :: .int (nI k) :: .ref a :: rest)) :=
  va_iast hexec hb hK hP hD hS q0 t0 ha ht (vp_in_nI hk hn) hdg (by rw [nI_clamp (Nat.lt_trans hk hn)]; exact kk)
theorem h_last (hexec : p.tables.exec = Jvm.exec) (hb : c.code = cc) (hK : va_K D cl tys s) (hP : va_P D cl ws H) (hD : va_D A ws) (hS : va_S A H0 H locs) (q0 t0 : Nat) {cA : ClassId} {n k : Nat} {f : Nat → Int64} (ha : ws[q0]? = some (a, .inl (cA, n, .inr (.inl f)))) (ht : tys[t0]? = some (cA, .long)) {x : Int64} (hn : n < 2 ^ 31) (hk : k < n) (hdg : decode cc pc = .ok (.lastore, 1))
    (kk : ∀ (H1 : Heap) (locs1 : List Loc), va_P D cl (ws.set q0 (a, .inl (cA, n, .inr (.inl (vp_updL f k x))))) H1 → va_D A (ws.set q0 (a, .inl (cA, n, .inr (.inl (vp_updL f k x))))) → va_S A H0 H1 locs1 → W p l e R s m args below meth c H1 locs1 cells slots Q (F0 m (pc + 1) ls rest)) : W p l e R s m args below meth c H locs cells slots Q (F0 m pc ls (.long x :: .int (nI k) :: .ref a :: rest)) :=
  va_last hexec hb hK hP hD hS q0 t0 ha ht (vp_in_nI hk hn) hdg (by rw [nI_clamp (Nat.lt_trans hk hn)]; exact kk)
end HW
/-! numbers -/
theorem hl_gt {x y : Int64} : lg_cmp x y = 1 ↔ y < x := by
  unfold lg_cmp; by_cases h1 : y < x <;> by_cases h2 : x = y <;> simp [h1, h2]
theorem hl_eq {x y : Int64} : lg_cmp x y = 0 ↔ x = y := by
  unfold lg_cmp
  by_cases h1 : y < x
  · have : ¬ x = y := fun h => by rw [h] at h1; exact absurd h1 (Int64.lt_irrefl)
    simp [h1, this]
  · by_cases h2 : x = y <;> simp [h1, h2]
theorem hl_ge {x y : Int64} : 0 ≤ lg_cmp x y ↔ ¬ x < y := by
  unfold lg_cmp
  by_cases h1 : y < x
  · have : ¬ x < y := fun h => absurd (Int64.lt_trans h h1) Int64.lt_irrefl
    simp [h1, this]
  · by_cases h2 : x = y
    · subst h2; simp [h1]
    · have : x < y := by
        rcases Int64.lt_or_lt_of_ne h2 with h | h
        · exact h
        · exact absurd h h1
      simp [h1, h2, this]
theorem nI_1' : nI 1 = 1 := by decide +kernel
theorem nI_200 : (200 : Int32) = nI 200 := by decide +kernel
theorem h_sub1 {a : Nat} (h : 1 ≤ a) : nI a - 1 = nI (a - 1) := pk_sub (a := a) (b := 1) h
