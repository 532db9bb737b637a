section
-- ===== PART A: goes FIRST, ahead of the names: the tables' words, and 'selects' of the private methods out of them =====
/-- a private method of a class that the tables say can be made, by its rows of tables_1 -/
def lw_okq (q : MethodName × Nat) : Prop := (q.1.cls ≠ "java/lang/invoke/MethodHandle" ∧ q.1.cls ≠ "java/lang/invoke/VarHandle") ∧ Cond.instantiable q.1.cls q.2 ∈ tables_1 ∧ Cond.privateMethod q.1 ∈ tables_1 ∧ Cond.instanceMethod q.1 ∈ tables_1
theorem lw_p0 : lw_okq (⟨"java/lang/Throwable", "fillInStackTrace", "(I)Ljava/lang/Throwable;"⟩, 6) := ⟨⟨by decide +kernel, by decide +kernel⟩, List.mem_of_getElem? (i := 212) (by decide +kernel), List.mem_of_getElem? (i := 210) (by decide +kernel), List.mem_of_getElem? (i := 211) (by decide +kernel)⟩
theorem lw_p1 : lw_okq (⟨"HeapAndDeque", "refuseAtRow", "(I)V"⟩, 3) := ⟨⟨by decide +kernel, by decide +kernel⟩, List.mem_of_getElem? (i := 14) (by decide +kernel), List.mem_of_getElem? (i := 326) (by decide +kernel), List.mem_of_getElem? (i := 327) (by decide +kernel)⟩
theorem lw_p2 : lw_okq (⟨"HeapAndDequeModel", "isWrong", "(I)Z"⟩, 8) := ⟨⟨by decide +kernel, by decide +kernel⟩, List.mem_of_getElem? (i := 515) (by decide +kernel), List.mem_of_getElem? (i := 554) (by decide +kernel), List.mem_of_getElem? (i := 555) (by decide +kernel)⟩
theorem lw_p3 : lw_okq (⟨"HeapAndDequeModel", "leastPlace", "()I"⟩, 8) := ⟨⟨by decide +kernel, by decide +kernel⟩, List.mem_of_getElem? (i := 515) (by decide +kernel), List.mem_of_getElem? (i := 567) (by decide +kernel), List.mem_of_getElem? (i := 568) (by decide +kernel)⟩
theorem lw_p4 : lw_okq (⟨"HeapAndDequeModel", "takeHeld", "(I)I"⟩, 8) := ⟨⟨by decide +kernel, by decide +kernel⟩, List.mem_of_getElem? (i := 515) (by decide +kernel), List.mem_of_getElem? (i := 575) (by decide +kernel), List.mem_of_getElem? (i := 576) (by decide +kernel)⟩
theorem lw_p5 : lw_okq (⟨"HeapAndDequeModel", "heldPlace", "(I)I"⟩, 8) := ⟨⟨by decide +kernel, by decide +kernel⟩, List.mem_of_getElem? (i := 515) (by decide +kernel), List.mem_of_getElem? (i := 583) (by decide +kernel), List.mem_of_getElem? (i := 584) (by decide +kernel)⟩
theorem lw_p6 : lw_okq (⟨"HeapAndDequeModel", "isNoTag", "(I)Z"⟩, 8) := ⟨⟨by decide +kernel, by decide +kernel⟩, List.mem_of_getElem? (i := 515) (by decide +kernel), List.mem_of_getElem? (i := 611) (by decide +kernel), List.mem_of_getElem? (i := 612) (by decide +kernel)⟩
theorem lw_p7 : lw_okq (⟨"HeapAndDequeModel", "leastPair", "()I"⟩, 8) := ⟨⟨by decide +kernel, by decide +kernel⟩, List.mem_of_getElem? (i := 515) (by decide +kernel), List.mem_of_getElem? (i := 619) (by decide +kernel), List.mem_of_getElem? (i := 620) (by decide +kernel)⟩
theorem lw_p8 : lw_okq (⟨"HeapAndDequeModel", "told", "(I)J"⟩, 8) := ⟨⟨by decide +kernel, by decide +kernel⟩, List.mem_of_getElem? (i := 515) (by decide +kernel), List.mem_of_getElem? (i := 623) (by decide +kernel), List.mem_of_getElem? (i := 624) (by decide +kernel)⟩
theorem lw_p9 : lw_okq (⟨"HeapAndDequeModel", "takePair", "(I)V"⟩, 8) := ⟨⟨by decide +kernel, by decide +kernel⟩, List.mem_of_getElem? (i := 515) (by decide +kernel), List.mem_of_getElem? (i := 632) (by decide +kernel), List.mem_of_getElem? (i := 633) (by decide +kernel)⟩
theorem lw_p10 : lw_okq (⟨"HeapAndDequeModel", "pairPlace", "(II)I"⟩, 8) := ⟨⟨by decide +kernel, by decide +kernel⟩, List.mem_of_getElem? (i := 515) (by decide +kernel), List.mem_of_getElem? (i := 640) (by decide +kernel), List.mem_of_getElem? (i := 641) (by decide +kernel)⟩
theorem lw_p11 : lw_okq (⟨"HeapAndDequeModel", "isNone", "()Z"⟩, 8) := ⟨⟨by decide +kernel, by decide +kernel⟩, List.mem_of_getElem? (i := 515) (by decide +kernel), List.mem_of_getElem? (i := 672) (by decide +kernel), List.mem_of_getElem? (i := 673) (by decide +kernel)⟩
theorem lw_p12 : lw_okq (⟨"HeapAndDequeModel", "takeRow", "(I)I"⟩, 8) := ⟨⟨by decide +kernel, by decide +kernel⟩, List.mem_of_getElem? (i := 515) (by decide +kernel), List.mem_of_getElem? (i := 684) (by decide +kernel), List.mem_of_getElem? (i := 685) (by decide +kernel)⟩
theorem lw_p13 : lw_okq (⟨"HeapAndDequeModel", "firstPlace", "(I)I"⟩, 8) := ⟨⟨by decide +kernel, by decide +kernel⟩, List.mem_of_getElem? (i := 515) (by decide +kernel), List.mem_of_getElem? (i := 706) (by decide +kernel), List.mem_of_getElem? (i := 707) (by decide +kernel)⟩
theorem lw_p14 : lw_okq (⟨"HeapAndDequeModel", "isNoPlace", "(I)Z"⟩, 8) := ⟨⟨by decide +kernel, by decide +kernel⟩, List.mem_of_getElem? (i := 515) (by decide +kernel), List.mem_of_getElem? (i := 730) (by decide +kernel), List.mem_of_getElem? (i := 731) (by decide +kernel)⟩
def lw_privs_1 : List (MethodName × Nat) := [(⟨"java/lang/Throwable", "fillInStackTrace", "(I)Ljava/lang/Throwable;"⟩, 6), (⟨"HeapAndDeque", "refuseAtRow", "(I)V"⟩, 3), (⟨"HeapAndDequeModel", "isWrong", "(I)Z"⟩, 8), (⟨"HeapAndDequeModel", "leastPlace", "()I"⟩, 8), (⟨"HeapAndDequeModel", "takeHeld", "(I)I"⟩, 8), (⟨"HeapAndDequeModel", "heldPlace", "(I)I"⟩, 8), (⟨"HeapAndDequeModel", "isNoTag", "(I)Z"⟩, 8), (⟨"HeapAndDequeModel", "leastPair", "()I"⟩, 8), (⟨"HeapAndDequeModel", "told", "(I)J"⟩, 8), (⟨"HeapAndDequeModel", "takePair", "(I)V"⟩, 8), (⟨"HeapAndDequeModel", "pairPlace", "(II)I"⟩, 8), (⟨"HeapAndDequeModel", "isNone", "()Z"⟩, 8), (⟨"HeapAndDequeModel", "takeRow", "(I)I"⟩, 8), (⟨"HeapAndDequeModel", "firstPlace", "(I)I"⟩, 8), (⟨"HeapAndDequeModel", "isNoPlace", "(I)Z"⟩, 8)]
theorem lw_r1 : ∀ q ∈ lw_privs_1, lw_okq q := List.forall_mem_cons.mpr ⟨lw_p0, List.forall_mem_cons.mpr ⟨lw_p1, List.forall_mem_cons.mpr ⟨lw_p2, List.forall_mem_cons.mpr ⟨lw_p3, List.forall_mem_cons.mpr ⟨lw_p4, List.forall_mem_cons.mpr ⟨lw_p5, List.forall_mem_cons.mpr ⟨lw_p6, List.forall_mem_cons.mpr ⟨lw_p7, List.forall_mem_cons.mpr ⟨lw_p8, List.forall_mem_cons.mpr ⟨lw_p9, List.forall_mem_cons.mpr ⟨lw_p10, List.forall_mem_cons.mpr ⟨lw_p11, List.forall_mem_cons.mpr ⟨lw_p12, List.forall_mem_cons.mpr ⟨lw_p13, List.forall_mem_cons.mpr ⟨lw_p14, fun _ h => absurd h List.not_mem_nil⟩⟩⟩⟩⟩⟩⟩⟩⟩⟩⟩⟩⟩⟩⟩
def lw_privs : List (MethodName × Nat) := lw_privs_1
def lw_tbl : List Cond := k2_sels lw_privs ++ tables_1
theorem lw_privs_ok : ∀ q ∈ lw_privs, lw_okq q := lw_r1
-- ===== end of PART A; then your names; then what follows =====
end
section
/-! ===== BEGIN words of one list among another's, by their places ===== -/
theorem goodIn_r {big : List Cond} (ws : List Cond) (ps : List Nat) (hp : ws = ps.filterMap (fun i => big[i]?)) (h : ws.all goodWord = true) : GoodIn big ws := by
  intro w hw
  have h1 := List.all_eq_true.mp h w hw
  rw [hp] at hw
  obtain ⟨i, -, hi⟩ := List.mem_filterMap.mp hw
  have hm : w ∈ big := by first | exact List.mem_of_getElem? hi | exact List.getElem?_mem hi
  exact ⟨hm, good_of_word h1⟩
theorem goodIn_app {big a b : List Cond} (ha : GoodIn big a) (hb : GoodIn big b) : GoodIn big (a ++ b) := fun w h => (List.mem_append.mp h).elim (ha w) (hb w)
theorem goodIn_ca {big a b : List Cond} {c : Cond} (ha : GoodIn big (c :: a)) (hb : GoodIn big b) : GoodIn big (c :: (a ++ b)) := fun w h => (List.mem_cons.mp h).elim (fun e => ha w (List.mem_cons.mpr (Or.inl e))) (fun h => (List.mem_append.mp h).elim (fun h => ha w (List.mem_cons.mpr (Or.inr h))) (hb w))
theorem goodIn_sub {big ws : List Cond} (hm : ∀ w ∈ ws, w ∈ big) (h : ws.all goodWord = true) : GoodIn big ws := fun w hw => ⟨hm w hw, good_of_word (List.all_eq_true.mp h w hw)⟩
/-! ===== END ===== -/

/-! ===== BEGIN exceptions that leave a method, and their catching by the caller (launches without stack traces) ===== -/
section VXA
/-! The laws vx_back, vx_callV, vx_callS, vx_callSW, vx_throw0, vx_throwS follow proofs of the library, with one case more: JvmDerived/Free/Laws.lean (Back.of_free), Shelf42/LK1.lean (callV, callS), Shelf/KitTraced.lean (throwNew0V, throwNewS). -/
/-- where a method has thrown q: the class by its name, the cell, what was written, the world -/
def vx_T (XC : String → State → State → Prop) (st : State) (q : Addr) (t : State) (mc ms : Nat) (free : Addr → Prop) : Prop :=
  ∃ (E : String) (ce : Cell) (L : List Loc), XC E st t ∧ t.heap[q]? = some ce ∧ ce.vm = .none ∧ st.vm.findClass E = some ce.cls ∧ st.WarmedH t.vm ∧ st.sameButNew ({ t with vm := st.vm } : State) L mc ms ∧ ∀ z ∈ L, free z.base
def vx_Q (Qc : Array Value → State → Outcome → State → Prop) (XC : String → State → State → Prop) (mc ms : Nat) (free : Addr → Prop) : Array Value → State → Outcome → State → Prop := fun a st o t =>
  (Qc a st o t ∧ ∃ L, FrameEnd st o t L mc ms ∧ ∀ q ∈ L, free q.base) ∨ ∃ q, o = .threw q ∧ vx_T XC st q t mc ms free
/-- a callee that returns or throws -/
def vx_Met (l : Launch) (y : MethodName) (ws : List Cond) (rm : Room) (Pc : Array Value → State → Prop) (Qc : Array Value → State → Outcome → State → Prop) (XC : String → State → State → Prop) (mc ms : Nat) (free : Addr → Prop) : Prop :=
  MetFree l y (headSpec ws rm) Pc (fun _ _ _ _ _ => True) (vx_Q Qc XC mc ms free)
def vx_Post (XC : String → State → State → Prop) (mc ms : Nat) (free : Addr → Prop) : Pt → Array Value → Addr → Pt → Prop := fun A a q B =>
  ∃ (g : JFrame) (mk : MethodId) (t : State) (L : List Loc) (E : String) (ce : Cell), B.U.heap = t.heap ∧ B.U.vm = t.vm ∧ XC E (A.U.calling g mk a) t ∧ t.heap[q]? = some ce ∧ ce.vm = .none ∧ A.U.vm.findClass E = some ce.cls ∧ B.locs = A.locs ++ L ∧ (∀ z ∈ L, free z.base) ∧ B.cells = A.cells + mc ∧ B.slots = A.slots + ms
def vx_Back (l : Launch) (R : Room) (p : Program) (e : Env) (below : List Frame) (s : State) (sargs : Array Value) (y : MethodName) (len W9 : Nat)
    (Pre : Pt → Array Value → Prop) (Post : Pt → Array Value → Option Value → Pt → Prop) (PostX : Pt → Array Value → Addr → Pt → Prop) : Prop :=
  ∀ (m : MethodId) (meth : Method) (c : Code) (A : Pt) (g : JFrame) (ig : Instr) (mk : MethodId) (a : Array Value),
    Stand p l e R s m sargs below meth c A.U A.locs A.cells A.slots → g.method = m → g.locals.size = c.maxLocals → decode c.code g.pc = .ok (ig, len) →
    2 * g.monitorRoom + (g.stack.map fun v => v.category).sum ≤ W9 → A.U.methodNamed? y = some mk → Pre A a →
    (∃ (v : Option Value) (B : Pt), Stand p l e R s m sargs below meth c B.U B.locs B.cells B.slots ∧ Post A a v B ∧
      Steps p.tables e below (doInvoke e (A.U.setTop g) [] mk a).1 (B.U.setTop { g with pc := g.pc + len, stack := v.toList ++ g.stack })) ∨
    (∃ (q : Addr) (B : Pt), Stand p l e R s m sargs below meth c B.U B.locs B.cells B.slots ∧ PostX A a q B ∧
      Steps p.tables e below (doInvoke e (A.U.setTop g) [] mk a).1 ((B.U.setTop g).pushFrame (.throwing q)))
section Payer
variable {l : Launch} {R : Room} {p : Program} {e : Env} {below : List Frame} {s : State} {sargs : Array Value} {y : MethodName} {len W9 : Nat}
theorem vx_back {ws : List Cond} {rm : Room} {Pc : Array Value → State → Prop} {Qc : Array Value → State → Outcome → State → Prop} {XC : String → State → State → Prop} {mc ms : Nat} {free : Addr → Prop} {bytes : ByteArray} {maxL : Nat} {ret : Option FieldType}
    (hM : vx_Met l y ws rm Pc Qc XC mc ms free) (hblind : FrameBlind Pc) (hrc : rm.cells = mc) (hrs : rm.slots = ms)
    (hframes : rm.frames + 1 ≤ R.frames) (hlocals : W9 + (maxL + 11) + rm.locals ≤ R.locals)
    (hws : ∀ w ∈ ws, ∀ a' U, s.WarmedH U.vm → w.before a' U = true) (hcode : Cond.code y bytes maxL ret ∈ ws) (hinit : ∀ a' U, s.WarmedH U.vm → (Cond.initialized y.cls).before a' U = true) :
    vx_Back l R p e below s sargs y len W9 (PreOf R mc ms Pc) (PostOf Qc mc ms free) (vx_Post XC mc ms free) := by
  intro m meth c A g ig mk a X hg hsize hdg hW hn hp
  have h1 : (headSpec ws rm).pre.before a A.U = true := atoms_intro fun w hw => hws w hw _ _ X.warmed
  have h2 : (Cond.code y bytes maxL ret).before a A.U = true := hws _ hcode _ _ X.warmed
  have h3 : (Cond.initialized y.cls).before a A.U = true := hinit _ _ X.warmed
  have h4 : A.cells + (headSpec ws rm).room.cells ≤ R.cells := by rw [show (headSpec ws rm).room.cells = mc from hrc]; exact hp.1
  have h5 : A.slots + (headSpec ws rm).room.slots ≤ R.slots := by rw [show (headSpec ws rm).room.slots = ms from hrs]; exact hp.2.1
  have hPc : Pc a (A.U.calling g mk a) := hblind _ _ _ _ hp.2.2
  obtain ⟨U, Ls, c0, s0⟩ := A
  dsimp only [Pt.U, Pt.locs, Pt.cells, Pt.slots] at h1 h2 h3 h4 h5 X hn hPc ⊢
  obtain ⟨methY, cY, hmY, hcY, -, hlY, -, -, -, -⟩ := Cond.code_spec hn h2
  obtain ⟨kY, hkY, -⟩ := className_of_methodNamed hn
  have hinitY : kY.init = .initialized := Cond.initialized_spec (findClass_of_methodNamed hn) hkY h3
  have h : At U g.method c below := by rw [hg]; exact X.here
  have hlocals9 : W9 + (maxL + 11) + (headSpec ws rm).room.locals ≤ R.locals := hlocals
  have happ : (headSpec ws rm).appliesLoose y e.platform (U.calling g mk a) = true :=
    Spec.appliesLoose_calling (g := g) h hdg hn hkY hinitY
      (X.room_calling (g := g) (R' := (headSpec ws rm).room) hsize hmY hcY hframes (by rw [hlY]; omega) h4 h5) h1
  obtain ⟨mid, hmid⟩ := h.above
  have hfr : (U.setTop g).frames = (.java g :: mid) ++ below := by rw [State.frames_setTop' g h.top, hmid]; rfl
  obtain ⟨o, s₂, hsteps, -, hend, hq⟩ := Steps.callFree hM p X.admits X.cas X.clock (acts := []) hfr happ hPc trivial
  have hq' : vx_Q Qc XC mc ms free a (U.calling g mk a) o s₂ := hq
  rw [State.frames_setTop' g h.top] at hend
  obtain ⟨g₀, hg0⟩ := Option.isSome_iff_exists.mp h.top
  obtain ⟨r, hr⟩ := State.topJava?_eq_some.mp hg0
  have hr' : (({ U with heap := s₂.heap, slotsUsed := s₂.slotsUsed } : State).setVm s₂.vm).frames = .java g₀ :: r := hr
  rcases hq' with ⟨hqc, L, hfe, hL⟩ | ⟨q, rfl, E, ce, L, hx, hce, hcv, hcl, hW₂, hsm, hL⟩
  · obtain ⟨⟨v, rfl⟩, hW₂, e2, q2, q3, q4, q5, q6⟩ := id hfe
    have e3 : s₂ = ({ (U.calling g mk a).setFrames s₂.frames with heap := s₂.heap, slotsUsed := s₂.slotsUsed } : State).setVm s₂.vm := by
      have : s₂ = ({ s₂ with vm := (U.calling g mk a).vm } : State).setVm s₂.vm := rfl
      rw [e2] at this
      exact this
    obtain ⟨c₂, i₂, len₂, hc₂, hd₂, hf₂⟩ := hend
    have hW' : U.WarmedH s₂.vm := hW₂
    have hcc : c₂ = c := by
      have h1 : s₂.code? g.method = U.code? g.method := by
        rw [State.code?_eq, State.code?_eq, hW'.alike.method?]
      exact Option.some.inj (hc₂.symm.trans (h1.trans h.code))
    subst hcc
    have hlen : len₂ = len := by rw [hdg] at hd₂; cases hd₂; rfl
    subst hlen
    have hs₂ : s₂ = (({ U with heap := s₂.heap, slotsUsed := s₂.slotsUsed } : State).setVm s₂.vm).setTop { g with pc := g.pc + len₂, stack := v.toList ++ g.stack } := by
      refine e3.trans ?_
      rw [hf₂, State.calling_eq h.top, State.setFrames_setFrames, State.setTop_of_frames _ hr', hr]
      rfl
    have hsame : U.sameButNew ({ U with heap := s₂.heap, slotsUsed := s₂.slotsUsed } : State) L mc ms := by
      refine ⟨?_, q2, q3, q4, q5, q6⟩
      obtain ⟨t, ht, -⟩ := State.frames_cons hr
      show ({ U with heap := s₂.heap, slotsUsed := s₂.slotsUsed } : State) = { U.setFrames U.frames with heap := s₂.heap, slotsUsed := s₂.slotsUsed }
      rw [State.setFrames_self ht]
    subst hg
    refine Or.inl ⟨v, ⟨(({ U with heap := s₂.heap, slotsUsed := s₂.slotsUsed } : State).setVm s₂.vm), Ls ++ L, c0 + mc, s0 + ms⟩,
      ⟨X.admits, X.cas, X.clock, X.frames, X.room, X.hears, X.method, X.code, (X.here.setHeapUsed s₂.heap s₂.slotsUsed).setVm hW'.alike, X.tail, State.WarmedH.trans X.warmed hW', X.limits, X.bytes, X.same.trans (hsame.setVm s.vm)⟩,
      ⟨g, mk, s₂, L, rfl, rfl, hqc, rfl, hL, rfl, rfl⟩, ?_⟩
    show Steps p.tables e below _ ((({ U with heap := s₂.heap, slotsUsed := s₂.slotsUsed } : State).setVm s₂.vm).setTop { g with pc := g.pc + len₂, stack := v.toList ++ g.stack })
    rw [← hs₂]
    exact hsteps
  · obtain ⟨e2, q2, q3, q4, q5, q6⟩ := id hsm
    have e3 : s₂ = ({ (U.calling g mk a).setFrames s₂.frames with heap := s₂.heap, slotsUsed := s₂.slotsUsed } : State).setVm s₂.vm := by
      have : s₂ = ({ s₂ with vm := (U.calling g mk a).vm } : State).setVm s₂.vm := rfl
      rw [e2] at this
      exact this
    have hf₂ : s₂.frames = .throwing q :: .java g :: U.frames.tail := hend
    have hW' : U.WarmedH s₂.vm := hW₂
    have hs₂ : s₂ = ((({ U with heap := s₂.heap, slotsUsed := s₂.slotsUsed } : State).setVm s₂.vm).setTop g).pushFrame (.throwing q) := by
      refine e3.trans ?_
      rw [hf₂, State.calling_eq h.top, State.setFrames_setFrames, State.pushFrame, State.frames_setTop _ hr', State.setTop_of_frames _ hr', State.setFrames_setFrames, hr]
      rfl
    have hsame : U.sameButNew ({ U with heap := s₂.heap, slotsUsed := s₂.slotsUsed } : State) L mc ms := by
      refine ⟨?_, q2, q3, q4, q5, q6⟩
      obtain ⟨t, ht, -⟩ := State.frames_cons hr
      show ({ U with heap := s₂.heap, slotsUsed := s₂.slotsUsed } : State) = { U.setFrames U.frames with heap := s₂.heap, slotsUsed := s₂.slotsUsed }
      rw [State.setFrames_self ht]
    subst hg
    refine Or.inr ⟨q, ⟨(({ U with heap := s₂.heap, slotsUsed := s₂.slotsUsed } : State).setVm s₂.vm), Ls ++ L, c0 + mc, s0 + ms⟩,
      ⟨X.admits, X.cas, X.clock, X.frames, X.room, X.hears, X.method, X.code, (X.here.setHeapUsed s₂.heap s₂.slotsUsed).setVm hW'.alike, X.tail, State.WarmedH.trans X.warmed hW', X.limits, X.bytes, X.same.trans (hsame.setVm s.vm)⟩,
      ⟨g, mk, s₂, L, E, ce, rfl, rfl, hx, hce, hcv, hcl, rfl, hL, rfl, rfl⟩, ?_⟩
    show Steps p.tables e below _ (((({ U with heap := s₂.heap, slotsUsed := s₂.slotsUsed } : State).setVm s₂.vm).setTop g).pushFrame (.throwing q))
    rw [← hs₂]
    exact hsteps
end Payer
section Calls
variable {p : Program} {l : Launch} {e : Env} {R : Room} {s : State} {m : MethodId} {args : Array Value} {below : List Frame} {meth : Method} {c : Code} {T : State} {locs : List Loc} {cells slots : Nat}
theorem vx_callV (X : Stand p l e R s m args below meth c T locs cells slots) (hexec : p.tables.exec = Jvm.exec) {own C : String} {index : Nat} {y : MethodName} {bytes : ByteArray} {maxL : Nat} {ret : Option FieldType}
    (hown : s.vm.findClass own = some m.cls) (hlink : (Cond.methodLink own index y).before args s = true) (hinst : (Cond.instanceMethod y).before args s = true) (hsel : (Cond.selects C y y).before args s = true)
    (hcode : (Cond.code y bytes maxL ret).before args s = true) (hy : y.cls ≠ "java/lang/invoke/MethodHandle" ∧ y.cls ≠ "java/lang/invoke/VarHandle")
    {W9 : Nat} {Pre : Pt → Array Value → Prop} {Post : Pt → Array Value → Option Value → Pt → Prop} {PostX : Pt → Array Value → Addr → Pt → Prop} (hK : vx_Back l R p e below s args y 3 W9 Pre Post PostX)
    {b : Addr} {cellB : Cell} (hcell : T.heap[b]? = some cellB) (hobj : cellB.vm.isStatics = false) (hcls : s.vm.findClass C = some cellB.cls)
    {g : JFrame} (hg : g.method = m) (hsize : g.locals.size = c.maxLocals) {argsL rest : List Value} (hlen : ∀ sig, parseMethodDescriptor y.desc = some sig → argsL.length = sig.parameters.length)
    (hstack : g.stack = argsL.reverse ++ .ref b :: rest) (hW : 2 * g.monitorRoom + (rest.map fun v => v.category).sum ≤ W9) (hdg : decode c.code g.pc = .ok (.invokevirtual index, 3))
    (hpre : ∀ vm₁, s.WarmedH vm₁ → Pre ⟨T.setVm vm₁, locs, cells, slots⟩ (Value.ref b :: argsL).toArray) :
    (∃ (v : Option Value) (vm₁ : Vm) (B : Pt), s.WarmedH vm₁ ∧ Stand p l e R s m args below meth c B.U B.locs B.cells B.slots ∧ Post ⟨T.setVm vm₁, locs, cells, slots⟩ (Value.ref b :: argsL).toArray v B ∧
      ∀ target, Steps p.tables e below (B.U.setTop { g with pc := g.pc + 3, stack := v.toList ++ rest }) target → Steps p.tables e below (T.setTop g) target) ∨
    (∃ (q : Addr) (vm₁ : Vm) (B : Pt), s.WarmedH vm₁ ∧ Stand p l e R s m args below meth c B.U B.locs B.cells B.slots ∧ PostX ⟨T.setVm vm₁, locs, cells, slots⟩ (Value.ref b :: argsL).toArray q B ∧
      Steps p.tables e below (T.setTop g) ((B.U.setTop { g with stack := rest }).pushFrame (.throwing q))) := by
  obtain ⟨mk, methM, hnamed, hmethM, hstM, habM⟩ := Cond.instanceMethod_spec hinst
  obtain ⟨methM', cM, hmethM', -, -, -, -, -, -, hsigM⟩ := Cond.code_spec hnamed hcode
  cases hmethM.symm.trans hmethM'
  obtain ⟨c2, r2, m2, q1, q2, q3, q4, kP, hkP, hkPi⟩ := Cond.selects_spec hsel
  cases hcls.symm.trans q1
  cases (State.methodFound?_of_named hnamed hy).symm.trans q2
  cases hnamed.symm.trans q3
  have hselP : selectMethod e.platform s.vm cellB.cls mk = .method mk := by rw [Launch.admits_selectMethod X.admits]; exact q4
  obtain ⟨vm₁, X₁, hstep₁⟩ := X.invokevirtual hexec hown hlink hnamed hmethM hstM hkP hkPi hy (a := b) (cell := cellB) hcell
    (fun z h => by rw [h] at hobj; cases hobj) hselP hmethM habM hkP hkPi (g := g) hg (argsL := argsL) (rest := rest) (hlen _ hsigM) hstack hdg
  rcases hK m meth c ⟨T.setVm vm₁, locs, cells, slots⟩ { g with stack := rest } (.invokevirtual index) mk (Value.ref b :: argsL).toArray X₁ hg hsize hdg hW (X₁.named hnamed) (hpre vm₁ X₁.warmed) with ⟨v, B, X', hpost, hsteps⟩ | ⟨q, B, X', hpost, hsteps⟩
  · exact Or.inl ⟨v, vm₁, B, X₁.warmed, X', hpost, fun target h => hstep₁ _ fun acts => by rw [doInvoke_state]; exact hsteps.trans h⟩
  · exact Or.inr ⟨q, vm₁, B, X₁.warmed, X', hpost, hstep₁ _ fun acts => by rw [doInvoke_state]; exact hsteps⟩
theorem vx_callS (X : Stand p l e R s m args below meth c T locs cells slots) (hexec : p.tables.exec = Jvm.exec) {own : String} {index : Nat} {y : MethodName} {bytes : ByteArray} {maxL : Nat} {ret : Option FieldType}
    (hown : s.vm.findClass own = some m.cls) (hlink : (Cond.methodLink own index y).before args s = true) (hstat : (Cond.static y).before args s = true) (hinit : (Cond.initialized y.cls).before args s = true)
    (hcode : (Cond.code y bytes maxL ret).before args s = true) (hy : y.cls ≠ "java/lang/invoke/MethodHandle" ∧ y.cls ≠ "java/lang/invoke/VarHandle")
    {W9 : Nat} {Pre : Pt → Array Value → Prop} {Post : Pt → Array Value → Option Value → Pt → Prop} {PostX : Pt → Array Value → Addr → Pt → Prop} (hK : vx_Back l R p e below s args y 3 W9 Pre Post PostX)
    {g : JFrame} (hg : g.method = m) (hsize : g.locals.size = c.maxLocals) {argsL rest : List Value} (hlen : ∀ sig, parseMethodDescriptor y.desc = some sig → argsL.length = sig.parameters.length)
    (hstack : g.stack = argsL.reverse ++ rest) (hW : 2 * g.monitorRoom + (rest.map fun v => v.category).sum ≤ W9) (hdg : decode c.code g.pc = .ok (.invokestatic index, 3))
    (hpre : ∀ vm₁, s.WarmedH vm₁ → Pre ⟨T.setVm vm₁, locs, cells, slots⟩ argsL.toArray) :
    (∃ (v : Option Value) (vm₁ : Vm) (B : Pt), s.WarmedH vm₁ ∧ Stand p l e R s m args below meth c B.U B.locs B.cells B.slots ∧ Post ⟨T.setVm vm₁, locs, cells, slots⟩ argsL.toArray v B ∧
      ∀ target, Steps p.tables e below (B.U.setTop { g with pc := g.pc + 3, stack := v.toList ++ rest }) target → Steps p.tables e below (T.setTop g) target) ∨
    (∃ (q : Addr) (vm₁ : Vm) (B : Pt), s.WarmedH vm₁ ∧ Stand p l e R s m args below meth c B.U B.locs B.cells B.slots ∧ PostX ⟨T.setVm vm₁, locs, cells, slots⟩ argsL.toArray q B ∧
      Steps p.tables e below (T.setTop g) ((B.U.setTop { g with stack := rest }).pushFrame (.throwing q))) := by
  obtain ⟨mk, hnamed⟩ := Cond.code_named hcode
  obtain ⟨methM, cM, hmethM, -, -, -, -, -, -, hsigM⟩ := Cond.code_spec hnamed hcode
  have hstatic : methM.isStatic = true := Cond.static_spec hnamed hmethM hstat
  obtain ⟨kP, hkP, -⟩ := className_of_methodNamed hnamed
  have hinitP : kP.init = .initialized := Cond.initialized_spec (findClass_of_methodNamed hnamed) hkP hinit
  obtain ⟨vm₁, X₁, hstep₁⟩ := X.invokestatic hexec hown hlink hnamed hmethM hstatic hkP hinitP hy (g := g) hg (argsL := argsL) (rest := rest) (hlen _ hsigM) hstack hdg
  rcases hK m meth c ⟨T.setVm vm₁, locs, cells, slots⟩ { g with stack := rest } (.invokestatic index) mk argsL.toArray X₁ hg hsize hdg hW (X₁.named hnamed) (hpre vm₁ X₁.warmed) with ⟨v, B, X', hpost, hsteps⟩ | ⟨q, B, X', hpost, hsteps⟩
  · exact Or.inl ⟨v, vm₁, B, X₁.warmed, X', hpost, fun target h => hstep₁ _ fun acts => by rw [doInvoke_state]; exact hsteps.trans h⟩
  · exact Or.inr ⟨q, vm₁, B, X₁.warmed, X', hpost, hstep₁ _ fun acts => by rw [doInvoke_state]; exact hsteps⟩
end Calls
theorem vx_cls {s : State} {T : State} {vm₁ : Vm} {E : String} {k : ClassId} (hW : s.WarmedH vm₁) (h : (T.setVm vm₁).vm.findClass E = some k) : s.vm.findClass E = some k := by
  have h1 : vm₁.findClass E = some k := h
  rw [hW.alike.findClass] at h1
  exact h1
/-- the method's frame g, with q thrown over it -/
def vx_W (p : Program) (l : Launch) (e : Env) (R : Room) (s : State) (m : MethodId) (args : Array Value) (below : List Frame) (meth : Method) (c : Code) (H : Heap) (locs : List Loc) (cells slots : Nat) (Q : State → Prop) (g : JFrame) (q : Addr) : Prop :=
  ∀ T : State, T.heap = H → Stand p l e R s m args below meth c T locs cells slots → ∃ t, Steps p.tables e below ((T.setTop g).pushFrame (.throwing q)) t ∧ Q t
def vx_Run (p : Program) (l : Launch) (e : Env) (R : Room) (s : State) (m : MethodId) (args : Array Value) (below : List Frame) (meth : Method) (c : Code) (H : Heap) (locs : List Loc) (cells slots mc ms : Nat) (g : JFrame) (rest : List Value) (Qa : State → Outcome → State → Prop) (XC : String → State → State → Prop) (free : Addr → Prop) : Prop :=
  ∀ T : State, T.heap = H → Stand p l e R s m args below meth c T locs cells slots →
    (∃ (v : Option Value) (st₀ t T' : State) (L : List Loc), st₀.heap = H ∧ Stand p l e R s m args below meth c T' (locs ++ L) (cells + mc) (slots + ms) ∧ (∀ q ∈ L, free q.base) ∧ T'.heap = t.heap ∧ T'.vm = t.vm ∧ Qa st₀ (.returned v) t ∧
      Goes p e below T g T' { g with pc := g.pc + 3, stack := v.toList ++ rest }) ∨
    (∃ (q : Addr) (st₀ t T' : State) (L : List Loc) (E : String) (ce : Cell), st₀.heap = H ∧ Stand p l e R s m args below meth c T' (locs ++ L) (cells + mc) (slots + ms) ∧ (∀ z ∈ L, free z.base) ∧ T'.heap = t.heap ∧ T'.vm = t.vm ∧ XC E st₀ t ∧ t.heap[q]? = some ce ∧ ce.vm = .none ∧ s.vm.findClass E = some ce.cls ∧
      Steps p.tables e below (T.setTop g) ((T'.setTop { g with stack := rest }).pushFrame (.throwing q)))
def vx_X {S : Type} (px : S → Prop) (B : String → S → State → Prop) (A : Nat → Prop) : String → State → State → Prop := fun E st t => ∃ u : S, px u ∧ B E u t ∧ va_F A st t
section Runs
variable {p : Program} {l : Launch} {e : Env} {R : Room} {s : State} {m : MethodId} {args : Array Value} {below : List Frame} {meth : Method} {c : Code} {H : Heap} {locs : List Loc} {cells slots : Nat}
variable {y : MethodName} {bytes cc : ByteArray} {maxL nL mc ms n index : Nat} {ret : Option FieldType} {ws : List Cond} {rm : Room} {Pc : Array Value → State → Prop} {Qc : Array Value → State → Outcome → State → Prop} {XC : String → State → State → Prop} {free : Addr → Prop} {Ts : List Cond} {own C : String} {b : Addr} {As rest : List Value} {g : JFrame}
theorem vx_callBack (cb : CallB R s args own index y bytes maxL ret ws rm mc ms n) (hM : vx_Met l y ws rm Pc Qc XC mc ms free) (hbl : FrameBlind Pc) : vx_Back l R p e below s args y 3 8 (PreOf R mc ms Pc) (PostOf Qc mc ms free) (vx_Post XC mc ms free) := by
  obtain ⟨hrc, hrs, hfr, hlo, hws, hcw, -, hini, -⟩ := cb
  exact vx_back (bytes := bytes) (maxL := maxL) (ret := ret) hM hbl hrc hrs hfr hlo hws hcw (fun a' U hW => word_at hW (Or.inl (by first | rfl | simp [Cond.onTables, Cond.keeps, Cond.steady])) hini)
theorem vx_runV (S : CallFix p m c cc nL s args Ts own) (hM : vx_Met l y ws rm Pc Qc XC mc ms free) (cw : CallW R s args own C index y bytes maxL ret ws rm mc ms n) (hp : PreV s H C b Pc As)
    (hg : g.method = m) (hn : As.length = n) (hsize : g.locals.size = nL) (hstack : g.stack = As.reverse ++ .ref b :: rest) (hW : 2 * g.monitorRoom + (rest.map fun v => v.category).sum ≤ 8) (hdg : decode cc g.pc = .ok (.invokevirtual index, 3)) (hf : cells + mc ≤ R.cells ∧ slots + ms ≤ R.slots) :
    vx_Run p l e R s m args below meth c H locs cells slots mc ms g rest (Qc (Value.ref b :: As).toArray) XC free := by
  have hK : vx_Back l R p e below s args y 3 8 (PreOf R mc ms Pc) (PostOf Qc mc ms free) (vx_Post XC mc ms free) := vx_callBack cw.1 hM hp.1
  obtain ⟨⟨-, -, -, -, -, -, hcode, -, hy, hlen, hl⟩, hin, hse⟩ := cw
  obtain ⟨hx, hb, hml, ho, -⟩ := S
  obtain ⟨-, ⟨cellB, hcB, hoB, hclB⟩, hPc⟩ := hp
  intro T hT X
  rcases vx_callV X hx (C := C) (bytes := bytes) (maxL := maxL) (ret := ret) ho hl hin hse hcode hy hK (by rw [hT]; exact hcB) hoB hclB hg (hsize.trans hml.symm) (argsL := As) (rest := rest) (fun sig h => hn.trans (hlen sig h)) hstack hW (by rw [hb]; exact hdg)
    (fun vm₁ hW₁ => ⟨hf.1, hf.2, hPc (T.setVm vm₁) hT hW₁⟩) with ⟨v, vm₁, ⟨U', l2, c2, s2⟩, hW₁, X', ⟨g', mk, t, L, e1, e2, hq, h1, hL, h2, h3⟩, st⟩ | ⟨q, vm₁, ⟨U', l2, c2, s2⟩, hW₁, X', ⟨g', mk, t, L, E, ce, e1, e2, hq, hce, hcv, hcl, h1, hL, h2, h3⟩, st⟩
  · dsimp only [Pt.U, Pt.locs, Pt.cells, Pt.slots] at X' e1 e2 h1 h2 h3 st
    subst h1; subst h2; subst h3
    exact Or.inl ⟨v, (T.setVm vm₁).calling g' mk (Value.ref b :: As).toArray, t, U', L, hT, X', hL, e1, e2, hq, st⟩
  · dsimp only [Pt.U, Pt.locs, Pt.cells, Pt.slots] at X' e1 e2 h1 h2 h3 st hcl
    subst h1; subst h2; subst h3
    exact Or.inr ⟨q, (T.setVm vm₁).calling g' mk (Value.ref b :: As).toArray, t, U', L, E, ce, hT, X', hL, e1, e2, hq, hce, hcv, vx_cls hW₁ hcl, st⟩
theorem vx_runS (S : CallFix p m c cc nL s args Ts own) (hM : vx_Met l y ws rm Pc Qc XC mc ms free) (cw : CallB R s args own index y bytes maxL ret ws rm mc ms n ∧ (Cond.static y).before args s = true) (hp : PreS s H Pc As)
    (hg : g.method = m) (hn : As.length = n) (hsize : g.locals.size = nL) (hstack : g.stack = As.reverse ++ rest) (hW : 2 * g.monitorRoom + (rest.map fun v => v.category).sum ≤ 8) (hdg : decode cc g.pc = .ok (.invokestatic index, 3)) (hf : cells + mc ≤ R.cells ∧ slots + ms ≤ R.slots) :
    vx_Run p l e R s m args below meth c H locs cells slots mc ms g rest (Qc As.toArray) XC free := by
  have hK : vx_Back l R p e below s args y 3 8 (PreOf R mc ms Pc) (PostOf Qc mc ms free) (vx_Post XC mc ms free) := vx_callBack cw.1 hM hp.1
  obtain ⟨⟨-, -, -, -, -, -, hcode, hini, hy, hlen, hl⟩, hstt⟩ := cw
  obtain ⟨hx, hb, hml, ho, -⟩ := S
  intro T hT X
  rcases vx_callS X hx (bytes := bytes) (maxL := maxL) (ret := ret) ho hl hstt hini hcode hy hK hg (hsize.trans hml.symm) (argsL := As) (rest := rest) (fun sig h => hn.trans (hlen sig h)) hstack hW (by rw [hb]; exact hdg)
    (fun vm₁ hW₁ => ⟨hf.1, hf.2, hp.2 (T.setVm vm₁) hT hW₁⟩) with ⟨v, vm₁, ⟨U', l2, c2, s2⟩, hW₁, X', ⟨g', mk, t, L, e1, e2, hq, h1, hL, h2, h3⟩, st⟩ | ⟨q, vm₁, ⟨U', l2, c2, s2⟩, hW₁, X', ⟨g', mk, t, L, E, ce, e1, e2, hq, hce, hcv, hcl, h1, hL, h2, h3⟩, st⟩
  · dsimp only [Pt.U, Pt.locs, Pt.cells, Pt.slots] at X' e1 e2 h1 h2 h3 st
    subst h1; subst h2; subst h3
    exact Or.inl ⟨v, (T.setVm vm₁).calling g' mk As.toArray, t, U', L, hT, X', hL, e1, e2, hq, st⟩
  · dsimp only [Pt.U, Pt.locs, Pt.cells, Pt.slots] at X' e1 e2 h1 h2 h3 st hcl
    subst h1; subst h2; subst h3
    exact Or.inr ⟨q, (T.setVm vm₁).calling g' mk As.toArray, t, U', L, E, ce, hT, X', hL, e1, e2, hq, hce, hcv, vx_cls hW₁ hcl, st⟩
end Runs
section Rows
variable {p : Program} {l : Launch} {e : Env} {R : Room} {s : State} {m : MethodId} {args : Array Value} {below : List Frame} {meth : Method} {c : Code} {H : Heap} {locs : List Loc} {cells slots : Nat} {Q : State → Prop}
variable {mc ms : Nat} {free : Addr → Prop} {A0 A1 : Nat → Prop} {H0 : Heap} {a : Array Value} {pc : Nat} {ls : Array Slot} {st0 rest : List Value}
theorem vx_keep {st₀ t T' : State} {L : List Loc} (h0 : st₀.heap = H) (e1 : T'.heap = t.heap) (hS : va_S A0 H0 H locs) (hA : ∀ q, q < H.size → A1 q → A0 q) (hf : ∀ q, free q → A0 q) (hL : ∀ q ∈ L, free q.base) (hF : va_F A1 st₀ t) :
    H.size ≤ T'.heap.size ∧ (∀ q : Nat, q < H.size → ¬ A1 q → T'.heap[q]? = H[q]?) ∧ va_S A0 H0 T'.heap (locs ++ L) := by
  obtain ⟨hz, hk⟩ := hF
  rw [h0] at hz hk
  exact ⟨by rw [e1]; exact hz, fun q h1 h2 => by rw [e1]; exact hk q h1 h2,
    ⟨Nat.le_trans hS.1 (by rw [e1]; exact hz), fun q h1 h2 => by rw [e1, hk q (Nat.lt_of_lt_of_le h1 hS.1) (fun z => h2 (hA q (Nat.lt_of_lt_of_le h1 hS.1) z))]; exact hS.2.1 q h1 h2, fun q hq => by
      rcases List.mem_append.mp hq with h | h
      · exact hS.2.2 q h
      · exact hf _ (hL q h)⟩⟩
theorem vx_calli {S SX : Type} {post : Int32 → S → Prop} {px : SX → Prop} {B : S → State → Prop} {BX : String → SX → State → Prop} {AX : Nat → Prop} (hr : vx_Run p l e R s m args below meth c H locs cells slots mc ms (F0 m pc ls st0) rest (va_Qi post B A1 a) (vx_X px BX AX) free) (hS : va_S A0 H0 H locs) (hA : ∀ q, q < H.size → A1 q → A0 q) (hf : ∀ q, free q → A0 q) (hAX : ∀ q, q < H.size → AX q → A0 q)
    (kx : ∀ (E : String) (ce : Cell) (q9 : Addr) (u : SX) (t : State) (H1 : Heap) (locs1 : List Loc), t.heap = H1 → s.vm.Alike t.vm → px u → BX E u t → H.size ≤ H1.size → (∀ q : Nat, q < H.size → ¬ AX q → H1[q]? = H[q]?) → va_S A0 H0 H1 locs1 → H1[q9]? = some ce → ce.vm = .none → s.vm.findClass E = some ce.cls → vx_W p l e R s m args below meth c H1 locs1 (cells + mc) (slots + ms) Q (F0 m pc ls rest) q9)
    (kk : ∀ (r : Int32) (u : S) (t : State) (H1 : Heap) (locs1 : List Loc), t.heap = H1 → s.vm.Alike t.vm → post r u → B u t → H.size ≤ H1.size → (∀ q : Nat, q < H.size → ¬ A1 q → H1[q]? = H[q]?) → va_S A0 H0 H1 locs1 → W p l e R s m args below meth c H1 locs1 (cells + mc) (slots + ms) Q (F0 m (pc + 3) ls (.int r :: rest))) : W p l e R s m args below meth c H locs cells slots Q (F0 m pc ls st0) := by
  intro T hT X
  rcases hr T hT X with ⟨v, st₀, t, T', L, h0, X', hL, e1, e2, ⟨⟨r, u, hv, hp, hb⟩, hF⟩, st⟩ | ⟨q, st₀, t, T', L, E, ce, h0, X', hL, e1, e2, ⟨u, hp, hb, hF⟩, hce, hcv, hcl, st⟩
  · cases hv
    obtain ⟨k1, k2, k3⟩ := vx_keep h0 e1 hS hA hf hL hF
    obtain ⟨t2, a1, b1⟩ := kk r u t T'.heap (locs ++ L) e1.symm (by rw [← e2]; exact X'.warmed.alike) hp hb k1 k2 k3 T' rfl X'
    exact ⟨t2, st t2 a1, b1⟩
  · obtain ⟨k1, k2, k3⟩ := vx_keep h0 e1 hS hAX hf hL hF
    obtain ⟨t2, a1, b1⟩ := kx E ce q u t T'.heap (locs ++ L) e1.symm (by rw [← e2]; exact X'.warmed.alike) hp hb k1 k2 k3 (by rw [e1]; exact hce) hcv hcl T' rfl X'
    exact ⟨t2, st.trans a1, b1⟩
theorem vx_calll {S SX : Type} {post : Int64 → S → Prop} {px : SX → Prop} {B : S → State → Prop} {BX : String → SX → State → Prop} {AX : Nat → Prop} (hr : vx_Run p l e R s m args below meth c H locs cells slots mc ms (F0 m pc ls st0) rest (va_Ql post B A1 a) (vx_X px BX AX) free) (hS : va_S A0 H0 H locs) (hA : ∀ q, q < H.size → A1 q → A0 q) (hf : ∀ q, free q → A0 q) (hAX : ∀ q, q < H.size → AX q → A0 q)
    (kx : ∀ (E : String) (ce : Cell) (q9 : Addr) (u : SX) (t : State) (H1 : Heap) (locs1 : List Loc), t.heap = H1 → s.vm.Alike t.vm → px u → BX E u t → H.size ≤ H1.size → (∀ q : Nat, q < H.size → ¬ AX q → H1[q]? = H[q]?) → va_S A0 H0 H1 locs1 → H1[q9]? = some ce → ce.vm = .none → s.vm.findClass E = some ce.cls → vx_W p l e R s m args below meth c H1 locs1 (cells + mc) (slots + ms) Q (F0 m pc ls rest) q9)
    (kk : ∀ (r : Int64) (u : S) (t : State) (H1 : Heap) (locs1 : List Loc), t.heap = H1 → s.vm.Alike t.vm → post r u → B u t → H.size ≤ H1.size → (∀ q : Nat, q < H.size → ¬ A1 q → H1[q]? = H[q]?) → va_S A0 H0 H1 locs1 → W p l e R s m args below meth c H1 locs1 (cells + mc) (slots + ms) Q (F0 m (pc + 3) ls (.long r :: rest))) : W p l e R s m args below meth c H locs cells slots Q (F0 m pc ls st0) := by
  intro T hT X
  rcases hr T hT X with ⟨v, st₀, t, T', L, h0, X', hL, e1, e2, ⟨⟨r, u, hv, hp, hb⟩, hF⟩, st⟩ | ⟨q, st₀, t, T', L, E, ce, h0, X', hL, e1, e2, ⟨u, hp, hb, hF⟩, hce, hcv, hcl, st⟩
  · cases hv
    obtain ⟨k1, k2, k3⟩ := vx_keep h0 e1 hS hA hf hL hF
    obtain ⟨t2, a1, b1⟩ := kk r u t T'.heap (locs ++ L) e1.symm (by rw [← e2]; exact X'.warmed.alike) hp hb k1 k2 k3 T' rfl X'
    exact ⟨t2, st t2 a1, b1⟩
  · obtain ⟨k1, k2, k3⟩ := vx_keep h0 e1 hS hAX hf hL hF
    obtain ⟨t2, a1, b1⟩ := kx E ce q u t T'.heap (locs ++ L) e1.symm (by rw [← e2]; exact X'.warmed.alike) hp hb k1 k2 k3 (by rw [e1]; exact hce) hcv hcl T' rfl X'
    exact ⟨t2, st.trans a1, b1⟩
theorem vx_callf {S SX : Type} {post : UInt32 → S → Prop} {px : SX → Prop} {B : S → State → Prop} {BX : String → SX → State → Prop} {AX : Nat → Prop} (hr : vx_Run p l e R s m args below meth c H locs cells slots mc ms (F0 m pc ls st0) rest (va_Qf post B A1 a) (vx_X px BX AX) free) (hS : va_S A0 H0 H locs) (hA : ∀ q, q < H.size → A1 q → A0 q) (hf : ∀ q, free q → A0 q) (hAX : ∀ q, q < H.size → AX q → A0 q)
    (kx : ∀ (E : String) (ce : Cell) (q9 : Addr) (u : SX) (t : State) (H1 : Heap) (locs1 : List Loc), t.heap = H1 → s.vm.Alike t.vm → px u → BX E u t → H.size ≤ H1.size → (∀ q : Nat, q < H.size → ¬ AX q → H1[q]? = H[q]?) → va_S A0 H0 H1 locs1 → H1[q9]? = some ce → ce.vm = .none → s.vm.findClass E = some ce.cls → vx_W p l e R s m args below meth c H1 locs1 (cells + mc) (slots + ms) Q (F0 m pc ls rest) q9)
    (kk : ∀ (r : UInt32) (u : S) (t : State) (H1 : Heap) (locs1 : List Loc), t.heap = H1 → s.vm.Alike t.vm → post r u → B u t → H.size ≤ H1.size → (∀ q : Nat, q < H.size → ¬ A1 q → H1[q]? = H[q]?) → va_S A0 H0 H1 locs1 → W p l e R s m args below meth c H1 locs1 (cells + mc) (slots + ms) Q (F0 m (pc + 3) ls (.float r :: rest))) : W p l e R s m args below meth c H locs cells slots Q (F0 m pc ls st0) := by
  intro T hT X
  rcases hr T hT X with ⟨v, st₀, t, T', L, h0, X', hL, e1, e2, ⟨⟨r, u, hv, hp, hb⟩, hF⟩, st⟩ | ⟨q, st₀, t, T', L, E, ce, h0, X', hL, e1, e2, ⟨u, hp, hb, hF⟩, hce, hcv, hcl, st⟩
  · cases hv
    obtain ⟨k1, k2, k3⟩ := vx_keep h0 e1 hS hA hf hL hF
    obtain ⟨t2, a1, b1⟩ := kk r u t T'.heap (locs ++ L) e1.symm (by rw [← e2]; exact X'.warmed.alike) hp hb k1 k2 k3 T' rfl X'
    exact ⟨t2, st t2 a1, b1⟩
  · obtain ⟨k1, k2, k3⟩ := vx_keep h0 e1 hS hAX hf hL hF
    obtain ⟨t2, a1, b1⟩ := kx E ce q u t T'.heap (locs ++ L) e1.symm (by rw [← e2]; exact X'.warmed.alike) hp hb k1 k2 k3 (by rw [e1]; exact hce) hcv hcl T' rfl X'
    exact ⟨t2, st.trans a1, b1⟩
theorem vx_calld {S SX : Type} {post : UInt64 → S → Prop} {px : SX → Prop} {B : S → State → Prop} {BX : String → SX → State → Prop} {AX : Nat → Prop} (hr : vx_Run p l e R s m args below meth c H locs cells slots mc ms (F0 m pc ls st0) rest (va_Qd post B A1 a) (vx_X px BX AX) free) (hS : va_S A0 H0 H locs) (hA : ∀ q, q < H.size → A1 q → A0 q) (hf : ∀ q, free q → A0 q) (hAX : ∀ q, q < H.size → AX q → A0 q)
    (kx : ∀ (E : String) (ce : Cell) (q9 : Addr) (u : SX) (t : State) (H1 : Heap) (locs1 : List Loc), t.heap = H1 → s.vm.Alike t.vm → px u → BX E u t → H.size ≤ H1.size → (∀ q : Nat, q < H.size → ¬ AX q → H1[q]? = H[q]?) → va_S A0 H0 H1 locs1 → H1[q9]? = some ce → ce.vm = .none → s.vm.findClass E = some ce.cls → vx_W p l e R s m args below meth c H1 locs1 (cells + mc) (slots + ms) Q (F0 m pc ls rest) q9)
    (kk : ∀ (r : UInt64) (u : S) (t : State) (H1 : Heap) (locs1 : List Loc), t.heap = H1 → s.vm.Alike t.vm → post r u → B u t → H.size ≤ H1.size → (∀ q : Nat, q < H.size → ¬ A1 q → H1[q]? = H[q]?) → va_S A0 H0 H1 locs1 → W p l e R s m args below meth c H1 locs1 (cells + mc) (slots + ms) Q (F0 m (pc + 3) ls (.double r :: rest))) : W p l e R s m args below meth c H locs cells slots Q (F0 m pc ls st0) := by
  intro T hT X
  rcases hr T hT X with ⟨v, st₀, t, T', L, h0, X', hL, e1, e2, ⟨⟨r, u, hv, hp, hb⟩, hF⟩, st⟩ | ⟨q, st₀, t, T', L, E, ce, h0, X', hL, e1, e2, ⟨u, hp, hb, hF⟩, hce, hcv, hcl, st⟩
  · cases hv
    obtain ⟨k1, k2, k3⟩ := vx_keep h0 e1 hS hA hf hL hF
    obtain ⟨t2, a1, b1⟩ := kk r u t T'.heap (locs ++ L) e1.symm (by rw [← e2]; exact X'.warmed.alike) hp hb k1 k2 k3 T' rfl X'
    exact ⟨t2, st t2 a1, b1⟩
  · obtain ⟨k1, k2, k3⟩ := vx_keep h0 e1 hS hAX hf hL hF
    obtain ⟨t2, a1, b1⟩ := kx E ce q u t T'.heap (locs ++ L) e1.symm (by rw [← e2]; exact X'.warmed.alike) hp hb k1 k2 k3 (by rw [e1]; exact hce) hcv hcl T' rfl X'
    exact ⟨t2, st.trans a1, b1⟩
theorem vx_callv {S SX : Type} {post : S → Prop} {px : SX → Prop} {B : S → State → Prop} {BX : String → SX → State → Prop} {AX : Nat → Prop} (hr : vx_Run p l e R s m args below meth c H locs cells slots mc ms (F0 m pc ls st0) rest (va_Qv post B A1 a) (vx_X px BX AX) free) (hS : va_S A0 H0 H locs) (hA : ∀ q, q < H.size → A1 q → A0 q) (hf : ∀ q, free q → A0 q) (hAX : ∀ q, q < H.size → AX q → A0 q)
    (kx : ∀ (E : String) (ce : Cell) (q9 : Addr) (u : SX) (t : State) (H1 : Heap) (locs1 : List Loc), t.heap = H1 → s.vm.Alike t.vm → px u → BX E u t → H.size ≤ H1.size → (∀ q : Nat, q < H.size → ¬ AX q → H1[q]? = H[q]?) → va_S A0 H0 H1 locs1 → H1[q9]? = some ce → ce.vm = .none → s.vm.findClass E = some ce.cls → vx_W p l e R s m args below meth c H1 locs1 (cells + mc) (slots + ms) Q (F0 m pc ls rest) q9)
    (kk : ∀ (u : S) (t : State) (H1 : Heap) (locs1 : List Loc), t.heap = H1 → s.vm.Alike t.vm → post u → B u t → H.size ≤ H1.size → (∀ q : Nat, q < H.size → ¬ A1 q → H1[q]? = H[q]?) → va_S A0 H0 H1 locs1 → W p l e R s m args below meth c H1 locs1 (cells + mc) (slots + ms) Q (F0 m (pc + 3) ls (rest))) : W p l e R s m args below meth c H locs cells slots Q (F0 m pc ls st0) := by
  intro T hT X
  rcases hr T hT X with ⟨v, st₀, t, T', L, h0, X', hL, e1, e2, ⟨⟨u, hv, hp, hb⟩, hF⟩, st⟩ | ⟨q, st₀, t, T', L, E, ce, h0, X', hL, e1, e2, ⟨u, hp, hb, hF⟩, hce, hcv, hcl, st⟩
  · cases hv
    obtain ⟨k1, k2, k3⟩ := vx_keep h0 e1 hS hA hf hL hF
    obtain ⟨t2, a1, b1⟩ := kk u t T'.heap (locs ++ L) e1.symm (by rw [← e2]; exact X'.warmed.alike) hp hb k1 k2 k3 T' rfl X'
    exact ⟨t2, st t2 a1, b1⟩
  · obtain ⟨k1, k2, k3⟩ := vx_keep h0 e1 hS hAX hf hL hF
    obtain ⟨t2, a1, b1⟩ := kx E ce q u t T'.heap (locs ++ L) e1.symm (by rw [← e2]; exact X'.warmed.alike) hp hb k1 k2 k3 (by rw [e1]; exact hce) hcv hcl T' rfl X'
    exact ⟨t2, st.trans a1, b1⟩
/-- caught by the row x of this method's table; the rows ahead don't take it -/
theorem vx_catch {own name : String} {E : String} {ce : Cell} {q : Addr} (hown : s.vm.findClass own = some m.cls) (pre : List ExceptionTableEntry) (x : ExceptionTableEntry) (suf : List ExceptionTableEntry) (hsplit : c.exceptionTable.toList = pre ++ x :: suf)
    (hpass : ∀ z ∈ pre, covers z pc = false ∨ (z.catchType ≠ 0 ∧ ∃ nm : String, (Cond.classLink own z.catchType nm).before args s = true ∧ va_Nc E nm s)) (hx : covers x pc = true) (h0 : x.catchType ≠ 0)
    (hlink : (Cond.classLink own x.catchType name).before args s = true) (hcast : (Cond.castable E name).before args s = true) (hcell : H[q]? = some ce) (hv : ce.vm = .none) (hcl : s.vm.findClass E = some ce.cls)
    (kk : W p l e R s m args below meth c H locs cells slots Q (F0 m x.handlerPc ls [.ref q])) : vx_W p l e R s m args below meth c H locs cells slots Q (F0 m pc ls rest) q := by
  intro T hT X
  have hpl : e.platform.magicAccessors = ({} : Platform).magicAccessors := by rw [X.admits.platform]
  obtain ⟨c3, c4, hc3, hc4, hasg⟩ := Cond.castable_spec hcast
  cases Option.some.inj (hc3.symm.trans hcl)
  obtain ⟨c5, hc5, hcl5⟩ := Cond.classLink_spec hown hlink e.platform hpl
  cases Option.some.inj (hc4.symm.trans hc5)
  obtain ⟨vm', X', st⟩ := X.thenCaughtThrough q (g := F0 m pc ls rest) rfl (Steps.refl _) (by rw [hT]; exact hcell) (by rw [hv]; rfl) (by obtain ⟨k9, h9, -⟩ := Vm.findClass_spec hcl; exact ⟨k9, h9⟩) pre x suf hsplit
    (fun z hz => by
      rcases hpass z hz with h | ⟨hz0, nm, hl1, hn1⟩
      · exact Or.inl h
      · obtain ⟨c6, hc6, hcl6⟩ := Cond.classLink_spec hown hl1 e.platform hpl
        obtain ⟨a8, b8, h1, h2, h3⟩ := hn1
        cases Option.some.inj (h1.symm.trans hcl)
        cases Option.some.inj (h2.symm.trans hc6)
        exact Or.inr ⟨hz0, _, hcl6, h3⟩) hx (Or.inr ⟨h0, c4, hcl5, hasg⟩)
  obtain ⟨t, a1, b1⟩ := kk (T.setVm vm') hT X'
  exact ⟨t, st.trans a1, b1⟩
end Rows
section Ends
variable {p : Program} {l : Launch} {e : Env} {R : Room} {s : State} {m : MethodId} {args : Array Value} {below : List Frame} {meth : Method} {c : Code} {H : Heap} {locs : List Loc} {cells slots : Nat} {Q : State → Prop}
variable {mc ms : Nat} {free : Addr → Prop} {A0 A1 : Nat → Prop} {H0 : Heap} {a : Array Value} {ls : Array Slot} {st0 rest : List Value}
variable {Qc : Array Value → State → Outcome → State → Prop} {XC : String → State → State → Prop}
/-- what a body that may throw owes at its end -/
def vx_MQ (below : List Frame) (Qc : Array Value → State → Outcome → State → Prop) (XC : String → State → State → Prop) (a : Array Value) (s : State) (mc ms : Nat) (free : Addr → Prop) : State → Prop := fun t =>
  ∃ o, t.status = .running ∧ Ended t below o ∧ vx_Q Qc XC mc ms free a s o t
theorem vx_ret {g : JFrame} {mc ms : Nat} (k : W p l e R s m args below meth c H locs cells slots (MQ below Qc args s mc ms free) g) : W p l e R s m args below meth c H locs cells slots (vx_MQ below Qc XC args s mc ms free) g := by
  intro T hT X
  obtain ⟨t, a1, o, b1, b2, b3, b4⟩ := k T hT X
  exact ⟨t, a1, o, b1, b2, Or.inl ⟨b3, b4⟩⟩
/-- not caught here: it goes on to the caller -/
theorem vx_widen {g : JFrame} {q : Addr} {k n : Nat} (h1 : cells ≤ k) (h2 : slots ≤ n) (kk : vx_W p l e R s m args below meth c H locs k n Q g q) : vx_W p l e R s m args below meth c H locs cells slots Q g q := fun T hT X => kk T hT (stand_widen X h1 h2)
theorem vx_out {pc : Nat} {E : String} {ce : Cell} {q : Addr} {mc ms : Nat} (hout : ∀ x ∈ c.exceptionTable.toList, covers x pc = false) (hlocks : meth.locks = false) (hcell : H[q]? = some ce) (hv : ce.vm = .none) (hcl : s.vm.findClass E = some ce.cls)
    (hx : ∀ t : State, t.heap = H → s.vm.Alike t.vm → XC E s t) (hf : ∀ z ∈ locs, free z.base) (hc : cells ≤ mc) (hs : slots ≤ ms) :
    vx_W p l e R s m args below meth c H locs cells slots (vx_MQ below Qc XC args s mc ms free) (F0 m pc ls rest) q := by
  intro T hT X
  obtain ⟨st1, hrun, hend, hW, hsm⟩ := X.leaveThrown q (g := F0 m pc ls rest) rfl rfl rfl hout hlocks
  have hcell9 : (T.setFrames (.throwing q :: below)).heap[q]? = some ce := by
    show T.heap[q]? = some ce
    rw [hT]; exact hcell
  exact ⟨_, st1, .threw q, hrun, hend, Or.inr ⟨q, rfl, E, ce, locs, hx _ hT hW.alike, hcell9, hv, hcl, hW, hsm.mono hc hs, hf⟩⟩
theorem vx_frame {U : State} {k n : Nat} (h : s.sameButNew ({ U with vm := s.vm } : State) locs k n) : s.heap.size ≤ U.heap.size ∧ ∀ q : Nat, q < s.heap.size → (∀ z ∈ locs, z.base ≠ q) → U.heap[q]? = s.heap[q]? := by
  obtain ⟨-, h2, -, -, -, h6⟩ := h
  refine ⟨h2, fun q hq hz => ?_⟩
  obtain ⟨c9, e1, e2, e3, e4⟩ := h6 q _ (Array.getElem?_eq_getElem hq)
  have hs : c9.slots = (s.heap[q]).slots := Array.ext_getElem? fun i => e4 i fun hm => hz _ hm rfl
  have h9 : c9 = s.heap[q] := by
    rw [hs] at e2
    exact e2
  have e5 : U.heap[q]? = some c9 := e1
  rw [e5, h9, Array.getElem?_eq_getElem hq]
/-- the words of a throw but the four that speak of the heap -/
def vx_no (w : Cond) : Bool := decide (w ≠ .isRef (.static Bundle.tN "UNASSIGNED_STACK" Bundle.steD)) && decide (w ≠ .isRef (.static Bundle.tN "SUPPRESSED_SENTINEL" Bundle.listD)) && decide (w ≠ .laysStatic Bundle.tN "UNASSIGNED_STACK" Bundle.steD) && decide (w ≠ .laysStatic Bundle.tN "SUPPRESSED_SENTINEL" Bundle.listD)
def vx_at0 (own : String) (ic : Nat) (X : String) (names : List String) : List Cond := (Bundle.ownAtoms0 own ic X names).filter vx_no
def vx_atS (own : String) (ic : Nat) (X : String) (names : List String) : List Cond := (Bundle.ownAtoms own ic X names).filter vx_no
/-- a word that the tables alone decide, or a good one -/
def vx_ot (w : Cond) : Bool := w.onTables || goodWord w
theorem vx_ot_at {args a' : Array Value} {s U : State} {w : Cond} (hW : s.WarmedH U.vm) (hvm : s.vm = U.vm) (hg : vx_ot w = true) (h : w.before args s = true) : w.before a' U = true := by
  simp only [vx_ot, Bool.or_eq_true] at hg
  rcases hg with hg | hg
  · exact va_tabs hg hvm h
  · exact word_at hW (good_of_word hg) h
/-- a list's words: the good ones out of the method's own list, the others by premises of their own -/
theorem vx_hat {args : Array Value} {s : State} {L B : List Cond} (h1 : ∀ w ∈ L.filter goodWord, w.before args s = true) (h2 : ∀ w ∈ L.filter (fun w => !goodWord w), w ∈ B) (h3 : ∀ w ∈ B, w.before args s = true) : ∀ w ∈ L, w.before args s = true := by
  intro w hw
  by_cases g : goodWord w = true
  · exact h1 w (List.mem_filter.mpr ⟨hw, g⟩)
  · refine h3 w (h2 w (List.mem_filter.mpr ⟨hw, ?_⟩))
    show (!goodWord w) = true
    cases hgw : goodWord w
    · rfl
    · exact absurd hgw g
theorem vx_c {args : Array Value} {s : State} {w : Cond} {B : List Cond} (h : w.before args s = true) (t : ∀ w ∈ B, w.before args s = true) : ∀ w' ∈ w :: B, w'.before args s = true := fun w' h' => (List.mem_cons.mp h').elim (fun e => by rw [e]; exact h) (t w')
theorem vx_n {args : Array Value} {s : State} : ∀ w ∈ ([] : List Cond), w.before args s = true := fun _ h => nomatch h
theorem vx_own {args : Array Value} {s : State} {L : List Cond} (h1 : ∀ w ∈ L.filter vx_no, w.before args s = true)
    (hU : (Cond.isRef (.static Bundle.tN "UNASSIGNED_STACK" Bundle.steD)).before args s = true) (hN : (Cond.isRef (.static Bundle.tN "SUPPRESSED_SENTINEL" Bundle.listD)).before args s = true)
    (lU : (Cond.laysStatic Bundle.tN "UNASSIGNED_STACK" Bundle.steD).before args s = true) (lN : (Cond.laysStatic Bundle.tN "SUPPRESSED_SENTINEL" Bundle.listD).before args s = true) : ∀ w ∈ L, w.before args s = true := by
  intro w hw
  by_cases e1 : w = .isRef (.static Bundle.tN "UNASSIGNED_STACK" Bundle.steD)
  · rw [e1]; exact hU
  · by_cases e2 : w = .isRef (.static Bundle.tN "SUPPRESSED_SENTINEL" Bundle.listD)
    · rw [e2]; exact hN
    · by_cases e3 : w = .laysStatic Bundle.tN "UNASSIGNED_STACK" Bundle.steD
      · rw [e3]; exact lU
      · by_cases e4 : w = .laysStatic Bundle.tN "SUPPRESSED_SENTINEL" Bundle.listD
        · rw [e4]; exact lN
        · exact h1 w (List.mem_filter.mpr ⟨hw, by unfold vx_no; rw [decide_eq_true e1, decide_eq_true e2, decide_eq_true e3, decide_eq_true e4]; rfl⟩)
/-- where a static field lies, its class's statics cell in H -/
def vx_L (C n d : String) (A : Nat → Prop) (U : State) (H : Heap) : Prop := ∃ (c : ClassId) (k : Class) (i : Nat) (f : Field) (a : Nat) (cell : Cell), U.vm.findClass C = some c ∧ U.fieldFound? C n d = some (c, k, i, f) ∧ f.isStatic = true ∧ k.statics = some a ∧ H[a]? = some cell ∧ cell.vm.isStatics = true ∧ cell.cls = c ∧ f.slot < cell.slots.size ∧ k.staticTypes[f.slot]? = some f.type ∧ ¬ A a
theorem vx_L.moved {C n d : String} {A : Nat → Prop} {u U : State} {H : Heap} (hvm : u.vm.Alike U.vm) (h : vx_L C n d A u H) : vx_L C n d A U H := by
  obtain ⟨c, k, i, f, a, cell, h1, h2, h3, h4, h5, h6, h7, h8, h9, h10⟩ := h
  obtain ⟨k', hi', he⟩ := State.fieldFound?_setVm hvm h2
  exact ⟨c, k', i, f, a, cell, by rw [hvm.findClass]; exact h1, hi', h3, by rw [he]; exact h4, h5, h6, h7, h8, by rw [he]; exact h9, h10⟩
theorem vx_L.kept {C n d : String} {A : Nat → Prop} {U : State} {H H1 : Heap} (h : vx_L C n d A U H) (hq : ∀ a : Nat, a < H.size → ¬ A a → H1[a]? = H[a]?) : vx_L C n d A U H1 := by
  obtain ⟨c, k, i, f, a, cell, h1, h2, h3, h4, h5, h6, h7, h8, h9, h10⟩ := h
  exact ⟨c, k, i, f, a, cell, h1, h2, h3, h4, by rw [hq a (Array.getElem?_eq_some_iff.mp h5).1 h10]; exact h5, h6, h7, h8, h9, h10⟩
theorem vx_L.narrow {C n d : String} {A B : Nat → Prop} {U : State} {H : Heap} (h : vx_L C n d A U H) (hAB : ∀ q, B q → A q) : vx_L C n d B U H := by
  obtain ⟨c, k, i, f, a, cell, h1, h2, h3, h4, h5, h6, h7, h8, h9, h10⟩ := h
  exact ⟨c, k, i, f, a, cell, h1, h2, h3, h4, h5, h6, h7, h8, h9, fun z => h10 (hAB _ z)⟩
theorem vx_L.word {C n d : String} {A : Nat → Prop} {s : State} {args : Array Value} (h : vx_L C n d A s s.heap) : (Cond.laysStatic C n d).before args s = true := by
  obtain ⟨c, k, i, f, a, cell, h1, h2, h3, h4, h5, h6, h7, h8, h9, -⟩ := h
  show (Cond.laysStatic C n d).holds args s none s [] = true
  exact Cond.laysStatic_of h1 h2 h3 h4 h5 h6 h7 h8 h9
/-- .. and what it holds: null or some reference -/
def vx_Zq (C n d : String) (A : Nat → Prop) (U : State) (H : Heap) : Prop := va_Zq C n d A U H ∧ vx_L C n d A U H
theorem vx_Zq.moved {C n d : String} {A : Nat → Prop} {u U : State} {H : Heap} (hvm : u.vm.Alike U.vm) (h : vx_Zq C n d A u H) : vx_Zq C n d A U H := ⟨va_Zq.moved hvm h.1, vx_L.moved hvm h.2⟩
theorem vx_Zq.kept {C n d : String} {A : Nat → Prop} {U : State} {H H1 : Heap} (h : vx_Zq C n d A U H) (hq : ∀ a : Nat, a < H.size → ¬ A a → H1[a]? = H[a]?) : vx_Zq C n d A U H1 := ⟨va_Zq.kept h.1 hq, vx_L.kept h.2 hq⟩
theorem vx_Zq.narrow {C n d : String} {A B : Nat → Prop} {U : State} {H : Heap} (h : vx_Zq C n d A U H) (hAB : ∀ q, B q → A q) : vx_Zq C n d B U H := ⟨va_Zq.narrow h.1 hAB, vx_L.narrow h.2 hAB⟩
theorem vx_Zqof {args : Array Value} {s : State} {C n d : String} {A : Nat → Prop} (hl : (Cond.laysStatic C n d).before args s = true) (hini : (Cond.initialized C).before args s = true) (h : (Cond.isRef (.static C n d)).before args s = true) (hA : ∀ a : Nat, a < s.heap.size → ¬ A a) : vx_Zq C n d A s s.heap := by
  refine ⟨va_Zqof hl hini h hA, ?_⟩
  obtain ⟨c, k, i, f, a, cell, h1, h2, h3, h4, h5, h6, h7, h8, h9⟩ := Cond.laysStatic_spec hl
  exact ⟨c, k, i, f, a, cell, h1, h2, h3, h4, h5, h6, h7, h8, h9, hA a (Array.getElem?_eq_some_iff.mp h5).1⟩
theorem vx_isRef {C n d : String} {v : Value} {A : Nat → Prop} {s : State} {args : Array Value} (h : va_Z C n d v A s s.heap) (hv : v.isRef = true) : (Cond.isRef (.static C n d)).before args s = true := by
  obtain ⟨cf, kf, fi, f, a, cell, h1, h2, h3, h4, h5, h6, h7, -⟩ := h
  have he : (Term.static C n d).eval args s none [] s = some v := by
    simp [Term.eval, State.fieldNamed?, h1, h2, h4, h5, h6, h7]
  simp only [Cond.before, Cond.holds, Cond.value, he]
  cases v <;> simp_all [Value.isRef]
theorem vx_isRefq {C n d : String} {A : Nat → Prop} {s : State} {args : Array Value} (h : va_Zq C n d A s s.heap) : (Cond.isRef (.static C n d)).before args s = true := by
  rcases h with h | ⟨t, h⟩
  · exact vx_isRef h rfl
  · exact vx_isRef h rfl
/-- the same frame, seen from here: as if the method were called anew in this heap -/
theorem vx_rebase {T : State} (X : Stand p l e R s m args below meth c T locs cells slots) {R' : Room} (hf : R'.frames ≤ R.frames) (hl : R'.locals ≤ R.locals) (hc : cells + R'.cells ≤ R.cells) (hs : slots + R'.slots ≤ R.slots) :
    Stand p l e R' ((T.setVm s.vm).setFrames (.invoking m args :: below)) m args below meth c T [] 0 0 := by
  have htop : (T.setVm s.vm).topJava?.isSome := X.here.top
  have hF : ((T.setVm s.vm).setFrames (.invoking m args :: below)).frames = .invoking m args :: below := State.frames_setFrames _ (State.cur_lt_of_top htop)
  obtain ⟨g₀, hg0⟩ := Option.isSome_iff_exists.mp htop
  obtain ⟨r, hr⟩ := State.topJava?_eq_some.mp hg0
  have hl9 : e.platform.stackLimits (T.setVm s.vm).me = e.platform.stackLimits s.me := X.limits
  have hb9 : (T.setVm s.vm).me.stackBytes = s.me.stackBytes := X.bytes
  refine ⟨X.admits, X.cas, X.clock, hF, ?_, X.hears, X.method, X.code, X.here, X.tail, X.warmed, ?_, ?_, ?_⟩
  · have h := X.room
    have hU : ((T.setVm s.vm).setFrames (.invoking m args :: below)).localsInUse = s.localsInUse := by
      rw [State.localsInUse_invoking hF (meth := meth) (c := c) X.method X.code, State.localsInUse_invoking X.frames X.method X.code]
    simp only [State.hasRoom, Bool.and_eq_true, decide_eq_true_eq] at h ⊢
    obtain ⟨⟨⟨⟨h1, h2, h3, h4, h5, h6⟩, h7⟩, h8⟩, h9⟩ := h
    rw [X.frames, List.length_cons] at h2 h3
    have q1 := X.heapSize
    have q2 := X.used
    simp only [hF, hU, List.length_cons, State.stackLimits_setFrames, State.stackBytes_setFrames, hl9, hb9]
    refine ⟨⟨⟨⟨by omega, by omega, by omega, by omega, by omega, h6⟩, ?_⟩, ?_⟩, X.book⟩
    · show T.heap.size + R'.cells ≤ e.platform.maxCells
      omega
    · show T.slotsUsed + R'.slots ≤ e.platform.maxSlots
      omega
  · rw [State.stackLimits_setFrames]; rfl
  · rw [State.stackBytes_setFrames]; rfl
  · refine ⟨?_, Nat.le_refl _, Nat.le_refl _, ?_, ?_, fun a c9 h9 => ⟨c9, h9, rfl, rfl, fun _ _ => rfl⟩⟩
    · obtain ⟨t, ht, -⟩ := State.frames_cons hr
      show T.setVm s.vm = { ((T.setVm s.vm).setFrames (.invoking m args :: below)).setFrames (T.setVm s.vm).frames with heap := T.heap, slotsUsed := T.slotsUsed }
      rw [State.setFrames_setFrames, State.setFrames_self ht]
      rfl
    · show T.slotsUsed = T.slotsUsed + ((T.heap.toList.drop T.heap.size).map (·.slots.size)).sum
      rw [List.drop_eq_nil_of_le (Nat.le_of_eq Array.length_toList)]
      rfl
    · show ((T.heap.toList.drop T.heap.size).map (·.slots.size)).sum ≤ 0
      rw [List.drop_eq_nil_of_le (Nat.le_of_eq Array.length_toList)]
      exact Nat.le_refl _
/-- 'throw new E()': new; dup; invokespecial; athrow -/
theorem vx_throw0 {cc : ByteArray} {pc : Nat} (hexec : p.tables.exec = Jvm.exec) (hb : c.code = cc) (hl : l.stackTraces = false) {own cls : String} {names : List String} {ik ic mc ms : Nat} {A : Nat → Prop}
    (hown : s.vm.findClass own = some m.cls) (hcls : Bundle.fit cls = true) (hnames : ∀ n ∈ names, Bundle.fit n = true)
    (hk : (Cond.classLink own ik cls).before args s = true) (hini : (Cond.initialized cls).before args s = true) (hat : ∀ w ∈ vx_at0 own ic cls names, w.before args s = true)
    (hgood : ∀ w ∈ Cond.classLink own ik cls :: Cond.initialized cls :: vx_at0 own ic cls names, vx_ot w = true)
    (hU : vx_Zq Bundle.tN "UNASSIGNED_STACK" Bundle.steD A s s.heap) (hN : vx_Zq Bundle.tN "SUPPRESSED_SENTINEL" Bundle.listD A s s.heap) (hS : va_S A s.heap H locs) (hsize : ls.size = c.maxLocals)
    (d0 : decode cc pc = .ok (.new ik, 3)) (d3 : decode cc (pc + 3) = .ok (.dup, 1)) (d4 : decode cc (pc + 4) = .ok (.invokespecial ic, 3)) (d7 : decode cc (pc + 7) = .ok (.athrow, 1))
    (hout : ∀ x ∈ c.exceptionTable.toList, covers x (pc + 7) = false)
    (hRframes : names.length + 3 < R.frames) (hRlocals : (rest.map fun v => v.category).sum + (13 * (names.length + 1) + 42) ≤ R.locals) (hRcells : cells + 1 ≤ R.cells) (hRslots : slots + 6 ≤ R.slots) (hlocks : meth.locks = false)
    (hx : ∀ t : State, s.vm.Alike t.vm → H.size ≤ t.heap.size → (∀ q : Nat, q < H.size → t.heap[q]? = H[q]?) → XC cls s t)
    (hf : ∀ z ∈ locs, free z.base) (hc : cells + 1 ≤ mc) (hs : slots + 6 ≤ ms) :
    W p l e R s m args below meth c H locs cells slots (vx_MQ below Qc XC args s mc ms free) (F0 m pc ls rest) := by
  intro T hT X
  have htr : e.platform.stackTraces = false := (show e.platform.stackTraces = l.stackTraces by rw [X.admits.platform]).trans hl
  have Y := vx_rebase X (R' := { frames := R.frames, locals := R.locals, cells := 1, slots := 6 }) (Nat.le_refl _) (Nat.le_refl _) hRcells hRslots
  obtain ⟨s', hA⟩ : ∃ z, z = (T.setVm s.vm).setFrames (.invoking m args :: below) := ⟨_, rfl⟩
  rw [← hA] at Y
  have hvm : s'.vm = s.vm := by rw [hA]; rfl
  have hhp : s'.heap = H := by rw [hA]; exact hT
  have hW0 : s.WarmedH s'.vm := by rw [hvm]; exact State.WarmedH.refl s
  have hat' : ∀ w ∈ vx_at0 own ic cls names, w.before args s' = true := fun w hw => vx_ot_at hW0 hvm.symm (hgood w (List.mem_cons_of_mem _ (List.mem_cons_of_mem _ hw))) (hat w hw)
  have hk' : (Cond.classLink own ik cls).before args s' = true := vx_ot_at hW0 hvm.symm (hgood _ List.mem_cons_self) hk
  have hini' : (Cond.initialized cls).before args s' = true := vx_ot_at hW0 hvm.symm (hgood _ (List.mem_cons_of_mem _ List.mem_cons_self)) hini
  have hU' : vx_Zq Bundle.tN "UNASSIGNED_STACK" Bundle.steD A s' s'.heap := by rw [hhp]; exact vx_Zq.moved hW0.alike (hU.kept hS.2.1)
  have hN' : vx_Zq Bundle.tN "SUPPRESSED_SENTINEL" Bundle.listD A s' s'.heap := by rw [hhp]; exact vx_Zq.moved hW0.alike (hN.kept hS.2.1)
  have h : ∀ w ∈ Bundle.ownAtoms0 own ic cls names, w.before args s' = true := vx_own hat' (vx_isRefq hU'.1) (vx_isRefq hN'.1) hU'.2.word hN'.2.word
  have hown' : s'.vm.findClass own = some m.cls := by rw [hvm]; exact hown
  have hins : (Cond.instantiable cls 6).before args s' = true := h _ (by simp [Bundle.ownAtoms0])
  obtain ⟨vm₁, cX, kX, hfX, hkX, -, -, X₁, st1⟩ := Y.newCold hexec (own := own) (C := cls) (index := ik) (n := 6) hown' hk' hins hini'
    (g := F0 m pc ls rest) rfl (by rw [hb]; exact d0) (Nat.le_refl _) (Nat.le_refl _)
  generalize hT1 : (T.setVm vm₁).pushCell { cls := cX, slots := kX.instanceTypes.map defaultValue, vm := .none } = T1 at X₁ st1
  have hcat : (Value.ref T.heap.size).category = 1 := rfl
  have hcellA : T1.heap[T.heap.size]? = some (freshCell cX kX) := by rw [← hT1]; exact State.heap_pushCell_size _ _
  have d3' : decode c.code (pc + 3) = .ok (.dup, 1) := by rw [hb]; exact d3
  obtain ⟨U, hsteps, hrun, hend, hW, hsame, ce, hce, hO⟩ := X₁.ctorThrow0 hexec htr (own := own) (cls := cls) (names := names) (ic := ic) hown' hcls hnames h (fun x hx => nomatch hx) hfX hkX hcellA (by rw [hhp, hT]; exact Nat.le_refl _)
    (g := { method := m, pc := pc + 4, locals := ls, stack := .ref T.heap.size :: .ref T.heap.size :: rest, locked := none }) rfl hsize rfl rfl (rest := rest) rfl
    (by rw [hb]; exact d4) (by rw [hb]; exact d7) hout hRframes (by simp only [List.map_cons, List.sum_cons, hcat]; omega) hlocks
  obtain ⟨f1, f2⟩ := vx_frame hsame
  rw [hhp] at f1 f2
  have hWs : s.WarmedH U.vm := State.WarmedH.trans hW0 hW
  have hcl : s.vm.findClass cls = some ce.cls := by
    have h9 := hO.cls
    rw [hvm] at h9
    exact h9
  have hall : s.sameButNew ({ U with vm := s.vm } : State) locs mc ms := by
    subst hA
    obtain ⟨e1, e2⟩ := hsame
    rw [State.setFrames_setFrames] at e1
    have h2 : (T.setVm s.vm).sameButNew ({ U with vm := s.vm } : State) [] (0 + 1) (0 + 6) := ⟨e1, e2⟩
    have h3 := X.same.trans h2
    rw [List.append_nil] at h3
    exact h3.mono hc hs
  refine ⟨U, ?_, .threw T.heap.size, hrun, hend, Or.inr ⟨T.heap.size, rfl, cls, ce, locs, hx U hWs.alike f1 (fun q hq => f2 q hq (fun z hz => nomatch hz)), hce, hO.vm, hcl, hWs, hall, hf⟩⟩
  refine st1 _ ?_
  show Steps p.tables e below (T1.setTop { method := m, pc := pc + 3, locals := ls, stack := .ref T.heap.size :: rest, locked := none }) _
  jvm_step X₁.here [X₁.here.top, hexec, d3', Value.category]
  exact hsteps
/-- 'throw new E("text")': new; dup; ldc; invokespecial; athrow -/
theorem vx_throwS {cc : ByteArray} {pc : Nat} (hexec : p.tables.exec = Jvm.exec) (hb : c.code = cc) (hl : l.stackTraces = false) {own cls text : String} {names : List String} {ik is ic mc ms sa : Nat} {A : Nat → Prop}
    (hown : s.vm.findClass own = some m.cls) (hcls : Bundle.fit cls = true) (hnames : ∀ n ∈ names, Bundle.fit n = true)
    (hk : (Cond.classLink own ik cls).before args s = true) (hini : (Cond.initialized cls).before args s = true) (hstr : vk_R own is text sa s) (hat : ∀ w ∈ vx_atS own ic cls names, w.before args s = true)
    (hgood : ∀ w ∈ Cond.classLink own ik cls :: Cond.initialized cls :: vx_atS own ic cls names, vx_ot w = true)
    (hU : vx_Zq Bundle.tN "UNASSIGNED_STACK" Bundle.steD A s s.heap) (hN : vx_Zq Bundle.tN "SUPPRESSED_SENTINEL" Bundle.listD A s s.heap) (hS : va_S A s.heap H locs) (hsize : ls.size = c.maxLocals)
    (d0 : decode cc pc = .ok (.new ik, 3)) (d3 : decode cc (pc + 3) = .ok (.dup, 1)) (d4 : decode cc (pc + 4) = .ok (.ldc is, 2)) (d6 : decode cc (pc + 6) = .ok (.invokespecial ic, 3)) (d9 : decode cc (pc + 9) = .ok (.athrow, 1))
    (hout : ∀ x ∈ c.exceptionTable.toList, covers x (pc + 9) = false)
    (hRframes : names.length + 3 < R.frames) (hRlocals : (rest.map fun v => v.category).sum + (13 * (names.length + 1) + 43) ≤ R.locals) (hRcells : cells + 1 ≤ R.cells) (hRslots : slots + 6 ≤ R.slots) (hlocks : meth.locks = false)
    (hx : ∀ t : State, s.vm.Alike t.vm → H.size ≤ t.heap.size → (∀ q : Nat, q < H.size → t.heap[q]? = H[q]?) → XC cls s t)
    (hf : ∀ z ∈ locs, free z.base) (hc : cells + 1 ≤ mc) (hs : slots + 6 ≤ ms) :
    W p l e R s m args below meth c H locs cells slots (vx_MQ below Qc XC args s mc ms free) (F0 m pc ls rest) := by
  intro T hT X
  have htr : e.platform.stackTraces = false := (show e.platform.stackTraces = l.stackTraces by rw [X.admits.platform]).trans hl
  have Y := vx_rebase X (R' := { frames := R.frames, locals := R.locals, cells := 1, slots := 6 }) (Nat.le_refl _) (Nat.le_refl _) hRcells hRslots
  obtain ⟨s', hA⟩ : ∃ z, z = (T.setVm s.vm).setFrames (.invoking m args :: below) := ⟨_, rfl⟩
  rw [← hA] at Y
  have hvm : s'.vm = s.vm := by rw [hA]; rfl
  have hhp : s'.heap = H := by rw [hA]; exact hT
  have hW0 : s.WarmedH s'.vm := by rw [hvm]; exact State.WarmedH.refl s
  have hat' : ∀ w ∈ vx_atS own ic cls names, w.before args s' = true := fun w hw => vx_ot_at hW0 hvm.symm (hgood w (List.mem_cons_of_mem _ (List.mem_cons_of_mem _ hw))) (hat w hw)
  have hk' : (Cond.classLink own ik cls).before args s' = true := vx_ot_at hW0 hvm.symm (hgood _ List.mem_cons_self) hk
  have hini' : (Cond.initialized cls).before args s' = true := vx_ot_at hW0 hvm.symm (hgood _ (List.mem_cons_of_mem _ List.mem_cons_self)) hini
  have hU' : vx_Zq Bundle.tN "UNASSIGNED_STACK" Bundle.steD A s' s'.heap := by rw [hhp]; exact vx_Zq.moved hW0.alike (hU.kept hS.2.1)
  have hN' : vx_Zq Bundle.tN "SUPPRESSED_SENTINEL" Bundle.listD A s' s'.heap := by rw [hhp]; exact vx_Zq.moved hW0.alike (hN.kept hS.2.1)
  have h : ∀ w ∈ Bundle.ownAtoms own ic cls names, w.before args s' = true := vx_own hat' (vx_isRefq hU'.1) (vx_isRefq hN'.1) hU'.2.word hN'.2.word
  have hown' : s'.vm.findClass own = some m.cls := by rw [hvm]; exact hown
  have hins : (Cond.instantiable cls 6).before args s' = true := h _ (by simp [Bundle.ownAtoms])
  obtain ⟨vm₁, cX, kX, hfX, hkX, -, -, X₁, st1⟩ := Y.newCold hexec (own := own) (C := cls) (index := ik) (n := 6) hown' hk' hins hini'
    (g := F0 m pc ls rest) rfl (by rw [hb]; exact d0) (Nat.le_refl _) (Nat.le_refl _)
  generalize hT1 : (T.setVm vm₁).pushCell { cls := cX, slots := kX.instanceTypes.map defaultValue, vm := .none } = T1 at X₁ st1
  have hcat : (Value.ref T.heap.size).category = 1 := rfl
  have hcellA : T1.heap[T.heap.size]? = some (freshCell cX kX) := by rw [← hT1]; exact State.heap_pushCell_size _ _
  have d3' : decode c.code (pc + 3) = .ok (.dup, 1) := by rw [hb]; exact d3
  have d4' : decode c.code (pc + 4) = .ok (.ldc is, 2) := by rw [hb]; exact d4
  have hstr' : vk_R own is text sa s' := vk_R.warm hW0 hstr
  obtain ⟨U, hsteps, hrun, hend, hW, hsame, ce, hce, hO⟩ := X₁.ctorThrowS hexec htr (own := own) (cls := cls) (names := names) (ic := ic) hown' hcls hnames h (fun x hx => nomatch hx) hfX hkX hcellA (by rw [hhp, hT]; exact Nat.le_refl _) (msg := .ref sa) rfl
    (g := { method := m, pc := pc + 6, locals := ls, stack := .ref sa :: .ref T.heap.size :: .ref T.heap.size :: rest, locked := none }) rfl hsize rfl rfl (rest := rest) rfl
    (by rw [hb]; exact d6) (by rw [hb]; exact d9) hout hRframes (by simp only [List.map_cons, List.sum_cons, hcat]; omega) hlocks
  obtain ⟨f1, f2⟩ := vx_frame hsame
  rw [hhp] at f1 f2
  have hWs : s.WarmedH U.vm := State.WarmedH.trans hW0 hW
  have hcl : s.vm.findClass cls = some ce.cls := by
    have h9 := hO.cls
    rw [hvm] at h9
    exact h9
  have hall : s.sameButNew ({ U with vm := s.vm } : State) locs mc ms := by
    subst hA
    obtain ⟨e1, e2⟩ := hsame
    rw [State.setFrames_setFrames] at e1
    have h2 : (T.setVm s.vm).sameButNew ({ U with vm := s.vm } : State) [] (0 + 1) (0 + 6) := ⟨e1, e2⟩
    have h3 := X.same.trans h2
    rw [List.append_nil] at h3
    exact h3.mono hc hs
  refine ⟨U, ?_, .threw T.heap.size, hrun, hend, Or.inr ⟨T.heap.size, rfl, cls, ce, locs, hx U hWs.alike f1 (fun q hq => f2 q hq (fun z hz => nomatch hz)), hce, hO.vm, hcl, hWs, hall, hf⟩⟩
  refine st1 _ ?_
  show Steps p.tables e below (T1.setTop { method := m, pc := pc + 3, locals := ls, stack := .ref T.heap.size :: rest, locked := none }) _
  jvm_step X₁.here [X₁.here.top, hexec, d3', Value.category]
  exact X₁.ldcString hexec (own := own) (text := text) (index := is) (a := sa) hown' hstr'.1 hstr'.2
    (g := { method := m, pc := pc + 4, locals := ls, stack := .ref T.heap.size :: .ref T.heap.size :: rest, locked := none }) rfl d4' _ hsteps
/-- 'throw new E("text")', the text by a wide index -/
theorem vx_throwSW {cc : ByteArray} {pc : Nat} (hexec : p.tables.exec = Jvm.exec) (hb : c.code = cc) (hl : l.stackTraces = false) {own cls text : String} {names : List String} {ik is ic mc ms sa : Nat} {A : Nat → Prop}
    (hown : s.vm.findClass own = some m.cls) (hcls : Bundle.fit cls = true) (hnames : ∀ n ∈ names, Bundle.fit n = true)
    (hk : (Cond.classLink own ik cls).before args s = true) (hini : (Cond.initialized cls).before args s = true) (hstr : vk_R own is text sa s) (hat : ∀ w ∈ vx_atS own ic cls names, w.before args s = true)
    (hgood : ∀ w ∈ Cond.classLink own ik cls :: Cond.initialized cls :: vx_atS own ic cls names, vx_ot w = true)
    (hU : vx_Zq Bundle.tN "UNASSIGNED_STACK" Bundle.steD A s s.heap) (hN : vx_Zq Bundle.tN "SUPPRESSED_SENTINEL" Bundle.listD A s s.heap) (hS : va_S A s.heap H locs) (hsize : ls.size = c.maxLocals)
    (d0 : decode cc pc = .ok (.new ik, 3)) (d3 : decode cc (pc + 3) = .ok (.dup, 1)) (d4 : decode cc (pc + 4) = .ok (.ldc_w is, 3)) (d7 : decode cc (pc + 7) = .ok (.invokespecial ic, 3)) (d10 : decode cc (pc + 10) = .ok (.athrow, 1))
    (hout : ∀ x ∈ c.exceptionTable.toList, covers x (pc + 10) = false)
    (hRframes : names.length + 3 < R.frames) (hRlocals : (rest.map fun v => v.category).sum + (13 * (names.length + 1) + 43) ≤ R.locals) (hRcells : cells + 1 ≤ R.cells) (hRslots : slots + 6 ≤ R.slots) (hlocks : meth.locks = false)
    (hx : ∀ t : State, s.vm.Alike t.vm → H.size ≤ t.heap.size → (∀ q : Nat, q < H.size → t.heap[q]? = H[q]?) → XC cls s t)
    (hf : ∀ z ∈ locs, free z.base) (hc : cells + 1 ≤ mc) (hs : slots + 6 ≤ ms) :
    W p l e R s m args below meth c H locs cells slots (vx_MQ below Qc XC args s mc ms free) (F0 m pc ls rest) := by
  intro T hT X
  have htr : e.platform.stackTraces = false := (show e.platform.stackTraces = l.stackTraces by rw [X.admits.platform]).trans hl
  have Y := vx_rebase X (R' := { frames := R.frames, locals := R.locals, cells := 1, slots := 6 }) (Nat.le_refl _) (Nat.le_refl _) hRcells hRslots
  obtain ⟨s', hA⟩ : ∃ z, z = (T.setVm s.vm).setFrames (.invoking m args :: below) := ⟨_, rfl⟩
  rw [← hA] at Y
  have hvm : s'.vm = s.vm := by rw [hA]; rfl
  have hhp : s'.heap = H := by rw [hA]; exact hT
  have hW0 : s.WarmedH s'.vm := by rw [hvm]; exact State.WarmedH.refl s
  have hat' : ∀ w ∈ vx_atS own ic cls names, w.before args s' = true := fun w hw => vx_ot_at hW0 hvm.symm (hgood w (List.mem_cons_of_mem _ (List.mem_cons_of_mem _ hw))) (hat w hw)
  have hk' : (Cond.classLink own ik cls).before args s' = true := vx_ot_at hW0 hvm.symm (hgood _ List.mem_cons_self) hk
  have hini' : (Cond.initialized cls).before args s' = true := vx_ot_at hW0 hvm.symm (hgood _ (List.mem_cons_of_mem _ List.mem_cons_self)) hini
  have hU' : vx_Zq Bundle.tN "UNASSIGNED_STACK" Bundle.steD A s' s'.heap := by rw [hhp]; exact vx_Zq.moved hW0.alike (hU.kept hS.2.1)
  have hN' : vx_Zq Bundle.tN "SUPPRESSED_SENTINEL" Bundle.listD A s' s'.heap := by rw [hhp]; exact vx_Zq.moved hW0.alike (hN.kept hS.2.1)
  have h : ∀ w ∈ Bundle.ownAtoms own ic cls names, w.before args s' = true := vx_own hat' (vx_isRefq hU'.1) (vx_isRefq hN'.1) hU'.2.word hN'.2.word
  have hown' : s'.vm.findClass own = some m.cls := by rw [hvm]; exact hown
  have hins : (Cond.instantiable cls 6).before args s' = true := h _ (by simp [Bundle.ownAtoms])
  obtain ⟨vm₁, cX, kX, hfX, hkX, -, -, X₁, st1⟩ := Y.newCold hexec (own := own) (C := cls) (index := ik) (n := 6) hown' hk' hins hini'
    (g := F0 m pc ls rest) rfl (by rw [hb]; exact d0) (Nat.le_refl _) (Nat.le_refl _)
  generalize hT1 : (T.setVm vm₁).pushCell { cls := cX, slots := kX.instanceTypes.map defaultValue, vm := .none } = T1 at X₁ st1
  have hcat : (Value.ref T.heap.size).category = 1 := rfl
  have hcellA : T1.heap[T.heap.size]? = some (freshCell cX kX) := by rw [← hT1]; exact State.heap_pushCell_size _ _
  have d3' : decode c.code (pc + 3) = .ok (.dup, 1) := by rw [hb]; exact d3
  have d4' : decode c.code (pc + 4) = .ok (.ldc_w is, 3) := by rw [hb]; exact d4
  have hstr' : vk_R own is text sa s' := vk_R.warm hW0 hstr
  obtain ⟨U, hsteps, hrun, hend, hW, hsame, ce, hce, hO⟩ := X₁.ctorThrowS hexec htr (own := own) (cls := cls) (names := names) (ic := ic) hown' hcls hnames h (fun x hx => nomatch hx) hfX hkX hcellA (by rw [hhp, hT]; exact Nat.le_refl _) (msg := .ref sa) rfl
    (g := { method := m, pc := pc + 7, locals := ls, stack := .ref sa :: .ref T.heap.size :: .ref T.heap.size :: rest, locked := none }) rfl hsize rfl rfl (rest := rest) rfl
    (by rw [hb]; exact d7) (by rw [hb]; exact d10) hout hRframes (by simp only [List.map_cons, List.sum_cons, hcat]; omega) hlocks
  obtain ⟨f1, f2⟩ := vx_frame hsame
  rw [hhp] at f1 f2
  have hWs : s.WarmedH U.vm := State.WarmedH.trans hW0 hW
  have hcl : s.vm.findClass cls = some ce.cls := by
    have h9 := hO.cls
    rw [hvm] at h9
    exact h9
  have hall : s.sameButNew ({ U with vm := s.vm } : State) locs mc ms := by
    subst hA
    obtain ⟨e1, e2⟩ := hsame
    rw [State.setFrames_setFrames] at e1
    have h2 : (T.setVm s.vm).sameButNew ({ U with vm := s.vm } : State) [] (0 + 1) (0 + 6) := ⟨e1, e2⟩
    have h3 := X.same.trans h2
    rw [List.append_nil] at h3
    exact h3.mono hc hs
  refine ⟨U, ?_, .threw T.heap.size, hrun, hend, Or.inr ⟨T.heap.size, rfl, cls, ce, locs, hx U hWs.alike f1 (fun q hq => f2 q hq (fun z hz => nomatch hz)), hce, hO.vm, hcl, hWs, hall, hf⟩⟩
  refine st1 _ ?_
  show Steps p.tables e below (T1.setTop { method := m, pc := pc + 3, locals := ls, stack := .ref T.heap.size :: rest, locked := none }) _
  jvm_step X₁.here [X₁.here.top, hexec, d3', Value.category]
  exact X₁.ldcStringW hexec (own := own) (text := text) (index := is) (a := sa) hown' hstr'.1 hstr'.2
    (g := { method := m, pc := pc + 4, locals := ls, stack := .ref T.heap.size :: .ref T.heap.size :: rest, locked := none }) rfl d4' _ hsteps
end Ends
section Bodies
variable {l : Launch}
theorem vx_ofW {y : MethodName} {ws ws' : List Cond} {rm : Room} {Pc : Array Value → State → Prop} {Qc : Array Value → State → Outcome → State → Prop} {XC : String → State → State → Prop} {mc ms : Nat} {free : Addr → Prop} {cc : ByteArray} {maxL : Nat} {ret : Option FieldType}
    (hy : plainName y.cls = true) (hw : ws = Cond.code y cc maxL ret :: ws')
    (body : ∀ p e s m args below meth c s₁, BodyLoose p l y (headSpec ws rm) cc maxL ret e s m args below meth c s₁ → c.maxLocals = maxL → (∀ x ∈ c.exceptionTable.toList, False) → Pc args s →
      W p l e (headSpec ws rm).room s m args below meth c s.heap [] 0 0 (vx_MQ below Qc XC args s mc ms free) (entryFrame m args maxL)) : vx_Met l y ws rm Pc Qc XC mc ms free := by
  refine MetFree.of_bodyS (code := cc) (maxLocals := maxL) (ret := ret) hy ?_ ?_
  · intro args s m h hn
    obtain ⟨meth, c, h1, h2, h3, h4, h5, h6, -, -⟩ := Cond.code_spec hn (atoms_spec (ws := ws) h _ (by rw [hw]; exact List.mem_cons_self))
    exact ⟨meth, c, h1, h2, h3, h4, h5, h6⟩
  · intro p e s m args below meth c s₁ B hml hP _
    have hh0 : s₁.heap = s.heap := by rw [B.state]; rfl
    have ht : ∀ x ∈ c.exceptionTable.toList, False := by
      obtain ⟨meth9, c9, h1, h2, -, -, -, -, h7, -⟩ := Cond.code_spec B.named (atoms_spec (ws := ws) B.pre _ (by rw [hw]; exact List.mem_cons_self))
      cases Option.some.inj (h1.symm.trans B.method)
      cases Option.some.inj (h2.symm.trans (Stand.of_body B).code)
      intro x hx
      rw [Array.isEmpty_iff.mp h7] at hx
      cases hx
    obtain ⟨t, a1, o, b1, b2, b3⟩ := body p e s m args below meth c s₁ B hml ht hP s₁ hh0 (Stand.of_body B)
    exact ⟨t, o, a1, b1, b2, b3⟩
/-- the table of a body with handlers -/
theorem vx_table {p : Program} {x y : MethodName} {S : Spec} {cc bytes : ByteArray} {maxL maxL' : Nat} {ret ret' : Option FieldType} {e : Env} {s s₁ : State} {m : MethodId} {args : Array Value} {below : List Frame} {meth : Method} {c : Code} {hh : List (Nat × Nat × Nat × Nat)}
    (B : BodyLoose p l y S cc maxL ret e s m args below meth c s₁) (h : (Cond.codeWith y bytes maxL' ret' hh).before args s = true) : c.exceptionTable.toList = tableOf hh := by
  obtain ⟨m9, meth9, c9, hn9, h1, h2, -, -, h6, -⟩ := Cond.codeWith_spec h
  cases Option.some.inj (hn9.symm.trans B.named)
  cases Option.some.inj (h1.symm.trans B.method)
  cases Option.some.inj (h2.symm.trans (Stand.of_body B).code)
  rw [← h6, table_eq]
end Bodies
end VXA
/-! ===== END ===== -/
/-! ===== BEGIN a static call of a method with an exception table ===== -/
section VXS
variable {p : Program} {l : Launch} {e : Env} {R : Room} {s : State} {m : MethodId} {args : Array Value} {below : List Frame} {meth : Method} {c : Code} {T : State} {H : Heap} {locs : List Loc} {cells slots : Nat}
abbrev vx_CSW (R : Room) (s : State) (args : Array Value) (own : String) (index : Nat) (y : MethodName) (bytes : ByteArray) (maxL : Nat) (ret : Option FieldType) (hh : List (Nat × Nat × Nat × Nat)) (ws : List Cond) (rm : Room) (mc ms n : Nat) : Prop :=
  (rm.cells = mc ∧ rm.slots = ms ∧ rm.frames + 1 ≤ R.frames ∧ 8 + (maxL + 11) + rm.locals ≤ R.locals ∧ (∀ w ∈ ws, ∀ (a' : Array Value) (U : State), s.WarmedH U.vm → w.before a' U = true) ∧ Cond.codeWith y bytes maxL ret hh ∈ ws) ∧
  (Cond.codeWith y bytes maxL ret hh).before args s = true ∧ (Cond.initialized y.cls).before args s = true ∧ (y.cls ≠ "java/lang/invoke/MethodHandle" ∧ y.cls ≠ "java/lang/invoke/VarHandle") ∧
  (∀ sig, parseMethodDescriptor y.desc = some sig → n = sig.parameters.length) ∧ (Cond.methodLink own index y).before args s = true ∧ (Cond.static y).before args s = true
theorem vx_cwSW {own : String} {index maxL mc ms : Nat} {y : MethodName} {bytes : ByteArray} {ret : Option FieldType} {hh : List (Nat × Nat × Nat × Nat)} {Ts ws ws' : List Cond} {rm : Room} (n : Nat) (ht : ∀ w ∈ Ts, w.before args s = true) (hT : GoodIn Ts (va_wsS own index y ws)) (hw : ws = Cond.codeWith y bytes maxL ret hh :: ws') (hrc : rm.cells = mc) (hrs : rm.slots = ms)
    (hd : y.cls ≠ "java/lang/invoke/MethodHandle" ∧ y.cls ≠ "java/lang/invoke/VarHandle" ∧ (parseMethodDescriptor y.desc).map (fun d => d.parameters.length) = some n) (hR : rm.frames + 1 ≤ R.frames ∧ 8 + (maxL + 11) + rm.locals ≤ R.locals) :
    vx_CSW R s args own index y bytes maxL ret hh ws rm mc ms n := by
  have ok : ∀ w ∈ va_wsS own index y ws, w.before args s = true := fun w h => ht w (hT w h).1
  have hG : GoodIn Ts ws := fun w h => hT w (by unfold va_wsS; exact List.mem_append_right _ h)
  have hc : Cond.codeWith y bytes maxL ret hh ∈ ws := by rw [hw]; exact List.mem_cons_self
  refine ⟨⟨hrc, hrs, hR.1, hR.2, pay_in ht hG, hc⟩, ht _ (hG _ hc).1, ok _ (by simp [va_wsS]), ⟨hd.1, hd.2.1⟩, fun sig h => ?_, ok _ (by simp [va_wsS]), ok _ (by simp [va_wsS])⟩
  have h2 := hd.2.2
  rw [h] at h2
  exact (Option.some.inj h2).symm
theorem vx_callSW (X : Stand p l e R s m args below meth c T locs cells slots) (hexec : p.tables.exec = Jvm.exec) {own : String} {index : Nat} {y : MethodName} {bytes : ByteArray} {maxL : Nat} {ret : Option FieldType} {hh : List (Nat × Nat × Nat × Nat)}
    (hown : s.vm.findClass own = some m.cls) (hlink : (Cond.methodLink own index y).before args s = true) (hstat : (Cond.static y).before args s = true) (hinit : (Cond.initialized y.cls).before args s = true)
    (hcode : (Cond.codeWith y bytes maxL ret hh).before args s = true) (hy : y.cls ≠ "java/lang/invoke/MethodHandle" ∧ y.cls ≠ "java/lang/invoke/VarHandle")
    {W9 : Nat} {Pre : Pt → Array Value → Prop} {Post : Pt → Array Value → Option Value → Pt → Prop} (hK : Back l R p e below s args y 3 W9 Pre Post)
    {g : JFrame} (hg : g.method = m) (hsize : g.locals.size = c.maxLocals) {argsL rest : List Value} (hlen : ∀ sig, parseMethodDescriptor y.desc = some sig → argsL.length = sig.parameters.length)
    (hstack : g.stack = argsL.reverse ++ rest) (hW : 2 * g.monitorRoom + (rest.map fun v => v.category).sum ≤ W9) (hdg : decode c.code g.pc = .ok (.invokestatic index, 3))
    (hpre : ∀ vm₁, s.WarmedH vm₁ → Pre ⟨T.setVm vm₁, locs, cells, slots⟩ argsL.toArray) :
    ∃ (v : Option Value) (vm₁ : Vm) (B : Pt), s.WarmedH vm₁ ∧ Stand p l e R s m args below meth c B.U B.locs B.cells B.slots ∧ Post ⟨T.setVm vm₁, locs, cells, slots⟩ argsL.toArray v B ∧
      ∀ target, Steps p.tables e below (B.U.setTop { g with pc := g.pc + 3, stack := v.toList ++ rest }) target → Steps p.tables e below (T.setTop g) target := by
  obtain ⟨mk, methM, cM, hnamed, hmethM, -, -, -, -, -, -, hsigM⟩ := Cond.codeWith_spec hcode
  have hstatic : methM.isStatic = true := Cond.static_spec hnamed hmethM hstat
  obtain ⟨kP, hkP, -⟩ := className_of_methodNamed hnamed
  have hinitP : kP.init = .initialized := Cond.initialized_spec (findClass_of_methodNamed hnamed) hkP hinit
  obtain ⟨vm₁, X₁, hstep₁⟩ := X.invokestatic hexec hown hlink hnamed hmethM hstatic hkP hinitP hy (g := g) hg (argsL := argsL) (rest := rest) (hlen _ hsigM) hstack hdg
  obtain ⟨v, B, X', hpost, hsteps⟩ := hK m meth c ⟨T.setVm vm₁, locs, cells, slots⟩ { g with stack := rest } (.invokestatic index) mk argsL.toArray X₁ hg hsize hdg hW (X₁.named hnamed) (hpre vm₁ X₁.warmed)
  exact ⟨v, vm₁, B, X₁.warmed, X', hpost, fun target h => hstep₁ _ fun acts => by rw [doInvoke_state]; exact hsteps.trans h⟩
theorem vx_runSW {y : MethodName} {bytes cc : ByteArray} {maxL nL mc ms n index : Nat} {ret : Option FieldType} {hh : List (Nat × Nat × Nat × Nat)} {ws : List Cond} {rm : Room} {Pc : Array Value → State → Prop} {Qc : Array Value → State → Outcome → State → Prop} {free : Addr → Prop} {Ts : List Cond} {own : String} {As rest : List Value} {g : JFrame}
    (S : CallFix p m c cc nL s args Ts own) (hM : Met l y ws rm Pc Qc mc ms free) (cw : vx_CSW R s args own index y bytes maxL ret hh ws rm mc ms n) (hp : PreS s H Pc As)
    (hg : g.method = m) (hn : As.length = n) (hsize : g.locals.size = nL) (hstack : g.stack = As.reverse ++ rest) (hW : 2 * g.monitorRoom + (rest.map fun v => v.category).sum ≤ 8) (hdg : decode cc g.pc = .ok (.invokestatic index, 3)) (hf : cells + mc ≤ R.cells ∧ slots + ms ≤ R.slots) :
    va_Run p l e R s m args below meth c H locs cells slots mc ms g rest (Qc As.toArray) (free) := by
  obtain ⟨⟨hrc, hrs, hfr, hlo, hws, hcw⟩, hcode, hini, hy, hlen, hl, hstt⟩ := cw
  have hK : Back l R p e below s args y 3 8 (PreOf R mc ms Pc) (PostOf Qc mc ms free) := va_backW (hh := hh) (bytes := bytes) (maxL := maxL) (ret := ret) hM hp.1 hrc hrs hfr hlo hws hcw (fun a' U hW => word_at hW (Or.inl (by first | rfl | simp [Cond.onTables, Cond.keeps, Cond.steady])) hini)
  obtain ⟨hx, hb, hml, ho, -⟩ := S
  intro T hT X
  obtain ⟨v, vm₁, ⟨U', l2, c2, s2⟩, hW₁, X', ⟨g', mk, t, L, e1, e2, hq, h1, hL, h2, h3⟩, st⟩ := vx_callSW X hx (hh := hh) (bytes := bytes) (maxL := maxL) (ret := ret) ho hl hstt hini hcode hy hK hg (hsize.trans hml.symm) (argsL := As) (rest := rest) (fun sig h => hn.trans (hlen sig h)) hstack hW (by rw [hb]; exact hdg)
    (fun vm₁ hW₁ => ⟨hf.1, hf.2, hp.2 (T.setVm vm₁) hT hW₁⟩)
  dsimp only [Pt.U, Pt.locs, Pt.cells, Pt.slots] at X' e1 e2 h1 h2 h3 st
  subst h1; subst h2; subst h3
  exact ⟨v, (T.setVm vm₁).calling g' mk As.toArray, t, U', L, hT, X', hL, e1, e2, hq, st⟩
/-- not caught here, past rows that name other classes: it goes on to the caller -/
theorem vx_outP {p : Program} {l : Launch} {e : Env} {R : Room} {s : State} {m : MethodId} {args : Array Value} {below : List Frame} {meth : Method} {c : Code} {H : Heap} {locs : List Loc} {cells slots : Nat} {free : Addr → Prop} {ls : Array Slot} {rest : List Value} {Qc : Array Value → State → Outcome → State → Prop} {XC : String → State → State → Prop}
    {pc : Nat} {own E : String} {ce : Cell} {q : Addr} {mc ms : Nat} (hown : s.vm.findClass own = some m.cls) (hlocks : meth.locks = false)
    (hpass : ∀ z ∈ c.exceptionTable.toList, covers z pc = false ∨ (z.catchType ≠ 0 ∧ ∃ nm : String, (Cond.classLink own z.catchType nm).before args s = true ∧ va_Nc E nm s)) (hcell : H[q]? = some ce) (hv : ce.vm = .none) (hcl : s.vm.findClass E = some ce.cls)
    (hx : ∀ t : State, t.heap = H → s.vm.Alike t.vm → XC E s t) (hf : ∀ z ∈ locs, free z.base) (hc : cells ≤ mc) (hs : slots ≤ ms) :
    vx_W p l e R s m args below meth c H locs cells slots (vx_MQ below Qc XC args s mc ms free) (F0 m pc ls rest) q := by
  intro T hT X
  have hpl : e.platform.magicAccessors = ({} : Platform).magicAccessors := by rw [X.admits.platform]
  obtain ⟨vm', hW', X', st⟩ := X.outThrough hlocks q (g := F0 m pc ls rest) rfl rfl rfl (cell := ce) (by rw [hT]; exact hcell) (by rw [hv]; rfl)
    (by obtain ⟨k9, h9, -⟩ := Vm.findClass_spec hcl; exact ⟨k9, h9⟩) (fun z hz => by
      rcases hpass z hz with h | ⟨hz0, nm, hl1, hn1⟩
      · exact Or.inl h
      · obtain ⟨c6, hc6, hcl6⟩ := Cond.classLink_spec hown hl1 e.platform hpl
        obtain ⟨a8, b8, h1, h2, h3⟩ := hn1
        cases Option.some.inj (h1.symm.trans hcl)
        cases Option.some.inj (h2.symm.trans hc6)
        exact Or.inr ⟨hz0, _, hcl6, h3⟩)
  obtain ⟨g₀, hfr⟩ := X'.frames_eq
  have hcell9 : ((T.setVm vm').setFrames (.throwing q :: below)).heap[q]? = some ce := by
    show T.heap[q]? = some ce
    rw [hT]; exact hcell
  have hend : Ended ((T.setVm vm').setFrames (.throwing q :: below)) below (.threw q) := State.frames_setFrames _ (State.cur_lt_of_frames hfr)
  refine ⟨(T.setVm vm').setFrames (.throwing q :: below), ?_, .threw q, X'.here.running, hend, Or.inr ⟨q, rfl, E, ce, locs, hx _ hT (X'.ends _).1.alike, hcell9, hv, hcl, (X'.ends _).1, (X'.ends _).2.mono hc hs, hf⟩⟩
  rw [X.pushThrowing_eq]
  exact st
/-- a thing of a world lies in the heap -/
theorem vx_lt {D : va_G} {cl : List vw_C} {ws : va_W} {H1 : Heap} (h : va_P D cl ws H1) {k : Nat} {q : Nat × va_E} (hk : ws[k]? = some q) : q.1 < H1.size := (h k q hk).lt
end VXS
/-! ===== END ===== -/
/-! ===== BEGIN methods with a table of their own: called by a name, returning or throwing ===== -/
section VXH
/-! vx_backW, vx_callVX, vx_callSX, vx_callVW, vx_runVW, vx_runVX, vx_runSX, vx_ofWH follow the same proofs as their sisters above (Free/Laws.lean, Shelf42/LK1.lean); vx_outP calls Shelf42/NT130.lean (outThrough). -/
section
variable {l : Launch} {R : Room} {p : Program} {e : Env} {below : List Frame} {s : State} {sargs : Array Value} {y : MethodName} {len W9 : Nat}
theorem vx_backW {ws : List Cond} {rm : Room} {Pc : Array Value → State → Prop} {Qc : Array Value → State → Outcome → State → Prop} {XC : String → State → State → Prop} {mc ms : Nat} {free : Addr → Prop} {bytes : ByteArray} {maxL : Nat} {ret : Option FieldType} {hh : List (Nat × Nat × Nat × Nat)}
    (hM : vx_Met l y ws rm Pc Qc XC mc ms free) (hblind : FrameBlind Pc) (hrc : rm.cells = mc) (hrs : rm.slots = ms)
    (hframes : rm.frames + 1 ≤ R.frames) (hlocals : W9 + (maxL + 11) + rm.locals ≤ R.locals)
    (hws : ∀ w ∈ ws, ∀ a' U, s.WarmedH U.vm → w.before a' U = true) (hcode : Cond.codeWith y bytes maxL ret hh ∈ ws) (hinit : ∀ a' U, s.WarmedH U.vm → (Cond.initialized y.cls).before a' U = true) :
    vx_Back l R p e below s sargs y len W9 (PreOf R mc ms Pc) (PostOf Qc mc ms free) (vx_Post XC mc ms free) := by
  intro m meth c A g ig mk a X hg hsize hdg hW hn hp
  have h1 : (headSpec ws rm).pre.before a A.U = true := atoms_intro fun w hw => hws w hw _ _ X.warmed
  have h2 : (Cond.codeWith y bytes maxL ret hh).before a A.U = true := hws _ hcode _ _ X.warmed
  have h3 : (Cond.initialized y.cls).before a A.U = true := hinit _ _ X.warmed
  have h4 : A.cells + (headSpec ws rm).room.cells ≤ R.cells := by rw [show (headSpec ws rm).room.cells = mc from hrc]; exact hp.1
  have h5 : A.slots + (headSpec ws rm).room.slots ≤ R.slots := by rw [show (headSpec ws rm).room.slots = ms from hrs]; exact hp.2.1
  have hPc : Pc a (A.U.calling g mk a) := hblind _ _ _ _ hp.2.2
  obtain ⟨U, Ls, c0, s0⟩ := A
  dsimp only [Pt.U, Pt.locs, Pt.cells, Pt.slots] at h1 h2 h3 h4 h5 X hn hPc ⊢
  obtain ⟨m9, methY, cY, hn9, hmY, hcY, -, hlY, -⟩ := Cond.codeWith_spec h2
  cases Option.some.inj (hn9.symm.trans hn)
  obtain ⟨kY, hkY, -⟩ := className_of_methodNamed hn
  have hinitY : kY.init = .initialized := Cond.initialized_spec (findClass_of_methodNamed hn) hkY h3
  have h : At U g.method c below := by rw [hg]; exact X.here
  have hlocals9 : W9 + (maxL + 11) + (headSpec ws rm).room.locals ≤ R.locals := hlocals
  have happ : (headSpec ws rm).appliesLoose y e.platform (U.calling g mk a) = true :=
    Spec.appliesLoose_calling (g := g) h hdg hn hkY hinitY
      (X.room_calling (g := g) (R' := (headSpec ws rm).room) hsize hmY hcY hframes (by rw [hlY]; omega) h4 h5) h1
  obtain ⟨mid, hmid⟩ := h.above
  have hfr : (U.setTop g).frames = (.java g :: mid) ++ below := by rw [State.frames_setTop' g h.top, hmid]; rfl
  obtain ⟨o, s₂, hsteps, -, hend, hq⟩ := Steps.callFree hM p X.admits X.cas X.clock (acts := []) hfr happ hPc trivial
  have hq' : vx_Q Qc XC mc ms free a (U.calling g mk a) o s₂ := hq
  rw [State.frames_setTop' g h.top] at hend
  obtain ⟨g₀, hg0⟩ := Option.isSome_iff_exists.mp h.top
  obtain ⟨r, hr⟩ := State.topJava?_eq_some.mp hg0
  have hr' : (({ U with heap := s₂.heap, slotsUsed := s₂.slotsUsed } : State).setVm s₂.vm).frames = .java g₀ :: r := hr
  rcases hq' with ⟨hqc, L, hfe, hL⟩ | ⟨q, rfl, E, ce, L, hx, hce, hcv, hcl, hW₂, hsm, hL⟩
  · obtain ⟨⟨v, rfl⟩, hW₂, e2, q2, q3, q4, q5, q6⟩ := id hfe
    have e3 : s₂ = ({ (U.calling g mk a).setFrames s₂.frames with heap := s₂.heap, slotsUsed := s₂.slotsUsed } : State).setVm s₂.vm := by
      have : s₂ = ({ s₂ with vm := (U.calling g mk a).vm } : State).setVm s₂.vm := rfl
      rw [e2] at this
      exact this
    obtain ⟨c₂, i₂, len₂, hc₂, hd₂, hf₂⟩ := hend
    have hW' : U.WarmedH s₂.vm := hW₂
    have hcc : c₂ = c := by
      have h1 : s₂.code? g.method = U.code? g.method := by
        rw [State.code?_eq, State.code?_eq, hW'.alike.method?]
      exact Option.some.inj (hc₂.symm.trans (h1.trans h.code))
    subst hcc
    have hlen : len₂ = len := by rw [hdg] at hd₂; cases hd₂; rfl
    subst hlen
    have hs₂ : s₂ = (({ U with heap := s₂.heap, slotsUsed := s₂.slotsUsed } : State).setVm s₂.vm).setTop { g with pc := g.pc + len₂, stack := v.toList ++ g.stack } := by
      refine e3.trans ?_
      rw [hf₂, State.calling_eq h.top, State.setFrames_setFrames, State.setTop_of_frames _ hr', hr]
      rfl
    have hsame : U.sameButNew ({ U with heap := s₂.heap, slotsUsed := s₂.slotsUsed } : State) L mc ms := by
      refine ⟨?_, q2, q3, q4, q5, q6⟩
      obtain ⟨t, ht, -⟩ := State.frames_cons hr
      show ({ U with heap := s₂.heap, slotsUsed := s₂.slotsUsed } : State) = { U.setFrames U.frames with heap := s₂.heap, slotsUsed := s₂.slotsUsed }
      rw [State.setFrames_self ht]
    subst hg
    refine Or.inl ⟨v, ⟨(({ U with heap := s₂.heap, slotsUsed := s₂.slotsUsed } : State).setVm s₂.vm), Ls ++ L, c0 + mc, s0 + ms⟩,
      ⟨X.admits, X.cas, X.clock, X.frames, X.room, X.hears, X.method, X.code, (X.here.setHeapUsed s₂.heap s₂.slotsUsed).setVm hW'.alike, X.tail, State.WarmedH.trans X.warmed hW', X.limits, X.bytes, X.same.trans (hsame.setVm s.vm)⟩,
      ⟨g, mk, s₂, L, rfl, rfl, hqc, rfl, hL, rfl, rfl⟩, ?_⟩
    show Steps p.tables e below _ ((({ U with heap := s₂.heap, slotsUsed := s₂.slotsUsed } : State).setVm s₂.vm).setTop { g with pc := g.pc + len₂, stack := v.toList ++ g.stack })
    rw [← hs₂]
    exact hsteps
  · obtain ⟨e2, q2, q3, q4, q5, q6⟩ := id hsm
    have e3 : s₂ = ({ (U.calling g mk a).setFrames s₂.frames with heap := s₂.heap, slotsUsed := s₂.slotsUsed } : State).setVm s₂.vm := by
      have : s₂ = ({ s₂ with vm := (U.calling g mk a).vm } : State).setVm s₂.vm := rfl
      rw [e2] at this
      exact this
    have hf₂ : s₂.frames = .throwing q :: .java g :: U.frames.tail := hend
    have hW' : U.WarmedH s₂.vm := hW₂
    have hs₂ : s₂ = ((({ U with heap := s₂.heap, slotsUsed := s₂.slotsUsed } : State).setVm s₂.vm).setTop g).pushFrame (.throwing q) := by
      refine e3.trans ?_
      rw [hf₂, State.calling_eq h.top, State.setFrames_setFrames, State.pushFrame, State.frames_setTop _ hr', State.setTop_of_frames _ hr', State.setFrames_setFrames, hr]
      rfl
    have hsame : U.sameButNew ({ U with heap := s₂.heap, slotsUsed := s₂.slotsUsed } : State) L mc ms := by
      refine ⟨?_, q2, q3, q4, q5, q6⟩
      obtain ⟨t, ht, -⟩ := State.frames_cons hr
      show ({ U with heap := s₂.heap, slotsUsed := s₂.slotsUsed } : State) = { U.setFrames U.frames with heap := s₂.heap, slotsUsed := s₂.slotsUsed }
      rw [State.setFrames_self ht]
    subst hg
    refine Or.inr ⟨q, ⟨(({ U with heap := s₂.heap, slotsUsed := s₂.slotsUsed } : State).setVm s₂.vm), Ls ++ L, c0 + mc, s0 + ms⟩,
      ⟨X.admits, X.cas, X.clock, X.frames, X.room, X.hears, X.method, X.code, (X.here.setHeapUsed s₂.heap s₂.slotsUsed).setVm hW'.alike, X.tail, State.WarmedH.trans X.warmed hW', X.limits, X.bytes, X.same.trans (hsame.setVm s.vm)⟩,
      ⟨g, mk, s₂, L, E, ce, rfl, rfl, hx, hce, hcv, hcl, rfl, hL, rfl, rfl⟩, ?_⟩
    show Steps p.tables e below _ (((({ U with heap := s₂.heap, slotsUsed := s₂.slotsUsed } : State).setVm s₂.vm).setTop g).pushFrame (.throwing q))
    rw [← hs₂]
    exact hsteps
end
variable {p : Program} {l : Launch} {e : Env} {R : Room} {s : State} {m : MethodId} {args : Array Value} {below : List Frame} {meth : Method} {c : Code} {T : State} {H : Heap} {locs : List Loc} {cells slots : Nat}
theorem vx_callVX (X : Stand p l e R s m args below meth c T locs cells slots) (hexec : p.tables.exec = Jvm.exec) {own C : String} {index : Nat} {y : MethodName} {bytes : ByteArray} {maxL : Nat} {ret : Option FieldType} {hh : List (Nat × Nat × Nat × Nat)}
    (hown : s.vm.findClass own = some m.cls) (hlink : (Cond.methodLink own index y).before args s = true) (hinst : (Cond.instanceMethod y).before args s = true) (hsel : (Cond.selects C y y).before args s = true)
    (hcode : (Cond.codeWith y bytes maxL ret hh).before args s = true) (hy : y.cls ≠ "java/lang/invoke/MethodHandle" ∧ y.cls ≠ "java/lang/invoke/VarHandle")
    {W9 : Nat} {Pre : Pt → Array Value → Prop} {Post : Pt → Array Value → Option Value → Pt → Prop} {PostX : Pt → Array Value → Addr → Pt → Prop} (hK : vx_Back l R p e below s args y 3 W9 Pre Post PostX)
    {b : Addr} {cellB : Cell} (hcell : T.heap[b]? = some cellB) (hobj : cellB.vm.isStatics = false) (hcls : s.vm.findClass C = some cellB.cls)
    {g : JFrame} (hg : g.method = m) (hsize : g.locals.size = c.maxLocals) {argsL rest : List Value} (hlen : ∀ sig, parseMethodDescriptor y.desc = some sig → argsL.length = sig.parameters.length)
    (hstack : g.stack = argsL.reverse ++ .ref b :: rest) (hW : 2 * g.monitorRoom + (rest.map fun v => v.category).sum ≤ W9) (hdg : decode c.code g.pc = .ok (.invokevirtual index, 3))
    (hpre : ∀ vm₁, s.WarmedH vm₁ → Pre ⟨T.setVm vm₁, locs, cells, slots⟩ (Value.ref b :: argsL).toArray) :
    (∃ (v : Option Value) (vm₁ : Vm) (B : Pt), s.WarmedH vm₁ ∧ Stand p l e R s m args below meth c B.U B.locs B.cells B.slots ∧ Post ⟨T.setVm vm₁, locs, cells, slots⟩ (Value.ref b :: argsL).toArray v B ∧
      ∀ target, Steps p.tables e below (B.U.setTop { g with pc := g.pc + 3, stack := v.toList ++ rest }) target → Steps p.tables e below (T.setTop g) target) ∨
    (∃ (q : Addr) (vm₁ : Vm) (B : Pt), s.WarmedH vm₁ ∧ Stand p l e R s m args below meth c B.U B.locs B.cells B.slots ∧ PostX ⟨T.setVm vm₁, locs, cells, slots⟩ (Value.ref b :: argsL).toArray q B ∧
      Steps p.tables e below (T.setTop g) ((B.U.setTop { g with stack := rest }).pushFrame (.throwing q))) := by
  obtain ⟨mk, methM, hnamed, hmethM, hstM, habM⟩ := Cond.instanceMethod_spec hinst
  obtain ⟨m8, methM', cM, hn8, hmethM', -, -, -, -, -, -, hsigM⟩ := Cond.codeWith_spec hcode
  cases Option.some.inj (hn8.symm.trans hnamed)
  cases hmethM.symm.trans hmethM'
  obtain ⟨c2, r2, m2, q1, q2, q3, q4, kP, hkP, hkPi⟩ := Cond.selects_spec hsel
  cases hcls.symm.trans q1
  cases (State.methodFound?_of_named hnamed hy).symm.trans q2
  cases hnamed.symm.trans q3
  have hselP : selectMethod e.platform s.vm cellB.cls mk = .method mk := by rw [Launch.admits_selectMethod X.admits]; exact q4
  obtain ⟨vm₁, X₁, hstep₁⟩ := X.invokevirtual hexec hown hlink hnamed hmethM hstM hkP hkPi hy (a := b) (cell := cellB) hcell
    (fun z h => by rw [h] at hobj; cases hobj) hselP hmethM habM hkP hkPi (g := g) hg (argsL := argsL) (rest := rest) (hlen _ hsigM) hstack hdg
  rcases hK m meth c ⟨T.setVm vm₁, locs, cells, slots⟩ { g with stack := rest } (.invokevirtual index) mk (Value.ref b :: argsL).toArray X₁ hg hsize hdg hW (X₁.named hnamed) (hpre vm₁ X₁.warmed) with ⟨v, B, X', hpost, hsteps⟩ | ⟨q, B, X', hpost, hsteps⟩
  · exact Or.inl ⟨v, vm₁, B, X₁.warmed, X', hpost, fun target h => hstep₁ _ fun acts => by rw [doInvoke_state]; exact hsteps.trans h⟩
  · exact Or.inr ⟨q, vm₁, B, X₁.warmed, X', hpost, hstep₁ _ fun acts => by rw [doInvoke_state]; exact hsteps⟩
theorem vx_callSX (X : Stand p l e R s m args below meth c T locs cells slots) (hexec : p.tables.exec = Jvm.exec) {own : String} {index : Nat} {y : MethodName} {bytes : ByteArray} {maxL : Nat} {ret : Option FieldType} {hh : List (Nat × Nat × Nat × Nat)}
    (hown : s.vm.findClass own = some m.cls) (hlink : (Cond.methodLink own index y).before args s = true) (hstat : (Cond.static y).before args s = true) (hinit : (Cond.initialized y.cls).before args s = true)
    (hcode : (Cond.codeWith y bytes maxL ret hh).before args s = true) (hy : y.cls ≠ "java/lang/invoke/MethodHandle" ∧ y.cls ≠ "java/lang/invoke/VarHandle")
    {W9 : Nat} {Pre : Pt → Array Value → Prop} {Post : Pt → Array Value → Option Value → Pt → Prop} {PostX : Pt → Array Value → Addr → Pt → Prop} (hK : vx_Back l R p e below s args y 3 W9 Pre Post PostX)
    {g : JFrame} (hg : g.method = m) (hsize : g.locals.size = c.maxLocals) {argsL rest : List Value} (hlen : ∀ sig, parseMethodDescriptor y.desc = some sig → argsL.length = sig.parameters.length)
    (hstack : g.stack = argsL.reverse ++ rest) (hW : 2 * g.monitorRoom + (rest.map fun v => v.category).sum ≤ W9) (hdg : decode c.code g.pc = .ok (.invokestatic index, 3))
    (hpre : ∀ vm₁, s.WarmedH vm₁ → Pre ⟨T.setVm vm₁, locs, cells, slots⟩ argsL.toArray) :
    (∃ (v : Option Value) (vm₁ : Vm) (B : Pt), s.WarmedH vm₁ ∧ Stand p l e R s m args below meth c B.U B.locs B.cells B.slots ∧ Post ⟨T.setVm vm₁, locs, cells, slots⟩ argsL.toArray v B ∧
      ∀ target, Steps p.tables e below (B.U.setTop { g with pc := g.pc + 3, stack := v.toList ++ rest }) target → Steps p.tables e below (T.setTop g) target) ∨
    (∃ (q : Addr) (vm₁ : Vm) (B : Pt), s.WarmedH vm₁ ∧ Stand p l e R s m args below meth c B.U B.locs B.cells B.slots ∧ PostX ⟨T.setVm vm₁, locs, cells, slots⟩ argsL.toArray q B ∧
      Steps p.tables e below (T.setTop g) ((B.U.setTop { g with stack := rest }).pushFrame (.throwing q))) := by
  obtain ⟨mk, methM, cM, hnamed, hmethM, -, -, -, -, -, -, hsigM⟩ := Cond.codeWith_spec hcode
  have hstatic : methM.isStatic = true := Cond.static_spec hnamed hmethM hstat
  obtain ⟨kP, hkP, -⟩ := className_of_methodNamed hnamed
  have hinitP : kP.init = .initialized := Cond.initialized_spec (findClass_of_methodNamed hnamed) hkP hinit
  obtain ⟨vm₁, X₁, hstep₁⟩ := X.invokestatic hexec hown hlink hnamed hmethM hstatic hkP hinitP hy (g := g) hg (argsL := argsL) (rest := rest) (hlen _ hsigM) hstack hdg
  rcases hK m meth c ⟨T.setVm vm₁, locs, cells, slots⟩ { g with stack := rest } (.invokestatic index) mk argsL.toArray X₁ hg hsize hdg hW (X₁.named hnamed) (hpre vm₁ X₁.warmed) with ⟨v, B, X', hpost, hsteps⟩ | ⟨q, B, X', hpost, hsteps⟩
  · exact Or.inl ⟨v, vm₁, B, X₁.warmed, X', hpost, fun target h => hstep₁ _ fun acts => by rw [doInvoke_state]; exact hsteps.trans h⟩
  · exact Or.inr ⟨q, vm₁, B, X₁.warmed, X', hpost, hstep₁ _ fun acts => by rw [doInvoke_state]; exact hsteps⟩
theorem vx_callVW (X : Stand p l e R s m args below meth c T locs cells slots) (hexec : p.tables.exec = Jvm.exec) {own C : String} {index : Nat} {y : MethodName} {bytes : ByteArray} {maxL : Nat} {ret : Option FieldType} {hh : List (Nat × Nat × Nat × Nat)}
    (hown : s.vm.findClass own = some m.cls) (hlink : (Cond.methodLink own index y).before args s = true) (hinst : (Cond.instanceMethod y).before args s = true) (hsel : (Cond.selects C y y).before args s = true)
    (hcode : (Cond.codeWith y bytes maxL ret hh).before args s = true) (hy : y.cls ≠ "java/lang/invoke/MethodHandle" ∧ y.cls ≠ "java/lang/invoke/VarHandle")
    {W9 : Nat} {Pre : Pt → Array Value → Prop} {Post : Pt → Array Value → Option Value → Pt → Prop} (hK : Back l R p e below s args y 3 W9 Pre Post)
    {b : Addr} {cellB : Cell} (hcell : T.heap[b]? = some cellB) (hobj : cellB.vm.isStatics = false) (hcls : s.vm.findClass C = some cellB.cls)
    {g : JFrame} (hg : g.method = m) (hsize : g.locals.size = c.maxLocals) {argsL rest : List Value} (hlen : ∀ sig, parseMethodDescriptor y.desc = some sig → argsL.length = sig.parameters.length)
    (hstack : g.stack = argsL.reverse ++ .ref b :: rest) (hW : 2 * g.monitorRoom + (rest.map fun v => v.category).sum ≤ W9) (hdg : decode c.code g.pc = .ok (.invokevirtual index, 3))
    (hpre : ∀ vm₁, s.WarmedH vm₁ → Pre ⟨T.setVm vm₁, locs, cells, slots⟩ (Value.ref b :: argsL).toArray) :
    ∃ (v : Option Value) (vm₁ : Vm) (B : Pt), s.WarmedH vm₁ ∧ Stand p l e R s m args below meth c B.U B.locs B.cells B.slots ∧ Post ⟨T.setVm vm₁, locs, cells, slots⟩ (Value.ref b :: argsL).toArray v B ∧
      ∀ target, Steps p.tables e below (B.U.setTop { g with pc := g.pc + 3, stack := v.toList ++ rest }) target → Steps p.tables e below (T.setTop g) target := by
  obtain ⟨mk, methM, hnamed, hmethM, hstM, habM⟩ := Cond.instanceMethod_spec hinst
  obtain ⟨m8, methM', cM, hn8, hmethM', -, -, -, -, -, -, hsigM⟩ := Cond.codeWith_spec hcode
  cases Option.some.inj (hn8.symm.trans hnamed)
  cases hmethM.symm.trans hmethM'
  obtain ⟨c2, r2, m2, q1, q2, q3, q4, kP, hkP, hkPi⟩ := Cond.selects_spec hsel
  cases hcls.symm.trans q1
  cases (State.methodFound?_of_named hnamed hy).symm.trans q2
  cases hnamed.symm.trans q3
  have hselP : selectMethod e.platform s.vm cellB.cls mk = .method mk := by rw [Launch.admits_selectMethod X.admits]; exact q4
  obtain ⟨vm₁, X₁, hstep₁⟩ := X.invokevirtual hexec hown hlink hnamed hmethM hstM hkP hkPi hy (a := b) (cell := cellB) hcell
    (fun z h => by rw [h] at hobj; cases hobj) hselP hmethM habM hkP hkPi (g := g) hg (argsL := argsL) (rest := rest) (hlen _ hsigM) hstack hdg
  obtain ⟨v, B, X', hpost, hsteps⟩ := hK m meth c ⟨T.setVm vm₁, locs, cells, slots⟩ { g with stack := rest } (.invokevirtual index) mk (Value.ref b :: argsL).toArray X₁ hg hsize hdg hW (X₁.named hnamed) (hpre vm₁ X₁.warmed)
  exact ⟨v, vm₁, B, X₁.warmed, X', hpost, fun target h => hstep₁ _ fun acts => by rw [doInvoke_state]; exact hsteps.trans h⟩
abbrev vx_CVW (R : Room) (s : State) (args : Array Value) (own C : String) (index : Nat) (y : MethodName) (bytes : ByteArray) (maxL : Nat) (ret : Option FieldType) (hh : List (Nat × Nat × Nat × Nat)) (ws : List Cond) (rm : Room) (mc ms n : Nat) : Prop :=
  (rm.cells = mc ∧ rm.slots = ms ∧ rm.frames + 1 ≤ R.frames ∧ 8 + (maxL + 11) + rm.locals ≤ R.locals ∧ (∀ w ∈ ws, ∀ (a' : Array Value) (U : State), s.WarmedH U.vm → w.before a' U = true) ∧ Cond.codeWith y bytes maxL ret hh ∈ ws) ∧
  (Cond.codeWith y bytes maxL ret hh).before args s = true ∧ (Cond.initialized y.cls).before args s = true ∧ (y.cls ≠ "java/lang/invoke/MethodHandle" ∧ y.cls ≠ "java/lang/invoke/VarHandle") ∧
  (∀ sig, parseMethodDescriptor y.desc = some sig → n = sig.parameters.length) ∧ (Cond.methodLink own index y).before args s = true ∧ (Cond.instanceMethod y).before args s = true ∧ (Cond.selects C y y).before args s = true
theorem vx_cwVW {own C : String} {index maxL mc ms : Nat} {y : MethodName} {bytes : ByteArray} {ret : Option FieldType} {hh : List (Nat × Nat × Nat × Nat)} {Ts ws ws' : List Cond} {rm : Room} (n : Nat) (ht : ∀ w ∈ Ts, w.before args s = true) (hT : GoodIn Ts (wsV own index C y ws)) (hw : ws = Cond.codeWith y bytes maxL ret hh :: ws') (hrc : rm.cells = mc) (hrs : rm.slots = ms)
    (hd : y.cls = C ∧ y.cls ≠ "java/lang/invoke/MethodHandle" ∧ y.cls ≠ "java/lang/invoke/VarHandle" ∧ (parseMethodDescriptor y.desc).map (fun d => d.parameters.length) = some n) (hR : rm.frames + 1 ≤ R.frames ∧ 8 + (maxL + 11) + rm.locals ≤ R.locals) :
    vx_CVW R s args own C index y bytes maxL ret hh ws rm mc ms n := by
  obtain ⟨hC, hd⟩ := hd
  subst hC
  have ok : ∀ w ∈ wsV own index y.cls y ws, w.before args s = true := fun w h => ht w (hT w h).1
  have hG : GoodIn Ts ws := fun w h => hT w (by unfold wsV; exact List.mem_append_right _ h)
  have hc : Cond.codeWith y bytes maxL ret hh ∈ ws := by rw [hw]; exact List.mem_cons_self
  refine ⟨⟨hrc, hrs, hR.1, hR.2, pay_in ht hG, hc⟩, ht _ (hG _ hc).1, ok _ (by simp [wsV]), ⟨hd.1, hd.2.1⟩, fun sig h => ?_, ok _ (by simp [wsV]), ok _ (by simp [wsV]), ok _ (by simp [wsV])⟩
  have h2 := hd.2.2
  rw [h] at h2
  exact (Option.some.inj h2).symm
theorem vx_runVW {y : MethodName} {bytes cc : ByteArray} {maxL nL mc ms n index : Nat} {ret : Option FieldType} {hh : List (Nat × Nat × Nat × Nat)} {ws : List Cond} {rm : Room} {Pc : Array Value → State → Prop} {Qc : Array Value → State → Outcome → State → Prop} {free : Addr → Prop} {Ts : List Cond} {own C : String} {b : Addr} {As rest : List Value} {g : JFrame}
    (S : CallFix p m c cc nL s args Ts own) (hM : Met l y ws rm Pc Qc mc ms free) (cw : vx_CVW R s args own C index y bytes maxL ret hh ws rm mc ms n) (hp : PreV s H C b Pc As)
    (hg : g.method = m) (hn : As.length = n) (hsize : g.locals.size = nL) (hstack : g.stack = As.reverse ++ .ref b :: rest) (hW : 2 * g.monitorRoom + (rest.map fun v => v.category).sum ≤ 8) (hdg : decode cc g.pc = .ok (.invokevirtual index, 3)) (hf : cells + mc ≤ R.cells ∧ slots + ms ≤ R.slots) :
    va_Run p l e R s m args below meth c H locs cells slots mc ms g rest (Qc (Value.ref b :: As).toArray) free := by
  obtain ⟨⟨hrc, hrs, hfr, hlo, hws, hcw⟩, hcode, hini, hy, hlen, hl, hin, hse⟩ := cw
  have hK : Back l R p e below s args y 3 8 (PreOf R mc ms Pc) (PostOf Qc mc ms free) := va_backW (hh := hh) (bytes := bytes) (maxL := maxL) (ret := ret) hM hp.1 hrc hrs hfr hlo hws hcw (fun a' U hW => word_at hW (Or.inl (by first | rfl | simp [Cond.onTables, Cond.keeps, Cond.steady])) hini)
  obtain ⟨hx, hb, hml, ho, -⟩ := S
  obtain ⟨-, ⟨cellB, hcB, hoB, hclB⟩, hPc⟩ := hp
  intro T hT X
  obtain ⟨v, vm₁, ⟨U', l2, c2, s2⟩, hW₁, X', ⟨g', mk, t, L, e1, e2, hq, h1, hL, h2, h3⟩, st⟩ := vx_callVW X hx (C := C) (hh := hh) (bytes := bytes) (maxL := maxL) (ret := ret) ho hl hin hse hcode hy hK (by rw [hT]; exact hcB) hoB hclB hg (hsize.trans hml.symm) (argsL := As) (rest := rest) (fun sig h => hn.trans (hlen sig h)) hstack hW (by rw [hb]; exact hdg)
    (fun vm₁ hW₁ => ⟨hf.1, hf.2, hPc (T.setVm vm₁) hT hW₁⟩)
  dsimp only [Pt.U, Pt.locs, Pt.cells, Pt.slots] at X' e1 e2 h1 h2 h3 st
  subst h1; subst h2; subst h3
  exact ⟨v, (T.setVm vm₁).calling g' mk (Value.ref b :: As).toArray, t, U', L, hT, X', hL, e1, e2, hq, st⟩
section
variable {y : MethodName} {bytes cc : ByteArray} {maxL nL mc ms n index : Nat} {ret : Option FieldType} {ws : List Cond} {rm : Room} {Pc : Array Value → State → Prop} {Qc : Array Value → State → Outcome → State → Prop} {XC : String → State → State → Prop} {free : Addr → Prop} {Ts : List Cond} {own C : String} {b : Addr} {As rest : List Value} {g : JFrame}
theorem vx_runVX {hh : List (Nat × Nat × Nat × Nat)} (S : CallFix p m c cc nL s args Ts own) (hM : vx_Met l y ws rm Pc Qc XC mc ms free) (cw : vx_CVW R s args own C index y bytes maxL ret hh ws rm mc ms n) (hp : PreV s H C b Pc As)
    (hg : g.method = m) (hn : As.length = n) (hsize : g.locals.size = nL) (hstack : g.stack = As.reverse ++ .ref b :: rest) (hW : 2 * g.monitorRoom + (rest.map fun v => v.category).sum ≤ 8) (hdg : decode cc g.pc = .ok (.invokevirtual index, 3)) (hf : cells + mc ≤ R.cells ∧ slots + ms ≤ R.slots) :
    vx_Run p l e R s m args below meth c H locs cells slots mc ms g rest (Qc (Value.ref b :: As).toArray) XC free := by
  obtain ⟨⟨hrc, hrs, hfr, hlo, hws, hcw⟩, hcode, hini, hy, hlen, hl, hin, hse⟩ := cw
  have hK : vx_Back l R p e below s args y 3 8 (PreOf R mc ms Pc) (PostOf Qc mc ms free) (vx_Post XC mc ms free) := vx_backW (hh := hh) (bytes := bytes) (maxL := maxL) (ret := ret) hM hp.1 hrc hrs hfr hlo hws hcw (fun a' U hW => word_at hW (Or.inl (by first | rfl | simp [Cond.onTables, Cond.keeps, Cond.steady])) hini)
  obtain ⟨hx, hb, hml, ho, -⟩ := S
  obtain ⟨-, ⟨cellB, hcB, hoB, hclB⟩, hPc⟩ := hp
  intro T hT X
  rcases vx_callVX X hx (C := C) (hh := hh) (bytes := bytes) (maxL := maxL) (ret := ret) ho hl hin hse hcode hy hK (by rw [hT]; exact hcB) hoB hclB hg (hsize.trans hml.symm) (argsL := As) (rest := rest) (fun sig h => hn.trans (hlen sig h)) hstack hW (by rw [hb]; exact hdg)
    (fun vm₁ hW₁ => ⟨hf.1, hf.2, hPc (T.setVm vm₁) hT hW₁⟩) with ⟨v, vm₁, ⟨U', l2, c2, s2⟩, hW₁, X', ⟨g', mk, t, L, e1, e2, hq, h1, hL, h2, h3⟩, st⟩ | ⟨q, vm₁, ⟨U', l2, c2, s2⟩, hW₁, X', ⟨g', mk, t, L, E, ce, e1, e2, hq, hce, hcv, hcl, h1, hL, h2, h3⟩, st⟩
  · dsimp only [Pt.U, Pt.locs, Pt.cells, Pt.slots] at X' e1 e2 h1 h2 h3 st
    subst h1; subst h2; subst h3
    exact Or.inl ⟨v, (T.setVm vm₁).calling g' mk (Value.ref b :: As).toArray, t, U', L, hT, X', hL, e1, e2, hq, st⟩
  · dsimp only [Pt.U, Pt.locs, Pt.cells, Pt.slots] at X' e1 e2 h1 h2 h3 st hcl
    subst h1; subst h2; subst h3
    exact Or.inr ⟨q, (T.setVm vm₁).calling g' mk (Value.ref b :: As).toArray, t, U', L, E, ce, hT, X', hL, e1, e2, hq, hce, hcv, vx_cls hW₁ hcl, st⟩
theorem vx_runSX {hh : List (Nat × Nat × Nat × Nat)} (S : CallFix p m c cc nL s args Ts own) (hM : vx_Met l y ws rm Pc Qc XC mc ms free) (cw : vx_CSW R s args own index y bytes maxL ret hh ws rm mc ms n) (hp : PreS s H Pc As)
    (hg : g.method = m) (hn : As.length = n) (hsize : g.locals.size = nL) (hstack : g.stack = As.reverse ++ rest) (hW : 2 * g.monitorRoom + (rest.map fun v => v.category).sum ≤ 8) (hdg : decode cc g.pc = .ok (.invokestatic index, 3)) (hf : cells + mc ≤ R.cells ∧ slots + ms ≤ R.slots) :
    vx_Run p l e R s m args below meth c H locs cells slots mc ms g rest (Qc As.toArray) XC free := by
  obtain ⟨⟨hrc, hrs, hfr, hlo, hws, hcw⟩, hcode, hini, hy, hlen, hl, hstt⟩ := cw
  have hK : vx_Back l R p e below s args y 3 8 (PreOf R mc ms Pc) (PostOf Qc mc ms free) (vx_Post XC mc ms free) := vx_backW (hh := hh) (bytes := bytes) (maxL := maxL) (ret := ret) hM hp.1 hrc hrs hfr hlo hws hcw (fun a' U hW => word_at hW (Or.inl (by first | rfl | simp [Cond.onTables, Cond.keeps, Cond.steady])) hini)
  obtain ⟨hx, hb, hml, ho, -⟩ := S
  intro T hT X
  rcases vx_callSX X hx (hh := hh) (bytes := bytes) (maxL := maxL) (ret := ret) ho hl hstt hini hcode hy hK hg (hsize.trans hml.symm) (argsL := As) (rest := rest) (fun sig h => hn.trans (hlen sig h)) hstack hW (by rw [hb]; exact hdg)
    (fun vm₁ hW₁ => ⟨hf.1, hf.2, hp.2 (T.setVm vm₁) hT hW₁⟩) with ⟨v, vm₁, ⟨U', l2, c2, s2⟩, hW₁, X', ⟨g', mk, t, L, e1, e2, hq, h1, hL, h2, h3⟩, st⟩ | ⟨q, vm₁, ⟨U', l2, c2, s2⟩, hW₁, X', ⟨g', mk, t, L, E, ce, e1, e2, hq, hce, hcv, hcl, h1, hL, h2, h3⟩, st⟩
  · dsimp only [Pt.U, Pt.locs, Pt.cells, Pt.slots] at X' e1 e2 h1 h2 h3 st
    subst h1; subst h2; subst h3
    exact Or.inl ⟨v, (T.setVm vm₁).calling g' mk As.toArray, t, U', L, hT, X', hL, e1, e2, hq, st⟩
  · dsimp only [Pt.U, Pt.locs, Pt.cells, Pt.slots] at X' e1 e2 h1 h2 h3 st hcl
    subst h1; subst h2; subst h3
    exact Or.inr ⟨q, (T.setVm vm₁).calling g' mk As.toArray, t, U', L, E, ce, hT, X', hL, e1, e2, hq, hce, hcv, vx_cls hW₁ hcl, st⟩
end
end VXH
theorem vx_ofWH {l : Launch} {y : MethodName} {ws ws' : List Cond} {rm : Room} {Pc : Array Value → State → Prop} {Qc : Array Value → State → Outcome → State → Prop} {XC : String → State → State → Prop} {mc ms : Nat} {free : Addr → Prop} {cc : ByteArray} {maxL : Nat} {ret : Option FieldType} {hh : List (Nat × Nat × Nat × Nat)}
    (hy : plainName y.cls = true) (hw : ws = Cond.codeWith y cc maxL ret hh :: ws')
    (body : ∀ p e s m args below meth c s₁, BodyLoose p l y (headSpec ws rm) cc maxL ret e s m args below meth c s₁ → c.maxLocals = maxL → Pc args s →
      W p l e (headSpec ws rm).room s m args below meth c s.heap [] 0 0 (vx_MQ below Qc XC args s mc ms free) (entryFrame m args maxL)) : vx_Met l y ws rm Pc Qc XC mc ms free := by
  refine MetFree.of_bodyS (code := cc) (maxLocals := maxL) (ret := ret) hy ?_ ?_
  · intro args s m h hn
    obtain ⟨m9, meth, c, hn9, h1, h2, h3, h4, -, h5, h6, -⟩ := Cond.codeWith_spec (atoms_spec (ws := ws) h _ (by rw [hw]; exact List.mem_cons_self))
    cases hn.symm.trans hn9
    exact ⟨meth, c, h1, h2, h3, h4, h5, h6⟩
  · intro p e s m args below meth c s₁ B hml hP _
    have hh0 : s₁.heap = s.heap := by rw [B.state]; rfl
    obtain ⟨t, a1, o, b1, b2, b3⟩ := body p e s m args below meth c s₁ B hml hP s₁ hh0 (Stand.of_body B)
    exact ⟨t, o, a1, b1, b2, b3⟩
/-! ===== END ===== -/
end
section
/-! words of 'new NoSuchElementException(text)': its constructor calls RuntimeException's by the entry 13 of its own file -/
def hn_own (own : String) (ic : Nat) : List Cond := Bundle.throwableAtoms ++ Bundle.throwableSAtoms ++ (Bundle.passSAtoms "java/util/NoSuchElementException" "java/lang/RuntimeException" 13 prog_15_method_4_code ++ Bundle.chainSAtoms "java/lang/RuntimeException" ["java/lang/Exception"]) ++
  [.methodLink own ic (Bundle.initS "java/util/NoSuchElementException"), .instantiable "java/util/NoSuchElementException" 6, .castable "java/util/NoSuchElementException" "java/util/NoSuchElementException", .selects "java/util/NoSuchElementException" Bundle.tFill0 Bundle.tFill0, .selects "java/util/NoSuchElementException" Bundle.tFill Bundle.tFill,
   .lays "java/util/NoSuchElementException" Bundle.tN "cause" "Ljava/lang/Throwable;", .lays "java/util/NoSuchElementException" Bundle.tN "stackTrace" Bundle.steD, .lays "java/util/NoSuchElementException" Bundle.tN "suppressedExceptions" Bundle.listD, .lays "java/util/NoSuchElementException" Bundle.tN "detailMessage" "Ljava/lang/String;",
   .isRef (.static Bundle.tN "UNASSIGNED_STACK" Bundle.steD), .isRef (.static Bundle.tN "SUPPRESSED_SENTINEL" Bundle.listD),
   .fieldLink Bundle.tN 198 Bundle.tN "backtrace" "Ljava/lang/Object;", .lays Bundle.tN Bundle.tN "backtrace" "Ljava/lang/Object;", .lays "java/util/NoSuchElementException" Bundle.tN "backtrace" "Ljava/lang/Object;"]
def hn_atS (own : String) (ic : Nat) : List Cond := (hn_own own ic).filter vx_no
/-! ===== BEGIN printed: names, fields, word lists, decode rows ===== -/
def RX0 : String := "HeapAndDeque$LeastFirst"
def TX0 : u_T := fun k => match k with
  | 0 => ("HeapAndDeque$LeastFirst", "values", "[J", true)
  | _ => ("HeapAndDeque$LeastFirst", "count", "I", false)
def tyX0 : Nat → FieldType := fun k => match k with
  | 0 => .array .long
  | _ => .int
abbrev wsX00 : List Cond := u_ws RX0 TX0 2
theorem nmX0 : ∀ a, a < 2 → ∀ b, b < 2 → a ≠ b → (TX0 a).2.1 ≠ (TX0 b).2.1 := by decide +kernel
theorem tyX0_ok : ∀ k, k < 2 → parseFieldDescriptor (TX0 k).2.2.1 = some (tyX0 k) := by decide +kernel
abbrev cX0_init : ByteArray := prog_2_method_1_code
def yX0_init : MethodName := ⟨RX0, "<init>", "()V"⟩
abbrev cX0_put : ByteArray := prog_2_method_2_code
def yX0_put : MethodName := ⟨RX0, "put", "(J)I"⟩
abbrev cX0_least : ByteArray := prog_2_method_3_code
def yX0_least : MethodName := ⟨RX0, "least", "()J"⟩
abbrev cX0_takeLeast : ByteArray := prog_2_method_4_code
def yX0_takeLeast : MethodName := ⟨RX0, "takeLeast", "()J"⟩
abbrev cX0_takeLike : ByteArray := prog_2_method_5_code
def yX0_takeLike : MethodName := ⟨RX0, "takeLike", "(J)Z"⟩
abbrev cX0_placeOf : ByteArray := prog_2_method_6_code
def yX0_placeOf : MethodName := ⟨RX0, "placeOf", "(J)I"⟩
abbrev cX0_empty : ByteArray := prog_2_method_7_code
def yX0_empty : MethodName := ⟨RX0, "empty", "()I"⟩
def RX1 : String := "HeapAndDeque$Row"
def TX1 : u_T := fun k => match k with
  | 0 => ("HeapAndDeque$Row", "values", "[I", true)
  | _ => ("HeapAndDeque$Row", "count", "I", false)
def tyX1 : Nat → FieldType := fun k => match k with
  | 0 => .array .int
  | _ => .int
abbrev wsX10 : List Cond := u_ws RX1 TX1 2
theorem nmX1 : ∀ a, a < 2 → ∀ b, b < 2 → a ≠ b → (TX1 a).2.1 ≠ (TX1 b).2.1 := by decide +kernel
theorem tyX1_ok : ∀ k, k < 2 → parseFieldDescriptor (TX1 k).2.2.1 = some (tyX1 k) := by decide +kernel
abbrev cX1_init : ByteArray := prog_3_method_1_code
def yX1_init : MethodName := ⟨RX1, "<init>", "()V"⟩
abbrev cX1_putFirst : ByteArray := prog_3_method_2_code
def yX1_putFirst : MethodName := ⟨RX1, "putFirst", "(I)I"⟩
abbrev cX1_putLast : ByteArray := prog_3_method_3_code
def yX1_putLast : MethodName := ⟨RX1, "putLast", "(I)I"⟩
abbrev cX1_first : ByteArray := prog_3_method_4_code
def yX1_first : MethodName := ⟨RX1, "first", "()I"⟩
abbrev cX1_last : ByteArray := prog_3_method_5_code
def yX1_last : MethodName := ⟨RX1, "last", "()I"⟩
abbrev cX1_takeFirst : ByteArray := prog_3_method_6_code
def yX1_takeFirst : MethodName := ⟨RX1, "takeFirst", "()I"⟩
abbrev cX1_takeLast : ByteArray := prog_3_method_7_code
def yX1_takeLast : MethodName := ⟨RX1, "takeLast", "()I"⟩
abbrev cX1_takeFound : ByteArray := prog_3_method_8_code
def yX1_takeFound : MethodName := ⟨RX1, "takeFound", "(I)Z"⟩
abbrev cX1_firstPlaceOf : ByteArray := prog_3_method_9_code
def yX1_firstPlaceOf : MethodName := ⟨RX1, "firstPlaceOf", "(I)I"⟩
abbrev cX1_lastPlaceOf : ByteArray := prog_3_method_10_code
def yX1_lastPlaceOf : MethodName := ⟨RX1, "lastPlaceOf", "(I)I"⟩
abbrev cX1_numberAt : ByteArray := prog_3_method_11_code
def yX1_numberAt : MethodName := ⟨RX1, "numberAt", "(I)I"⟩
abbrev cX1_numberFromLast : ByteArray := prog_3_method_12_code
def yX1_numberFromLast : MethodName := ⟨RX1, "numberFromLast", "(I)I"⟩
abbrev cX1_takeAllLike : ByteArray := prog_3_method_13_code
def yX1_takeAllLike : MethodName := ⟨RX1, "takeAllLike", "(I)I"⟩
abbrev cX1_sumFromFirst : ByteArray := prog_3_method_14_code
def yX1_sumFromFirst : MethodName := ⟨RX1, "sumFromFirst", "()J"⟩
abbrev cX1_sumFromLast : ByteArray := prog_3_method_15_code
def yX1_sumFromLast : MethodName := ⟨RX1, "sumFromLast", "()J"⟩
abbrev cX1_empty : ByteArray := prog_3_method_16_code
def yX1_empty : MethodName := ⟨RX1, "empty", "()I"⟩
def RX2 : String := "HeapAndDeque"
def TX2 : u_T := fun k => match k with
  | 0 => ("HeapAndDeque", "numbers", "LHeapAndDeque$LeastFirst;", true)
  | 1 => ("HeapAndDeque", "pairs", "LHeapAndDeque$LeastFirst;", true)
  | _ => ("HeapAndDeque", "row", "LHeapAndDeque$Row;", true)
def tyX2 : Nat → FieldType := fun k => match k with
  | 0 => .object "HeapAndDeque$LeastFirst"
  | 1 => .object "HeapAndDeque$LeastFirst"
  | _ => .object "HeapAndDeque$Row"
abbrev wsX20 : List Cond := u_ws RX2 TX2 3
theorem nmX2 : ∀ a, a < 3 → ∀ b, b < 3 → a ≠ b → (TX2 a).2.1 ≠ (TX2 b).2.1 := by decide +kernel
theorem tyX2_ok : ∀ k, k < 3 → parseFieldDescriptor (TX2 k).2.2.1 = some (tyX2 k) := by decide +kernel
abbrev cX2_init : ByteArray := prog_1_method_1_code
def yX2_init : MethodName := ⟨RX2, "<init>", "()V"⟩
abbrev cX2_offer : ByteArray := prog_1_method_2_code
def yX2_offer : MethodName := ⟨RX2, "offer", "(I)I"⟩
abbrev cX2_add : ByteArray := prog_1_method_3_code
def yX2_add : MethodName := ⟨RX2, "add", "(I)I"⟩
abbrev cX2_peek : ByteArray := prog_1_method_4_code
def yX2_peek : MethodName := ⟨RX2, "peek", "()I"⟩
abbrev cX2_poll : ByteArray := prog_1_method_5_code
def yX2_poll : MethodName := ⟨RX2, "poll", "()I"⟩
abbrev cX2_remove : ByteArray := prog_1_method_6_code
def yX2_remove : MethodName := ⟨RX2, "remove", "(I)Z"⟩
abbrev cX2_contains : ByteArray := prog_1_method_7_code
def yX2_contains : MethodName := ⟨RX2, "contains", "(I)Z"⟩
abbrev cX2_size : ByteArray := prog_1_method_8_code
def yX2_size : MethodName := ⟨RX2, "size", "()I"⟩
abbrev cX2_clear : ByteArray := prog_1_method_9_code
def yX2_clear : MethodName := ⟨RX2, "clear", "()I"⟩
abbrev cX2_addAll : ByteArray := prog_1_method_10_code
def yX2_addAll : MethodName := ⟨RX2, "addAll", "()I"⟩
abbrev cX2_drain : ByteArray := prog_1_method_11_code
def yX2_drain : MethodName := ⟨RX2, "drain", "()I"⟩
abbrev cX2_offerPair : ByteArray := prog_1_method_12_code
def yX2_offerPair : MethodName := ⟨RX2, "offerPair", "(II)I"⟩
abbrev cX2_peekPair : ByteArray := prog_1_method_13_code
def yX2_peekPair : MethodName := ⟨RX2, "peekPair", "()J"⟩
abbrev cX2_pollPair : ByteArray := prog_1_method_14_code
def yX2_pollPair : MethodName := ⟨RX2, "pollPair", "()J"⟩
abbrev cX2_removePair : ByteArray := prog_1_method_15_code
def yX2_removePair : MethodName := ⟨RX2, "removePair", "(II)Z"⟩
abbrev cX2_containsPair : ByteArray := prog_1_method_16_code
def yX2_containsPair : MethodName := ⟨RX2, "containsPair", "(II)Z"⟩
abbrev cX2_sizePairs : ByteArray := prog_1_method_17_code
def yX2_sizePairs : MethodName := ⟨RX2, "sizePairs", "()I"⟩
abbrev cX2_clearPairs : ByteArray := prog_1_method_18_code
def yX2_clearPairs : MethodName := ⟨RX2, "clearPairs", "()I"⟩
abbrev cX2_drainPairs : ByteArray := prog_1_method_19_code
def yX2_drainPairs : MethodName := ⟨RX2, "drainPairs", "()I"⟩
abbrev cX2_addFirst : ByteArray := prog_1_method_20_code
def yX2_addFirst : MethodName := ⟨RX2, "addFirst", "(I)I"⟩
abbrev cX2_addLast : ByteArray := prog_1_method_21_code
def yX2_addLast : MethodName := ⟨RX2, "addLast", "(I)I"⟩
abbrev cX2_getFirst : ByteArray := prog_1_method_22_code
def yX2_getFirst : MethodName := ⟨RX2, "getFirst", "()I"⟩
abbrev cX2_getLast : ByteArray := prog_1_method_23_code
def yX2_getLast : MethodName := ⟨RX2, "getLast", "()I"⟩
abbrev cX2_removeFirst : ByteArray := prog_1_method_24_code
def yX2_removeFirst : MethodName := ⟨RX2, "removeFirst", "()I"⟩
abbrev cX2_removeLast : ByteArray := prog_1_method_25_code
def yX2_removeLast : MethodName := ⟨RX2, "removeLast", "()I"⟩
abbrev cX2_push : ByteArray := prog_1_method_26_code
def yX2_push : MethodName := ⟨RX2, "push", "(I)I"⟩
abbrev cX2_pop : ByteArray := prog_1_method_27_code
def yX2_pop : MethodName := ⟨RX2, "pop", "()I"⟩
abbrev cX2_removeFirstOccurrence : ByteArray := prog_1_method_28_code
def yX2_removeFirstOccurrence : MethodName := ⟨RX2, "removeFirstOccurrence", "(I)Z"⟩
abbrev cX2_removeLastOccurrence : ByteArray := prog_1_method_29_code
def yX2_removeLastOccurrence : MethodName := ⟨RX2, "removeLastOccurrence", "(I)Z"⟩
abbrev cX2_has : ByteArray := prog_1_method_30_code
def yX2_has : MethodName := ⟨RX2, "has", "(I)Z"⟩
abbrev cX2_length : ByteArray := prog_1_method_31_code
def yX2_length : MethodName := ⟨RX2, "length", "()I"⟩
abbrev cX2_wipe : ByteArray := prog_1_method_32_code
def yX2_wipe : MethodName := ⟨RX2, "wipe", "()I"⟩
abbrev cX2_at : ByteArray := prog_1_method_33_code
def yX2_at : MethodName := ⟨RX2, "at", "(I)I"⟩
abbrev cX2_back : ByteArray := prog_1_method_34_code
def yX2_back : MethodName := ⟨RX2, "back", "(I)I"⟩
abbrev cX2_dropLike : ByteArray := prog_1_method_35_code
def yX2_dropLike : MethodName := ⟨RX2, "dropLike", "(I)I"⟩
abbrev cX2_walk : ByteArray := prog_1_method_36_code
def yX2_walk : MethodName := ⟨RX2, "walk", "()J"⟩
abbrev cX2_walkBack : ByteArray := prog_1_method_37_code
def yX2_walkBack : MethodName := ⟨RX2, "walkBack", "()J"⟩
abbrev cX2_refuseAtRow : ByteArray := prog_1_method_38_code
def yX2_refuseAtRow : MethodName := ⟨RX2, "refuseAtRow", "(I)V"⟩
abbrev cX2_rankOf : ByteArray := prog_1_method_39_code
def yX2_rankOf : MethodName := ⟨RX2, "rankOf", "(II)J"⟩
abbrev cX2_keyOf : ByteArray := prog_1_method_40_code
def yX2_keyOf : MethodName := ⟨RX2, "keyOf", "(J)I"⟩
abbrev cX2_toldOf : ByteArray := prog_1_method_41_code
def yX2_toldOf : MethodName := ⟨RX2, "toldOf", "(J)J"⟩
def RX3 : String := "HeapAndDequeModel"
def TX3 : u_T := fun k => match k with
  | 0 => ("HeapAndDequeModel", "heap", "[I", true)
  | 1 => ("HeapAndDequeModel", "row", "[I", true)
  | 2 => ("HeapAndDequeModel", "keys", "[I", true)
  | 3 => ("HeapAndDequeModel", "tags", "[I", true)
  | 4 => ("HeapAndDequeModel", "held", "I", false)
  | 5 => ("HeapAndDequeModel", "many", "I", false)
  | 6 => ("HeapAndDequeModel", "pairs", "I", false)
  | _ => ("HeapAndDequeModel", "thrown", "I", false)
def tyX3 : Nat → FieldType := fun k => match k with
  | 0 => .array .int
  | 1 => .array .int
  | 2 => .array .int
  | 3 => .array .int
  | 4 => .int
  | 5 => .int
  | 6 => .int
  | _ => .int
abbrev wsX30 : List Cond := u_ws RX3 TX3 8
theorem nmX3 : ∀ a, a < 8 → ∀ b, b < 8 → a ≠ b → (TX3 a).2.1 ≠ (TX3 b).2.1 := by decide +kernel
theorem tyX3_ok : ∀ k, k < 8 → parseFieldDescriptor (TX3 k).2.2.1 = some (tyX3 k) := by decide +kernel
abbrev cX3_init : ByteArray := prog_5_method_1_code
def yX3_init : MethodName := ⟨RX3, "<init>", "()V"⟩
abbrev cX3_thrown : ByteArray := prog_5_method_2_code
def yX3_thrown : MethodName := ⟨RX3, "thrown", "()I"⟩
abbrev cX3_isWrong : ByteArray := prog_5_method_3_code
def yX3_isWrong : MethodName := ⟨RX3, "isWrong", "(I)Z"⟩
abbrev cX3_leastPlace : ByteArray := prog_5_method_4_code
def yX3_leastPlace : MethodName := ⟨RX3, "leastPlace", "()I"⟩
abbrev cX3_heldPlace : ByteArray := prog_5_method_5_code
def yX3_heldPlace : MethodName := ⟨RX3, "heldPlace", "(I)I"⟩
abbrev cX3_takeHeld : ByteArray := prog_5_method_6_code
def yX3_takeHeld : MethodName := ⟨RX3, "takeHeld", "(I)I"⟩
abbrev cX3_offer : ByteArray := prog_5_method_7_code
def yX3_offer : MethodName := ⟨RX3, "offer", "(I)I"⟩
abbrev cX3_add : ByteArray := prog_5_method_8_code
def yX3_add : MethodName := ⟨RX3, "add", "(I)I"⟩
abbrev cX3_peek : ByteArray := prog_5_method_9_code
def yX3_peek : MethodName := ⟨RX3, "peek", "()I"⟩
abbrev cX3_poll : ByteArray := prog_5_method_10_code
def yX3_poll : MethodName := ⟨RX3, "poll", "()I"⟩
abbrev cX3_remove : ByteArray := prog_5_method_11_code
def yX3_remove : MethodName := ⟨RX3, "remove", "(I)Z"⟩
abbrev cX3_contains : ByteArray := prog_5_method_12_code
def yX3_contains : MethodName := ⟨RX3, "contains", "(I)Z"⟩
abbrev cX3_size : ByteArray := prog_5_method_13_code
def yX3_size : MethodName := ⟨RX3, "size", "()I"⟩
abbrev cX3_clear : ByteArray := prog_5_method_14_code
def yX3_clear : MethodName := ⟨RX3, "clear", "()I"⟩
abbrev cX3_addAll : ByteArray := prog_5_method_15_code
def yX3_addAll : MethodName := ⟨RX3, "addAll", "()I"⟩
abbrev cX3_drain : ByteArray := prog_5_method_16_code
def yX3_drain : MethodName := ⟨RX3, "drain", "()I"⟩
abbrev cX3_leastPair : ByteArray := prog_5_method_17_code
def yX3_leastPair : MethodName := ⟨RX3, "leastPair", "()I"⟩
abbrev cX3_pairPlace : ByteArray := prog_5_method_18_code
def yX3_pairPlace : MethodName := ⟨RX3, "pairPlace", "(II)I"⟩
abbrev cX3_takePair : ByteArray := prog_5_method_19_code
def yX3_takePair : MethodName := ⟨RX3, "takePair", "(I)V"⟩
abbrev cX3_isNoTag : ByteArray := prog_5_method_20_code
def yX3_isNoTag : MethodName := ⟨RX3, "isNoTag", "(I)Z"⟩
abbrev cX3_offerPair : ByteArray := prog_5_method_21_code
def yX3_offerPair : MethodName := ⟨RX3, "offerPair", "(II)I"⟩
abbrev cX3_told : ByteArray := prog_5_method_22_code
def yX3_told : MethodName := ⟨RX3, "told", "(I)J"⟩
abbrev cX3_peekPair : ByteArray := prog_5_method_23_code
def yX3_peekPair : MethodName := ⟨RX3, "peekPair", "()J"⟩
abbrev cX3_pollPair : ByteArray := prog_5_method_24_code
def yX3_pollPair : MethodName := ⟨RX3, "pollPair", "()J"⟩
abbrev cX3_removePair : ByteArray := prog_5_method_25_code
def yX3_removePair : MethodName := ⟨RX3, "removePair", "(II)Z"⟩
abbrev cX3_containsPair : ByteArray := prog_5_method_26_code
def yX3_containsPair : MethodName := ⟨RX3, "containsPair", "(II)Z"⟩
abbrev cX3_sizePairs : ByteArray := prog_5_method_27_code
def yX3_sizePairs : MethodName := ⟨RX3, "sizePairs", "()I"⟩
abbrev cX3_clearPairs : ByteArray := prog_5_method_28_code
def yX3_clearPairs : MethodName := ⟨RX3, "clearPairs", "()I"⟩
abbrev cX3_drainPairs : ByteArray := prog_5_method_29_code
def yX3_drainPairs : MethodName := ⟨RX3, "drainPairs", "()I"⟩
abbrev cX3_firstPlace : ByteArray := prog_5_method_30_code
def yX3_firstPlace : MethodName := ⟨RX3, "firstPlace", "(I)I"⟩
abbrev cX3_takeRow : ByteArray := prog_5_method_31_code
def yX3_takeRow : MethodName := ⟨RX3, "takeRow", "(I)I"⟩
abbrev cX3_isNone : ByteArray := prog_5_method_32_code
def yX3_isNone : MethodName := ⟨RX3, "isNone", "()Z"⟩
abbrev cX3_addFirst : ByteArray := prog_5_method_33_code
def yX3_addFirst : MethodName := ⟨RX3, "addFirst", "(I)I"⟩
abbrev cX3_addLast : ByteArray := prog_5_method_34_code
def yX3_addLast : MethodName := ⟨RX3, "addLast", "(I)I"⟩
abbrev cX3_getFirst : ByteArray := prog_5_method_35_code
def yX3_getFirst : MethodName := ⟨RX3, "getFirst", "()I"⟩
abbrev cX3_getLast : ByteArray := prog_5_method_36_code
def yX3_getLast : MethodName := ⟨RX3, "getLast", "()I"⟩
abbrev cX3_removeFirst : ByteArray := prog_5_method_37_code
def yX3_removeFirst : MethodName := ⟨RX3, "removeFirst", "()I"⟩
abbrev cX3_removeLast : ByteArray := prog_5_method_38_code
def yX3_removeLast : MethodName := ⟨RX3, "removeLast", "()I"⟩
abbrev cX3_push : ByteArray := prog_5_method_39_code
def yX3_push : MethodName := ⟨RX3, "push", "(I)I"⟩
abbrev cX3_pop : ByteArray := prog_5_method_40_code
def yX3_pop : MethodName := ⟨RX3, "pop", "()I"⟩
abbrev cX3_removeFirstOccurrence : ByteArray := prog_5_method_41_code
def yX3_removeFirstOccurrence : MethodName := ⟨RX3, "removeFirstOccurrence", "(I)Z"⟩
abbrev cX3_removeLastOccurrence : ByteArray := prog_5_method_42_code
def yX3_removeLastOccurrence : MethodName := ⟨RX3, "removeLastOccurrence", "(I)Z"⟩
abbrev cX3_has : ByteArray := prog_5_method_43_code
def yX3_has : MethodName := ⟨RX3, "has", "(I)Z"⟩
abbrev cX3_length : ByteArray := prog_5_method_44_code
def yX3_length : MethodName := ⟨RX3, "length", "()I"⟩
abbrev cX3_wipe : ByteArray := prog_5_method_45_code
def yX3_wipe : MethodName := ⟨RX3, "wipe", "()I"⟩
abbrev cX3_isNoPlace : ByteArray := prog_5_method_46_code
def yX3_isNoPlace : MethodName := ⟨RX3, "isNoPlace", "(I)Z"⟩
abbrev cX3_at : ByteArray := prog_5_method_47_code
def yX3_at : MethodName := ⟨RX3, "at", "(I)I"⟩
abbrev cX3_back : ByteArray := prog_5_method_48_code
def yX3_back : MethodName := ⟨RX3, "back", "(I)I"⟩
abbrev cX3_dropLike : ByteArray := prog_5_method_49_code
def yX3_dropLike : MethodName := ⟨RX3, "dropLike", "(I)I"⟩
abbrev cX3_walk : ByteArray := prog_5_method_50_code
def yX3_walk : MethodName := ⟨RX3, "walk", "()J"⟩
abbrev cX3_walkBack : ByteArray := prog_5_method_51_code
def yX3_walkBack : MethodName := ⟨RX3, "walkBack", "()J"⟩
def RJx145de : String := "java/io/Serializable"
def TJx145de : u_T := fun k => match k with
  | _ => ("", "", "", false)
def tyJx145de : Nat → FieldType := fun k => match k with
  | _ => .int
abbrev wsJx145de0 : List Cond := u_ws RJx145de TJx145de 0
theorem nmJx145de : ∀ a, a < 0 → ∀ b, b < 0 → a ≠ b → (TJx145de a).2.1 ≠ (TJx145de b).2.1 := by decide +kernel
theorem tyJx145de_ok : ∀ k, k < 0 → parseFieldDescriptor (TJx145de k).2.2.1 = some (tyJx145de k) := by decide +kernel
def RJ9 : String := "java/lang/Math"
def TJ9 : u_T := fun k => match k with
  | _ => ("", "", "", false)
def tyJ9 : Nat → FieldType := fun k => match k with
  | _ => .int
abbrev wsJ90 : List Cond := u_ws RJ9 TJ9 0
theorem nmJ9 : ∀ a, a < 0 → ∀ b, b < 0 → a ≠ b → (TJ9 a).2.1 ≠ (TJ9 b).2.1 := by decide +kernel
theorem tyJ9_ok : ∀ k, k < 0 → parseFieldDescriptor (TJ9 k).2.2.1 = some (tyJ9 k) := by decide +kernel
abbrev cJ9_floorDiv_f86c9 : ByteArray := prog_11_method_49_code
def yJ9_floorDiv_f86c9 : MethodName := ⟨RJ9, "floorDiv", "(JJ)J"⟩
abbrev cJ9_floorMod_f86c9 : ByteArray := prog_11_method_52_code
def yJ9_floorMod_f86c9 : MethodName := ⟨RJ9, "floorMod", "(JJ)J"⟩
def RJ0 : String := "java/lang/String"
def TJ0 : u_T := fun k => match k with
  | _ => ("", "", "", false)
def tyJ0 : Nat → FieldType := fun k => match k with
  | _ => .int
abbrev wsJ00 : List Cond := u_ws RJ0 TJ0 0
theorem nmJ0 : ∀ a, a < 0 → ∀ b, b < 0 → a ≠ b → (TJ0 a).2.1 ≠ (TJ0 b).2.1 := by decide +kernel
theorem tyJ0_ok : ∀ k, k < 0 → parseFieldDescriptor (TJ0 k).2.2.1 = some (tyJ0 k) := by decide +kernel
def RL : String := "HeapAndDequeLaw"
abbrev cL_offer : ByteArray := method_3_code
def yL_offer : MethodName := ⟨RL, "offer", "(LHeapAndDeque;I[J)I"⟩
abbrev cL_add : ByteArray := method_4_code
def yL_add : MethodName := ⟨RL, "add", "(LHeapAndDeque;I[J)I"⟩
abbrev cL_peek : ByteArray := method_5_code
def yL_peek : MethodName := ⟨RL, "peek", "(LHeapAndDeque;[J)I"⟩
abbrev cL_poll : ByteArray := method_6_code
def yL_poll : MethodName := ⟨RL, "poll", "(LHeapAndDeque;[J)I"⟩
abbrev cL_addAll : ByteArray := method_7_code
def yL_addAll : MethodName := ⟨RL, "addAll", "(LHeapAndDeque;[J)I"⟩
abbrev cL_drain : ByteArray := method_8_code
def yL_drain : MethodName := ⟨RL, "drain", "(LHeapAndDeque;[J)I"⟩
abbrev cL_offerPair : ByteArray := method_9_code
def yL_offerPair : MethodName := ⟨RL, "offerPair", "(LHeapAndDeque;II[J)I"⟩
abbrev cL_peekPair : ByteArray := method_10_code
def yL_peekPair : MethodName := ⟨RL, "peekPair", "(LHeapAndDeque;[J)I"⟩
abbrev cL_pollPair : ByteArray := method_11_code
def yL_pollPair : MethodName := ⟨RL, "pollPair", "(LHeapAndDeque;[J)I"⟩
abbrev cL_removePair : ByteArray := method_12_code
def yL_removePair : MethodName := ⟨RL, "removePair", "(LHeapAndDeque;II[J)I"⟩
abbrev cL_containsPair : ByteArray := method_13_code
def yL_containsPair : MethodName := ⟨RL, "containsPair", "(LHeapAndDeque;II[J)I"⟩
abbrev cL_drainPairs : ByteArray := method_14_code
def yL_drainPairs : MethodName := ⟨RL, "drainPairs", "(LHeapAndDeque;[J)I"⟩
abbrev cL_addFirst : ByteArray := method_15_code
def yL_addFirst : MethodName := ⟨RL, "addFirst", "(LHeapAndDeque;I[J)I"⟩
abbrev cL_addLast : ByteArray := method_16_code
def yL_addLast : MethodName := ⟨RL, "addLast", "(LHeapAndDeque;I[J)I"⟩
abbrev cL_getFirst : ByteArray := method_17_code
def yL_getFirst : MethodName := ⟨RL, "getFirst", "(LHeapAndDeque;[J)I"⟩
abbrev cL_getLast : ByteArray := method_18_code
def yL_getLast : MethodName := ⟨RL, "getLast", "(LHeapAndDeque;[J)I"⟩
abbrev cL_removeFirst : ByteArray := method_19_code
def yL_removeFirst : MethodName := ⟨RL, "removeFirst", "(LHeapAndDeque;[J)I"⟩
abbrev cL_removeLast : ByteArray := method_20_code
def yL_removeLast : MethodName := ⟨RL, "removeLast", "(LHeapAndDeque;[J)I"⟩
abbrev cL_push : ByteArray := method_21_code
def yL_push : MethodName := ⟨RL, "push", "(LHeapAndDeque;I[J)I"⟩
abbrev cL_pop : ByteArray := method_22_code
def yL_pop : MethodName := ⟨RL, "pop", "(LHeapAndDeque;[J)I"⟩
abbrev cL_at : ByteArray := method_23_code
def yL_at : MethodName := ⟨RL, "at", "(LHeapAndDeque;I[J)I"⟩
abbrev cL_back : ByteArray := method_24_code
def yL_back : MethodName := ⟨RL, "back", "(LHeapAndDeque;I[J)I"⟩
abbrev cL_law : ByteArray := code
def yL_law : MethodName := ⟨RL, "law", "([I)Z"⟩
def wsX0_init : List Cond := .code yX0_init cX0_init 1 none :: ([.methodLink RX0 3 objectInit, .instanceMethod objectInit, .code objectInit ⟨#[0xb1]⟩ 1 none, .arrayClass .long, .fieldLink RX0 9 "HeapAndDeque$LeastFirst" "values" "[J", .fieldLink RX0 15 "HeapAndDeque$LeastFirst" "count" "I"] ++ wsX00)
def wsX0_put : List Cond := .code yX0_put cX0_put 4 (some .int) :: ([.classLink RX0 19 "java/lang/IllegalStateException", .initialized "java/lang/IllegalStateException", .fieldLink RX0 15 "HeapAndDeque$LeastFirst" "count" "I", .fieldLink RX0 9 "HeapAndDeque$LeastFirst" "values" "[J"] ++ wsX00 ++ (vx_atS RX0 23 "java/lang/IllegalStateException" ["java/lang/RuntimeException", "java/lang/Exception"]).filter goodWord)
def wsX0_least : List Cond := .code yX0_least cX0_least 1 (some .long) :: ([.classLink RX0 26 "java/util/NoSuchElementException", .initialized "java/util/NoSuchElementException", .fieldLink RX0 15 "HeapAndDeque$LeastFirst" "count" "I", .fieldLink RX0 9 "HeapAndDeque$LeastFirst" "values" "[J"] ++ wsX00 ++ (hn_atS RX0 30).filter goodWord)
def wsX0_takeLeast : List Cond := .code yX0_takeLeast cX0_takeLeast 3 (some .long) :: ([.fieldLink RX0 15 "HeapAndDeque$LeastFirst" "count" "I", .methodLink RX0 31 yX0_least, .instanceMethod yX0_least, .selects RX0 yX0_least yX0_least, .initialized RX0, .code yX0_least cX0_least 1 (some .long), .classLink RX0 26 "java/util/NoSuchElementException", .initialized "java/util/NoSuchElementException", .fieldLink RX0 9 "HeapAndDeque$LeastFirst" "values" "[J"] ++ wsX00 ++ (hn_atS RX0 30).filter goodWord)
def wsX0_placeOf : List Cond := .code yX0_placeOf cX0_placeOf 4 (some .int) :: ([.fieldLink RX0 15 "HeapAndDeque$LeastFirst" "count" "I", .fieldLink RX0 9 "HeapAndDeque$LeastFirst" "values" "[J"] ++ wsX00)
def wsX0_takeLike : List Cond := .code yX0_takeLike cX0_takeLike 5 (some .boolean) :: ([.fieldLink RX0 15 "HeapAndDeque$LeastFirst" "count" "I", .fieldLink RX0 9 "HeapAndDeque$LeastFirst" "values" "[J", .methodLink RX0 35 yX0_placeOf, .instanceMethod yX0_placeOf, .selects RX0 yX0_placeOf yX0_placeOf, .initialized RX0, .code yX0_placeOf cX0_placeOf 4 (some .int)] ++ wsX00)
def wsX0_empty : List Cond := .code yX0_empty cX0_empty 2 (some .int) :: ([.fieldLink RX0 15 "HeapAndDeque$LeastFirst" "count" "I"] ++ wsX00)
def wsX1_init : List Cond := .code yX1_init cX1_init 1 none :: ([.methodLink RX1 3 objectInit, .instanceMethod objectInit, .code objectInit ⟨#[0xb1]⟩ 1 none, .arrayClass .int, .fieldLink RX1 9 "HeapAndDeque$Row" "values" "[I", .fieldLink RX1 15 "HeapAndDeque$Row" "count" "I"] ++ wsX10)
def wsX1_putFirst : List Cond := .code yX1_putFirst cX1_putFirst 3 (some .int) :: ([.classLink RX1 19 "java/lang/IllegalStateException", .initialized "java/lang/IllegalStateException", .fieldLink RX1 15 "HeapAndDeque$Row" "count" "I", .fieldLink RX1 9 "HeapAndDeque$Row" "values" "[I"] ++ wsX10 ++ (vx_atS RX1 23 "java/lang/IllegalStateException" ["java/lang/RuntimeException", "java/lang/Exception"]).filter goodWord)
def wsX1_putLast : List Cond := .code yX1_putLast cX1_putLast 2 (some .int) :: ([.classLink RX1 19 "java/lang/IllegalStateException", .initialized "java/lang/IllegalStateException", .fieldLink RX1 15 "HeapAndDeque$Row" "count" "I", .fieldLink RX1 9 "HeapAndDeque$Row" "values" "[I"] ++ wsX10 ++ (vx_atS RX1 23 "java/lang/IllegalStateException" ["java/lang/RuntimeException", "java/lang/Exception"]).filter goodWord)
def wsX1_first : List Cond := .code yX1_first cX1_first 1 (some .int) :: ([.classLink RX1 26 "java/util/NoSuchElementException", .initialized "java/util/NoSuchElementException", .fieldLink RX1 15 "HeapAndDeque$Row" "count" "I", .fieldLink RX1 9 "HeapAndDeque$Row" "values" "[I"] ++ wsX10 ++ (hn_atS RX1 30).filter goodWord)
def wsX1_last : List Cond := .code yX1_last cX1_last 1 (some .int) :: ([.classLink RX1 26 "java/util/NoSuchElementException", .initialized "java/util/NoSuchElementException", .fieldLink RX1 15 "HeapAndDeque$Row" "count" "I", .fieldLink RX1 9 "HeapAndDeque$Row" "values" "[I"] ++ wsX10 ++ (hn_atS RX1 30).filter goodWord)
def wsX1_takeFound : List Cond := .code yX1_takeFound cX1_takeFound 3 (some .boolean) :: ([.fieldLink RX1 15 "HeapAndDeque$Row" "count" "I", .fieldLink RX1 9 "HeapAndDeque$Row" "values" "[I"] ++ wsX10)
def wsX1_takeFirst : List Cond := .code yX1_takeFirst cX1_takeFirst 2 (some .int) :: ([.methodLink RX1 31 yX1_first, .instanceMethod yX1_first, .selects RX1 yX1_first yX1_first, .initialized RX1, .code yX1_first cX1_first 1 (some .int), .classLink RX1 26 "java/util/NoSuchElementException", .initialized "java/util/NoSuchElementException", .fieldLink RX1 15 "HeapAndDeque$Row" "count" "I", .fieldLink RX1 9 "HeapAndDeque$Row" "values" "[I", .methodLink RX1 35 yX1_takeFound, .instanceMethod yX1_takeFound, .selects RX1 yX1_takeFound yX1_takeFound, .code yX1_takeFound cX1_takeFound 3 (some .boolean)] ++ wsX10 ++ (hn_atS RX1 30).filter goodWord)
def wsX1_takeLast : List Cond := .code yX1_takeLast cX1_takeLast 2 (some .int) :: ([.fieldLink RX1 15 "HeapAndDeque$Row" "count" "I", .methodLink RX1 39 yX1_last, .instanceMethod yX1_last, .selects RX1 yX1_last yX1_last, .initialized RX1, .code yX1_last cX1_last 1 (some .int), .classLink RX1 26 "java/util/NoSuchElementException", .initialized "java/util/NoSuchElementException", .fieldLink RX1 9 "HeapAndDeque$Row" "values" "[I"] ++ wsX10 ++ (hn_atS RX1 30).filter goodWord)
def wsX1_firstPlaceOf : List Cond := .code yX1_firstPlaceOf cX1_firstPlaceOf 3 (some .int) :: ([.fieldLink RX1 15 "HeapAndDeque$Row" "count" "I", .fieldLink RX1 9 "HeapAndDeque$Row" "values" "[I"] ++ wsX10)
def wsX1_lastPlaceOf : List Cond := .code yX1_lastPlaceOf cX1_lastPlaceOf 3 (some .int) :: ([.fieldLink RX1 15 "HeapAndDeque$Row" "count" "I", .fieldLink RX1 9 "HeapAndDeque$Row" "values" "[I"] ++ wsX10)
def wsX1_numberAt : List Cond := .code yX1_numberAt cX1_numberAt 2 (some .int) :: ([.classLink RX1 42 "java/lang/IndexOutOfBoundsException", .initialized "java/lang/IndexOutOfBoundsException", .fieldLink RX1 15 "HeapAndDeque$Row" "count" "I", .fieldLink RX1 9 "HeapAndDeque$Row" "values" "[I"] ++ wsX10 ++ (vx_atS RX1 46 "java/lang/IndexOutOfBoundsException" ["java/lang/RuntimeException", "java/lang/Exception"]).filter goodWord)
def wsX1_numberFromLast : List Cond := .code yX1_numberFromLast cX1_numberFromLast 2 (some .int) :: ([.classLink RX1 42 "java/lang/IndexOutOfBoundsException", .initialized "java/lang/IndexOutOfBoundsException", .fieldLink RX1 15 "HeapAndDeque$Row" "count" "I", .fieldLink RX1 9 "HeapAndDeque$Row" "values" "[I"] ++ wsX10 ++ (vx_atS RX1 46 "java/lang/IndexOutOfBoundsException" ["java/lang/RuntimeException", "java/lang/Exception"]).filter goodWord)
def wsX1_takeAllLike : List Cond := .code yX1_takeAllLike cX1_takeAllLike 4 (some .int) :: ([.fieldLink RX1 15 "HeapAndDeque$Row" "count" "I", .fieldLink RX1 9 "HeapAndDeque$Row" "values" "[I"] ++ wsX10)
def wsX1_sumFromFirst : List Cond := .code yX1_sumFromFirst cX1_sumFromFirst 4 (some .long) :: ([.constantLong RX1 47 (7), .fieldLink RX1 15 "HeapAndDeque$Row" "count" "I", .constantLong RX1 49 (31), .fieldLink RX1 9 "HeapAndDeque$Row" "values" "[I"] ++ wsX10)
def wsX1_sumFromLast : List Cond := .code yX1_sumFromLast cX1_sumFromLast 4 (some .long) :: ([.constantLong RX1 47 (7), .fieldLink RX1 15 "HeapAndDeque$Row" "count" "I", .constantLong RX1 49 (31), .fieldLink RX1 9 "HeapAndDeque$Row" "values" "[I"] ++ wsX10)
def wsX1_empty : List Cond := .code yX1_empty cX1_empty 2 (some .int) :: ([.fieldLink RX1 15 "HeapAndDeque$Row" "count" "I"] ++ wsX10)
def wsX2_init : List Cond := .code yX2_init cX2_init 1 none :: ([.methodLink RX2 1 objectInit, .instanceMethod objectInit, .code objectInit ⟨#[0xb1]⟩ 1 none, .classLink RX2 7 RX0, .instantiable RX0 2, .initialized RX0, .fieldLink RX2 10 "HeapAndDeque" "numbers" "LHeapAndDeque$LeastFirst;", .fieldLink RX2 16 "HeapAndDeque" "pairs" "LHeapAndDeque$LeastFirst;", .classLink RX2 19 RX1, .instantiable RX1 2, .initialized RX1, .fieldLink RX2 22 "HeapAndDeque" "row" "LHeapAndDeque$Row;", .instanceMethod yX0_init, .code yX0_init cX0_init 1 none, .methodLink RX0 3 objectInit, .arrayClass .long, .fieldLink RX0 9 "HeapAndDeque$LeastFirst" "values" "[J", .fieldLink RX0 15 "HeapAndDeque$LeastFirst" "count" "I", .instanceMethod yX1_init, .code yX1_init cX1_init 1 none, .methodLink RX1 3 objectInit, .arrayClass .int, .fieldLink RX1 9 "HeapAndDeque$Row" "values" "[I", .fieldLink RX1 15 "HeapAndDeque$Row" "count" "I"] ++ wsX00 ++ wsX20 ++ wsX10)
def wsX2_offer : List Cond := .code yX2_offer cX2_offer 2 (some .int) :: ([.fieldLink RX2 10 "HeapAndDeque" "numbers" "LHeapAndDeque$LeastFirst;", .methodLink RX2 26 yX0_put, .instanceMethod yX0_put, .selects RX0 yX0_put yX0_put, .initialized RX0, .code yX0_put cX0_put 4 (some .int), .classLink RX0 19 "java/lang/IllegalStateException", .initialized "java/lang/IllegalStateException", .fieldLink RX0 15 "HeapAndDeque$LeastFirst" "count" "I", .fieldLink RX0 9 "HeapAndDeque$LeastFirst" "values" "[J"] ++ wsX20 ++ wsX00 ++ (vx_atS RX0 23 "java/lang/IllegalStateException" ["java/lang/RuntimeException", "java/lang/Exception"]).filter goodWord)
def wsX2_add : List Cond := .code yX2_add cX2_add 2 (some .int) :: ([.fieldLink RX2 10 "HeapAndDeque" "numbers" "LHeapAndDeque$LeastFirst;", .methodLink RX2 26 yX0_put, .instanceMethod yX0_put, .selects RX0 yX0_put yX0_put, .initialized RX0, .code yX0_put cX0_put 4 (some .int), .classLink RX0 19 "java/lang/IllegalStateException", .initialized "java/lang/IllegalStateException", .fieldLink RX0 15 "HeapAndDeque$LeastFirst" "count" "I", .fieldLink RX0 9 "HeapAndDeque$LeastFirst" "values" "[J"] ++ wsX20 ++ wsX00 ++ (vx_atS RX0 23 "java/lang/IllegalStateException" ["java/lang/RuntimeException", "java/lang/Exception"]).filter goodWord)
def wsX2_peek : List Cond := .code yX2_peek cX2_peek 1 (some .int) :: ([.fieldLink RX2 10 "HeapAndDeque" "numbers" "LHeapAndDeque$LeastFirst;", .methodLink RX2 30 yX0_least, .instanceMethod yX0_least, .selects RX0 yX0_least yX0_least, .initialized RX0, .code yX0_least cX0_least 1 (some .long), .classLink RX0 26 "java/util/NoSuchElementException", .initialized "java/util/NoSuchElementException", .fieldLink RX0 15 "HeapAndDeque$LeastFirst" "count" "I", .fieldLink RX0 9 "HeapAndDeque$LeastFirst" "values" "[J"] ++ wsX20 ++ wsX00 ++ (hn_atS RX0 30).filter goodWord)
def wsX2_poll : List Cond := .code yX2_poll cX2_poll 1 (some .int) :: ([.fieldLink RX2 10 "HeapAndDeque" "numbers" "LHeapAndDeque$LeastFirst;", .methodLink RX2 34 yX0_takeLeast, .instanceMethod yX0_takeLeast, .selects RX0 yX0_takeLeast yX0_takeLeast, .initialized RX0, .code yX0_takeLeast cX0_takeLeast 3 (some .long), .fieldLink RX0 15 "HeapAndDeque$LeastFirst" "count" "I", .methodLink RX0 31 yX0_least, .instanceMethod yX0_least, .selects RX0 yX0_least yX0_least, .code yX0_least cX0_least 1 (some .long), .classLink RX0 26 "java/util/NoSuchElementException", .initialized "java/util/NoSuchElementException", .fieldLink RX0 9 "HeapAndDeque$LeastFirst" "values" "[J"] ++ wsX20 ++ wsX00 ++ (hn_atS RX0 30).filter goodWord)
def wsX2_remove : List Cond := .code yX2_remove cX2_remove 2 (some .boolean) :: ([.fieldLink RX2 10 "HeapAndDeque" "numbers" "LHeapAndDeque$LeastFirst;", .methodLink RX2 37 yX0_takeLike, .instanceMethod yX0_takeLike, .selects RX0 yX0_takeLike yX0_takeLike, .initialized RX0, .code yX0_takeLike cX0_takeLike 5 (some .boolean), .fieldLink RX0 15 "HeapAndDeque$LeastFirst" "count" "I", .fieldLink RX0 9 "HeapAndDeque$LeastFirst" "values" "[J", .methodLink RX0 35 yX0_placeOf, .instanceMethod yX0_placeOf, .selects RX0 yX0_placeOf yX0_placeOf, .code yX0_placeOf cX0_placeOf 4 (some .int)] ++ wsX20 ++ wsX00)
def wsX2_contains : List Cond := .code yX2_contains cX2_contains 2 (some .boolean) :: ([.fieldLink RX2 10 "HeapAndDeque" "numbers" "LHeapAndDeque$LeastFirst;", .methodLink RX2 41 yX0_placeOf, .instanceMethod yX0_placeOf, .selects RX0 yX0_placeOf yX0_placeOf, .initialized RX0, .code yX0_placeOf cX0_placeOf 4 (some .int), .fieldLink RX0 15 "HeapAndDeque$LeastFirst" "count" "I", .fieldLink RX0 9 "HeapAndDeque$LeastFirst" "values" "[J"] ++ wsX20 ++ wsX00)
def wsX2_size : List Cond := .code yX2_size cX2_size 1 (some .int) :: ([.fieldLink RX2 10 "HeapAndDeque" "numbers" "LHeapAndDeque$LeastFirst;"] ++ wsX20 ++ wsX00)
def wsX2_clear : List Cond := .code yX2_clear cX2_clear 1 (some .int) :: ([.fieldLink RX2 10 "HeapAndDeque" "numbers" "LHeapAndDeque$LeastFirst;", .methodLink RX2 48 yX0_empty, .instanceMethod yX0_empty, .selects RX0 yX0_empty yX0_empty, .initialized RX0, .code yX0_empty cX0_empty 2 (some .int), .fieldLink RX0 15 "HeapAndDeque$LeastFirst" "count" "I"] ++ wsX20 ++ wsX00)
def wsX2_addAll : List Cond := .code yX2_addAll cX2_addAll 2 (some .int) :: ([.classLink RX2 53 "java/lang/IllegalStateException", .initialized "java/lang/IllegalStateException", .fieldLink RX2 10 "HeapAndDeque" "numbers" "LHeapAndDeque$LeastFirst;", .fieldLink RX2 22 "HeapAndDeque" "row" "LHeapAndDeque$Row;", .methodLink RX2 60 yX1_numberAt, .instanceMethod yX1_numberAt, .selects RX1 yX1_numberAt yX1_numberAt, .initialized RX1, .code yX1_numberAt cX1_numberAt 2 (some .int), .classLink RX1 42 "java/lang/IndexOutOfBoundsException", .initialized "java/lang/IndexOutOfBoundsException", .fieldLink RX1 15 "HeapAndDeque$Row" "count" "I", .fieldLink RX1 9 "HeapAndDeque$Row" "values" "[I", .methodLink RX2 26 yX0_put, .instanceMethod yX0_put, .selects RX0 yX0_put yX0_put, .initialized RX0, .code yX0_put cX0_put 4 (some .int), .classLink RX0 19 "java/lang/IllegalStateException", .fieldLink RX0 15 "HeapAndDeque$LeastFirst" "count" "I", .fieldLink RX0 9 "HeapAndDeque$LeastFirst" "values" "[J"] ++ wsX20 ++ wsX00 ++ wsX10 ++ (vx_atS RX2 57 "java/lang/IllegalStateException" ["java/lang/RuntimeException", "java/lang/Exception"]).filter goodWord ++ (vx_atS RX1 46 "java/lang/IndexOutOfBoundsException" ["java/lang/RuntimeException", "java/lang/Exception"]).filter goodWord ++ (vx_atS RX0 23 "java/lang/IllegalStateException" ["java/lang/RuntimeException", "java/lang/Exception"]).filter goodWord)
def wsX2_refuseAtRow : List Cond := .code yX2_refuseAtRow cX2_refuseAtRow 2 none :: ([.classLink RX2 53 "java/lang/IllegalStateException", .initialized "java/lang/IllegalStateException", .fieldLink RX2 22 "HeapAndDeque" "row" "LHeapAndDeque$Row;"] ++ wsX20 ++ wsX10 ++ (vx_atS RX2 57 "java/lang/IllegalStateException" ["java/lang/RuntimeException", "java/lang/Exception"]).filter goodWord)
def wsX2_drain_r1 : List Cond := [Cond.fieldLink RX2 10 "HeapAndDeque" "numbers" "LHeapAndDeque$LeastFirst;", Cond.fieldLink RX2 22 "HeapAndDeque" "row" "LHeapAndDeque$Row;", Cond.methodLink RX2 64 yX2_refuseAtRow, Cond.instanceMethod yX2_refuseAtRow, Cond.selects RX2 yX2_refuseAtRow yX2_refuseAtRow, Cond.initialized RX2, Cond.code yX2_refuseAtRow cX2_refuseAtRow 2 none, Cond.classLink RX2 53 "java/lang/IllegalStateException", Cond.initialized "java/lang/IllegalStateException", Cond.methodLink RX2 34 yX0_takeLeast, Cond.instanceMethod yX0_takeLeast, Cond.selects RX0 yX0_takeLeast yX0_takeLeast, Cond.initialized RX0, Cond.code yX0_takeLeast cX0_takeLeast 3 (some .long), Cond.fieldLink RX0 15 "HeapAndDeque$LeastFirst" "count" "I", Cond.methodLink RX0 31 yX0_least, Cond.instanceMethod yX0_least, Cond.selects RX0 yX0_least yX0_least, Cond.code yX0_least cX0_least 1 (some .long), Cond.classLink RX0 26 "java/util/NoSuchElementException", Cond.initialized "java/util/NoSuchElementException", Cond.fieldLink RX0 9 "HeapAndDeque$LeastFirst" "values" "[J", Cond.methodLink RX2 68 yX1_putLast, Cond.instanceMethod yX1_putLast]
def wsX2_drain_r2 : List Cond := [Cond.selects RX1 yX1_putLast yX1_putLast, Cond.initialized RX1, Cond.code yX1_putLast cX1_putLast 2 (some .int), Cond.classLink RX1 19 "java/lang/IllegalStateException", Cond.fieldLink RX1 15 "HeapAndDeque$Row" "count" "I", Cond.fieldLink RX1 9 "HeapAndDeque$Row" "values" "[I"]
def wsX2_drain : List Cond := .code yX2_drain cX2_drain 3 (some .int) :: ((wsX2_drain_r1 ++ wsX2_drain_r2) ++ wsX20 ++ wsX00 ++ wsX10 ++ (vx_atS RX2 57 "java/lang/IllegalStateException" ["java/lang/RuntimeException", "java/lang/Exception"]).filter goodWord ++ (hn_atS RX0 30).filter goodWord ++ (vx_atS RX1 23 "java/lang/IllegalStateException" ["java/lang/RuntimeException", "java/lang/Exception"]).filter goodWord)
def wsX2_rankOf : List Cond := .code yX2_rankOf cX2_rankOf 2 (some .long) :: ([.classLink RX2 122 "java/lang/IllegalArgumentException", .initialized "java/lang/IllegalArgumentException", .constantLong RX2 127 (1000)] ++ (vx_atS RX2 126 "java/lang/IllegalArgumentException" ["java/lang/RuntimeException", "java/lang/Exception"]).filter goodWord)
def wsX2_offerPair : List Cond := .code yX2_offerPair cX2_offerPair 3 (some .int) :: ([.fieldLink RX2 16 "HeapAndDeque" "pairs" "LHeapAndDeque$LeastFirst;", .methodLink RX2 71 yX2_rankOf, .static yX2_rankOf, .initialized RX2, .code yX2_rankOf cX2_rankOf 2 (some .long), .classLink RX2 122 "java/lang/IllegalArgumentException", .initialized "java/lang/IllegalArgumentException", .constantLong RX2 127 (1000), .methodLink RX2 26 yX0_put, .instanceMethod yX0_put, .selects RX0 yX0_put yX0_put, .initialized RX0, .code yX0_put cX0_put 4 (some .int), .classLink RX0 19 "java/lang/IllegalStateException", .initialized "java/lang/IllegalStateException", .fieldLink RX0 15 "HeapAndDeque$LeastFirst" "count" "I", .fieldLink RX0 9 "HeapAndDeque$LeastFirst" "values" "[J"] ++ wsX20 ++ wsX00 ++ (vx_atS RX2 126 "java/lang/IllegalArgumentException" ["java/lang/RuntimeException", "java/lang/Exception"]).filter goodWord ++ (vx_atS RX0 23 "java/lang/IllegalStateException" ["java/lang/RuntimeException", "java/lang/Exception"]).filter goodWord)
def wsJ9_floorMod_f86c9 : List Cond := .code yJ9_floorMod_f86c9 cJ9_floorMod_f86c9 6 (some .long) :: ([])
def wsJ9_floorDiv_f86c9 : List Cond := .code yJ9_floorDiv_f86c9 cJ9_floorDiv_f86c9 6 (some .long) :: ([])
def wsX2_keyOf : List Cond := .code yX2_keyOf cX2_keyOf 2 (some .int) :: ([.constantLong RX2 127 (1000), .methodLink RX2 129 yJ9_floorDiv_f86c9, .static yJ9_floorDiv_f86c9, .initialized RJ9, .code yJ9_floorDiv_f86c9 cJ9_floorDiv_f86c9 6 (some .long)])
def wsX2_toldOf : List Cond := .code yX2_toldOf cX2_toldOf 4 (some .long) :: ([.constantLong RX2 135 (999), .constantLong RX2 127 (1000), .methodLink RX2 137 yJ9_floorMod_f86c9, .static yJ9_floorMod_f86c9, .initialized RJ9, .code yJ9_floorMod_f86c9 cJ9_floorMod_f86c9 6 (some .long), .methodLink RX2 79 yX2_keyOf, .static yX2_keyOf, .initialized RX2, .code yX2_keyOf cX2_keyOf 2 (some .int), .methodLink RX2 129 yJ9_floorDiv_f86c9, .static yJ9_floorDiv_f86c9, .code yJ9_floorDiv_f86c9 cJ9_floorDiv_f86c9 6 (some .long)])
def wsX2_peekPair_r1 : List Cond := [Cond.fieldLink RX2 16 "HeapAndDeque" "pairs" "LHeapAndDeque$LeastFirst;", Cond.methodLink RX2 30 yX0_least, Cond.instanceMethod yX0_least, Cond.selects RX0 yX0_least yX0_least, Cond.initialized RX0, Cond.code yX0_least cX0_least 1 (some .long), Cond.classLink RX0 26 "java/util/NoSuchElementException", Cond.initialized "java/util/NoSuchElementException", Cond.fieldLink RX0 15 "HeapAndDeque$LeastFirst" "count" "I", Cond.fieldLink RX0 9 "HeapAndDeque$LeastFirst" "values" "[J", Cond.methodLink RX2 75 yX2_toldOf, Cond.static yX2_toldOf, Cond.initialized RX2, Cond.code yX2_toldOf cX2_toldOf 4 (some .long), Cond.constantLong RX2 135 (999), Cond.constantLong RX2 127 (1000), Cond.methodLink RX2 137 yJ9_floorMod_f86c9, Cond.static yJ9_floorMod_f86c9, Cond.initialized RJ9, Cond.code yJ9_floorMod_f86c9 cJ9_floorMod_f86c9 6 (some .long), Cond.methodLink RX2 79 yX2_keyOf, Cond.static yX2_keyOf, Cond.code yX2_keyOf cX2_keyOf 2 (some .int), Cond.methodLink RX2 129 yJ9_floorDiv_f86c9]
def wsX2_peekPair_r2 : List Cond := [Cond.static yJ9_floorDiv_f86c9, Cond.code yJ9_floorDiv_f86c9 cJ9_floorDiv_f86c9 6 (some .long)]
def wsX2_peekPair : List Cond := .code yX2_peekPair cX2_peekPair 1 (some .long) :: ((wsX2_peekPair_r1 ++ wsX2_peekPair_r2) ++ wsX20 ++ wsX00 ++ (hn_atS RX0 30).filter goodWord)
def wsX2_pollPair_r1 : List Cond := [Cond.fieldLink RX2 16 "HeapAndDeque" "pairs" "LHeapAndDeque$LeastFirst;", Cond.methodLink RX2 34 yX0_takeLeast, Cond.instanceMethod yX0_takeLeast, Cond.selects RX0 yX0_takeLeast yX0_takeLeast, Cond.initialized RX0, Cond.code yX0_takeLeast cX0_takeLeast 3 (some .long), Cond.fieldLink RX0 15 "HeapAndDeque$LeastFirst" "count" "I", Cond.methodLink RX0 31 yX0_least, Cond.instanceMethod yX0_least, Cond.selects RX0 yX0_least yX0_least, Cond.code yX0_least cX0_least 1 (some .long), Cond.classLink RX0 26 "java/util/NoSuchElementException", Cond.initialized "java/util/NoSuchElementException", Cond.fieldLink RX0 9 "HeapAndDeque$LeastFirst" "values" "[J", Cond.methodLink RX2 75 yX2_toldOf, Cond.static yX2_toldOf, Cond.initialized RX2, Cond.code yX2_toldOf cX2_toldOf 4 (some .long), Cond.constantLong RX2 135 (999), Cond.constantLong RX2 127 (1000), Cond.methodLink RX2 137 yJ9_floorMod_f86c9, Cond.static yJ9_floorMod_f86c9, Cond.initialized RJ9, Cond.code yJ9_floorMod_f86c9 cJ9_floorMod_f86c9 6 (some .long)]
def wsX2_pollPair_r2 : List Cond := [Cond.methodLink RX2 79 yX2_keyOf, Cond.static yX2_keyOf, Cond.code yX2_keyOf cX2_keyOf 2 (some .int), Cond.methodLink RX2 129 yJ9_floorDiv_f86c9, Cond.static yJ9_floorDiv_f86c9, Cond.code yJ9_floorDiv_f86c9 cJ9_floorDiv_f86c9 6 (some .long)]
def wsX2_pollPair : List Cond := .code yX2_pollPair cX2_pollPair 1 (some .long) :: ((wsX2_pollPair_r1 ++ wsX2_pollPair_r2) ++ wsX20 ++ wsX00 ++ (hn_atS RX0 30).filter goodWord)
def wsX2_removePair : List Cond := .code yX2_removePair cX2_removePair 3 (some .boolean) :: ([.fieldLink RX2 16 "HeapAndDeque" "pairs" "LHeapAndDeque$LeastFirst;", .methodLink RX2 71 yX2_rankOf, .static yX2_rankOf, .initialized RX2, .code yX2_rankOf cX2_rankOf 2 (some .long), .classLink RX2 122 "java/lang/IllegalArgumentException", .initialized "java/lang/IllegalArgumentException", .constantLong RX2 127 (1000), .methodLink RX2 37 yX0_takeLike, .instanceMethod yX0_takeLike, .selects RX0 yX0_takeLike yX0_takeLike, .initialized RX0, .code yX0_takeLike cX0_takeLike 5 (some .boolean), .fieldLink RX0 15 "HeapAndDeque$LeastFirst" "count" "I", .fieldLink RX0 9 "HeapAndDeque$LeastFirst" "values" "[J", .methodLink RX0 35 yX0_placeOf, .instanceMethod yX0_placeOf, .selects RX0 yX0_placeOf yX0_placeOf, .code yX0_placeOf cX0_placeOf 4 (some .int)] ++ wsX20 ++ wsX00 ++ (vx_atS RX2 126 "java/lang/IllegalArgumentException" ["java/lang/RuntimeException", "java/lang/Exception"]).filter goodWord)
def wsX2_containsPair : List Cond := .code yX2_containsPair cX2_containsPair 3 (some .boolean) :: ([.fieldLink RX2 16 "HeapAndDeque" "pairs" "LHeapAndDeque$LeastFirst;", .methodLink RX2 71 yX2_rankOf, .static yX2_rankOf, .initialized RX2, .code yX2_rankOf cX2_rankOf 2 (some .long), .classLink RX2 122 "java/lang/IllegalArgumentException", .initialized "java/lang/IllegalArgumentException", .constantLong RX2 127 (1000), .methodLink RX2 41 yX0_placeOf, .instanceMethod yX0_placeOf, .selects RX0 yX0_placeOf yX0_placeOf, .initialized RX0, .code yX0_placeOf cX0_placeOf 4 (some .int), .fieldLink RX0 15 "HeapAndDeque$LeastFirst" "count" "I", .fieldLink RX0 9 "HeapAndDeque$LeastFirst" "values" "[J"] ++ wsX20 ++ wsX00 ++ (vx_atS RX2 126 "java/lang/IllegalArgumentException" ["java/lang/RuntimeException", "java/lang/Exception"]).filter goodWord)
def wsX2_sizePairs : List Cond := .code yX2_sizePairs cX2_sizePairs 1 (some .int) :: ([.fieldLink RX2 16 "HeapAndDeque" "pairs" "LHeapAndDeque$LeastFirst;"] ++ wsX20 ++ wsX00)
def wsX2_clearPairs : List Cond := .code yX2_clearPairs cX2_clearPairs 1 (some .int) :: ([.fieldLink RX2 16 "HeapAndDeque" "pairs" "LHeapAndDeque$LeastFirst;", .methodLink RX2 48 yX0_empty, .instanceMethod yX0_empty, .selects RX0 yX0_empty yX0_empty, .initialized RX0, .code yX0_empty cX0_empty 2 (some .int), .fieldLink RX0 15 "HeapAndDeque$LeastFirst" "count" "I"] ++ wsX20 ++ wsX00)
def wsX2_drainPairs_r1 : List Cond := [Cond.fieldLink RX2 16 "HeapAndDeque" "pairs" "LHeapAndDeque$LeastFirst;", Cond.fieldLink RX2 22 "HeapAndDeque" "row" "LHeapAndDeque$Row;", Cond.methodLink RX2 64 yX2_refuseAtRow, Cond.instanceMethod yX2_refuseAtRow, Cond.selects RX2 yX2_refuseAtRow yX2_refuseAtRow, Cond.initialized RX2, Cond.code yX2_refuseAtRow cX2_refuseAtRow 2 none, Cond.classLink RX2 53 "java/lang/IllegalStateException", Cond.initialized "java/lang/IllegalStateException", Cond.methodLink RX2 34 yX0_takeLeast, Cond.instanceMethod yX0_takeLeast, Cond.selects RX0 yX0_takeLeast yX0_takeLeast, Cond.initialized RX0, Cond.code yX0_takeLeast cX0_takeLeast 3 (some .long), Cond.fieldLink RX0 15 "HeapAndDeque$LeastFirst" "count" "I", Cond.methodLink RX0 31 yX0_least, Cond.instanceMethod yX0_least, Cond.selects RX0 yX0_least yX0_least, Cond.code yX0_least cX0_least 1 (some .long), Cond.classLink RX0 26 "java/util/NoSuchElementException", Cond.initialized "java/util/NoSuchElementException", Cond.fieldLink RX0 9 "HeapAndDeque$LeastFirst" "values" "[J", Cond.methodLink RX2 79 yX2_keyOf, Cond.static yX2_keyOf]
def wsX2_drainPairs_r2 : List Cond := [Cond.code yX2_keyOf cX2_keyOf 2 (some .int), Cond.constantLong RX2 127 (1000), Cond.methodLink RX2 129 yJ9_floorDiv_f86c9, Cond.static yJ9_floorDiv_f86c9, Cond.initialized RJ9, Cond.code yJ9_floorDiv_f86c9 cJ9_floorDiv_f86c9 6 (some .long), Cond.methodLink RX2 68 yX1_putLast, Cond.instanceMethod yX1_putLast, Cond.selects RX1 yX1_putLast yX1_putLast, Cond.initialized RX1, Cond.code yX1_putLast cX1_putLast 2 (some .int), Cond.classLink RX1 19 "java/lang/IllegalStateException", Cond.fieldLink RX1 15 "HeapAndDeque$Row" "count" "I", Cond.fieldLink RX1 9 "HeapAndDeque$Row" "values" "[I"]
def wsX2_drainPairs : List Cond := .code yX2_drainPairs cX2_drainPairs 3 (some .int) :: ((wsX2_drainPairs_r1 ++ wsX2_drainPairs_r2) ++ wsX20 ++ wsX00 ++ wsX10 ++ (vx_atS RX2 57 "java/lang/IllegalStateException" ["java/lang/RuntimeException", "java/lang/Exception"]).filter goodWord ++ (hn_atS RX0 30).filter goodWord ++ (vx_atS RX1 23 "java/lang/IllegalStateException" ["java/lang/RuntimeException", "java/lang/Exception"]).filter goodWord)
def wsX2_addFirst : List Cond := .code yX2_addFirst cX2_addFirst 2 (some .int) :: ([.fieldLink RX2 22 "HeapAndDeque" "row" "LHeapAndDeque$Row;", .methodLink RX2 82 yX1_putFirst, .instanceMethod yX1_putFirst, .selects RX1 yX1_putFirst yX1_putFirst, .initialized RX1, .code yX1_putFirst cX1_putFirst 3 (some .int), .classLink RX1 19 "java/lang/IllegalStateException", .initialized "java/lang/IllegalStateException", .fieldLink RX1 15 "HeapAndDeque$Row" "count" "I", .fieldLink RX1 9 "HeapAndDeque$Row" "values" "[I"] ++ wsX20 ++ wsX10 ++ (vx_atS RX1 23 "java/lang/IllegalStateException" ["java/lang/RuntimeException", "java/lang/Exception"]).filter goodWord)
def wsX2_addLast : List Cond := .code yX2_addLast cX2_addLast 2 (some .int) :: ([.fieldLink RX2 22 "HeapAndDeque" "row" "LHeapAndDeque$Row;", .methodLink RX2 68 yX1_putLast, .instanceMethod yX1_putLast, .selects RX1 yX1_putLast yX1_putLast, .initialized RX1, .code yX1_putLast cX1_putLast 2 (some .int), .classLink RX1 19 "java/lang/IllegalStateException", .initialized "java/lang/IllegalStateException", .fieldLink RX1 15 "HeapAndDeque$Row" "count" "I", .fieldLink RX1 9 "HeapAndDeque$Row" "values" "[I"] ++ wsX20 ++ wsX10 ++ (vx_atS RX1 23 "java/lang/IllegalStateException" ["java/lang/RuntimeException", "java/lang/Exception"]).filter goodWord)
def wsX2_getFirst : List Cond := .code yX2_getFirst cX2_getFirst 1 (some .int) :: ([.fieldLink RX2 22 "HeapAndDeque" "row" "LHeapAndDeque$Row;", .methodLink RX2 85 yX1_first, .instanceMethod yX1_first, .selects RX1 yX1_first yX1_first, .initialized RX1, .code yX1_first cX1_first 1 (some .int), .classLink RX1 26 "java/util/NoSuchElementException", .initialized "java/util/NoSuchElementException", .fieldLink RX1 15 "HeapAndDeque$Row" "count" "I", .fieldLink RX1 9 "HeapAndDeque$Row" "values" "[I"] ++ wsX20 ++ wsX10 ++ (hn_atS RX1 30).filter goodWord)
def wsX2_getLast : List Cond := .code yX2_getLast cX2_getLast 1 (some .int) :: ([.fieldLink RX2 22 "HeapAndDeque" "row" "LHeapAndDeque$Row;", .methodLink RX2 88 yX1_last, .instanceMethod yX1_last, .selects RX1 yX1_last yX1_last, .initialized RX1, .code yX1_last cX1_last 1 (some .int), .classLink RX1 26 "java/util/NoSuchElementException", .initialized "java/util/NoSuchElementException", .fieldLink RX1 15 "HeapAndDeque$Row" "count" "I", .fieldLink RX1 9 "HeapAndDeque$Row" "values" "[I"] ++ wsX20 ++ wsX10 ++ (hn_atS RX1 30).filter goodWord)
def wsX2_removeFirst : List Cond := .code yX2_removeFirst cX2_removeFirst 1 (some .int) :: ([.fieldLink RX2 22 "HeapAndDeque" "row" "LHeapAndDeque$Row;", .methodLink RX2 91 yX1_takeFirst, .instanceMethod yX1_takeFirst, .selects RX1 yX1_takeFirst yX1_takeFirst, .initialized RX1, .code yX1_takeFirst cX1_takeFirst 2 (some .int), .methodLink RX1 31 yX1_first, .instanceMethod yX1_first, .selects RX1 yX1_first yX1_first, .code yX1_first cX1_first 1 (some .int), .classLink RX1 26 "java/util/NoSuchElementException", .initialized "java/util/NoSuchElementException", .fieldLink RX1 15 "HeapAndDeque$Row" "count" "I", .fieldLink RX1 9 "HeapAndDeque$Row" "values" "[I", .methodLink RX1 35 yX1_takeFound, .instanceMethod yX1_takeFound, .selects RX1 yX1_takeFound yX1_takeFound, .code yX1_takeFound cX1_takeFound 3 (some .boolean)] ++ wsX20 ++ wsX10 ++ (hn_atS RX1 30).filter goodWord)
def wsX2_removeLast : List Cond := .code yX2_removeLast cX2_removeLast 1 (some .int) :: ([.fieldLink RX2 22 "HeapAndDeque" "row" "LHeapAndDeque$Row;", .methodLink RX2 94 yX1_takeLast, .instanceMethod yX1_takeLast, .selects RX1 yX1_takeLast yX1_takeLast, .initialized RX1, .code yX1_takeLast cX1_takeLast 2 (some .int), .fieldLink RX1 15 "HeapAndDeque$Row" "count" "I", .methodLink RX1 39 yX1_last, .instanceMethod yX1_last, .selects RX1 yX1_last yX1_last, .code yX1_last cX1_last 1 (some .int), .classLink RX1 26 "java/util/NoSuchElementException", .initialized "java/util/NoSuchElementException", .fieldLink RX1 9 "HeapAndDeque$Row" "values" "[I"] ++ wsX20 ++ wsX10 ++ (hn_atS RX1 30).filter goodWord)
def wsX2_push : List Cond := .code yX2_push cX2_push 2 (some .int) :: ([.fieldLink RX2 22 "HeapAndDeque" "row" "LHeapAndDeque$Row;", .methodLink RX2 82 yX1_putFirst, .instanceMethod yX1_putFirst, .selects RX1 yX1_putFirst yX1_putFirst, .initialized RX1, .code yX1_putFirst cX1_putFirst 3 (some .int), .classLink RX1 19 "java/lang/IllegalStateException", .initialized "java/lang/IllegalStateException", .fieldLink RX1 15 "HeapAndDeque$Row" "count" "I", .fieldLink RX1 9 "HeapAndDeque$Row" "values" "[I"] ++ wsX20 ++ wsX10 ++ (vx_atS RX1 23 "java/lang/IllegalStateException" ["java/lang/RuntimeException", "java/lang/Exception"]).filter goodWord)
def wsX2_pop : List Cond := .code yX2_pop cX2_pop 1 (some .int) :: ([.fieldLink RX2 22 "HeapAndDeque" "row" "LHeapAndDeque$Row;", .methodLink RX2 91 yX1_takeFirst, .instanceMethod yX1_takeFirst, .selects RX1 yX1_takeFirst yX1_takeFirst, .initialized RX1, .code yX1_takeFirst cX1_takeFirst 2 (some .int), .methodLink RX1 31 yX1_first, .instanceMethod yX1_first, .selects RX1 yX1_first yX1_first, .code yX1_first cX1_first 1 (some .int), .classLink RX1 26 "java/util/NoSuchElementException", .initialized "java/util/NoSuchElementException", .fieldLink RX1 15 "HeapAndDeque$Row" "count" "I", .fieldLink RX1 9 "HeapAndDeque$Row" "values" "[I", .methodLink RX1 35 yX1_takeFound, .instanceMethod yX1_takeFound, .selects RX1 yX1_takeFound yX1_takeFound, .code yX1_takeFound cX1_takeFound 3 (some .boolean)] ++ wsX20 ++ wsX10 ++ (hn_atS RX1 30).filter goodWord)
def wsX2_removeFirstOccurrence : List Cond := .code yX2_removeFirstOccurrence cX2_removeFirstOccurrence 2 (some .boolean) :: ([.fieldLink RX2 22 "HeapAndDeque" "row" "LHeapAndDeque$Row;", .methodLink RX2 97 yX1_firstPlaceOf, .instanceMethod yX1_firstPlaceOf, .selects RX1 yX1_firstPlaceOf yX1_firstPlaceOf, .initialized RX1, .code yX1_firstPlaceOf cX1_firstPlaceOf 3 (some .int), .fieldLink RX1 15 "HeapAndDeque$Row" "count" "I", .fieldLink RX1 9 "HeapAndDeque$Row" "values" "[I", .methodLink RX2 100 yX1_takeFound, .instanceMethod yX1_takeFound, .selects RX1 yX1_takeFound yX1_takeFound, .code yX1_takeFound cX1_takeFound 3 (some .boolean)] ++ wsX20 ++ wsX10)
def wsX2_removeLastOccurrence : List Cond := .code yX2_removeLastOccurrence cX2_removeLastOccurrence 2 (some .boolean) :: ([.fieldLink RX2 22 "HeapAndDeque" "row" "LHeapAndDeque$Row;", .methodLink RX2 104 yX1_lastPlaceOf, .instanceMethod yX1_lastPlaceOf, .selects RX1 yX1_lastPlaceOf yX1_lastPlaceOf, .initialized RX1, .code yX1_lastPlaceOf cX1_lastPlaceOf 3 (some .int), .fieldLink RX1 15 "HeapAndDeque$Row" "count" "I", .fieldLink RX1 9 "HeapAndDeque$Row" "values" "[I", .methodLink RX2 100 yX1_takeFound, .instanceMethod yX1_takeFound, .selects RX1 yX1_takeFound yX1_takeFound, .code yX1_takeFound cX1_takeFound 3 (some .boolean)] ++ wsX20 ++ wsX10)
def wsX2_has : List Cond := .code yX2_has cX2_has 2 (some .boolean) :: ([.fieldLink RX2 22 "HeapAndDeque" "row" "LHeapAndDeque$Row;", .methodLink RX2 97 yX1_firstPlaceOf, .instanceMethod yX1_firstPlaceOf, .selects RX1 yX1_firstPlaceOf yX1_firstPlaceOf, .initialized RX1, .code yX1_firstPlaceOf cX1_firstPlaceOf 3 (some .int), .fieldLink RX1 15 "HeapAndDeque$Row" "count" "I", .fieldLink RX1 9 "HeapAndDeque$Row" "values" "[I"] ++ wsX20 ++ wsX10)
def wsX2_length : List Cond := .code yX2_length cX2_length 1 (some .int) :: ([.fieldLink RX2 22 "HeapAndDeque" "row" "LHeapAndDeque$Row;"] ++ wsX20 ++ wsX10)
def wsX2_wipe : List Cond := .code yX2_wipe cX2_wipe 1 (some .int) :: ([.fieldLink RX2 22 "HeapAndDeque" "row" "LHeapAndDeque$Row;", .methodLink RX2 107 yX1_empty, .instanceMethod yX1_empty, .selects RX1 yX1_empty yX1_empty, .initialized RX1, .code yX1_empty cX1_empty 2 (some .int), .fieldLink RX1 15 "HeapAndDeque$Row" "count" "I"] ++ wsX20 ++ wsX10)
def wsX2_at : List Cond := .code yX2_at cX2_at 2 (some .int) :: ([.fieldLink RX2 22 "HeapAndDeque" "row" "LHeapAndDeque$Row;", .methodLink RX2 60 yX1_numberAt, .instanceMethod yX1_numberAt, .selects RX1 yX1_numberAt yX1_numberAt, .initialized RX1, .code yX1_numberAt cX1_numberAt 2 (some .int), .classLink RX1 42 "java/lang/IndexOutOfBoundsException", .initialized "java/lang/IndexOutOfBoundsException", .fieldLink RX1 15 "HeapAndDeque$Row" "count" "I", .fieldLink RX1 9 "HeapAndDeque$Row" "values" "[I"] ++ wsX20 ++ wsX10 ++ (vx_atS RX1 46 "java/lang/IndexOutOfBoundsException" ["java/lang/RuntimeException", "java/lang/Exception"]).filter goodWord)
def wsX2_back : List Cond := .code yX2_back cX2_back 2 (some .int) :: ([.fieldLink RX2 22 "HeapAndDeque" "row" "LHeapAndDeque$Row;", .methodLink RX2 108 yX1_numberFromLast, .instanceMethod yX1_numberFromLast, .selects RX1 yX1_numberFromLast yX1_numberFromLast, .initialized RX1, .code yX1_numberFromLast cX1_numberFromLast 2 (some .int), .classLink RX1 42 "java/lang/IndexOutOfBoundsException", .initialized "java/lang/IndexOutOfBoundsException", .fieldLink RX1 15 "HeapAndDeque$Row" "count" "I", .fieldLink RX1 9 "HeapAndDeque$Row" "values" "[I"] ++ wsX20 ++ wsX10 ++ (vx_atS RX1 46 "java/lang/IndexOutOfBoundsException" ["java/lang/RuntimeException", "java/lang/Exception"]).filter goodWord)
def wsX2_dropLike : List Cond := .code yX2_dropLike cX2_dropLike 2 (some .int) :: ([.fieldLink RX2 22 "HeapAndDeque" "row" "LHeapAndDeque$Row;", .methodLink RX2 111 yX1_takeAllLike, .instanceMethod yX1_takeAllLike, .selects RX1 yX1_takeAllLike yX1_takeAllLike, .initialized RX1, .code yX1_takeAllLike cX1_takeAllLike 4 (some .int), .fieldLink RX1 15 "HeapAndDeque$Row" "count" "I", .fieldLink RX1 9 "HeapAndDeque$Row" "values" "[I"] ++ wsX20 ++ wsX10)
def wsX2_walk : List Cond := .code yX2_walk cX2_walk 1 (some .long) :: ([.fieldLink RX2 22 "HeapAndDeque" "row" "LHeapAndDeque$Row;", .methodLink RX2 114 yX1_sumFromFirst, .instanceMethod yX1_sumFromFirst, .selects RX1 yX1_sumFromFirst yX1_sumFromFirst, .initialized RX1, .code yX1_sumFromFirst cX1_sumFromFirst 4 (some .long), .constantLong RX1 47 (7), .fieldLink RX1 15 "HeapAndDeque$Row" "count" "I", .constantLong RX1 49 (31), .fieldLink RX1 9 "HeapAndDeque$Row" "values" "[I"] ++ wsX20 ++ wsX10)
def wsX2_walkBack : List Cond := .code yX2_walkBack cX2_walkBack 1 (some .long) :: ([.fieldLink RX2 22 "HeapAndDeque" "row" "LHeapAndDeque$Row;", .methodLink RX2 117 yX1_sumFromLast, .instanceMethod yX1_sumFromLast, .selects RX1 yX1_sumFromLast yX1_sumFromLast, .initialized RX1, .code yX1_sumFromLast cX1_sumFromLast 4 (some .long), .constantLong RX1 47 (7), .fieldLink RX1 15 "HeapAndDeque$Row" "count" "I", .constantLong RX1 49 (31), .fieldLink RX1 9 "HeapAndDeque$Row" "values" "[I"] ++ wsX20 ++ wsX10)
def wsX3_init : List Cond := .code yX3_init cX3_init 1 none :: ([.methodLink RX3 1 objectInit, .instanceMethod objectInit, .code objectInit ⟨#[0xb1]⟩ 1 none, .arrayClass .int, .fieldLink RX3 7 "HeapAndDequeModel" "heap" "[I", .fieldLink RX3 13 "HeapAndDequeModel" "row" "[I", .fieldLink RX3 16 "HeapAndDequeModel" "keys" "[I", .fieldLink RX3 19 "HeapAndDequeModel" "tags" "[I"] ++ wsX30)
def wsX3_thrown : List Cond := .code yX3_thrown cX3_thrown 1 (some .int) :: ([.fieldLink RX3 22 "HeapAndDequeModel" "thrown" "I"] ++ wsX30)
def wsX3_isWrong : List Cond := .code yX3_isWrong cX3_isWrong 2 (some .boolean) :: ([.fieldLink RX3 22 "HeapAndDequeModel" "thrown" "I"] ++ wsX30)
def wsX3_leastPlace : List Cond := .code yX3_leastPlace cX3_leastPlace 3 (some .int) :: ([.fieldLink RX3 26 "HeapAndDequeModel" "held" "I", .fieldLink RX3 7 "HeapAndDequeModel" "heap" "[I"] ++ wsX30)
def wsX3_heldPlace : List Cond := .code yX3_heldPlace cX3_heldPlace 3 (some .int) :: ([.fieldLink RX3 26 "HeapAndDequeModel" "held" "I", .fieldLink RX3 7 "HeapAndDequeModel" "heap" "[I"] ++ wsX30)
def wsX3_takeHeld : List Cond := .code yX3_takeHeld cX3_takeHeld 4 (some .int) :: ([.fieldLink RX3 7 "HeapAndDequeModel" "heap" "[I", .fieldLink RX3 26 "HeapAndDequeModel" "held" "I"] ++ wsX30)
def wsX3_offer : List Cond := .code yX3_offer cX3_offer 2 (some .int) :: ([.fieldLink RX3 26 "HeapAndDequeModel" "held" "I", .fieldLink RX3 7 "HeapAndDequeModel" "heap" "[I", .methodLink RX3 29 yX3_isWrong, .instanceMethod yX3_isWrong, .selects RX3 yX3_isWrong yX3_isWrong, .initialized RX3, .code yX3_isWrong cX3_isWrong 2 (some .boolean), .fieldLink RX3 22 "HeapAndDequeModel" "thrown" "I"] ++ wsX30)
def wsX3_add : List Cond := .code yX3_add cX3_add 2 (some .int) :: ([.methodLink RX3 33 yX3_offer, .instanceMethod yX3_offer, .selects RX3 yX3_offer yX3_offer, .initialized RX3, .code yX3_offer cX3_offer 2 (some .int), .fieldLink RX3 26 "HeapAndDequeModel" "held" "I", .fieldLink RX3 7 "HeapAndDequeModel" "heap" "[I", .methodLink RX3 29 yX3_isWrong, .instanceMethod yX3_isWrong, .selects RX3 yX3_isWrong yX3_isWrong, .code yX3_isWrong cX3_isWrong 2 (some .boolean), .fieldLink RX3 22 "HeapAndDequeModel" "thrown" "I"] ++ wsX30)
def wsX3_peek : List Cond := .code yX3_peek cX3_peek 1 (some .int) :: ([.fieldLink RX3 26 "HeapAndDequeModel" "held" "I", .fieldLink RX3 7 "HeapAndDequeModel" "heap" "[I", .methodLink RX3 29 yX3_isWrong, .instanceMethod yX3_isWrong, .selects RX3 yX3_isWrong yX3_isWrong, .initialized RX3, .code yX3_isWrong cX3_isWrong 2 (some .boolean), .fieldLink RX3 22 "HeapAndDequeModel" "thrown" "I", .methodLink RX3 37 yX3_leastPlace, .instanceMethod yX3_leastPlace, .selects RX3 yX3_leastPlace yX3_leastPlace, .code yX3_leastPlace cX3_leastPlace 3 (some .int)] ++ wsX30)
def wsX3_poll : List Cond := .code yX3_poll cX3_poll 1 (some .int) :: ([.fieldLink RX3 26 "HeapAndDequeModel" "held" "I", .methodLink RX3 29 yX3_isWrong, .instanceMethod yX3_isWrong, .selects RX3 yX3_isWrong yX3_isWrong, .initialized RX3, .code yX3_isWrong cX3_isWrong 2 (some .boolean), .fieldLink RX3 22 "HeapAndDequeModel" "thrown" "I", .methodLink RX3 37 yX3_leastPlace, .instanceMethod yX3_leastPlace, .selects RX3 yX3_leastPlace yX3_leastPlace, .code yX3_leastPlace cX3_leastPlace 3 (some .int), .fieldLink RX3 7 "HeapAndDequeModel" "heap" "[I", .methodLink RX3 41 yX3_takeHeld, .instanceMethod yX3_takeHeld, .selects RX3 yX3_takeHeld yX3_takeHeld, .code yX3_takeHeld cX3_takeHeld 4 (some .int)] ++ wsX30)
def wsX3_remove : List Cond := .code yX3_remove cX3_remove 3 (some .boolean) :: ([.fieldLink RX3 22 "HeapAndDequeModel" "thrown" "I", .methodLink RX3 44 yX3_heldPlace, .instanceMethod yX3_heldPlace, .selects RX3 yX3_heldPlace yX3_heldPlace, .initialized RX3, .code yX3_heldPlace cX3_heldPlace 3 (some .int), .fieldLink RX3 26 "HeapAndDequeModel" "held" "I", .fieldLink RX3 7 "HeapAndDequeModel" "heap" "[I", .methodLink RX3 41 yX3_takeHeld, .instanceMethod yX3_takeHeld, .selects RX3 yX3_takeHeld yX3_takeHeld, .code yX3_takeHeld cX3_takeHeld 4 (some .int)] ++ wsX30)
def wsX3_contains : List Cond := .code yX3_contains cX3_contains 2 (some .boolean) :: ([.fieldLink RX3 22 "HeapAndDequeModel" "thrown" "I", .methodLink RX3 44 yX3_heldPlace, .instanceMethod yX3_heldPlace, .selects RX3 yX3_heldPlace yX3_heldPlace, .initialized RX3, .code yX3_heldPlace cX3_heldPlace 3 (some .int), .fieldLink RX3 26 "HeapAndDequeModel" "held" "I", .fieldLink RX3 7 "HeapAndDequeModel" "heap" "[I"] ++ wsX30)
def wsX3_size : List Cond := .code yX3_size cX3_size 1 (some .int) :: ([.fieldLink RX3 22 "HeapAndDequeModel" "thrown" "I", .fieldLink RX3 26 "HeapAndDequeModel" "held" "I"] ++ wsX30)
def wsX3_clear : List Cond := .code yX3_clear cX3_clear 2 (some .int) :: ([.fieldLink RX3 22 "HeapAndDequeModel" "thrown" "I", .fieldLink RX3 26 "HeapAndDequeModel" "held" "I"] ++ wsX30)
def wsX3_addAll : List Cond := .code yX3_addAll cX3_addAll 2 (some .int) :: ([.fieldLink RX3 26 "HeapAndDequeModel" "held" "I", .fieldLink RX3 47 "HeapAndDequeModel" "many" "I", .fieldLink RX3 7 "HeapAndDequeModel" "heap" "[I", .fieldLink RX3 13 "HeapAndDequeModel" "row" "[I", .methodLink RX3 29 yX3_isWrong, .instanceMethod yX3_isWrong, .selects RX3 yX3_isWrong yX3_isWrong, .initialized RX3, .code yX3_isWrong cX3_isWrong 2 (some .boolean), .fieldLink RX3 22 "HeapAndDequeModel" "thrown" "I"] ++ wsX30)
def wsX3_drain : List Cond := .code yX3_drain cX3_drain 2 (some .int) :: ([.fieldLink RX3 26 "HeapAndDequeModel" "held" "I", .fieldLink RX3 47 "HeapAndDequeModel" "many" "I", .fieldLink RX3 13 "HeapAndDequeModel" "row" "[I", .methodLink RX3 29 yX3_isWrong, .instanceMethod yX3_isWrong, .selects RX3 yX3_isWrong yX3_isWrong, .initialized RX3, .code yX3_isWrong cX3_isWrong 2 (some .boolean), .fieldLink RX3 22 "HeapAndDequeModel" "thrown" "I", .methodLink RX3 37 yX3_leastPlace, .instanceMethod yX3_leastPlace, .selects RX3 yX3_leastPlace yX3_leastPlace, .code yX3_leastPlace cX3_leastPlace 3 (some .int), .fieldLink RX3 7 "HeapAndDequeModel" "heap" "[I", .methodLink RX3 41 yX3_takeHeld, .instanceMethod yX3_takeHeld, .selects RX3 yX3_takeHeld yX3_takeHeld, .code yX3_takeHeld cX3_takeHeld 4 (some .int)] ++ wsX30)
def wsX3_leastPair : List Cond := .code yX3_leastPair cX3_leastPair 3 (some .int) :: ([.fieldLink RX3 50 "HeapAndDequeModel" "pairs" "I", .fieldLink RX3 16 "HeapAndDequeModel" "keys" "[I", .fieldLink RX3 19 "HeapAndDequeModel" "tags" "[I"] ++ wsX30)
def wsX3_pairPlace : List Cond := .code yX3_pairPlace cX3_pairPlace 4 (some .int) :: ([.fieldLink RX3 50 "HeapAndDequeModel" "pairs" "I", .fieldLink RX3 16 "HeapAndDequeModel" "keys" "[I", .fieldLink RX3 19 "HeapAndDequeModel" "tags" "[I"] ++ wsX30)
def wsX3_takePair : List Cond := .code yX3_takePair cX3_takePair 3 none :: ([.fieldLink RX3 50 "HeapAndDequeModel" "pairs" "I", .fieldLink RX3 16 "HeapAndDequeModel" "keys" "[I", .fieldLink RX3 19 "HeapAndDequeModel" "tags" "[I"] ++ wsX30)
def wsX3_isNoTag : List Cond := .code yX3_isNoTag cX3_isNoTag 2 (some .boolean) :: ([.methodLink RX3 29 yX3_isWrong, .instanceMethod yX3_isWrong, .selects RX3 yX3_isWrong yX3_isWrong, .initialized RX3, .code yX3_isWrong cX3_isWrong 2 (some .boolean), .fieldLink RX3 22 "HeapAndDequeModel" "thrown" "I"] ++ wsX30)
def wsX3_offerPair : List Cond := .code yX3_offerPair cX3_offerPair 3 (some .int) :: ([.fieldLink RX3 50 "HeapAndDequeModel" "pairs" "I", .fieldLink RX3 16 "HeapAndDequeModel" "keys" "[I", .fieldLink RX3 19 "HeapAndDequeModel" "tags" "[I", .methodLink RX3 53 yX3_isNoTag, .instanceMethod yX3_isNoTag, .selects RX3 yX3_isNoTag yX3_isNoTag, .initialized RX3, .code yX3_isNoTag cX3_isNoTag 2 (some .boolean), .methodLink RX3 29 yX3_isWrong, .instanceMethod yX3_isWrong, .selects RX3 yX3_isWrong yX3_isWrong, .code yX3_isWrong cX3_isWrong 2 (some .boolean), .fieldLink RX3 22 "HeapAndDequeModel" "thrown" "I"] ++ wsX30)
def wsX3_told : List Cond := .code yX3_told cX3_told 2 (some .long) :: ([.constantLong RX3 56 (1000), .fieldLink RX3 16 "HeapAndDequeModel" "keys" "[I", .fieldLink RX3 19 "HeapAndDequeModel" "tags" "[I"] ++ wsX30)
def wsX3_peekPair : List Cond := .code yX3_peekPair cX3_peekPair 1 (some .long) :: ([.fieldLink RX3 50 "HeapAndDequeModel" "pairs" "I", .methodLink RX3 29 yX3_isWrong, .instanceMethod yX3_isWrong, .selects RX3 yX3_isWrong yX3_isWrong, .initialized RX3, .code yX3_isWrong cX3_isWrong 2 (some .boolean), .fieldLink RX3 22 "HeapAndDequeModel" "thrown" "I", .methodLink RX3 58 yX3_leastPair, .instanceMethod yX3_leastPair, .selects RX3 yX3_leastPair yX3_leastPair, .code yX3_leastPair cX3_leastPair 3 (some .int), .fieldLink RX3 16 "HeapAndDequeModel" "keys" "[I", .fieldLink RX3 19 "HeapAndDequeModel" "tags" "[I", .methodLink RX3 61 yX3_told, .instanceMethod yX3_told, .selects RX3 yX3_told yX3_told, .code yX3_told cX3_told 2 (some .long), .constantLong RX3 56 (1000)] ++ wsX30)
def wsX3_pollPair : List Cond := .code yX3_pollPair cX3_pollPair 4 (some .long) :: ([.fieldLink RX3 50 "HeapAndDequeModel" "pairs" "I", .methodLink RX3 29 yX3_isWrong, .instanceMethod yX3_isWrong, .selects RX3 yX3_isWrong yX3_isWrong, .initialized RX3, .code yX3_isWrong cX3_isWrong 2 (some .boolean), .fieldLink RX3 22 "HeapAndDequeModel" "thrown" "I", .methodLink RX3 58 yX3_leastPair, .instanceMethod yX3_leastPair, .selects RX3 yX3_leastPair yX3_leastPair, .code yX3_leastPair cX3_leastPair 3 (some .int), .fieldLink RX3 16 "HeapAndDequeModel" "keys" "[I", .fieldLink RX3 19 "HeapAndDequeModel" "tags" "[I", .methodLink RX3 61 yX3_told, .instanceMethod yX3_told, .selects RX3 yX3_told yX3_told, .code yX3_told cX3_told 2 (some .long), .constantLong RX3 56 (1000), .methodLink RX3 65 yX3_takePair, .instanceMethod yX3_takePair, .selects RX3 yX3_takePair yX3_takePair, .code yX3_takePair cX3_takePair 3 none] ++ wsX30)
def wsX3_removePair : List Cond := .code yX3_removePair cX3_removePair 4 (some .boolean) :: ([.methodLink RX3 53 yX3_isNoTag, .instanceMethod yX3_isNoTag, .selects RX3 yX3_isNoTag yX3_isNoTag, .initialized RX3, .code yX3_isNoTag cX3_isNoTag 2 (some .boolean), .methodLink RX3 29 yX3_isWrong, .instanceMethod yX3_isWrong, .selects RX3 yX3_isWrong yX3_isWrong, .code yX3_isWrong cX3_isWrong 2 (some .boolean), .fieldLink RX3 22 "HeapAndDequeModel" "thrown" "I", .methodLink RX3 69 yX3_pairPlace, .instanceMethod yX3_pairPlace, .selects RX3 yX3_pairPlace yX3_pairPlace, .code yX3_pairPlace cX3_pairPlace 4 (some .int), .fieldLink RX3 50 "HeapAndDequeModel" "pairs" "I", .fieldLink RX3 16 "HeapAndDequeModel" "keys" "[I", .fieldLink RX3 19 "HeapAndDequeModel" "tags" "[I", .methodLink RX3 65 yX3_takePair, .instanceMethod yX3_takePair, .selects RX3 yX3_takePair yX3_takePair, .code yX3_takePair cX3_takePair 3 none] ++ wsX30)
def wsX3_containsPair : List Cond := .code yX3_containsPair cX3_containsPair 3 (some .boolean) :: ([.methodLink RX3 53 yX3_isNoTag, .instanceMethod yX3_isNoTag, .selects RX3 yX3_isNoTag yX3_isNoTag, .initialized RX3, .code yX3_isNoTag cX3_isNoTag 2 (some .boolean), .methodLink RX3 29 yX3_isWrong, .instanceMethod yX3_isWrong, .selects RX3 yX3_isWrong yX3_isWrong, .code yX3_isWrong cX3_isWrong 2 (some .boolean), .fieldLink RX3 22 "HeapAndDequeModel" "thrown" "I", .methodLink RX3 69 yX3_pairPlace, .instanceMethod yX3_pairPlace, .selects RX3 yX3_pairPlace yX3_pairPlace, .code yX3_pairPlace cX3_pairPlace 4 (some .int), .fieldLink RX3 50 "HeapAndDequeModel" "pairs" "I", .fieldLink RX3 16 "HeapAndDequeModel" "keys" "[I", .fieldLink RX3 19 "HeapAndDequeModel" "tags" "[I"] ++ wsX30)
def wsX3_sizePairs : List Cond := .code yX3_sizePairs cX3_sizePairs 1 (some .int) :: ([.fieldLink RX3 22 "HeapAndDequeModel" "thrown" "I", .fieldLink RX3 50 "HeapAndDequeModel" "pairs" "I"] ++ wsX30)
def wsX3_clearPairs : List Cond := .code yX3_clearPairs cX3_clearPairs 2 (some .int) :: ([.fieldLink RX3 22 "HeapAndDequeModel" "thrown" "I", .fieldLink RX3 50 "HeapAndDequeModel" "pairs" "I"] ++ wsX30)
def wsX3_drainPairs : List Cond := .code yX3_drainPairs cX3_drainPairs 3 (some .int) :: ([.fieldLink RX3 50 "HeapAndDequeModel" "pairs" "I", .fieldLink RX3 47 "HeapAndDequeModel" "many" "I", .fieldLink RX3 13 "HeapAndDequeModel" "row" "[I", .fieldLink RX3 16 "HeapAndDequeModel" "keys" "[I", .methodLink RX3 29 yX3_isWrong, .instanceMethod yX3_isWrong, .selects RX3 yX3_isWrong yX3_isWrong, .initialized RX3, .code yX3_isWrong cX3_isWrong 2 (some .boolean), .fieldLink RX3 22 "HeapAndDequeModel" "thrown" "I", .methodLink RX3 58 yX3_leastPair, .instanceMethod yX3_leastPair, .selects RX3 yX3_leastPair yX3_leastPair, .code yX3_leastPair cX3_leastPair 3 (some .int), .fieldLink RX3 19 "HeapAndDequeModel" "tags" "[I", .methodLink RX3 65 yX3_takePair, .instanceMethod yX3_takePair, .selects RX3 yX3_takePair yX3_takePair, .code yX3_takePair cX3_takePair 3 none] ++ wsX30)
def wsX3_firstPlace : List Cond := .code yX3_firstPlace cX3_firstPlace 3 (some .int) :: ([.fieldLink RX3 47 "HeapAndDequeModel" "many" "I", .fieldLink RX3 13 "HeapAndDequeModel" "row" "[I"] ++ wsX30)
def wsX3_takeRow : List Cond := .code yX3_takeRow cX3_takeRow 4 (some .int) :: ([.fieldLink RX3 13 "HeapAndDequeModel" "row" "[I", .fieldLink RX3 47 "HeapAndDequeModel" "many" "I"] ++ wsX30)
def wsX3_isNone : List Cond := .code yX3_isNone cX3_isNone 1 (some .boolean) :: ([.fieldLink RX3 47 "HeapAndDequeModel" "many" "I", .methodLink RX3 29 yX3_isWrong, .instanceMethod yX3_isWrong, .selects RX3 yX3_isWrong yX3_isWrong, .initialized RX3, .code yX3_isWrong cX3_isWrong 2 (some .boolean), .fieldLink RX3 22 "HeapAndDequeModel" "thrown" "I"] ++ wsX30)
def wsX3_addFirst : List Cond := .code yX3_addFirst cX3_addFirst 3 (some .int) :: ([.fieldLink RX3 47 "HeapAndDequeModel" "many" "I", .fieldLink RX3 13 "HeapAndDequeModel" "row" "[I", .methodLink RX3 29 yX3_isWrong, .instanceMethod yX3_isWrong, .selects RX3 yX3_isWrong yX3_isWrong, .initialized RX3, .code yX3_isWrong cX3_isWrong 2 (some .boolean), .fieldLink RX3 22 "HeapAndDequeModel" "thrown" "I"] ++ wsX30)
def wsX3_addLast : List Cond := .code yX3_addLast cX3_addLast 2 (some .int) :: ([.fieldLink RX3 47 "HeapAndDequeModel" "many" "I", .fieldLink RX3 13 "HeapAndDequeModel" "row" "[I", .methodLink RX3 29 yX3_isWrong, .instanceMethod yX3_isWrong, .selects RX3 yX3_isWrong yX3_isWrong, .initialized RX3, .code yX3_isWrong cX3_isWrong 2 (some .boolean), .fieldLink RX3 22 "HeapAndDequeModel" "thrown" "I"] ++ wsX30)
def wsX3_getFirst : List Cond := .code yX3_getFirst cX3_getFirst 1 (some .int) :: ([.fieldLink RX3 13 "HeapAndDequeModel" "row" "[I", .methodLink RX3 73 yX3_isNone, .instanceMethod yX3_isNone, .selects RX3 yX3_isNone yX3_isNone, .initialized RX3, .code yX3_isNone cX3_isNone 1 (some .boolean), .fieldLink RX3 47 "HeapAndDequeModel" "many" "I", .methodLink RX3 29 yX3_isWrong, .instanceMethod yX3_isWrong, .selects RX3 yX3_isWrong yX3_isWrong, .code yX3_isWrong cX3_isWrong 2 (some .boolean), .fieldLink RX3 22 "HeapAndDequeModel" "thrown" "I"] ++ wsX30)
def wsX3_getLast : List Cond := .code yX3_getLast cX3_getLast 1 (some .int) :: ([.fieldLink RX3 13 "HeapAndDequeModel" "row" "[I", .fieldLink RX3 47 "HeapAndDequeModel" "many" "I", .methodLink RX3 73 yX3_isNone, .instanceMethod yX3_isNone, .selects RX3 yX3_isNone yX3_isNone, .initialized RX3, .code yX3_isNone cX3_isNone 1 (some .boolean), .methodLink RX3 29 yX3_isWrong, .instanceMethod yX3_isWrong, .selects RX3 yX3_isWrong yX3_isWrong, .code yX3_isWrong cX3_isWrong 2 (some .boolean), .fieldLink RX3 22 "HeapAndDequeModel" "thrown" "I"] ++ wsX30)
def wsX3_removeFirst : List Cond := .code yX3_removeFirst cX3_removeFirst 1 (some .int) :: ([.methodLink RX3 73 yX3_isNone, .instanceMethod yX3_isNone, .selects RX3 yX3_isNone yX3_isNone, .initialized RX3, .code yX3_isNone cX3_isNone 1 (some .boolean), .fieldLink RX3 47 "HeapAndDequeModel" "many" "I", .methodLink RX3 29 yX3_isWrong, .instanceMethod yX3_isWrong, .selects RX3 yX3_isWrong yX3_isWrong, .code yX3_isWrong cX3_isWrong 2 (some .boolean), .fieldLink RX3 22 "HeapAndDequeModel" "thrown" "I", .methodLink RX3 77 yX3_takeRow, .instanceMethod yX3_takeRow, .selects RX3 yX3_takeRow yX3_takeRow, .code yX3_takeRow cX3_takeRow 4 (some .int), .fieldLink RX3 13 "HeapAndDequeModel" "row" "[I"] ++ wsX30)
def wsX3_removeLast : List Cond := .code yX3_removeLast cX3_removeLast 1 (some .int) :: ([.fieldLink RX3 47 "HeapAndDequeModel" "many" "I", .methodLink RX3 73 yX3_isNone, .instanceMethod yX3_isNone, .selects RX3 yX3_isNone yX3_isNone, .initialized RX3, .code yX3_isNone cX3_isNone 1 (some .boolean), .methodLink RX3 29 yX3_isWrong, .instanceMethod yX3_isWrong, .selects RX3 yX3_isWrong yX3_isWrong, .code yX3_isWrong cX3_isWrong 2 (some .boolean), .fieldLink RX3 22 "HeapAndDequeModel" "thrown" "I", .methodLink RX3 77 yX3_takeRow, .instanceMethod yX3_takeRow, .selects RX3 yX3_takeRow yX3_takeRow, .code yX3_takeRow cX3_takeRow 4 (some .int), .fieldLink RX3 13 "HeapAndDequeModel" "row" "[I"] ++ wsX30)
def wsX3_push : List Cond := .code yX3_push cX3_push 2 (some .int) :: ([.methodLink RX3 80 yX3_addFirst, .instanceMethod yX3_addFirst, .selects RX3 yX3_addFirst yX3_addFirst, .initialized RX3, .code yX3_addFirst cX3_addFirst 3 (some .int), .fieldLink RX3 47 "HeapAndDequeModel" "many" "I", .fieldLink RX3 13 "HeapAndDequeModel" "row" "[I", .methodLink RX3 29 yX3_isWrong, .instanceMethod yX3_isWrong, .selects RX3 yX3_isWrong yX3_isWrong, .code yX3_isWrong cX3_isWrong 2 (some .boolean), .fieldLink RX3 22 "HeapAndDequeModel" "thrown" "I"] ++ wsX30)
def wsX3_pop : List Cond := .code yX3_pop cX3_pop 1 (some .int) :: ([.methodLink RX3 83 yX3_removeFirst, .instanceMethod yX3_removeFirst, .selects RX3 yX3_removeFirst yX3_removeFirst, .initialized RX3, .code yX3_removeFirst cX3_removeFirst 1 (some .int), .methodLink RX3 73 yX3_isNone, .instanceMethod yX3_isNone, .selects RX3 yX3_isNone yX3_isNone, .code yX3_isNone cX3_isNone 1 (some .boolean), .fieldLink RX3 47 "HeapAndDequeModel" "many" "I", .methodLink RX3 29 yX3_isWrong, .instanceMethod yX3_isWrong, .selects RX3 yX3_isWrong yX3_isWrong, .code yX3_isWrong cX3_isWrong 2 (some .boolean), .fieldLink RX3 22 "HeapAndDequeModel" "thrown" "I", .methodLink RX3 77 yX3_takeRow, .instanceMethod yX3_takeRow, .selects RX3 yX3_takeRow yX3_takeRow, .code yX3_takeRow cX3_takeRow 4 (some .int), .fieldLink RX3 13 "HeapAndDequeModel" "row" "[I"] ++ wsX30)
def wsX3_removeFirstOccurrence : List Cond := .code yX3_removeFirstOccurrence cX3_removeFirstOccurrence 3 (some .boolean) :: ([.fieldLink RX3 22 "HeapAndDequeModel" "thrown" "I", .methodLink RX3 86 yX3_firstPlace, .instanceMethod yX3_firstPlace, .selects RX3 yX3_firstPlace yX3_firstPlace, .initialized RX3, .code yX3_firstPlace cX3_firstPlace 3 (some .int), .fieldLink RX3 47 "HeapAndDequeModel" "many" "I", .fieldLink RX3 13 "HeapAndDequeModel" "row" "[I", .methodLink RX3 77 yX3_takeRow, .instanceMethod yX3_takeRow, .selects RX3 yX3_takeRow yX3_takeRow, .code yX3_takeRow cX3_takeRow 4 (some .int)] ++ wsX30)
def wsX3_removeLastOccurrence : List Cond := .code yX3_removeLastOccurrence cX3_removeLastOccurrence 3 (some .boolean) :: ([.fieldLink RX3 22 "HeapAndDequeModel" "thrown" "I", .fieldLink RX3 47 "HeapAndDequeModel" "many" "I", .fieldLink RX3 13 "HeapAndDequeModel" "row" "[I", .methodLink RX3 77 yX3_takeRow, .instanceMethod yX3_takeRow, .selects RX3 yX3_takeRow yX3_takeRow, .initialized RX3, .code yX3_takeRow cX3_takeRow 4 (some .int)] ++ wsX30)
def wsX3_has : List Cond := .code yX3_has cX3_has 2 (some .boolean) :: ([.fieldLink RX3 22 "HeapAndDequeModel" "thrown" "I", .methodLink RX3 86 yX3_firstPlace, .instanceMethod yX3_firstPlace, .selects RX3 yX3_firstPlace yX3_firstPlace, .initialized RX3, .code yX3_firstPlace cX3_firstPlace 3 (some .int), .fieldLink RX3 47 "HeapAndDequeModel" "many" "I", .fieldLink RX3 13 "HeapAndDequeModel" "row" "[I"] ++ wsX30)
def wsX3_length : List Cond := .code yX3_length cX3_length 1 (some .int) :: ([.fieldLink RX3 22 "HeapAndDequeModel" "thrown" "I", .fieldLink RX3 47 "HeapAndDequeModel" "many" "I"] ++ wsX30)
def wsX3_wipe : List Cond := .code yX3_wipe cX3_wipe 2 (some .int) :: ([.fieldLink RX3 22 "HeapAndDequeModel" "thrown" "I", .fieldLink RX3 47 "HeapAndDequeModel" "many" "I"] ++ wsX30)
def wsX3_isNoPlace : List Cond := .code yX3_isNoPlace cX3_isNoPlace 2 (some .boolean) :: ([.fieldLink RX3 47 "HeapAndDequeModel" "many" "I", .methodLink RX3 29 yX3_isWrong, .instanceMethod yX3_isWrong, .selects RX3 yX3_isWrong yX3_isWrong, .initialized RX3, .code yX3_isWrong cX3_isWrong 2 (some .boolean), .fieldLink RX3 22 "HeapAndDequeModel" "thrown" "I"] ++ wsX30)
def wsX3_at : List Cond := .code yX3_at cX3_at 2 (some .int) :: ([.fieldLink RX3 13 "HeapAndDequeModel" "row" "[I", .methodLink RX3 89 yX3_isNoPlace, .instanceMethod yX3_isNoPlace, .selects RX3 yX3_isNoPlace yX3_isNoPlace, .initialized RX3, .code yX3_isNoPlace cX3_isNoPlace 2 (some .boolean), .fieldLink RX3 47 "HeapAndDequeModel" "many" "I", .methodLink RX3 29 yX3_isWrong, .instanceMethod yX3_isWrong, .selects RX3 yX3_isWrong yX3_isWrong, .code yX3_isWrong cX3_isWrong 2 (some .boolean), .fieldLink RX3 22 "HeapAndDequeModel" "thrown" "I"] ++ wsX30)
def wsX3_back : List Cond := .code yX3_back cX3_back 2 (some .int) :: ([.fieldLink RX3 13 "HeapAndDequeModel" "row" "[I", .fieldLink RX3 47 "HeapAndDequeModel" "many" "I", .methodLink RX3 89 yX3_isNoPlace, .instanceMethod yX3_isNoPlace, .selects RX3 yX3_isNoPlace yX3_isNoPlace, .initialized RX3, .code yX3_isNoPlace cX3_isNoPlace 2 (some .boolean), .methodLink RX3 29 yX3_isWrong, .instanceMethod yX3_isWrong, .selects RX3 yX3_isWrong yX3_isWrong, .code yX3_isWrong cX3_isWrong 2 (some .boolean), .fieldLink RX3 22 "HeapAndDequeModel" "thrown" "I"] ++ wsX30)
def wsX3_dropLike : List Cond := .code yX3_dropLike cX3_dropLike 4 (some .int) :: ([.fieldLink RX3 22 "HeapAndDequeModel" "thrown" "I", .fieldLink RX3 47 "HeapAndDequeModel" "many" "I", .methodLink RX3 86 yX3_firstPlace, .instanceMethod yX3_firstPlace, .selects RX3 yX3_firstPlace yX3_firstPlace, .initialized RX3, .code yX3_firstPlace cX3_firstPlace 3 (some .int), .fieldLink RX3 13 "HeapAndDequeModel" "row" "[I", .methodLink RX3 77 yX3_takeRow, .instanceMethod yX3_takeRow, .selects RX3 yX3_takeRow yX3_takeRow, .code yX3_takeRow cX3_takeRow 4 (some .int)] ++ wsX30)
def wsX3_walk : List Cond := .code yX3_walk cX3_walk 4 (some .long) :: ([.fieldLink RX3 22 "HeapAndDequeModel" "thrown" "I", .constantLong RX3 92 (7), .fieldLink RX3 47 "HeapAndDequeModel" "many" "I", .constantLong RX3 94 (31), .fieldLink RX3 13 "HeapAndDequeModel" "row" "[I"] ++ wsX30)
def wsX3_walkBack : List Cond := .code yX3_walkBack cX3_walkBack 4 (some .long) :: ([.fieldLink RX3 22 "HeapAndDequeModel" "thrown" "I", .constantLong RX3 92 (7), .fieldLink RX3 47 "HeapAndDequeModel" "many" "I", .constantLong RX3 94 (31), .fieldLink RX3 13 "HeapAndDequeModel" "row" "[I"] ++ wsX30)
def wsL_offer : List Cond := .codeWith yL_offer cL_offer 4 (some .int) [(0, 9, 12, 13)] :: ([.classLink RL 13 "java/lang/IllegalStateException", .methodLink RL 7 yX2_offer, .instanceMethod yX2_offer, .selects RX2 yX2_offer yX2_offer, .initialized RX2, .code yX2_offer cX2_offer 2 (some .int), .fieldLink RX2 10 "HeapAndDeque" "numbers" "LHeapAndDeque$LeastFirst;", .methodLink RX2 26 yX0_put, .instanceMethod yX0_put, .selects RX0 yX0_put yX0_put, .initialized RX0, .code yX0_put cX0_put 4 (some .int), .classLink RX0 19 "java/lang/IllegalStateException", .initialized "java/lang/IllegalStateException", .fieldLink RX0 15 "HeapAndDeque$LeastFirst" "count" "I", .fieldLink RX0 9 "HeapAndDeque$LeastFirst" "values" "[J"] ++ wsX20 ++ wsX00 ++ (vx_atS RX0 23 "java/lang/IllegalStateException" ["java/lang/RuntimeException", "java/lang/Exception"]).filter goodWord)
def wsL_add : List Cond := .codeWith yL_add cL_add 4 (some .int) [(0, 9, 12, 13)] :: ([.classLink RL 13 "java/lang/IllegalStateException", .methodLink RL 15 yX2_add, .instanceMethod yX2_add, .selects RX2 yX2_add yX2_add, .initialized RX2, .code yX2_add cX2_add 2 (some .int), .fieldLink RX2 10 "HeapAndDeque" "numbers" "LHeapAndDeque$LeastFirst;", .methodLink RX2 26 yX0_put, .instanceMethod yX0_put, .selects RX0 yX0_put yX0_put, .initialized RX0, .code yX0_put cX0_put 4 (some .int), .classLink RX0 19 "java/lang/IllegalStateException", .initialized "java/lang/IllegalStateException", .fieldLink RX0 15 "HeapAndDeque$LeastFirst" "count" "I", .fieldLink RX0 9 "HeapAndDeque$LeastFirst" "values" "[J"] ++ wsX20 ++ wsX00 ++ (vx_atS RX0 23 "java/lang/IllegalStateException" ["java/lang/RuntimeException", "java/lang/Exception"]).filter goodWord)
def wsL_peek : List Cond := .codeWith yL_peek cL_peek 3 (some .int) [(0, 8, 11, 22)] :: ([.classLink RL 22 "java/util/NoSuchElementException", .methodLink RL 18 yX2_peek, .instanceMethod yX2_peek, .selects RX2 yX2_peek yX2_peek, .initialized RX2, .code yX2_peek cX2_peek 1 (some .int), .fieldLink RX2 10 "HeapAndDeque" "numbers" "LHeapAndDeque$LeastFirst;", .methodLink RX2 30 yX0_least, .instanceMethod yX0_least, .selects RX0 yX0_least yX0_least, .initialized RX0, .code yX0_least cX0_least 1 (some .long), .classLink RX0 26 "java/util/NoSuchElementException", .initialized "java/util/NoSuchElementException", .fieldLink RX0 15 "HeapAndDeque$LeastFirst" "count" "I", .fieldLink RX0 9 "HeapAndDeque$LeastFirst" "values" "[J"] ++ wsX20 ++ wsX00 ++ (hn_atS RX0 30).filter goodWord)
def wsL_poll : List Cond := .codeWith yL_poll cL_poll 3 (some .int) [(0, 8, 11, 22)] :: ([.classLink RL 22 "java/util/NoSuchElementException", .methodLink RL 24 yX2_poll, .instanceMethod yX2_poll, .selects RX2 yX2_poll yX2_poll, .initialized RX2, .code yX2_poll cX2_poll 1 (some .int), .fieldLink RX2 10 "HeapAndDeque" "numbers" "LHeapAndDeque$LeastFirst;", .methodLink RX2 34 yX0_takeLeast, .instanceMethod yX0_takeLeast, .selects RX0 yX0_takeLeast yX0_takeLeast, .initialized RX0, .code yX0_takeLeast cX0_takeLeast 3 (some .long), .fieldLink RX0 15 "HeapAndDeque$LeastFirst" "count" "I", .methodLink RX0 31 yX0_least, .instanceMethod yX0_least, .selects RX0 yX0_least yX0_least, .code yX0_least cX0_least 1 (some .long), .classLink RX0 26 "java/util/NoSuchElementException", .initialized "java/util/NoSuchElementException", .fieldLink RX0 9 "HeapAndDeque$LeastFirst" "values" "[J"] ++ wsX20 ++ wsX00 ++ (hn_atS RX0 30).filter goodWord)
def wsL_addAll_r1 : List Cond := [Cond.classLink RL 13 "java/lang/IllegalStateException", Cond.methodLink RL 27 yX2_addAll, Cond.instanceMethod yX2_addAll, Cond.selects RX2 yX2_addAll yX2_addAll, Cond.initialized RX2, Cond.code yX2_addAll cX2_addAll 2 (some .int), Cond.classLink RX2 53 "java/lang/IllegalStateException", Cond.initialized "java/lang/IllegalStateException", Cond.fieldLink RX2 10 "HeapAndDeque" "numbers" "LHeapAndDeque$LeastFirst;", Cond.fieldLink RX2 22 "HeapAndDeque" "row" "LHeapAndDeque$Row;", Cond.methodLink RX2 60 yX1_numberAt, Cond.instanceMethod yX1_numberAt, Cond.selects RX1 yX1_numberAt yX1_numberAt, Cond.initialized RX1, Cond.code yX1_numberAt cX1_numberAt 2 (some .int), Cond.classLink RX1 42 "java/lang/IndexOutOfBoundsException", Cond.initialized "java/lang/IndexOutOfBoundsException", Cond.fieldLink RX1 15 "HeapAndDeque$Row" "count" "I", Cond.fieldLink RX1 9 "HeapAndDeque$Row" "values" "[I", Cond.methodLink RX2 26 yX0_put, Cond.instanceMethod yX0_put, Cond.selects RX0 yX0_put yX0_put, Cond.initialized RX0, Cond.code yX0_put cX0_put 4 (some .int)]
def wsL_addAll_r2 : List Cond := [Cond.classLink RX0 19 "java/lang/IllegalStateException", Cond.fieldLink RX0 15 "HeapAndDeque$LeastFirst" "count" "I", Cond.fieldLink RX0 9 "HeapAndDeque$LeastFirst" "values" "[J"]
def wsL_addAll : List Cond := .codeWith yL_addAll cL_addAll 3 (some .int) [(0, 8, 11, 13)] :: ((wsL_addAll_r1 ++ wsL_addAll_r2) ++ wsX20 ++ wsX00 ++ wsX10 ++ (vx_atS RX2 57 "java/lang/IllegalStateException" ["java/lang/RuntimeException", "java/lang/Exception"]).filter goodWord ++ (vx_atS RX1 46 "java/lang/IndexOutOfBoundsException" ["java/lang/RuntimeException", "java/lang/Exception"]).filter goodWord ++ (vx_atS RX0 23 "java/lang/IllegalStateException" ["java/lang/RuntimeException", "java/lang/Exception"]).filter goodWord)
def wsL_drain_r1 : List Cond := [Cond.classLink RL 13 "java/lang/IllegalStateException", Cond.methodLink RL 30 yX2_drain, Cond.instanceMethod yX2_drain, Cond.selects RX2 yX2_drain yX2_drain, Cond.initialized RX2, Cond.code yX2_drain cX2_drain 3 (some .int), Cond.fieldLink RX2 10 "HeapAndDeque" "numbers" "LHeapAndDeque$LeastFirst;", Cond.fieldLink RX2 22 "HeapAndDeque" "row" "LHeapAndDeque$Row;", Cond.methodLink RX2 64 yX2_refuseAtRow, Cond.instanceMethod yX2_refuseAtRow, Cond.selects RX2 yX2_refuseAtRow yX2_refuseAtRow, Cond.code yX2_refuseAtRow cX2_refuseAtRow 2 none, Cond.classLink RX2 53 "java/lang/IllegalStateException", Cond.initialized "java/lang/IllegalStateException", Cond.methodLink RX2 34 yX0_takeLeast, Cond.instanceMethod yX0_takeLeast, Cond.selects RX0 yX0_takeLeast yX0_takeLeast, Cond.initialized RX0, Cond.code yX0_takeLeast cX0_takeLeast 3 (some .long), Cond.fieldLink RX0 15 "HeapAndDeque$LeastFirst" "count" "I", Cond.methodLink RX0 31 yX0_least, Cond.instanceMethod yX0_least, Cond.selects RX0 yX0_least yX0_least, Cond.code yX0_least cX0_least 1 (some .long)]
def wsL_drain_r2 : List Cond := [Cond.classLink RX0 26 "java/util/NoSuchElementException", Cond.initialized "java/util/NoSuchElementException", Cond.fieldLink RX0 9 "HeapAndDeque$LeastFirst" "values" "[J", Cond.methodLink RX2 68 yX1_putLast, Cond.instanceMethod yX1_putLast, Cond.selects RX1 yX1_putLast yX1_putLast, Cond.initialized RX1, Cond.code yX1_putLast cX1_putLast 2 (some .int), Cond.classLink RX1 19 "java/lang/IllegalStateException", Cond.fieldLink RX1 15 "HeapAndDeque$Row" "count" "I", Cond.fieldLink RX1 9 "HeapAndDeque$Row" "values" "[I"]
def wsL_drain : List Cond := .codeWith yL_drain cL_drain 3 (some .int) [(0, 8, 11, 13)] :: ((wsL_drain_r1 ++ wsL_drain_r2) ++ wsX20 ++ wsX00 ++ wsX10 ++ (vx_atS RX2 57 "java/lang/IllegalStateException" ["java/lang/RuntimeException", "java/lang/Exception"]).filter goodWord ++ (hn_atS RX0 30).filter goodWord ++ (vx_atS RX1 23 "java/lang/IllegalStateException" ["java/lang/RuntimeException", "java/lang/Exception"]).filter goodWord)
def wsL_offerPair : List Cond := .codeWith yL_offerPair cL_offerPair 5 (some .int) [(0, 10, 13, 37), (0, 10, 17, 13)] :: ([.classLink RL 37 "java/lang/IllegalArgumentException", .classLink RL 13 "java/lang/IllegalStateException", .methodLink RL 33 yX2_offerPair, .instanceMethod yX2_offerPair, .selects RX2 yX2_offerPair yX2_offerPair, .initialized RX2, .code yX2_offerPair cX2_offerPair 3 (some .int), .fieldLink RX2 16 "HeapAndDeque" "pairs" "LHeapAndDeque$LeastFirst;", .methodLink RX2 71 yX2_rankOf, .static yX2_rankOf, .code yX2_rankOf cX2_rankOf 2 (some .long), .classLink RX2 122 "java/lang/IllegalArgumentException", .initialized "java/lang/IllegalArgumentException", .constantLong RX2 127 (1000), .methodLink RX2 26 yX0_put, .instanceMethod yX0_put, .selects RX0 yX0_put yX0_put, .initialized RX0, .code yX0_put cX0_put 4 (some .int), .classLink RX0 19 "java/lang/IllegalStateException", .initialized "java/lang/IllegalStateException", .fieldLink RX0 15 "HeapAndDeque$LeastFirst" "count" "I", .fieldLink RX0 9 "HeapAndDeque$LeastFirst" "values" "[J"] ++ wsX20 ++ wsX00 ++ (vx_atS RX2 126 "java/lang/IllegalArgumentException" ["java/lang/RuntimeException", "java/lang/Exception"]).filter goodWord ++ (vx_atS RX0 23 "java/lang/IllegalStateException" ["java/lang/RuntimeException", "java/lang/Exception"]).filter goodWord)
def wsL_peekPair_r1 : List Cond := [Cond.classLink RL 22 "java/util/NoSuchElementException", Cond.methodLink RL 39 yX2_peekPair, Cond.instanceMethod yX2_peekPair, Cond.selects RX2 yX2_peekPair yX2_peekPair, Cond.initialized RX2, Cond.code yX2_peekPair cX2_peekPair 1 (some .long), Cond.fieldLink RX2 16 "HeapAndDeque" "pairs" "LHeapAndDeque$LeastFirst;", Cond.methodLink RX2 30 yX0_least, Cond.instanceMethod yX0_least, Cond.selects RX0 yX0_least yX0_least, Cond.initialized RX0, Cond.code yX0_least cX0_least 1 (some .long), Cond.classLink RX0 26 "java/util/NoSuchElementException", Cond.initialized "java/util/NoSuchElementException", Cond.fieldLink RX0 15 "HeapAndDeque$LeastFirst" "count" "I", Cond.fieldLink RX0 9 "HeapAndDeque$LeastFirst" "values" "[J", Cond.methodLink RX2 75 yX2_toldOf, Cond.static yX2_toldOf, Cond.code yX2_toldOf cX2_toldOf 4 (some .long), Cond.constantLong RX2 135 (999), Cond.constantLong RX2 127 (1000), Cond.methodLink RX2 137 yJ9_floorMod_f86c9, Cond.static yJ9_floorMod_f86c9, Cond.initialized RJ9]
def wsL_peekPair_r2 : List Cond := [Cond.code yJ9_floorMod_f86c9 cJ9_floorMod_f86c9 6 (some .long), Cond.methodLink RX2 79 yX2_keyOf, Cond.static yX2_keyOf, Cond.code yX2_keyOf cX2_keyOf 2 (some .int), Cond.methodLink RX2 129 yJ9_floorDiv_f86c9, Cond.static yJ9_floorDiv_f86c9, Cond.code yJ9_floorDiv_f86c9 cJ9_floorDiv_f86c9 6 (some .long)]
def wsL_peekPair : List Cond := .codeWith yL_peekPair cL_peekPair 3 (some .int) [(0, 7, 10, 22)] :: ((wsL_peekPair_r1 ++ wsL_peekPair_r2) ++ wsX20 ++ wsX00 ++ (hn_atS RX0 30).filter goodWord)
def wsL_pollPair_r1 : List Cond := [Cond.classLink RL 22 "java/util/NoSuchElementException", Cond.methodLink RL 43 yX2_pollPair, Cond.instanceMethod yX2_pollPair, Cond.selects RX2 yX2_pollPair yX2_pollPair, Cond.initialized RX2, Cond.code yX2_pollPair cX2_pollPair 1 (some .long), Cond.fieldLink RX2 16 "HeapAndDeque" "pairs" "LHeapAndDeque$LeastFirst;", Cond.methodLink RX2 34 yX0_takeLeast, Cond.instanceMethod yX0_takeLeast, Cond.selects RX0 yX0_takeLeast yX0_takeLeast, Cond.initialized RX0, Cond.code yX0_takeLeast cX0_takeLeast 3 (some .long), Cond.fieldLink RX0 15 "HeapAndDeque$LeastFirst" "count" "I", Cond.methodLink RX0 31 yX0_least, Cond.instanceMethod yX0_least, Cond.selects RX0 yX0_least yX0_least, Cond.code yX0_least cX0_least 1 (some .long), Cond.classLink RX0 26 "java/util/NoSuchElementException", Cond.initialized "java/util/NoSuchElementException", Cond.fieldLink RX0 9 "HeapAndDeque$LeastFirst" "values" "[J", Cond.methodLink RX2 75 yX2_toldOf, Cond.static yX2_toldOf, Cond.code yX2_toldOf cX2_toldOf 4 (some .long), Cond.constantLong RX2 135 (999)]
def wsL_pollPair_r2 : List Cond := [Cond.constantLong RX2 127 (1000), Cond.methodLink RX2 137 yJ9_floorMod_f86c9, Cond.static yJ9_floorMod_f86c9, Cond.initialized RJ9, Cond.code yJ9_floorMod_f86c9 cJ9_floorMod_f86c9 6 (some .long), Cond.methodLink RX2 79 yX2_keyOf, Cond.static yX2_keyOf, Cond.code yX2_keyOf cX2_keyOf 2 (some .int), Cond.methodLink RX2 129 yJ9_floorDiv_f86c9, Cond.static yJ9_floorDiv_f86c9, Cond.code yJ9_floorDiv_f86c9 cJ9_floorDiv_f86c9 6 (some .long)]
def wsL_pollPair : List Cond := .codeWith yL_pollPair cL_pollPair 3 (some .int) [(0, 7, 10, 22)] :: ((wsL_pollPair_r1 ++ wsL_pollPair_r2) ++ wsX20 ++ wsX00 ++ (hn_atS RX0 30).filter goodWord)
def wsL_removePair : List Cond := .codeWith yL_removePair cL_removePair 5 (some .int) [(0, 17, 20, 37)] :: ([.classLink RL 37 "java/lang/IllegalArgumentException", .methodLink RL 46 yX2_removePair, .instanceMethod yX2_removePair, .selects RX2 yX2_removePair yX2_removePair, .initialized RX2, .code yX2_removePair cX2_removePair 3 (some .boolean), .fieldLink RX2 16 "HeapAndDeque" "pairs" "LHeapAndDeque$LeastFirst;", .methodLink RX2 71 yX2_rankOf, .static yX2_rankOf, .code yX2_rankOf cX2_rankOf 2 (some .long), .classLink RX2 122 "java/lang/IllegalArgumentException", .initialized "java/lang/IllegalArgumentException", .constantLong RX2 127 (1000), .methodLink RX2 37 yX0_takeLike, .instanceMethod yX0_takeLike, .selects RX0 yX0_takeLike yX0_takeLike, .initialized RX0, .code yX0_takeLike cX0_takeLike 5 (some .boolean), .fieldLink RX0 15 "HeapAndDeque$LeastFirst" "count" "I", .fieldLink RX0 9 "HeapAndDeque$LeastFirst" "values" "[J", .methodLink RX0 35 yX0_placeOf, .instanceMethod yX0_placeOf, .selects RX0 yX0_placeOf yX0_placeOf, .code yX0_placeOf cX0_placeOf 4 (some .int)] ++ wsX20 ++ wsX00 ++ (vx_atS RX2 126 "java/lang/IllegalArgumentException" ["java/lang/RuntimeException", "java/lang/Exception"]).filter goodWord)
def wsL_containsPair : List Cond := .codeWith yL_containsPair cL_containsPair 5 (some .int) [(0, 17, 20, 37)] :: ([.classLink RL 37 "java/lang/IllegalArgumentException", .methodLink RL 50 yX2_containsPair, .instanceMethod yX2_containsPair, .selects RX2 yX2_containsPair yX2_containsPair, .initialized RX2, .code yX2_containsPair cX2_containsPair 3 (some .boolean), .fieldLink RX2 16 "HeapAndDeque" "pairs" "LHeapAndDeque$LeastFirst;", .methodLink RX2 71 yX2_rankOf, .static yX2_rankOf, .code yX2_rankOf cX2_rankOf 2 (some .long), .classLink RX2 122 "java/lang/IllegalArgumentException", .initialized "java/lang/IllegalArgumentException", .constantLong RX2 127 (1000), .methodLink RX2 41 yX0_placeOf, .instanceMethod yX0_placeOf, .selects RX0 yX0_placeOf yX0_placeOf, .initialized RX0, .code yX0_placeOf cX0_placeOf 4 (some .int), .fieldLink RX0 15 "HeapAndDeque$LeastFirst" "count" "I", .fieldLink RX0 9 "HeapAndDeque$LeastFirst" "values" "[J"] ++ wsX20 ++ wsX00 ++ (vx_atS RX2 126 "java/lang/IllegalArgumentException" ["java/lang/RuntimeException", "java/lang/Exception"]).filter goodWord)
def wsL_drainPairs_r1 : List Cond := [Cond.classLink RL 13 "java/lang/IllegalStateException", Cond.methodLink RL 53 yX2_drainPairs, Cond.instanceMethod yX2_drainPairs, Cond.selects RX2 yX2_drainPairs yX2_drainPairs, Cond.initialized RX2, Cond.code yX2_drainPairs cX2_drainPairs 3 (some .int), Cond.fieldLink RX2 16 "HeapAndDeque" "pairs" "LHeapAndDeque$LeastFirst;", Cond.fieldLink RX2 22 "HeapAndDeque" "row" "LHeapAndDeque$Row;", Cond.methodLink RX2 64 yX2_refuseAtRow, Cond.instanceMethod yX2_refuseAtRow, Cond.selects RX2 yX2_refuseAtRow yX2_refuseAtRow, Cond.code yX2_refuseAtRow cX2_refuseAtRow 2 none, Cond.classLink RX2 53 "java/lang/IllegalStateException", Cond.initialized "java/lang/IllegalStateException", Cond.methodLink RX2 34 yX0_takeLeast, Cond.instanceMethod yX0_takeLeast, Cond.selects RX0 yX0_takeLeast yX0_takeLeast, Cond.initialized RX0, Cond.code yX0_takeLeast cX0_takeLeast 3 (some .long), Cond.fieldLink RX0 15 "HeapAndDeque$LeastFirst" "count" "I", Cond.methodLink RX0 31 yX0_least, Cond.instanceMethod yX0_least, Cond.selects RX0 yX0_least yX0_least, Cond.code yX0_least cX0_least 1 (some .long)]
def wsL_drainPairs_r2 : List Cond := [Cond.classLink RX0 26 "java/util/NoSuchElementException", Cond.initialized "java/util/NoSuchElementException", Cond.fieldLink RX0 9 "HeapAndDeque$LeastFirst" "values" "[J", Cond.methodLink RX2 79 yX2_keyOf, Cond.static yX2_keyOf, Cond.code yX2_keyOf cX2_keyOf 2 (some .int), Cond.constantLong RX2 127 (1000), Cond.methodLink RX2 129 yJ9_floorDiv_f86c9, Cond.static yJ9_floorDiv_f86c9, Cond.initialized RJ9, Cond.code yJ9_floorDiv_f86c9 cJ9_floorDiv_f86c9 6 (some .long), Cond.methodLink RX2 68 yX1_putLast, Cond.instanceMethod yX1_putLast, Cond.selects RX1 yX1_putLast yX1_putLast, Cond.initialized RX1, Cond.code yX1_putLast cX1_putLast 2 (some .int), Cond.classLink RX1 19 "java/lang/IllegalStateException", Cond.fieldLink RX1 15 "HeapAndDeque$Row" "count" "I", Cond.fieldLink RX1 9 "HeapAndDeque$Row" "values" "[I"]
def wsL_drainPairs : List Cond := .codeWith yL_drainPairs cL_drainPairs 3 (some .int) [(0, 8, 11, 13)] :: ((wsL_drainPairs_r1 ++ wsL_drainPairs_r2) ++ wsX20 ++ wsX00 ++ wsX10 ++ (vx_atS RX2 57 "java/lang/IllegalStateException" ["java/lang/RuntimeException", "java/lang/Exception"]).filter goodWord ++ (hn_atS RX0 30).filter goodWord ++ (vx_atS RX1 23 "java/lang/IllegalStateException" ["java/lang/RuntimeException", "java/lang/Exception"]).filter goodWord)
def wsL_addFirst : List Cond := .codeWith yL_addFirst cL_addFirst 4 (some .int) [(0, 9, 12, 13)] :: ([.classLink RL 13 "java/lang/IllegalStateException", .methodLink RL 56 yX2_addFirst, .instanceMethod yX2_addFirst, .selects RX2 yX2_addFirst yX2_addFirst, .initialized RX2, .code yX2_addFirst cX2_addFirst 2 (some .int), .fieldLink RX2 22 "HeapAndDeque" "row" "LHeapAndDeque$Row;", .methodLink RX2 82 yX1_putFirst, .instanceMethod yX1_putFirst, .selects RX1 yX1_putFirst yX1_putFirst, .initialized RX1, .code yX1_putFirst cX1_putFirst 3 (some .int), .classLink RX1 19 "java/lang/IllegalStateException", .initialized "java/lang/IllegalStateException", .fieldLink RX1 15 "HeapAndDeque$Row" "count" "I", .fieldLink RX1 9 "HeapAndDeque$Row" "values" "[I"] ++ wsX20 ++ wsX10 ++ (vx_atS RX1 23 "java/lang/IllegalStateException" ["java/lang/RuntimeException", "java/lang/Exception"]).filter goodWord)
def wsL_addLast : List Cond := .codeWith yL_addLast cL_addLast 4 (some .int) [(0, 9, 12, 13)] :: ([.classLink RL 13 "java/lang/IllegalStateException", .methodLink RL 59 yX2_addLast, .instanceMethod yX2_addLast, .selects RX2 yX2_addLast yX2_addLast, .initialized RX2, .code yX2_addLast cX2_addLast 2 (some .int), .fieldLink RX2 22 "HeapAndDeque" "row" "LHeapAndDeque$Row;", .methodLink RX2 68 yX1_putLast, .instanceMethod yX1_putLast, .selects RX1 yX1_putLast yX1_putLast, .initialized RX1, .code yX1_putLast cX1_putLast 2 (some .int), .classLink RX1 19 "java/lang/IllegalStateException", .initialized "java/lang/IllegalStateException", .fieldLink RX1 15 "HeapAndDeque$Row" "count" "I", .fieldLink RX1 9 "HeapAndDeque$Row" "values" "[I"] ++ wsX20 ++ wsX10 ++ (vx_atS RX1 23 "java/lang/IllegalStateException" ["java/lang/RuntimeException", "java/lang/Exception"]).filter goodWord)
def wsL_getFirst : List Cond := .codeWith yL_getFirst cL_getFirst 3 (some .int) [(0, 8, 11, 22)] :: ([.classLink RL 22 "java/util/NoSuchElementException", .methodLink RL 62 yX2_getFirst, .instanceMethod yX2_getFirst, .selects RX2 yX2_getFirst yX2_getFirst, .initialized RX2, .code yX2_getFirst cX2_getFirst 1 (some .int), .fieldLink RX2 22 "HeapAndDeque" "row" "LHeapAndDeque$Row;", .methodLink RX2 85 yX1_first, .instanceMethod yX1_first, .selects RX1 yX1_first yX1_first, .initialized RX1, .code yX1_first cX1_first 1 (some .int), .classLink RX1 26 "java/util/NoSuchElementException", .initialized "java/util/NoSuchElementException", .fieldLink RX1 15 "HeapAndDeque$Row" "count" "I", .fieldLink RX1 9 "HeapAndDeque$Row" "values" "[I"] ++ wsX20 ++ wsX10 ++ (hn_atS RX1 30).filter goodWord)
def wsL_getLast : List Cond := .codeWith yL_getLast cL_getLast 3 (some .int) [(0, 8, 11, 22)] :: ([.classLink RL 22 "java/util/NoSuchElementException", .methodLink RL 65 yX2_getLast, .instanceMethod yX2_getLast, .selects RX2 yX2_getLast yX2_getLast, .initialized RX2, .code yX2_getLast cX2_getLast 1 (some .int), .fieldLink RX2 22 "HeapAndDeque" "row" "LHeapAndDeque$Row;", .methodLink RX2 88 yX1_last, .instanceMethod yX1_last, .selects RX1 yX1_last yX1_last, .initialized RX1, .code yX1_last cX1_last 1 (some .int), .classLink RX1 26 "java/util/NoSuchElementException", .initialized "java/util/NoSuchElementException", .fieldLink RX1 15 "HeapAndDeque$Row" "count" "I", .fieldLink RX1 9 "HeapAndDeque$Row" "values" "[I"] ++ wsX20 ++ wsX10 ++ (hn_atS RX1 30).filter goodWord)
def wsL_removeFirst : List Cond := .codeWith yL_removeFirst cL_removeFirst 3 (some .int) [(0, 8, 11, 22)] :: ([.classLink RL 22 "java/util/NoSuchElementException", .methodLink RL 68 yX2_removeFirst, .instanceMethod yX2_removeFirst, .selects RX2 yX2_removeFirst yX2_removeFirst, .initialized RX2, .code yX2_removeFirst cX2_removeFirst 1 (some .int), .fieldLink RX2 22 "HeapAndDeque" "row" "LHeapAndDeque$Row;", .methodLink RX2 91 yX1_takeFirst, .instanceMethod yX1_takeFirst, .selects RX1 yX1_takeFirst yX1_takeFirst, .initialized RX1, .code yX1_takeFirst cX1_takeFirst 2 (some .int), .methodLink RX1 31 yX1_first, .instanceMethod yX1_first, .selects RX1 yX1_first yX1_first, .code yX1_first cX1_first 1 (some .int), .classLink RX1 26 "java/util/NoSuchElementException", .initialized "java/util/NoSuchElementException", .fieldLink RX1 15 "HeapAndDeque$Row" "count" "I", .fieldLink RX1 9 "HeapAndDeque$Row" "values" "[I", .methodLink RX1 35 yX1_takeFound, .instanceMethod yX1_takeFound, .selects RX1 yX1_takeFound yX1_takeFound, .code yX1_takeFound cX1_takeFound 3 (some .boolean)] ++ wsX20 ++ wsX10 ++ (hn_atS RX1 30).filter goodWord)
def wsL_removeLast : List Cond := .codeWith yL_removeLast cL_removeLast 3 (some .int) [(0, 8, 11, 22)] :: ([.classLink RL 22 "java/util/NoSuchElementException", .methodLink RL 71 yX2_removeLast, .instanceMethod yX2_removeLast, .selects RX2 yX2_removeLast yX2_removeLast, .initialized RX2, .code yX2_removeLast cX2_removeLast 1 (some .int), .fieldLink RX2 22 "HeapAndDeque" "row" "LHeapAndDeque$Row;", .methodLink RX2 94 yX1_takeLast, .instanceMethod yX1_takeLast, .selects RX1 yX1_takeLast yX1_takeLast, .initialized RX1, .code yX1_takeLast cX1_takeLast 2 (some .int), .fieldLink RX1 15 "HeapAndDeque$Row" "count" "I", .methodLink RX1 39 yX1_last, .instanceMethod yX1_last, .selects RX1 yX1_last yX1_last, .code yX1_last cX1_last 1 (some .int), .classLink RX1 26 "java/util/NoSuchElementException", .initialized "java/util/NoSuchElementException", .fieldLink RX1 9 "HeapAndDeque$Row" "values" "[I"] ++ wsX20 ++ wsX10 ++ (hn_atS RX1 30).filter goodWord)
def wsL_push : List Cond := .codeWith yL_push cL_push 4 (some .int) [(0, 9, 12, 13)] :: ([.classLink RL 13 "java/lang/IllegalStateException", .methodLink RL 74 yX2_push, .instanceMethod yX2_push, .selects RX2 yX2_push yX2_push, .initialized RX2, .code yX2_push cX2_push 2 (some .int), .fieldLink RX2 22 "HeapAndDeque" "row" "LHeapAndDeque$Row;", .methodLink RX2 82 yX1_putFirst, .instanceMethod yX1_putFirst, .selects RX1 yX1_putFirst yX1_putFirst, .initialized RX1, .code yX1_putFirst cX1_putFirst 3 (some .int), .classLink RX1 19 "java/lang/IllegalStateException", .initialized "java/lang/IllegalStateException", .fieldLink RX1 15 "HeapAndDeque$Row" "count" "I", .fieldLink RX1 9 "HeapAndDeque$Row" "values" "[I"] ++ wsX20 ++ wsX10 ++ (vx_atS RX1 23 "java/lang/IllegalStateException" ["java/lang/RuntimeException", "java/lang/Exception"]).filter goodWord)
def wsL_pop : List Cond := .codeWith yL_pop cL_pop 3 (some .int) [(0, 8, 11, 22)] :: ([.classLink RL 22 "java/util/NoSuchElementException", .methodLink RL 77 yX2_pop, .instanceMethod yX2_pop, .selects RX2 yX2_pop yX2_pop, .initialized RX2, .code yX2_pop cX2_pop 1 (some .int), .fieldLink RX2 22 "HeapAndDeque" "row" "LHeapAndDeque$Row;", .methodLink RX2 91 yX1_takeFirst, .instanceMethod yX1_takeFirst, .selects RX1 yX1_takeFirst yX1_takeFirst, .initialized RX1, .code yX1_takeFirst cX1_takeFirst 2 (some .int), .methodLink RX1 31 yX1_first, .instanceMethod yX1_first, .selects RX1 yX1_first yX1_first, .code yX1_first cX1_first 1 (some .int), .classLink RX1 26 "java/util/NoSuchElementException", .initialized "java/util/NoSuchElementException", .fieldLink RX1 15 "HeapAndDeque$Row" "count" "I", .fieldLink RX1 9 "HeapAndDeque$Row" "values" "[I", .methodLink RX1 35 yX1_takeFound, .instanceMethod yX1_takeFound, .selects RX1 yX1_takeFound yX1_takeFound, .code yX1_takeFound cX1_takeFound 3 (some .boolean)] ++ wsX20 ++ wsX10 ++ (hn_atS RX1 30).filter goodWord)
def wsL_at : List Cond := .codeWith yL_at cL_at 4 (some .int) [(0, 9, 12, 83)] :: ([.classLink RL 83 "java/lang/IndexOutOfBoundsException", .methodLink RL 80 yX2_at, .instanceMethod yX2_at, .selects RX2 yX2_at yX2_at, .initialized RX2, .code yX2_at cX2_at 2 (some .int), .fieldLink RX2 22 "HeapAndDeque" "row" "LHeapAndDeque$Row;", .methodLink RX2 60 yX1_numberAt, .instanceMethod yX1_numberAt, .selects RX1 yX1_numberAt yX1_numberAt, .initialized RX1, .code yX1_numberAt cX1_numberAt 2 (some .int), .classLink RX1 42 "java/lang/IndexOutOfBoundsException", .initialized "java/lang/IndexOutOfBoundsException", .fieldLink RX1 15 "HeapAndDeque$Row" "count" "I", .fieldLink RX1 9 "HeapAndDeque$Row" "values" "[I"] ++ wsX20 ++ wsX10 ++ (vx_atS RX1 46 "java/lang/IndexOutOfBoundsException" ["java/lang/RuntimeException", "java/lang/Exception"]).filter goodWord)
def wsL_back : List Cond := .codeWith yL_back cL_back 4 (some .int) [(0, 9, 12, 83)] :: ([.classLink RL 83 "java/lang/IndexOutOfBoundsException", .methodLink RL 85 yX2_back, .instanceMethod yX2_back, .selects RX2 yX2_back yX2_back, .initialized RX2, .code yX2_back cX2_back 2 (some .int), .fieldLink RX2 22 "HeapAndDeque" "row" "LHeapAndDeque$Row;", .methodLink RX2 108 yX1_numberFromLast, .instanceMethod yX1_numberFromLast, .selects RX1 yX1_numberFromLast yX1_numberFromLast, .initialized RX1, .code yX1_numberFromLast cX1_numberFromLast 2 (some .int), .classLink RX1 42 "java/lang/IndexOutOfBoundsException", .initialized "java/lang/IndexOutOfBoundsException", .fieldLink RX1 15 "HeapAndDeque$Row" "count" "I", .fieldLink RX1 9 "HeapAndDeque$Row" "values" "[I"] ++ wsX20 ++ wsX10 ++ (vx_atS RX1 46 "java/lang/IndexOutOfBoundsException" ["java/lang/RuntimeException", "java/lang/Exception"]).filter goodWord)
def wsL_law0_r1 : List Cond := [Cond.classLink RL 8 RX2, Cond.instantiable RX2 3, Cond.initialized RX2, Cond.classLink RL 89 RX3, Cond.instantiable RX3 8, Cond.initialized RX3, Cond.arrayClass .long, Cond.methodLink RL 88 yX2_init, Cond.instanceMethod yX2_init, Cond.code yX2_init cX2_init 1 none, Cond.methodLink RX2 1 objectInit, Cond.instanceMethod objectInit, Cond.code objectInit ⟨#[0xb1]⟩ 1 none, Cond.classLink RX2 7 RX0, Cond.instantiable RX0 2, Cond.initialized RX0, Cond.fieldLink RX2 10 "HeapAndDeque" "numbers" "LHeapAndDeque$LeastFirst;", Cond.fieldLink RX2 16 "HeapAndDeque" "pairs" "LHeapAndDeque$LeastFirst;", Cond.classLink RX2 19 RX1, Cond.instantiable RX1 2, Cond.initialized RX1, Cond.fieldLink RX2 22 "HeapAndDeque" "row" "LHeapAndDeque$Row;", Cond.instanceMethod yX0_init, Cond.code yX0_init cX0_init 1 none]
def wsL_law0_r2 : List Cond := [Cond.methodLink RX0 3 objectInit, Cond.fieldLink RX0 9 "HeapAndDeque$LeastFirst" "values" "[J", Cond.fieldLink RX0 15 "HeapAndDeque$LeastFirst" "count" "I", Cond.instanceMethod yX1_init, Cond.code yX1_init cX1_init 1 none, Cond.methodLink RX1 3 objectInit, Cond.arrayClass .int, Cond.fieldLink RX1 9 "HeapAndDeque$Row" "values" "[I", Cond.fieldLink RX1 15 "HeapAndDeque$Row" "count" "I", Cond.methodLink RL 91 yX3_init, Cond.instanceMethod yX3_init, Cond.code yX3_init cX3_init 1 none, Cond.methodLink RX3 1 objectInit, Cond.fieldLink RX3 7 "HeapAndDequeModel" "heap" "[I", Cond.fieldLink RX3 13 "HeapAndDequeModel" "row" "[I", Cond.fieldLink RX3 16 "HeapAndDequeModel" "keys" "[I", Cond.fieldLink RX3 19 "HeapAndDequeModel" "tags" "[I", Cond.methodLink RL 92 yL_offer, Cond.static yL_offer, Cond.initialized RL, Cond.codeWith yL_offer cL_offer 4 (some .int) [(0, 9, 12, 13)], Cond.classLink RL 13 "java/lang/IllegalStateException", Cond.methodLink RL 7 yX2_offer, Cond.instanceMethod yX2_offer]
def wsL_law0_r3 : List Cond := [Cond.selects RX2 yX2_offer yX2_offer, Cond.code yX2_offer cX2_offer 2 (some .int), Cond.methodLink RX2 26 yX0_put, Cond.instanceMethod yX0_put, Cond.selects RX0 yX0_put yX0_put, Cond.code yX0_put cX0_put 4 (some .int), Cond.classLink RX0 19 "java/lang/IllegalStateException", Cond.initialized "java/lang/IllegalStateException", Cond.methodLink RL 97 yX3_offer, Cond.instanceMethod yX3_offer, Cond.selects RX3 yX3_offer yX3_offer, Cond.code yX3_offer cX3_offer 2 (some .int), Cond.fieldLink RX3 26 "HeapAndDequeModel" "held" "I", Cond.methodLink RX3 29 yX3_isWrong, Cond.instanceMethod yX3_isWrong, Cond.selects RX3 yX3_isWrong yX3_isWrong, Cond.code yX3_isWrong cX3_isWrong 2 (some .boolean), Cond.fieldLink RX3 22 "HeapAndDequeModel" "thrown" "I", Cond.methodLink RL 98 yX3_thrown, Cond.instanceMethod yX3_thrown, Cond.selects RX3 yX3_thrown yX3_thrown, Cond.code yX3_thrown cX3_thrown 1 (some .int), Cond.methodLink RL 101 yL_add, Cond.static yL_add]
def wsL_law0_r4 : List Cond := [Cond.codeWith yL_add cL_add 4 (some .int) [(0, 9, 12, 13)], Cond.methodLink RL 15 yX2_add, Cond.instanceMethod yX2_add, Cond.selects RX2 yX2_add yX2_add, Cond.code yX2_add cX2_add 2 (some .int), Cond.methodLink RL 103 yX3_add, Cond.instanceMethod yX3_add, Cond.selects RX3 yX3_add yX3_add, Cond.code yX3_add cX3_add 2 (some .int), Cond.methodLink RX3 33 yX3_offer, Cond.methodLink RL 104 yL_peek, Cond.static yL_peek, Cond.codeWith yL_peek cL_peek 3 (some .int) [(0, 8, 11, 22)], Cond.classLink RL 22 "java/util/NoSuchElementException", Cond.methodLink RL 18 yX2_peek, Cond.instanceMethod yX2_peek, Cond.selects RX2 yX2_peek yX2_peek, Cond.code yX2_peek cX2_peek 1 (some .int), Cond.methodLink RX2 30 yX0_least, Cond.instanceMethod yX0_least, Cond.selects RX0 yX0_least yX0_least, Cond.code yX0_least cX0_least 1 (some .long), Cond.classLink RX0 26 "java/util/NoSuchElementException", Cond.initialized "java/util/NoSuchElementException"]
def wsL_law0_r5 : List Cond := [Cond.methodLink RL 107 yX3_peek, Cond.instanceMethod yX3_peek, Cond.selects RX3 yX3_peek yX3_peek, Cond.code yX3_peek cX3_peek 1 (some .int), Cond.methodLink RX3 37 yX3_leastPlace, Cond.instanceMethod yX3_leastPlace, Cond.selects RX3 yX3_leastPlace yX3_leastPlace, Cond.code yX3_leastPlace cX3_leastPlace 3 (some .int), Cond.methodLink RL 108 yL_poll, Cond.static yL_poll, Cond.codeWith yL_poll cL_poll 3 (some .int) [(0, 8, 11, 22)], Cond.methodLink RL 24 yX2_poll, Cond.instanceMethod yX2_poll, Cond.selects RX2 yX2_poll yX2_poll, Cond.code yX2_poll cX2_poll 1 (some .int), Cond.methodLink RX2 34 yX0_takeLeast, Cond.instanceMethod yX0_takeLeast, Cond.selects RX0 yX0_takeLeast yX0_takeLeast, Cond.code yX0_takeLeast cX0_takeLeast 3 (some .long), Cond.methodLink RX0 31 yX0_least, Cond.methodLink RL 110 yX3_poll, Cond.instanceMethod yX3_poll, Cond.selects RX3 yX3_poll yX3_poll, Cond.code yX3_poll cX3_poll 1 (some .int)]
def wsL_law0_r6 : List Cond := [Cond.methodLink RX3 41 yX3_takeHeld, Cond.instanceMethod yX3_takeHeld, Cond.selects RX3 yX3_takeHeld yX3_takeHeld, Cond.code yX3_takeHeld cX3_takeHeld 4 (some .int), Cond.methodLink RL 111 yX2_remove, Cond.instanceMethod yX2_remove, Cond.selects RX2 yX2_remove yX2_remove, Cond.code yX2_remove cX2_remove 2 (some .boolean), Cond.methodLink RX2 37 yX0_takeLike, Cond.instanceMethod yX0_takeLike, Cond.selects RX0 yX0_takeLike yX0_takeLike, Cond.code yX0_takeLike cX0_takeLike 5 (some .boolean), Cond.methodLink RX0 35 yX0_placeOf, Cond.instanceMethod yX0_placeOf, Cond.selects RX0 yX0_placeOf yX0_placeOf, Cond.code yX0_placeOf cX0_placeOf 4 (some .int), Cond.methodLink RL 115 yX3_remove, Cond.instanceMethod yX3_remove, Cond.selects RX3 yX3_remove yX3_remove, Cond.code yX3_remove cX3_remove 3 (some .boolean), Cond.methodLink RX3 44 yX3_heldPlace, Cond.instanceMethod yX3_heldPlace, Cond.selects RX3 yX3_heldPlace yX3_heldPlace, Cond.code yX3_heldPlace cX3_heldPlace 3 (some .int)]
def wsL_law0_r7 : List Cond := [Cond.methodLink RL 116 yX2_contains, Cond.instanceMethod yX2_contains, Cond.selects RX2 yX2_contains yX2_contains, Cond.code yX2_contains cX2_contains 2 (some .boolean), Cond.methodLink RX2 41 yX0_placeOf, Cond.methodLink RL 119 yX3_contains, Cond.instanceMethod yX3_contains, Cond.selects RX3 yX3_contains yX3_contains, Cond.code yX3_contains cX3_contains 2 (some .boolean), Cond.methodLink RL 120 yX2_size, Cond.instanceMethod yX2_size, Cond.selects RX2 yX2_size yX2_size, Cond.code yX2_size cX2_size 1 (some .int), Cond.methodLink RL 123 yX3_size, Cond.instanceMethod yX3_size, Cond.selects RX3 yX3_size yX3_size, Cond.code yX3_size cX3_size 1 (some .int), Cond.methodLink RL 124 yX2_clear, Cond.instanceMethod yX2_clear, Cond.selects RX2 yX2_clear yX2_clear, Cond.code yX2_clear cX2_clear 1 (some .int), Cond.methodLink RX2 48 yX0_empty, Cond.instanceMethod yX0_empty, Cond.selects RX0 yX0_empty yX0_empty]
def wsL_law0_r8 : List Cond := [Cond.code yX0_empty cX0_empty 2 (some .int), Cond.methodLink RL 127 yX3_clear, Cond.instanceMethod yX3_clear, Cond.selects RX3 yX3_clear yX3_clear, Cond.code yX3_clear cX3_clear 2 (some .int), Cond.methodLink RL 128 yL_addAll, Cond.static yL_addAll, Cond.codeWith yL_addAll cL_addAll 3 (some .int) [(0, 8, 11, 13)], Cond.methodLink RL 27 yX2_addAll, Cond.instanceMethod yX2_addAll, Cond.selects RX2 yX2_addAll yX2_addAll, Cond.code yX2_addAll cX2_addAll 2 (some .int), Cond.classLink RX2 53 "java/lang/IllegalStateException", Cond.methodLink RX2 60 yX1_numberAt, Cond.instanceMethod yX1_numberAt, Cond.selects RX1 yX1_numberAt yX1_numberAt, Cond.code yX1_numberAt cX1_numberAt 2 (some .int), Cond.classLink RX1 42 "java/lang/IndexOutOfBoundsException", Cond.initialized "java/lang/IndexOutOfBoundsException", Cond.methodLink RL 130 yX3_addAll, Cond.instanceMethod yX3_addAll, Cond.selects RX3 yX3_addAll yX3_addAll, Cond.code yX3_addAll cX3_addAll 2 (some .int), Cond.fieldLink RX3 47 "HeapAndDequeModel" "many" "I"]
def wsL_law0_r9 : List Cond := [Cond.methodLink RL 131 yL_drain, Cond.static yL_drain, Cond.codeWith yL_drain cL_drain 3 (some .int) [(0, 8, 11, 13)], Cond.methodLink RL 30 yX2_drain, Cond.instanceMethod yX2_drain, Cond.selects RX2 yX2_drain yX2_drain, Cond.code yX2_drain cX2_drain 3 (some .int), Cond.methodLink RX2 64 yX2_refuseAtRow, Cond.instanceMethod yX2_refuseAtRow, Cond.selects RX2 yX2_refuseAtRow yX2_refuseAtRow, Cond.code yX2_refuseAtRow cX2_refuseAtRow 2 none, Cond.methodLink RX2 68 yX1_putLast, Cond.instanceMethod yX1_putLast, Cond.selects RX1 yX1_putLast yX1_putLast, Cond.code yX1_putLast cX1_putLast 2 (some .int), Cond.classLink RX1 19 "java/lang/IllegalStateException", Cond.methodLink RL 133 yX3_drain, Cond.instanceMethod yX3_drain, Cond.selects RX3 yX3_drain yX3_drain, Cond.code yX3_drain cX3_drain 2 (some .int), Cond.methodLink RL 134 yL_offerPair, Cond.static yL_offerPair, Cond.codeWith yL_offerPair cL_offerPair 5 (some .int) [(0, 10, 13, 37), (0, 10, 17, 13)], Cond.classLink RL 37 "java/lang/IllegalArgumentException"]
def wsL_law0_r10 : List Cond := [Cond.methodLink RL 33 yX2_offerPair, Cond.instanceMethod yX2_offerPair, Cond.selects RX2 yX2_offerPair yX2_offerPair, Cond.code yX2_offerPair cX2_offerPair 3 (some .int), Cond.methodLink RX2 71 yX2_rankOf, Cond.static yX2_rankOf, Cond.code yX2_rankOf cX2_rankOf 2 (some .long), Cond.classLink RX2 122 "java/lang/IllegalArgumentException", Cond.initialized "java/lang/IllegalArgumentException", Cond.constantLong RX2 127 (1000), Cond.methodLink RL 137 yX3_offerPair, Cond.instanceMethod yX3_offerPair, Cond.selects RX3 yX3_offerPair yX3_offerPair, Cond.code yX3_offerPair cX3_offerPair 3 (some .int), Cond.fieldLink RX3 50 "HeapAndDequeModel" "pairs" "I", Cond.methodLink RX3 53 yX3_isNoTag, Cond.instanceMethod yX3_isNoTag, Cond.selects RX3 yX3_isNoTag yX3_isNoTag, Cond.code yX3_isNoTag cX3_isNoTag 2 (some .boolean), Cond.methodLink RL 138 yL_peekPair, Cond.static yL_peekPair, Cond.codeWith yL_peekPair cL_peekPair 3 (some .int) [(0, 7, 10, 22)], Cond.methodLink RL 39 yX2_peekPair, Cond.instanceMethod yX2_peekPair]
def wsL_law0_r11 : List Cond := [Cond.selects RX2 yX2_peekPair yX2_peekPair, Cond.code yX2_peekPair cX2_peekPair 1 (some .long), Cond.methodLink RX2 75 yX2_toldOf, Cond.static yX2_toldOf, Cond.code yX2_toldOf cX2_toldOf 4 (some .long), Cond.constantLong RX2 135 (999), Cond.methodLink RX2 137 yJ9_floorMod_f86c9, Cond.static yJ9_floorMod_f86c9, Cond.initialized RJ9, Cond.code yJ9_floorMod_f86c9 cJ9_floorMod_f86c9 6 (some .long), Cond.methodLink RX2 79 yX2_keyOf, Cond.static yX2_keyOf, Cond.code yX2_keyOf cX2_keyOf 2 (some .int), Cond.methodLink RX2 129 yJ9_floorDiv_f86c9, Cond.static yJ9_floorDiv_f86c9, Cond.code yJ9_floorDiv_f86c9 cJ9_floorDiv_f86c9 6 (some .long), Cond.methodLink RL 140 yX3_peekPair, Cond.instanceMethod yX3_peekPair, Cond.selects RX3 yX3_peekPair yX3_peekPair, Cond.code yX3_peekPair cX3_peekPair 1 (some .long), Cond.methodLink RX3 58 yX3_leastPair, Cond.instanceMethod yX3_leastPair, Cond.selects RX3 yX3_leastPair yX3_leastPair, Cond.code yX3_leastPair cX3_leastPair 3 (some .int)]
def wsL_law0_r12 : List Cond := [Cond.methodLink RX3 61 yX3_told, Cond.instanceMethod yX3_told, Cond.selects RX3 yX3_told yX3_told, Cond.code yX3_told cX3_told 2 (some .long), Cond.constantLong RX3 56 (1000), Cond.methodLink RL 141 yL_pollPair, Cond.static yL_pollPair, Cond.codeWith yL_pollPair cL_pollPair 3 (some .int) [(0, 7, 10, 22)], Cond.methodLink RL 43 yX2_pollPair, Cond.instanceMethod yX2_pollPair, Cond.selects RX2 yX2_pollPair yX2_pollPair, Cond.code yX2_pollPair cX2_pollPair 1 (some .long), Cond.methodLink RL 143 yX3_pollPair, Cond.instanceMethod yX3_pollPair, Cond.selects RX3 yX3_pollPair yX3_pollPair, Cond.code yX3_pollPair cX3_pollPair 4 (some .long), Cond.methodLink RX3 65 yX3_takePair, Cond.instanceMethod yX3_takePair, Cond.selects RX3 yX3_takePair yX3_takePair, Cond.code yX3_takePair cX3_takePair 3 none, Cond.methodLink RL 144 yL_removePair, Cond.static yL_removePair, Cond.codeWith yL_removePair cL_removePair 5 (some .int) [(0, 17, 20, 37)], Cond.methodLink RL 46 yX2_removePair]
def wsL_law0_r13 : List Cond := [Cond.instanceMethod yX2_removePair, Cond.selects RX2 yX2_removePair yX2_removePair, Cond.code yX2_removePair cX2_removePair 3 (some .boolean), Cond.methodLink RL 146 yX3_removePair, Cond.instanceMethod yX3_removePair, Cond.selects RX3 yX3_removePair yX3_removePair, Cond.code yX3_removePair cX3_removePair 4 (some .boolean), Cond.methodLink RX3 69 yX3_pairPlace, Cond.instanceMethod yX3_pairPlace, Cond.selects RX3 yX3_pairPlace yX3_pairPlace, Cond.code yX3_pairPlace cX3_pairPlace 4 (some .int), Cond.methodLink RL 147 yL_containsPair, Cond.static yL_containsPair, Cond.codeWith yL_containsPair cL_containsPair 5 (some .int) [(0, 17, 20, 37)], Cond.methodLink RL 50 yX2_containsPair, Cond.instanceMethod yX2_containsPair, Cond.selects RX2 yX2_containsPair yX2_containsPair, Cond.code yX2_containsPair cX2_containsPair 3 (some .boolean), Cond.methodLink RL 149 yX3_containsPair, Cond.instanceMethod yX3_containsPair, Cond.selects RX3 yX3_containsPair yX3_containsPair, Cond.code yX3_containsPair cX3_containsPair 3 (some .boolean), Cond.methodLink RL 150 yX2_sizePairs, Cond.instanceMethod yX2_sizePairs]
def wsL_law0_r14 : List Cond := [Cond.selects RX2 yX2_sizePairs yX2_sizePairs, Cond.code yX2_sizePairs cX2_sizePairs 1 (some .int), Cond.methodLink RL 153 yX3_sizePairs, Cond.instanceMethod yX3_sizePairs, Cond.selects RX3 yX3_sizePairs yX3_sizePairs, Cond.code yX3_sizePairs cX3_sizePairs 1 (some .int), Cond.methodLink RL 154 yX2_clearPairs, Cond.instanceMethod yX2_clearPairs, Cond.selects RX2 yX2_clearPairs yX2_clearPairs, Cond.code yX2_clearPairs cX2_clearPairs 1 (some .int), Cond.methodLink RL 157 yX3_clearPairs, Cond.instanceMethod yX3_clearPairs, Cond.selects RX3 yX3_clearPairs yX3_clearPairs, Cond.code yX3_clearPairs cX3_clearPairs 2 (some .int), Cond.methodLink RL 158 yL_drainPairs, Cond.static yL_drainPairs, Cond.codeWith yL_drainPairs cL_drainPairs 3 (some .int) [(0, 8, 11, 13)], Cond.methodLink RL 53 yX2_drainPairs, Cond.instanceMethod yX2_drainPairs, Cond.selects RX2 yX2_drainPairs yX2_drainPairs, Cond.code yX2_drainPairs cX2_drainPairs 3 (some .int), Cond.methodLink RL 160 yX3_drainPairs, Cond.instanceMethod yX3_drainPairs, Cond.selects RX3 yX3_drainPairs yX3_drainPairs]
def wsL_law0_r15 : List Cond := [Cond.code yX3_drainPairs cX3_drainPairs 3 (some .int), Cond.methodLink RL 161 yL_addFirst, Cond.static yL_addFirst, Cond.codeWith yL_addFirst cL_addFirst 4 (some .int) [(0, 9, 12, 13)], Cond.methodLink RL 56 yX2_addFirst, Cond.instanceMethod yX2_addFirst, Cond.selects RX2 yX2_addFirst yX2_addFirst, Cond.code yX2_addFirst cX2_addFirst 2 (some .int), Cond.methodLink RX2 82 yX1_putFirst, Cond.instanceMethod yX1_putFirst, Cond.selects RX1 yX1_putFirst yX1_putFirst, Cond.code yX1_putFirst cX1_putFirst 3 (some .int), Cond.methodLink RL 163 yX3_addFirst, Cond.instanceMethod yX3_addFirst, Cond.selects RX3 yX3_addFirst yX3_addFirst, Cond.code yX3_addFirst cX3_addFirst 3 (some .int), Cond.methodLink RL 164 yL_addLast, Cond.static yL_addLast, Cond.codeWith yL_addLast cL_addLast 4 (some .int) [(0, 9, 12, 13)], Cond.methodLink RL 59 yX2_addLast, Cond.instanceMethod yX2_addLast, Cond.selects RX2 yX2_addLast yX2_addLast, Cond.code yX2_addLast cX2_addLast 2 (some .int), Cond.methodLink RL 166 yX3_addLast]
def wsL_law0_r16 : List Cond := [Cond.instanceMethod yX3_addLast, Cond.selects RX3 yX3_addLast yX3_addLast, Cond.code yX3_addLast cX3_addLast 2 (some .int), Cond.methodLink RL 167 yL_getFirst, Cond.static yL_getFirst, Cond.codeWith yL_getFirst cL_getFirst 3 (some .int) [(0, 8, 11, 22)], Cond.methodLink RL 62 yX2_getFirst, Cond.instanceMethod yX2_getFirst, Cond.selects RX2 yX2_getFirst yX2_getFirst, Cond.code yX2_getFirst cX2_getFirst 1 (some .int), Cond.methodLink RX2 85 yX1_first, Cond.instanceMethod yX1_first, Cond.selects RX1 yX1_first yX1_first, Cond.code yX1_first cX1_first 1 (some .int), Cond.classLink RX1 26 "java/util/NoSuchElementException", Cond.methodLink RL 169 yX3_getFirst, Cond.instanceMethod yX3_getFirst, Cond.selects RX3 yX3_getFirst yX3_getFirst, Cond.code yX3_getFirst cX3_getFirst 1 (some .int), Cond.methodLink RX3 73 yX3_isNone, Cond.instanceMethod yX3_isNone, Cond.selects RX3 yX3_isNone yX3_isNone, Cond.code yX3_isNone cX3_isNone 1 (some .boolean), Cond.methodLink RL 170 yL_getLast]
def wsL_law0_r17 : List Cond := [Cond.static yL_getLast, Cond.codeWith yL_getLast cL_getLast 3 (some .int) [(0, 8, 11, 22)], Cond.methodLink RL 65 yX2_getLast, Cond.instanceMethod yX2_getLast, Cond.selects RX2 yX2_getLast yX2_getLast, Cond.code yX2_getLast cX2_getLast 1 (some .int), Cond.methodLink RX2 88 yX1_last, Cond.instanceMethod yX1_last, Cond.selects RX1 yX1_last yX1_last, Cond.code yX1_last cX1_last 1 (some .int), Cond.methodLink RL 172 yX3_getLast, Cond.instanceMethod yX3_getLast, Cond.selects RX3 yX3_getLast yX3_getLast, Cond.code yX3_getLast cX3_getLast 1 (some .int), Cond.methodLink RL 173 yL_removeFirst, Cond.static yL_removeFirst, Cond.codeWith yL_removeFirst cL_removeFirst 3 (some .int) [(0, 8, 11, 22)], Cond.methodLink RL 68 yX2_removeFirst, Cond.instanceMethod yX2_removeFirst, Cond.selects RX2 yX2_removeFirst yX2_removeFirst, Cond.code yX2_removeFirst cX2_removeFirst 1 (some .int), Cond.methodLink RX2 91 yX1_takeFirst, Cond.instanceMethod yX1_takeFirst, Cond.selects RX1 yX1_takeFirst yX1_takeFirst]
def wsL_law0_r18 : List Cond := [Cond.code yX1_takeFirst cX1_takeFirst 2 (some .int), Cond.methodLink RX1 31 yX1_first, Cond.methodLink RX1 35 yX1_takeFound, Cond.instanceMethod yX1_takeFound, Cond.selects RX1 yX1_takeFound yX1_takeFound, Cond.code yX1_takeFound cX1_takeFound 3 (some .boolean), Cond.methodLink RL 175 yX3_removeFirst, Cond.instanceMethod yX3_removeFirst, Cond.selects RX3 yX3_removeFirst yX3_removeFirst, Cond.code yX3_removeFirst cX3_removeFirst 1 (some .int), Cond.methodLink RX3 77 yX3_takeRow, Cond.instanceMethod yX3_takeRow, Cond.selects RX3 yX3_takeRow yX3_takeRow, Cond.code yX3_takeRow cX3_takeRow 4 (some .int), Cond.methodLink RL 176 yL_removeLast, Cond.static yL_removeLast, Cond.codeWith yL_removeLast cL_removeLast 3 (some .int) [(0, 8, 11, 22)], Cond.methodLink RL 71 yX2_removeLast, Cond.instanceMethod yX2_removeLast, Cond.selects RX2 yX2_removeLast yX2_removeLast, Cond.code yX2_removeLast cX2_removeLast 1 (some .int), Cond.methodLink RX2 94 yX1_takeLast, Cond.instanceMethod yX1_takeLast, Cond.selects RX1 yX1_takeLast yX1_takeLast]
def wsL_law0_r19 : List Cond := [Cond.code yX1_takeLast cX1_takeLast 2 (some .int), Cond.methodLink RX1 39 yX1_last, Cond.methodLink RL 178 yX3_removeLast, Cond.instanceMethod yX3_removeLast, Cond.selects RX3 yX3_removeLast yX3_removeLast, Cond.code yX3_removeLast cX3_removeLast 1 (some .int), Cond.methodLink RL 179 yL_push, Cond.static yL_push, Cond.codeWith yL_push cL_push 4 (some .int) [(0, 9, 12, 13)], Cond.methodLink RL 74 yX2_push, Cond.instanceMethod yX2_push, Cond.selects RX2 yX2_push yX2_push, Cond.code yX2_push cX2_push 2 (some .int), Cond.methodLink RL 181 yX3_push, Cond.instanceMethod yX3_push, Cond.selects RX3 yX3_push yX3_push, Cond.code yX3_push cX3_push 2 (some .int), Cond.methodLink RX3 80 yX3_addFirst, Cond.methodLink RL 182 yL_pop, Cond.static yL_pop, Cond.codeWith yL_pop cL_pop 3 (some .int) [(0, 8, 11, 22)], Cond.methodLink RL 77 yX2_pop, Cond.instanceMethod yX2_pop, Cond.selects RX2 yX2_pop yX2_pop]
def wsL_law0_r20 : List Cond := [Cond.code yX2_pop cX2_pop 1 (some .int), Cond.methodLink RL 184 yX3_pop, Cond.instanceMethod yX3_pop, Cond.selects RX3 yX3_pop yX3_pop, Cond.code yX3_pop cX3_pop 1 (some .int), Cond.methodLink RX3 83 yX3_removeFirst, Cond.methodLink RL 185 yX2_removeFirstOccurrence, Cond.instanceMethod yX2_removeFirstOccurrence, Cond.selects RX2 yX2_removeFirstOccurrence yX2_removeFirstOccurrence, Cond.code yX2_removeFirstOccurrence cX2_removeFirstOccurrence 2 (some .boolean), Cond.methodLink RX2 97 yX1_firstPlaceOf, Cond.instanceMethod yX1_firstPlaceOf, Cond.selects RX1 yX1_firstPlaceOf yX1_firstPlaceOf, Cond.code yX1_firstPlaceOf cX1_firstPlaceOf 3 (some .int), Cond.methodLink RX2 100 yX1_takeFound, Cond.methodLink RL 188 yX3_removeFirstOccurrence, Cond.instanceMethod yX3_removeFirstOccurrence, Cond.selects RX3 yX3_removeFirstOccurrence yX3_removeFirstOccurrence, Cond.code yX3_removeFirstOccurrence cX3_removeFirstOccurrence 3 (some .boolean), Cond.methodLink RX3 86 yX3_firstPlace, Cond.instanceMethod yX3_firstPlace, Cond.selects RX3 yX3_firstPlace yX3_firstPlace, Cond.code yX3_firstPlace cX3_firstPlace 3 (some .int), Cond.methodLink RL 189 yX2_removeLastOccurrence]
def wsL_law0_r21 : List Cond := [Cond.instanceMethod yX2_removeLastOccurrence, Cond.selects RX2 yX2_removeLastOccurrence yX2_removeLastOccurrence, Cond.code yX2_removeLastOccurrence cX2_removeLastOccurrence 2 (some .boolean), Cond.methodLink RX2 104 yX1_lastPlaceOf, Cond.instanceMethod yX1_lastPlaceOf, Cond.selects RX1 yX1_lastPlaceOf yX1_lastPlaceOf, Cond.code yX1_lastPlaceOf cX1_lastPlaceOf 3 (some .int), Cond.methodLink RL 192 yX3_removeLastOccurrence, Cond.instanceMethod yX3_removeLastOccurrence, Cond.selects RX3 yX3_removeLastOccurrence yX3_removeLastOccurrence, Cond.code yX3_removeLastOccurrence cX3_removeLastOccurrence 3 (some .boolean), Cond.methodLink RL 193 yX2_has, Cond.instanceMethod yX2_has, Cond.selects RX2 yX2_has yX2_has, Cond.code yX2_has cX2_has 2 (some .boolean), Cond.methodLink RL 196 yX3_has, Cond.instanceMethod yX3_has, Cond.selects RX3 yX3_has yX3_has, Cond.code yX3_has cX3_has 2 (some .boolean), Cond.methodLink RL 197 yX2_length, Cond.instanceMethod yX2_length, Cond.selects RX2 yX2_length yX2_length, Cond.code yX2_length cX2_length 1 (some .int), Cond.methodLink RL 200 yX3_length]
def wsL_law0_r22 : List Cond := [Cond.instanceMethod yX3_length, Cond.selects RX3 yX3_length yX3_length, Cond.code yX3_length cX3_length 1 (some .int), Cond.methodLink RL 201 yX2_wipe, Cond.instanceMethod yX2_wipe, Cond.selects RX2 yX2_wipe yX2_wipe, Cond.code yX2_wipe cX2_wipe 1 (some .int), Cond.methodLink RX2 107 yX1_empty, Cond.instanceMethod yX1_empty, Cond.selects RX1 yX1_empty yX1_empty, Cond.code yX1_empty cX1_empty 2 (some .int), Cond.methodLink RL 204 yX3_wipe, Cond.instanceMethod yX3_wipe, Cond.selects RX3 yX3_wipe yX3_wipe, Cond.code yX3_wipe cX3_wipe 2 (some .int), Cond.methodLink RL 205 yL_at, Cond.static yL_at, Cond.codeWith yL_at cL_at 4 (some .int) [(0, 9, 12, 83)], Cond.classLink RL 83 "java/lang/IndexOutOfBoundsException", Cond.methodLink RL 80 yX2_at, Cond.instanceMethod yX2_at, Cond.selects RX2 yX2_at yX2_at, Cond.code yX2_at cX2_at 2 (some .int), Cond.methodLink RL 207 yX3_at]
def wsL_law0_r23 : List Cond := [Cond.instanceMethod yX3_at, Cond.selects RX3 yX3_at yX3_at, Cond.code yX3_at cX3_at 2 (some .int), Cond.methodLink RX3 89 yX3_isNoPlace, Cond.instanceMethod yX3_isNoPlace, Cond.selects RX3 yX3_isNoPlace yX3_isNoPlace, Cond.code yX3_isNoPlace cX3_isNoPlace 2 (some .boolean), Cond.methodLink RL 208 yL_back, Cond.static yL_back, Cond.codeWith yL_back cL_back 4 (some .int) [(0, 9, 12, 83)], Cond.methodLink RL 85 yX2_back, Cond.instanceMethod yX2_back, Cond.selects RX2 yX2_back yX2_back, Cond.code yX2_back cX2_back 2 (some .int), Cond.methodLink RX2 108 yX1_numberFromLast, Cond.instanceMethod yX1_numberFromLast, Cond.selects RX1 yX1_numberFromLast yX1_numberFromLast, Cond.code yX1_numberFromLast cX1_numberFromLast 2 (some .int), Cond.methodLink RL 210 yX3_back, Cond.instanceMethod yX3_back, Cond.selects RX3 yX3_back yX3_back, Cond.code yX3_back cX3_back 2 (some .int), Cond.methodLink RL 211 yX2_dropLike, Cond.instanceMethod yX2_dropLike]
def wsL_law0_r24 : List Cond := [Cond.selects RX2 yX2_dropLike yX2_dropLike, Cond.code yX2_dropLike cX2_dropLike 2 (some .int), Cond.methodLink RX2 111 yX1_takeAllLike, Cond.instanceMethod yX1_takeAllLike, Cond.selects RX1 yX1_takeAllLike yX1_takeAllLike, Cond.code yX1_takeAllLike cX1_takeAllLike 4 (some .int), Cond.methodLink RL 214 yX3_dropLike, Cond.instanceMethod yX3_dropLike, Cond.selects RX3 yX3_dropLike yX3_dropLike, Cond.code yX3_dropLike cX3_dropLike 4 (some .int), Cond.methodLink RL 215 yX2_walk, Cond.instanceMethod yX2_walk, Cond.selects RX2 yX2_walk yX2_walk, Cond.code yX2_walk cX2_walk 1 (some .long), Cond.methodLink RX2 114 yX1_sumFromFirst, Cond.instanceMethod yX1_sumFromFirst, Cond.selects RX1 yX1_sumFromFirst yX1_sumFromFirst, Cond.code yX1_sumFromFirst cX1_sumFromFirst 4 (some .long), Cond.constantLong RX1 47 (7), Cond.constantLong RX1 49 (31), Cond.methodLink RL 218 yX3_walk, Cond.instanceMethod yX3_walk, Cond.selects RX3 yX3_walk yX3_walk, Cond.code yX3_walk cX3_walk 4 (some .long)]
def wsL_law0_r25 : List Cond := [Cond.constantLong RX3 92 (7), Cond.constantLong RX3 94 (31), Cond.methodLink RL 219 yX2_walkBack, Cond.instanceMethod yX2_walkBack, Cond.selects RX2 yX2_walkBack yX2_walkBack, Cond.code yX2_walkBack cX2_walkBack 1 (some .long), Cond.methodLink RX2 117 yX1_sumFromLast, Cond.instanceMethod yX1_sumFromLast, Cond.selects RX1 yX1_sumFromLast yX1_sumFromLast, Cond.code yX1_sumFromLast cX1_sumFromLast 4 (some .long), Cond.methodLink RL 222 yX3_walkBack, Cond.instanceMethod yX3_walkBack, Cond.selects RX3 yX3_walkBack yX3_walkBack, Cond.code yX3_walkBack cX3_walkBack 4 (some .long)]
def wsL_law0 : List Cond := (wsL_law0_r1 ++ (wsL_law0_r2 ++ (wsL_law0_r3 ++ (wsL_law0_r4 ++ (wsL_law0_r5 ++ (wsL_law0_r6 ++ (wsL_law0_r7 ++ (wsL_law0_r8 ++ (wsL_law0_r9 ++ (wsL_law0_r10 ++ (wsL_law0_r11 ++ (wsL_law0_r12 ++ (wsL_law0_r13 ++ (wsL_law0_r14 ++ (wsL_law0_r15 ++ (wsL_law0_r16 ++ (wsL_law0_r17 ++ (wsL_law0_r18 ++ (wsL_law0_r19 ++ (wsL_law0_r20 ++ (wsL_law0_r21 ++ (wsL_law0_r22 ++ (wsL_law0_r23 ++ (wsL_law0_r24 ++ wsL_law0_r25)))))))))))))))))))))))) ++ wsX20 ++ wsX30 ++ wsX00 ++ wsX10 ++ ([] : List Cond)
def wsL_law : List Cond := wsL_law0 ++ (vx_atS RX0 23 "java/lang/IllegalStateException" ["java/lang/RuntimeException", "java/lang/Exception"]).filter goodWord ++ (hn_atS RX0 30).filter goodWord ++ (vx_atS RX2 57 "java/lang/IllegalStateException" ["java/lang/RuntimeException", "java/lang/Exception"]).filter goodWord ++ (vx_atS RX1 46 "java/lang/IndexOutOfBoundsException" ["java/lang/RuntimeException", "java/lang/Exception"]).filter goodWord ++ (vx_atS RX1 23 "java/lang/IllegalStateException" ["java/lang/RuntimeException", "java/lang/Exception"]).filter goodWord ++ (vx_atS RX2 126 "java/lang/IllegalArgumentException" ["java/lang/RuntimeException", "java/lang/Exception"]).filter goodWord ++ (hn_atS RX1 30).filter goodWord
set_option maxRecDepth 20000 in
theorem wsL_law_in0_1 : ∀ w ∈ wsL_law0_r1, w ∈ lw_tbl := fun w h => (goodIn_p wsL_law0_r1 [32, 35, 40] (by decide +kernel) (by decide +kernel) w h).1
set_option maxRecDepth 20000 in
theorem wsL_law_in0_2 : ∀ w ∈ wsL_law0_r2, w ∈ lw_tbl := fun w h => (goodIn_p wsL_law0_r2 [55, 533] (by decide +kernel) (by decide +kernel) w h).1
set_option maxRecDepth 20000 in
theorem wsL_law_in0_3 : ∀ w ∈ wsL_law0_r3, w ∈ lw_tbl := fun w h => (goodIn_p wsL_law0_r3 [182, 186, 567, 571, 563] (by decide +kernel) (by decide +kernel) w h).1
set_option maxRecDepth 20000 in
theorem wsL_law_in0_4 : ∀ w ∈ wsL_law0_r4, w ∈ lw_tbl := fun w h => (goodIn_p wsL_law0_r4 [262, 575, 270, 274] (by decide +kernel) (by decide +kernel) w h).1
set_option maxRecDepth 20000 in
theorem wsL_law_in0_5 : ∀ w ∈ wsL_law0_r5, w ∈ lw_tbl := fun w h => (goodIn_p wsL_law0_r5 [580, 584, 297, 301, 588] (by decide +kernel) (by decide +kernel) w h).1
set_option maxRecDepth 20000 in
theorem wsL_law_in0_6 : ∀ w ∈ wsL_law0_r6, w ∈ lw_tbl := fun w h => (goodIn_p wsL_law0_r6 [592, 79, 83, 87, 596, 600] (by decide +kernel) (by decide +kernel) w h).1
set_option maxRecDepth 20000 in
theorem wsL_law_in0_7 : ∀ w ∈ wsL_law0_r7, w ∈ lw_tbl := fun w h => (goodIn_p wsL_law0_r7 [91, 604, 96, 608, 100] (by decide +kernel) (by decide +kernel) w h).1
set_option maxRecDepth 20000 in
theorem wsL_law_in0_8 : ∀ w ∈ wsL_law0_r8, w ∈ lw_tbl := fun w h => (goodIn_p wsL_law0_r8 [104, 612, 309, 316, 616] (by decide +kernel) (by decide +kernel) w h).1
set_option maxRecDepth 20000 in
theorem wsL_law_in0_9 : ∀ w ∈ wsL_law0_r9, w ∈ lw_tbl := fun w h => (goodIn_p wsL_law0_r9 [339, 343, 348, 620] (by decide +kernel) (by decide +kernel) w h).1
set_option maxRecDepth 20000 in
theorem wsL_law_in0_10 : ∀ w ∈ wsL_law0_r10, w ∈ lw_tbl := fun w h => (goodIn_p wsL_law0_r10 [359, 362, 624, 628] (by decide +kernel) (by decide +kernel) w h).1
set_option maxRecDepth 20000 in
theorem wsL_law_in0_11 : ∀ w ∈ wsL_law0_r11, w ∈ lw_tbl := fun w h => (goodIn_p wsL_law0_r11 [386, 389, 393, 396, 399, 632, 636] (by decide +kernel) (by decide +kernel) w h).1
set_option maxRecDepth 20000 in
theorem wsL_law_in0_12 : ∀ w ∈ wsL_law0_r12, w ∈ lw_tbl := fun w h => (goodIn_p wsL_law0_r12 [640, 406, 645, 649] (by decide +kernel) (by decide +kernel) w h).1
set_option maxRecDepth 20000 in
theorem wsL_law_in0_13 : ∀ w ∈ wsL_law0_r13, w ∈ lw_tbl := fun w h => (goodIn_p wsL_law0_r13 [413, 653, 657, 420, 661] (by decide +kernel) (by decide +kernel) w h).1
set_option maxRecDepth 20000 in
theorem wsL_law_in0_14 : ∀ w ∈ wsL_law0_r14, w ∈ lw_tbl := fun w h => (goodIn_p wsL_law0_r14 [108, 665, 112, 669, 427] (by decide +kernel) (by decide +kernel) w h).1
set_option maxRecDepth 20000 in
theorem wsL_law_in0_15 : ∀ w ∈ wsL_law0_r15, w ∈ lw_tbl := fun w h => (goodIn_p wsL_law0_r15 [673, 434, 438, 677, 445] (by decide +kernel) (by decide +kernel) w h).1
set_option maxRecDepth 20000 in
theorem wsL_law_in0_16 : ∀ w ∈ wsL_law0_r16, w ∈ lw_tbl := fun w h => (goodIn_p wsL_law0_r16 [681, 452, 456, 685, 689] (by decide +kernel) (by decide +kernel) w h).1
set_option maxRecDepth 20000 in
theorem wsL_law_in0_17 : ∀ w ∈ wsL_law0_r17, w ∈ lw_tbl := fun w h => (goodIn_p wsL_law0_r17 [466, 470, 693, 477] (by decide +kernel) (by decide +kernel) w h).1
set_option maxRecDepth 20000 in
theorem wsL_law_in0_18 : ∀ w ∈ wsL_law0_r18, w ∈ lw_tbl := fun w h => (goodIn_p wsL_law0_r18 [481, 124, 697, 701, 490] (by decide +kernel) (by decide +kernel) w h).1
set_option maxRecDepth 20000 in
theorem wsL_law_in0_19 : ∀ w ∈ wsL_law0_r19, w ∈ lw_tbl := fun w h => (goodIn_p wsL_law0_r19 [494, 705, 502, 709] (by decide +kernel) (by decide +kernel) w h).1
set_option maxRecDepth 20000 in
theorem wsL_law_in0_20 : ∀ w ∈ wsL_law0_r20, w ∈ lw_tbl := fun w h => (goodIn_p wsL_law0_r20 [509, 714, 116, 120, 719, 723] (by decide +kernel) (by decide +kernel) w h).1
set_option maxRecDepth 20000 in
theorem wsL_law_in0_21 : ∀ w ∈ wsL_law0_r21, w ∈ lw_tbl := fun w h => (goodIn_p wsL_law0_r21 [128, 132, 727, 136, 731, 140] (by decide +kernel) (by decide +kernel) w h).1
set_option maxRecDepth 20000 in
theorem wsL_law_in0_22 : ∀ w ∈ wsL_law0_r22, w ∈ lw_tbl := fun w h => (goodIn_p wsL_law0_r22 [735, 144, 148, 739, 517] (by decide +kernel) (by decide +kernel) w h).1
set_option maxRecDepth 20000 in
theorem wsL_law_in0_23 : ∀ w ∈ wsL_law0_r23, w ∈ lw_tbl := fun w h => (goodIn_p wsL_law0_r23 [743, 747, 524, 528, 751] (by decide +kernel) (by decide +kernel) w h).1
set_option maxRecDepth 20000 in
theorem wsL_law_in0_24 : ∀ w ∈ wsL_law0_r24, w ∈ lw_tbl := fun w h => (goodIn_p wsL_law0_r24 [152, 156, 755, 160, 164, 759] (by decide +kernel) (by decide +kernel) w h).1
set_option maxRecDepth 20000 in
theorem wsL_law_in0_25 : ∀ w ∈ wsL_law0_r25, w ∈ lw_tbl := fun w h => (goodIn_p wsL_law0_r25 [170, 174, 765] (by decide +kernel) (by decide +kernel) w h).1
theorem hn_inX2 : ∀ w ∈ wsX20, w ∈ lw_tbl := by decide +kernel
theorem hn_inX3 : ∀ w ∈ wsX30, w ∈ lw_tbl := by decide +kernel
theorem hn_inX0 : ∀ w ∈ wsX00, w ∈ lw_tbl := by decide +kernel
theorem hn_inX1 : ∀ w ∈ wsX10, w ∈ lw_tbl := by decide +kernel
theorem wsL_law_in0 : ∀ w ∈ wsL_law0, w ∈ lw_tbl := fun w h => (List.mem_append.mp h).elim (fun h => (List.mem_append.mp h).elim (fun h => (List.mem_append.mp h).elim (fun h => (List.mem_append.mp h).elim (fun h => (List.mem_append.mp h).elim (fun h => (List.mem_append.mp h).elim (fun h => wsL_law_in0_1 w h) (fun h => (List.mem_append.mp h).elim (fun h => wsL_law_in0_2 w h) (fun h => (List.mem_append.mp h).elim (fun h => wsL_law_in0_3 w h) (fun h => (List.mem_append.mp h).elim (fun h => wsL_law_in0_4 w h) (fun h => (List.mem_append.mp h).elim (fun h => wsL_law_in0_5 w h) (fun h => (List.mem_append.mp h).elim (fun h => wsL_law_in0_6 w h) (fun h => (List.mem_append.mp h).elim (fun h => wsL_law_in0_7 w h) (fun h => (List.mem_append.mp h).elim (fun h => wsL_law_in0_8 w h) (fun h => (List.mem_append.mp h).elim (fun h => wsL_law_in0_9 w h) (fun h => (List.mem_append.mp h).elim (fun h => wsL_law_in0_10 w h) (fun h => (List.mem_append.mp h).elim (fun h => wsL_law_in0_11 w h) (fun h => (List.mem_append.mp h).elim (fun h => wsL_law_in0_12 w h) (fun h => (List.mem_append.mp h).elim (fun h => wsL_law_in0_13 w h) (fun h => (List.mem_append.mp h).elim (fun h => wsL_law_in0_14 w h) (fun h => (List.mem_append.mp h).elim (fun h => wsL_law_in0_15 w h) (fun h => (List.mem_append.mp h).elim (fun h => wsL_law_in0_16 w h) (fun h => (List.mem_append.mp h).elim (fun h => wsL_law_in0_17 w h) (fun h => (List.mem_append.mp h).elim (fun h => wsL_law_in0_18 w h) (fun h => (List.mem_append.mp h).elim (fun h => wsL_law_in0_19 w h) (fun h => (List.mem_append.mp h).elim (fun h => wsL_law_in0_20 w h) (fun h => (List.mem_append.mp h).elim (fun h => wsL_law_in0_21 w h) (fun h => (List.mem_append.mp h).elim (fun h => wsL_law_in0_22 w h) (fun h => (List.mem_append.mp h).elim (fun h => wsL_law_in0_23 w h) (fun h => (List.mem_append.mp h).elim (fun h => wsL_law_in0_24 w h) (fun h => wsL_law_in0_25 w h))))))))))))))))))))))))) (hn_inX2 w)) (hn_inX3 w)) (hn_inX0 w)) (hn_inX1 w)) (fun h => absurd h List.not_mem_nil)
theorem wsL_law_x0 : ∀ w ∈ (vx_atS RX0 23 "java/lang/IllegalStateException" ["java/lang/RuntimeException", "java/lang/Exception"]).filter goodWord, w ∈ lw_tbl := by decide +kernel
theorem wsL_law_x1 : ∀ w ∈ (hn_atS RX0 30).filter goodWord, w ∈ lw_tbl := by decide +kernel
theorem wsL_law_x2 : ∀ w ∈ (vx_atS RX2 57 "java/lang/IllegalStateException" ["java/lang/RuntimeException", "java/lang/Exception"]).filter goodWord, w ∈ lw_tbl := by decide +kernel
theorem wsL_law_x3 : ∀ w ∈ (vx_atS RX1 46 "java/lang/IndexOutOfBoundsException" ["java/lang/RuntimeException", "java/lang/Exception"]).filter goodWord, w ∈ lw_tbl := by decide +kernel
theorem wsL_law_x4 : ∀ w ∈ (vx_atS RX1 23 "java/lang/IllegalStateException" ["java/lang/RuntimeException", "java/lang/Exception"]).filter goodWord, w ∈ lw_tbl := by decide +kernel
theorem wsL_law_x5 : ∀ w ∈ (vx_atS RX2 126 "java/lang/IllegalArgumentException" ["java/lang/RuntimeException", "java/lang/Exception"]).filter goodWord, w ∈ lw_tbl := by decide +kernel
theorem wsL_law_x6 : ∀ w ∈ (hn_atS RX1 30).filter goodWord, w ∈ lw_tbl := by decide +kernel
theorem wsL_law_in : ∀ w ∈ wsL_law, w ∈ lw_tbl := fun w h => (List.mem_append.mp h).elim (fun h => (List.mem_append.mp h).elim (fun h => (List.mem_append.mp h).elim (fun h => (List.mem_append.mp h).elim (fun h => (List.mem_append.mp h).elim (fun h => (List.mem_append.mp h).elim (fun h => (List.mem_append.mp h).elim (fun h => wsL_law_in0 w h) (fun h => wsL_law_x0 w h)) (fun h => wsL_law_x1 w h)) (fun h => wsL_law_x2 w h)) (fun h => wsL_law_x3 w h)) (fun h => wsL_law_x4 w h)) (fun h => wsL_law_x5 w h)) (fun h => wsL_law_x6 w h)
theorem inlX0 : ∀ w ∈ wsX00, w ∈ wsL_law := fun _ h => List.mem_append_left _ (List.mem_append_left _ (List.mem_append_left _ (List.mem_append_left _ (List.mem_append_left _ (List.mem_append_left _ (List.mem_append_left _ (List.mem_append_left _ (List.mem_append_left _ (List.mem_append_right _ h)))))))))
theorem inX0 : ∀ w ∈ wsX00, w ∈ lw_tbl := fun w h => wsL_law_in w (inlX0 w h)
theorem inlX1 : ∀ w ∈ wsX10, w ∈ wsL_law := fun _ h => List.mem_append_left _ (List.mem_append_left _ (List.mem_append_left _ (List.mem_append_left _ (List.mem_append_left _ (List.mem_append_left _ (List.mem_append_left _ (List.mem_append_left _ (List.mem_append_right _ h))))))))
theorem inX1 : ∀ w ∈ wsX10, w ∈ lw_tbl := fun w h => wsL_law_in w (inlX1 w h)
theorem inlX2 : ∀ w ∈ wsX20, w ∈ wsL_law := fun _ h => List.mem_append_left _ (List.mem_append_left _ (List.mem_append_left _ (List.mem_append_left _ (List.mem_append_left _ (List.mem_append_left _ (List.mem_append_left _ (List.mem_append_left _ (List.mem_append_left _ (List.mem_append_left _ (List.mem_append_left _ (List.mem_append_right _ h)))))))))))
theorem inX2 : ∀ w ∈ wsX20, w ∈ lw_tbl := fun w h => wsL_law_in w (inlX2 w h)
theorem inlX3 : ∀ w ∈ wsX30, w ∈ wsL_law := fun _ h => List.mem_append_left _ (List.mem_append_left _ (List.mem_append_left _ (List.mem_append_left _ (List.mem_append_left _ (List.mem_append_left _ (List.mem_append_left _ (List.mem_append_left _ (List.mem_append_left _ (List.mem_append_left _ (List.mem_append_right _ h))))))))))
theorem inX3 : ∀ w ∈ wsX30, w ∈ lw_tbl := fun w h => wsL_law_in w (inlX3 w h)
theorem inJx145de : ∀ w ∈ wsJx145de0, w ∈ lw_tbl := by decide +kernel
theorem inJ9 : ∀ w ∈ wsJ90, w ∈ lw_tbl := by decide +kernel
theorem inJ0 : ∀ w ∈ wsJ00, w ∈ lw_tbl := by decide +kernel
end
section
abbrev vwCl : List vw_C := [(RX0, TX0, 2), (RX1, TX1, 2), (RX2, TX2, 3), (RX3, TX3, 8)]
/-! The rules that all methods of this claim are walked by: a contract over a world of cells that answers one value (mI, mL, mV), one that always throws (mX), the body of each, its end, a call of each. -/
section HB
def hE1 : String := "java/lang/IllegalStateException"
def hE2 : String := "java/util/NoSuchElementException"
def hE3 : String := "java/lang/IndexOutOfBoundsException"
def hE4 : String := "java/lang/IllegalArgumentException"
/-- words of the tables beside a method's own list -/
def hV (U : State) : Prop :=
  va_Nw (.castable "java/lang/IllegalStateException" "java/lang/IllegalStateException") U ∧ va_Nw (.castable "java/util/NoSuchElementException" "java/util/NoSuchElementException") U ∧
  va_Nw (.castable "java/lang/IndexOutOfBoundsException" "java/lang/IndexOutOfBoundsException") U ∧ va_Nw (.castable "java/lang/IllegalArgumentException" "java/lang/IllegalArgumentException") U ∧
  va_Nw (.fieldLinkNest RX2 44 "HeapAndDeque$LeastFirst" "count" "I" RX2) U ∧ va_Nw (.fieldLinkNest RX2 52 "HeapAndDeque$Row" "count" "I" RX2) U ∧
  va_Nw (.methodLinkNest RX2 9 yX0_init RX2) U ∧ va_Nw (.methodLinkNest RX2 21 yX1_init RX2) U
theorem hV.warm {s U : State} (hW : s.WarmedH U.vm) (q : hV s) : hV U :=
  ⟨va_Nw.warmC hW q.1, va_Nw.warmC hW q.2.1, va_Nw.warmC hW q.2.2.1, va_Nw.warmC hW q.2.2.2.1, va_Nw.warmF hW q.2.2.2.2.1, va_Nw.warmF hW q.2.2.2.2.2.1, va_Nw.warmM hW q.2.2.2.2.2.2.1, va_Nw.warmM hW q.2.2.2.2.2.2.2⟩
/-- what a throw needs beside: the two statics of Throwable, the texts -/
def hZ (U : State) : Prop :=
  vx_Zq Bundle.tN "UNASSIGNED_STACK" Bundle.steD (fun q => U.heap.size ≤ q) U U.heap ∧ vx_Zq Bundle.tN "SUPPRESSED_SENTINEL" Bundle.listD (fun q => U.heap.size ≤ q) U U.heap ∧
  (∃ a, vk_R RX0 21 "the queue holds 200" a U) ∧ (∃ a, vk_R RX0 28 "the queue holds none" a U) ∧ (∃ a, vk_R RX2 55 "the queue would hold more than 200" a U) ∧ (∃ a, vk_R RX1 44 "the row has no such place" a U) ∧
  (∃ a, vk_R RX2 120 "the row would hold more than 200" a U) ∧ (∃ a, vk_R RX1 21 "the row holds 200" a U) ∧ (∃ a, vk_R RX2 124 "the tag is out of range" a U) ∧ (∃ a, vk_R RX1 28 "the row holds none" a U)
theorem hZ.move {s U : State} (hW : s.WarmedH U.vm) (hz : s.heap.size ≤ U.heap.size) (hk : ∀ q : Nat, q < s.heap.size → U.heap[q]? = s.heap[q]?) (h : hZ s) : hZ U := by
  obtain ⟨h1, h2, ⟨a3, h3⟩, ⟨a4, h4⟩, ⟨a5, h5⟩, ⟨a6, h6⟩, ⟨a7, h7⟩, ⟨a8, h8⟩, ⟨a9, h9⟩, ⟨a10, h10⟩⟩ := h
  refine ⟨?_, ?_, ⟨a3, vk_R.warm hW h3⟩, ⟨a4, vk_R.warm hW h4⟩, ⟨a5, vk_R.warm hW h5⟩, ⟨a6, vk_R.warm hW h6⟩, ⟨a7, vk_R.warm hW h7⟩, ⟨a8, vk_R.warm hW h8⟩, ⟨a9, vk_R.warm hW h9⟩, ⟨a10, vk_R.warm hW h10⟩⟩
  · exact ((h1.kept (H1 := U.heap) (fun a ha _ => hk a ha)).moved hW.alike).narrow (fun q hq => Nat.le_trans hz hq)
  · exact ((h2.kept (H1 := U.heap) (fun a ha _ => hk a ha)).moved hW.alike).narrow (fun q hq => Nat.le_trans hz hq)
def hPre (D : va_G) (tys : List (ClassId × FieldType)) (ws : va_W) (sz : Nat) : State → Prop := fun U => U.heap.size = sz ∧ va_P D vwCl ws U.heap ∧ va_K D vwCl tys U ∧ va_D (fun _ => True) ws ∧ hV U
def hB (D : va_G) (A : Nat → Prop) (ws : va_W) {S : Type} : S → State → Prop := fun _ t => va_P D vwCl ws t.heap ∧ va_D A ws
abbrev hQI (D : va_G) (w1 : va_W) (r : Int32) (A : Nat → Prop) : Array Value → State → Outcome → State → Prop := va_Qi (fun (x : Int32) (_ : Unit) => x = r) (hB D A w1) A
abbrev hQL (D : va_G) (w1 : va_W) (r : Int64) (A : Nat → Prop) : Array Value → State → Outcome → State → Prop := va_Ql (fun (x : Int64) (_ : Unit) => x = r) (hB D A w1) A
abbrev hQV (D : va_G) (w1 : va_W) (A : Nat → Prop) : Array Value → State → Outcome → State → Prop := va_Qv (fun (_ : Unit) => True) (hB D A w1) A
/-- from the world w0 the method answers r and leaves the world w1 -/
def mI (l : Launch) (y : MethodName) (ws : List Cond) (rm : Room) (av : List Value) (D : va_G) (tys : List (ClassId × FieldType)) (w0 w1 : va_W) (r : Int32) : Prop := ∀ sz : Nat, Met l y ws rm (va_Pc av (hPre D tys w0 sz)) (hQI D w1 r (va_A w0 sz)) 0 0 (va_A w0 sz)
def mL (l : Launch) (y : MethodName) (ws : List Cond) (rm : Room) (av : List Value) (D : va_G) (tys : List (ClassId × FieldType)) (w0 w1 : va_W) (r : Int64) : Prop := ∀ sz : Nat, Met l y ws rm (va_Pc av (hPre D tys w0 sz)) (hQL D w1 r (va_A w0 sz)) 0 0 (va_A w0 sz)
def mV (l : Launch) (y : MethodName) (ws : List Cond) (rm : Room) (av : List Value) (D : va_G) (tys : List (ClassId × FieldType)) (w0 w1 : va_W) : Prop := ∀ sz : Nat, Met l y ws rm (va_Pc av (hPre D tys w0 sz)) (hQV D w1 (va_A w0 sz)) 0 0 (va_A w0 sz)
abbrev hQX (E : String) (sz : Nat) : String → State → State → Prop := vx_X (fun (_ : Unit) => True) (fun E' _ _ => E' = E) (fun q => sz ≤ q)
/-- from the world w0 the method throws a new E, and writes nothing -/
def mX (l : Launch) (y : MethodName) (ws : List Cond) (rm : Room) (av : List Value) (D : va_G) (tys : List (ClassId × FieldType)) (w0 : va_W) (E : String) : Prop := ∀ sz : Nat, vx_Met l y ws rm (va_Pc av (fun U => hPre D tys w0 sz U ∧ hZ U)) (fun _ _ _ _ => False) (hQX E sz) 1 6 (fun q => sz ≤ q)
theorem h_blind {av : List Value} {D : va_G} {tys : List (ClassId × FieldType)} {w0 : va_W} {sz : Nat} : FrameBlind (va_Pc av (hPre D tys w0 sz)) := fun a U g mk q => by
  obtain ⟨q0, q1, q2, q3, q4, q5⟩ := q
  exact ⟨q0, q1, q2, va_K.moved (u := U) (U := U.calling g mk a) (Vm.Alike.refl U.vm) q3, q4, hV.warm (U := U.calling g mk a) (State.WarmedH.refl U) q5⟩
theorem h_blindX {av : List Value} {D : va_G} {tys : List (ClassId × FieldType)} {w0 : va_W} {sz : Nat} : FrameBlind (va_Pc av (fun U => hPre D tys w0 sz U ∧ hZ U)) := fun a U g mk q => by
  obtain ⟨q0, ⟨q1, q2, q3, q4, q5⟩, q6⟩ := q
  exact ⟨q0, ⟨q1, q2, va_K.moved (u := U) (U := U.calling g mk a) (Vm.Alike.refl U.vm) q3, q4, hV.warm (U := U.calling g mk a) (State.WarmedH.refl U) q5⟩, hZ.move (U := U.calling g mk a) (State.WarmedH.refl U) (Nat.le_refl _) (fun _ _ => rfl) q6⟩
theorem fm_of {α β : Type} {f : α → Option β} {is : List α} {w : List β} (h : is.map f = w.map some) : is.filterMap f = w := by
  have : is.filterMap f = (is.map f).filterMap id := by rw [List.filterMap_map]; rfl
  rw [this, h, List.filterMap_map]
  exact List.filterMap_some
/-- what a body has at its start -/
def hAt (p : Program) (s : State) (m : MethodId) (meth : Method) (c : Code) (av : List Value) (cc : ByteArray) (maxL : Nat) (ret : Option FieldType) (ws : List Cond) (own : String) : Prop :=
  (p.tables.exec = Jvm.exec ∧ c.code = cc ∧ c.maxLocals = maxL ∧ s.vm.findClass own = some m.cls ∧ ∀ w ∈ ws, w.before av.toArray s = true) ∧ meth.sig.returnType = ret ∧ meth.locks = false ∧ hV s
theorem h_body {l : Launch} {y : MethodName} {ws ws' : List Cond} {rm : Room} {av : List Value} {D : va_G} {tys : List (ClassId × FieldType)} {w0 : va_W} {cc : ByteArray} {maxL mc ms : Nat} {ret : Option FieldType} {Qc : (Nat → Prop) → Array Value → State → Outcome → State → Prop}
    (hy : plainName y.cls = true) (hw : ws = .code y cc maxL ret :: ws') (hn : (lg_sl av).length ≤ maxL)
    (body : ∀ (p : Program) (e : Env) (s : State) (m : MethodId) (below : List Frame) (meth : Method) (c : Code) (A : Nat → Prop) (ls : Array Slot), hAt p s m meth c av cc maxL ret ws y.cls →
      (∀ q, s.heap.size ≤ q → A q) → va_P D vwCl w0 s.heap → va_K D vwCl tys s → va_D A w0 → va_S A s.heap s.heap [] → lv_has ls maxL (lv_args 0 av) →
      W p l e rm s m av.toArray below meth c s.heap [] 0 0 (MQ below (Qc A) av.toArray s mc ms A) (F0 m 0 ls [])) (sz : Nat) : Met l y ws rm (va_Pc av (hPre D tys w0 sz)) (Qc (va_A w0 sz)) mc ms (va_A w0 sz) := by
  refine Met.ofW (cc := cc) (maxL := maxL) (ret := ret) hy hw ?_
  intro p e s m args below meth c s₁ B hml hv
  obtain ⟨rfl, hsz, hP, hK, hD0, hV0⟩ := hv
  subst hsz
  rw [lg_entry_eq]
  exact body p e s m below meth c (va_A w0 s.heap.size) _ ⟨⟨B.exec, B.bytes, hml, findClass_of_methodNamed B.named, atoms_spec (ws := ws) B.pre⟩, B.returns, B.notSynchronized, hV0⟩ (fun q h => Or.inr h) hP hK (hD0.self (sz := s.heap.size)) va_S.rf (lv_entry av (n := maxL) hn)
abbrev hEX (below : List Frame) (E : String) (s : State) (av : List Value) : State → Prop := vx_MQ below (fun _ _ _ _ => False) (hQX E s.heap.size) av.toArray s 1 6 (fun q => s.heap.size ≤ q)
theorem hX_body {l : Launch} {y : MethodName} {ws ws' : List Cond} {rm : Room} {av : List Value} {D : va_G} {tys : List (ClassId × FieldType)} {w0 : va_W} {cc : ByteArray} {maxL : Nat} {ret : Option FieldType} {E : String}
    (hy : plainName y.cls = true) (hw : ws = .code y cc maxL ret :: ws') (hn : (lg_sl av).length ≤ maxL)
    (body : ∀ (p : Program) (e : Env) (s : State) (m : MethodId) (below : List Frame) (meth : Method) (c : Code) (ls : Array Slot), hAt p s m meth c av cc maxL ret ws y.cls → (∀ x ∈ c.exceptionTable.toList, False) → hZ s →
      va_P D vwCl w0 s.heap → va_K D vwCl tys s → va_D (fun _ => True) w0 → va_S (fun q => s.heap.size ≤ q) s.heap s.heap [] → lv_has ls maxL (lv_args 0 av) →
      W p l e rm s m av.toArray below meth c s.heap [] 0 0 (hEX below E s av) (F0 m 0 ls [])) : mX l y ws rm av D tys w0 E := by
  intro sz
  refine vx_ofW (cc := cc) (maxL := maxL) (ret := ret) hy hw ?_
  intro p e s m args below meth c s₁ B hml hnt hv
  obtain ⟨rfl, ⟨hsz, hP, hK, hD0, hV0⟩, hZ0⟩ := hv
  subst hsz
  rw [lg_entry_eq]
  exact body p e s m below meth c _ ⟨⟨B.exec, B.bytes, hml, findClass_of_methodNamed B.named, atoms_spec (ws := ws) B.pre⟩, B.returns, B.notSynchronized, hV0⟩ hnt hZ0 hP hK hD0 va_S.rf (lv_entry av (n := maxL) hn)
end HB
section HE
variable {p : Program} {l : Launch} {e : Env} {R : Room} {s : State} {m : MethodId} {args : Array Value} {below : List Frame} {meth : Method} {c : Code} {H : Heap} {locs : List Loc} {cells slots : Nat} {Q : State → Prop}
variable {A : Nat → Prop} {H0 : Heap} {cc : ByteArray} {D : va_G} {tys tysC : List (ClassId × FieldType)} {w w0 w1 wc wr w' : va_W} {ls : Array Slot} {pc : Nat} {rest st0 : List Value}
theorem h_iret {ty : FieldType} {v r : Int32} (hx : p.tables.exec = Jvm.exec) (hb : c.code = cc) (hr : meth.sig.returnType = some ty) (hlocks : meth.locks = false) (hn : narrow ty (.int v) = .int v) (hP : va_P D vwCl w1 H) (hD : va_D A w1) (hS : va_S A s.heap H locs) (hv : v = r) (hdg : decode cc pc = .ok (.ireturn, 1)) :
    W p l e R s m args below meth c H locs 0 0 (MQ below (hQI D w1 r A) args s 0 0 A) (F0 m pc ls [.int v]) :=
  W.zret hx hb hr hn (fun t ht hW => ⟨⟨v, (), rfl, hv, by rw [ht]; exact hP, hD⟩, hS.F ht⟩) hS.2.2 hdg hlocks
theorem h_lret {v r : Int64} (hx : p.tables.exec = Jvm.exec) (hb : c.code = cc) (hr : meth.sig.returnType = some .long) (hlocks : meth.locks = false) (hP : va_P D vwCl w1 H) (hD : va_D A w1) (hS : va_S A s.heap H locs) (hv : v = r) (hdg : decode cc pc = .ok (.lreturn, 1)) :
    W p l e R s m args below meth c H locs 0 0 (MQ below (hQL D w1 r A) args s 0 0 A) (F0 m pc ls [.long v]) :=
  W.lret hx hb hr (fun t ht hW => ⟨⟨v, (), rfl, hv, by rw [ht]; exact hP, hD⟩, hS.F ht⟩) hS.2.2 hdg hlocks
theorem h_vret (hx : p.tables.exec = Jvm.exec) (hb : c.code = cc) (hr : meth.sig.returnType = none) (hlocks : meth.locks = false) (hP : va_P D vwCl w1 H) (hD : va_D A w1) (hS : va_S A s.heap H locs) (hdg : decode cc pc = .ok (.return_, 1)) :
    W p l e R s m args below meth c H locs 0 0 (MQ below (hQV D w1 A) args s 0 0 A) (F0 m pc ls []) :=
  W.vret hx hb hr (fun t ht hW => ⟨⟨(), rfl, trivial, by rw [ht]; exact hP, hD⟩, hS.F ht⟩) hS.2.2 hdg hlocks
/-- the frame rule of a call: the callee's cells cut out, put back, all in one order -/
abbrev hCut (w wc wr w1 w' : va_W) (tys tysC : List (ClassId × FieldType)) (isC isR isJ isT : List Nat) : Prop :=
  isC.map (fun i => w[i]?) = wc.map some ∧ isR.map (fun i => w[i]?) = wr.map some ∧ isJ.map (fun i => (wr ++ w1)[i]?) = w'.map some ∧ isT.filterMap (fun i => tys[i]?) = tysC ∧ (va_nd isC = true ∧ va_nd isR = true ∧ va_nd isJ = true) ∧ ∀ i ∈ isR, i ∉ isC
theorem h_back {H1 : Heap} {isC isR isJ isT : List Nat} (hc : hCut w wc wr w1 w' tys tysC isC isR isJ isT) (hP : va_P D vwCl w H) (hD : va_D A w) (hS : va_S A H0 H locs) (hA : ∀ q, H0.size ≤ q → A q)
    (hk1 : ∀ q : Nat, q < H.size → ¬ va_A wc H.size q → H1[q]? = H[q]?) (hP1 : va_P D vwCl w1 H1) (hD1 : va_D (va_A wc H.size) w1) : va_P D vwCl w' H1 ∧ va_D A w' := by
  obtain ⟨h1, h2, h3, -, ⟨-, n2, n3⟩, h6⟩ := hc
  obtain ⟨hP2, hD2⟩ := va_join (wr := wr) (w1 := w1) hP hD isC isR h1 h2 n2 h6 hk1 (va_free (wc := wc) hD hS hA isC h1) hP1 hD1
  exact ⟨hP2.sub isJ (fm_of h3), hD2.sub isJ n3 h3⟩
theorem h_pre {U : State} {isC isR isJ isT : List Nat} (hc : hCut w wc wr w1 w' tys tysC isC isR isJ isT) (hP : va_P D vwCl w H) (hK : va_K D vwCl tys s) (hD : va_D A w) (hv : hV s) (hU : U.heap = H) (hW : s.WarmedH U.vm) : hPre D tysC wc H.size U := by
  obtain ⟨h1, h2, h3, h4, ⟨n1, n2, n3⟩, h6⟩ := hc
  refine ⟨by rw [hU], by rw [hU]; exact hP.sub isC (fm_of h1), va_K.moved hW.alike (hK.sub isT h4), (hD.sub isC n1 h1).weaken (fun _ _ _ _ => trivial), hV.warm hW hv⟩
section Calls
variable {y : MethodName} {bytes : ByteArray} {maxL nL n index : Nat} {ret : Option FieldType} {ws : List Cond} {rm : Room} {Ts : List Cond} {own C : String} {b : Addr} {As : List Value}
theorem hc_iV {r : Int32} (S : CallFix p m c cc nL s args Ts own) (hM : mI l y ws rm (.ref b :: As) D tysC wc w1 r) (cw : CallW R s args own C index y bytes maxL ret ws rm 0 0 n)
    (hP : va_P D vwCl w H) (hK : va_K D vwCl tys s) (hD : va_D A w) (hS : va_S A H0 H locs) (hA : ∀ q, H0.size ≤ q → A q) (hv : hV s)
    (isC isR isJ isT : List Nat) (hc : hCut w wc wr w1 w' tys tysC isC isR isJ isT) (q0 ci : Nat) {qc : vw_C} {fs : List Value} (he : w[q0]? = some (b, .inr (ci, fs))) (hci : vwCl[ci]? = some qc) (hC : qc.1 = C)
    (hn : As.length = n) (hsz : ls.size = nL) (hst : st0 = As.reverse ++ .ref b :: rest) (hcat : (rest.map fun v => v.category).sum ≤ 8) (hdg : decode cc pc = .ok (.invokevirtual index, 3)) (hroom : cells ≤ R.cells ∧ slots ≤ R.slots)
    (kk : ∀ (H1 : Heap) (locs1 : List Loc), va_P D vwCl w' H1 → va_D A w' → va_S A H0 H1 locs1 → W p l e R s m args below meth c H1 locs1 cells slots Q (F0 m (pc + 3) ls (.int r :: rest))) : W p l e R s m args below meth c H locs cells slots Q (F0 m pc ls st0) := by
  have hFc := va_free (wc := wc) hD hS hA isC hc.1
  subst hC
  refine va_calli (va_runV (As := As) (rest := rest) S (hM H.size) cw ⟨h_blind, va_recv hK hP hci he, fun U hU hW => ⟨rfl, h_pre hc hP hK hD hv hU hW⟩⟩ rfl hn hsz hst (lv_room hcat) hdg hroom) hS (fun q _ h => hFc q h) hFc (fun r1 u t H1 locs1 ht hvm hw hB hz1 hk1 hS1 => ?_)
  obtain ⟨hP1, hD1⟩ := hB
  rw [ht] at hP1
  obtain ⟨hP2, hD2⟩ := h_back hc hP hD hS hA hk1 hP1 hD1
  rw [hw]
  exact kk H1 locs1 hP2 hD2 hS1
theorem hc_lV {r : Int64} (S : CallFix p m c cc nL s args Ts own) (hM : mL l y ws rm (.ref b :: As) D tysC wc w1 r) (cw : CallW R s args own C index y bytes maxL ret ws rm 0 0 n)
    (hP : va_P D vwCl w H) (hK : va_K D vwCl tys s) (hD : va_D A w) (hS : va_S A H0 H locs) (hA : ∀ q, H0.size ≤ q → A q) (hv : hV s)
    (isC isR isJ isT : List Nat) (hc : hCut w wc wr w1 w' tys tysC isC isR isJ isT) (q0 ci : Nat) {qc : vw_C} {fs : List Value} (he : w[q0]? = some (b, .inr (ci, fs))) (hci : vwCl[ci]? = some qc) (hC : qc.1 = C)
    (hn : As.length = n) (hsz : ls.size = nL) (hst : st0 = As.reverse ++ .ref b :: rest) (hcat : (rest.map fun v => v.category).sum ≤ 8) (hdg : decode cc pc = .ok (.invokevirtual index, 3)) (hroom : cells ≤ R.cells ∧ slots ≤ R.slots)
    (kk : ∀ (H1 : Heap) (locs1 : List Loc), va_P D vwCl w' H1 → va_D A w' → va_S A H0 H1 locs1 → W p l e R s m args below meth c H1 locs1 cells slots Q (F0 m (pc + 3) ls (.long r :: rest))) : W p l e R s m args below meth c H locs cells slots Q (F0 m pc ls st0) := by
  have hFc := va_free (wc := wc) hD hS hA isC hc.1
  subst hC
  refine va_calll (va_runV (As := As) (rest := rest) S (hM H.size) cw ⟨h_blind, va_recv hK hP hci he, fun U hU hW => ⟨rfl, h_pre hc hP hK hD hv hU hW⟩⟩ rfl hn hsz hst (lv_room hcat) hdg hroom) hS (fun q _ h => hFc q h) hFc (fun r1 u t H1 locs1 ht hvm hw hB hz1 hk1 hS1 => ?_)
  obtain ⟨hP1, hD1⟩ := hB
  rw [ht] at hP1
  obtain ⟨hP2, hD2⟩ := h_back hc hP hD hS hA hk1 hP1 hD1
  rw [hw]
  exact kk H1 locs1 hP2 hD2 hS1
theorem hc_vV (S : CallFix p m c cc nL s args Ts own) (hM : mV l y ws rm (.ref b :: As) D tysC wc w1) (cw : CallW R s args own C index y bytes maxL ret ws rm 0 0 n)
    (hP : va_P D vwCl w H) (hK : va_K D vwCl tys s) (hD : va_D A w) (hS : va_S A H0 H locs) (hA : ∀ q, H0.size ≤ q → A q) (hv : hV s)
    (isC isR isJ isT : List Nat) (hc : hCut w wc wr w1 w' tys tysC isC isR isJ isT) (q0 ci : Nat) {qc : vw_C} {fs : List Value} (he : w[q0]? = some (b, .inr (ci, fs))) (hci : vwCl[ci]? = some qc) (hC : qc.1 = C)
    (hn : As.length = n) (hsz : ls.size = nL) (hst : st0 = As.reverse ++ .ref b :: rest) (hcat : (rest.map fun v => v.category).sum ≤ 8) (hdg : decode cc pc = .ok (.invokevirtual index, 3)) (hroom : cells ≤ R.cells ∧ slots ≤ R.slots)
    (kk : ∀ (H1 : Heap) (locs1 : List Loc), va_P D vwCl w' H1 → va_D A w' → va_S A H0 H1 locs1 → W p l e R s m args below meth c H1 locs1 cells slots Q (F0 m (pc + 3) ls rest)) : W p l e R s m args below meth c H locs cells slots Q (F0 m pc ls st0) := by
  have hFc := va_free (wc := wc) hD hS hA isC hc.1
  subst hC
  refine va_callv (va_runV (As := As) (rest := rest) S (hM H.size) cw ⟨h_blind, va_recv hK hP hci he, fun U hU hW => ⟨rfl, h_pre hc hP hK hD hv hU hW⟩⟩ rfl hn hsz hst (lv_room hcat) hdg hroom) hS (fun q _ h => hFc q h) hFc (fun u t H1 locs1 ht hvm hw hB hz1 hk1 hS1 => ?_)
  obtain ⟨hP1, hD1⟩ := hB
  rw [ht] at hP1
  obtain ⟨hP2, hD2⟩ := h_back hc hP hD hS hA hk1 hP1 hD1
  exact kk H1 locs1 hP2 hD2 hS1
/-- a static method that touches no cell -/
theorem hc_lS {r : Int64} (S : CallFix p m c cc nL s args Ts own) (hM : mL l y ws rm As D [] [] [] r) (cw : CallB R s args own index y bytes maxL ret ws rm 0 0 n ∧ (Cond.static y).before args s = true)
    (hK : va_K D vwCl tys s) (hS : va_S A H0 H locs) (hA : ∀ q, H0.size ≤ q → A q) (hv : hV s)
    (hn : As.length = n) (hsz : ls.size = nL) (hst : st0 = As.reverse ++ rest) (hcat : (rest.map fun v => v.category).sum ≤ 8) (hdg : decode cc pc = .ok (.invokestatic index, 3)) (hroom : cells ≤ R.cells ∧ slots ≤ R.slots)
    (kk : ∀ (H1 : Heap) (locs1 : List Loc), (∀ w : va_W, va_P D vwCl w H → va_P D vwCl w H1) → H.size ≤ H1.size → (∀ q : Nat, q < H.size → H1[q]? = H[q]?) → va_S A H0 H1 locs1 → W p l e R s m args below meth c H1 locs1 cells slots Q (F0 m (pc + 3) ls (.long r :: rest))) : W p l e R s m args below meth c H locs cells slots Q (F0 m pc ls st0) := by
  have hFc : ∀ q, va_A [] H.size q → A q := fun q h => hA q (by
    rcases h with ⟨k, e1, h⟩ | h
    · simp at h
    · exact Nat.le_trans hS.1 h)
  refine va_calll (va_runS (As := As) (rest := rest) S (hM H.size) cw ⟨h_blind, fun U hU hW => ⟨rfl, by rw [hU], fun k q h => by simp at h, va_K.moved hW.alike (hK.sub (tys' := []) [] rfl), ⟨fun i j p q h => by simp at h, fun k q h => by simp at h⟩, hV.warm hW hv⟩⟩ rfl hn hsz hst (lv_room hcat) hdg hroom) hS (fun q _ h => hFc q h) hFc (fun r1 u t H1 locs1 ht hvm hw hB hz1 hk1 hS1 => ?_)
  have hk2 : ∀ q : Nat, q < H.size → H1[q]? = H[q]? := fun q hq => hk1 q hq (fun h => by
    rcases h with ⟨k, e1, h⟩ | h
    · simp at h
    · exact absurd hq (Nat.not_lt.mpr h))
  rw [hw]
  exact kk H1 locs1 (fun w h => h.kept (fun k q hk => hk2 _ (vx_lt h hk))) hz1 hk2 hS1
theorem hc_iS {r : Int32} (S : CallFix p m c cc nL s args Ts own) (hM : mI l y ws rm As D [] [] [] r) (cw : CallB R s args own index y bytes maxL ret ws rm 0 0 n ∧ (Cond.static y).before args s = true)
    (hK : va_K D vwCl tys s) (hS : va_S A H0 H locs) (hA : ∀ q, H0.size ≤ q → A q) (hv : hV s)
    (hn : As.length = n) (hsz : ls.size = nL) (hst : st0 = As.reverse ++ rest) (hcat : (rest.map fun v => v.category).sum ≤ 8) (hdg : decode cc pc = .ok (.invokestatic index, 3)) (hroom : cells ≤ R.cells ∧ slots ≤ R.slots)
    (kk : ∀ (H1 : Heap) (locs1 : List Loc), (∀ w : va_W, va_P D vwCl w H → va_P D vwCl w H1) → H.size ≤ H1.size → (∀ q : Nat, q < H.size → H1[q]? = H[q]?) → va_S A H0 H1 locs1 → W p l e R s m args below meth c H1 locs1 cells slots Q (F0 m (pc + 3) ls (.int r :: rest))) : W p l e R s m args below meth c H locs cells slots Q (F0 m pc ls st0) := by
  have hFc : ∀ q, va_A [] H.size q → A q := fun q h => hA q (by
    rcases h with ⟨k, e1, h⟩ | h
    · simp at h
    · exact Nat.le_trans hS.1 h)
  refine va_calli (va_runS (As := As) (rest := rest) S (hM H.size) cw ⟨h_blind, fun U hU hW => ⟨rfl, by rw [hU], fun k q h => by simp at h, va_K.moved hW.alike (hK.sub (tys' := []) [] rfl), ⟨fun i j p q h => by simp at h, fun k q h => by simp at h⟩, hV.warm hW hv⟩⟩ rfl hn hsz hst (lv_room hcat) hdg hroom) hS (fun q _ h => hFc q h) hFc (fun r1 u t H1 locs1 ht hvm hw hB hz1 hk1 hS1 => ?_)
  have hk2 : ∀ q : Nat, q < H.size → H1[q]? = H[q]? := fun q hq => hk1 q hq (fun h => by
    rcases h with ⟨k, e1, h⟩ | h
    · simp at h
    · exact absurd hq (Nat.not_lt.mpr h))
  rw [hw]
  exact kk H1 locs1 (fun w h => h.kept (fun k q hk => hk2 _ (vx_lt h hk))) hz1 hk2 hS1
end Calls
end HE
section HW
variable {p : Program} {l : Launch} {e : Env} {R : Room} {s : State} {m : MethodId} {args : Array Value} {below : List Frame} {meth : Method} {c : Code} {H : Heap} {locs : List Loc} {cells slots : Nat} {Q : State → Prop}
variable {A : Nat → Prop} {H0 : Heap} {cc : ByteArray} {D : va_G} {cl : List vw_C} {tys : List (ClassId × FieldType)} {ws : va_W} {ls : Array Slot} {pc : Nat} {rest : List Value} {a : Nat}
theorem hw_i {x y : Int32} (h : x = y) (k : W p l e R s m args below meth c H locs cells slots Q (F0 m pc ls (.int y :: rest))) : W p l e R s m args below meth c H locs cells slots Q (F0 m pc ls (.int x :: rest)) := h ▸ k
theorem hw_l {x y : Int64} (h : x = y) (k : W p l e R s m args below meth c H locs cells slots Q (F0 m pc ls (.long y :: rest))) : W p l e R s m args below meth c H locs cells slots Q (F0 m pc ls (.long x :: rest)) := h ▸ k
theorem h_in {k n : Nat} (hk : k < n) (hn : n < 2 ^ 31) : vp_in (nI k) n := vp_in_nI hk hn
theorem h_iald (hexec : p.tables.exec = Jvm.exec) (hb : c.code = cc) (hK : va_K D cl tys s) (hP : va_P D cl ws H) (q0 t0 : Nat) {cA : ClassId} {n k : Nat} {f : Nat → Int32} (ha : ws[q0]? = some (a, .inl (cA, n, .inl f))) (ht : tys[t0]? = some (cA, .int)) (hn : n < 2 ^ 31) (hk : k < n) (hdg : decode cc pc = .ok (.iaload, 1))
    (kk : W p l e R s m args below meth c H locs cells slots Q (F0 m (pc + 1) ls (.int (f k) :: rest))) : W p l e R s m args below meth c H locs cells slots Q (F0 m pc ls (.int (nI k) :: .ref a :: rest)) :=
  va_iald hexec hb hK hP q0 t0 ha ht (vp_in_nI hk hn) hdg (hw_i (by rw [nI_clamp (Nat.lt_trans hk hn)]) kk)
theorem h_lald (hexec : p.tables.exec = Jvm.exec) (hb : c.code = cc) (hK : va_K D cl tys s) (hP : va_P D cl ws H) (q0 t0 : Nat) {cA : ClassId} {n k : Nat} {f : Nat → Int64} (ha : ws[q0]? = some (a, .inl (cA, n, .inr (.inl f)))) (ht : tys[t0]? = some (cA, .long)) (hn : n < 2 ^ 31) (hk : k < n) (hdg : decode cc pc = .ok (.laload, 1))
    (kk : W p l e R s m args below meth c H locs cells slots Q (F0 m (pc + 1) ls (.long (f k) :: rest))) : W p l e R s m args below meth c H locs cells slots Q (F0 m pc ls (.int (nI k) :: .ref a :: rest)) :=
  va_lald hexec hb hK hP q0 t0 ha ht (vp_in_nI hk hn) hdg (hw_l (by rw [nI_clamp (Nat.lt_trans hk hn)]) kk)
theorem h_iast (hexec : p.tables.exec = Jvm.exec) (hb : c.code = cc) (hK : va_K D cl tys s) (hP : va_P D cl ws H) (hD : va_D A ws) (hS : va_S A H0 H locs) (q0 t0 : Nat) {cA : ClassId} {n k : Nat} {f : Nat → Int32} (ha : ws[q0]? = some (a, .inl (cA, n, .inl f))) (ht : tys[t0]? = some (cA, .int)) {x : Int32} (hn : n < 2 ^ 31) (hk : k < n) (hdg : decode cc pc = .ok (.iastore, 1))
    (kk : ∀ (H1 : Heap) (locs1 : List Loc), va_P D cl (ws.set q0 (a, .inl (cA, n, .inl (upd f k x)))) H1 → va_D A (ws.set q0 (a, .inl (cA, n, .inl (upd f k x)))) → va_S A H0 H1 locs1 → W p l e R s m args below meth c H1 locs1 cells slots Q (F0 m (pc + 1) ls rest)) : W p l e R s m args below meth c H locs cells slots Q (F0 m pc ls (.int x :: .int (nI k) :: .ref a :: rest)) :=
  va_iast hexec hb hK hP hD hS q0 t0 ha ht (vp_in_nI hk hn) hdg (by rw [nI_clamp (Nat.lt_trans hk hn)]; exact kk)
theorem h_last (hexec : p.tables.exec = Jvm.exec) (hb : c.code = cc) (hK : va_K D cl tys s) (hP : va_P D cl ws H) (hD : va_D A ws) (hS : va_S A H0 H locs) (q0 t0 : Nat) {cA : ClassId} {n k : Nat} {f : Nat → Int64} (ha : ws[q0]? = some (a, .inl (cA, n, .inr (.inl f)))) (ht : tys[t0]? = some (cA, .long)) {x : Int64} (hn : n < 2 ^ 31) (hk : k < n) (hdg : decode cc pc = .ok (.lastore, 1))
    (kk : ∀ (H1 : Heap) (locs1 : List Loc), va_P D cl (ws.set q0 (a, .inl (cA, n, .inr (.inl (vp_updL f k x))))) H1 → va_D A (ws.set q0 (a, .inl (cA, n, .inr (.inl (vp_updL f k x))))) → va_S A H0 H1 locs1 → W p l e R s m args below meth c H1 locs1 cells slots Q (F0 m (pc + 1) ls rest)) : W p l e R s m args below meth c H locs cells slots Q (F0 m pc ls (.long x :: .int (nI k) :: .ref a :: rest)) :=
  va_last hexec hb hK hP hD hS q0 t0 ha ht (vp_in_nI hk hn) hdg (by rw [nI_clamp (Nat.lt_trans hk hn)]; exact kk)
end HW
/-! numbers -/
theorem hl_gt {x y : Int64} : lg_cmp x y = 1 ↔ y < x := by
  unfold lg_cmp; by_cases h1 : y < x <;> by_cases h2 : x = y <;> simp [h1, h2]
theorem hl_eq {x y : Int64} : lg_cmp x y = 0 ↔ x = y := by
  unfold lg_cmp
  by_cases h1 : y < x
  · have : ¬ x = y := fun h => by rw [h] at h1; exact absurd h1 (Int64.lt_irrefl)
    simp [h1, this]
  · by_cases h2 : x = y <;> simp [h1, h2]
theorem hl_ge {x y : Int64} : 0 ≤ lg_cmp x y ↔ ¬ x < y := by
  unfold lg_cmp
  by_cases h1 : y < x
  · have : ¬ x < y := fun h => absurd (Int64.lt_trans h h1) Int64.lt_irrefl
    simp [h1, this]
  · by_cases h2 : x = y
    · subst h2; simp [h1]
    · have : x < y := by
        rcases Int64.lt_or_lt_of_ne h2 with h | h
        · exact h
        · exact absurd h h1
      simp [h1, h2, this]
theorem nI_1' : nI 1 = 1 := by decide +kernel
theorem nI_200 : (200 : Int32) = nI 200 := by decide +kernel
theorem h_sub1 {a : Nat} (h : 1 ≤ a) : nI a - 1 = nI (a - 1) := pk_sub (a := a) (b := 1) h
end
section
/-! The rules of what throws: a call of a method that always throws, its passing on, 'throw new E(text)', a helper of the law that catches. -/
section HX
variable {p : Program} {l : Launch} {e : Env} {R : Room} {s : State} {m : MethodId} {args : Array Value} {below : List Frame} {meth : Method} {c : Code} {H : Heap} {locs : List Loc} {cells slots : Nat} {Q : State → Prop}
variable {A : Nat → Prop} {H0 : Heap} {cc : ByteArray} {D : va_G} {tys tysC : List (ClassId × FieldType)} {w w0 w1 wc wr w' : va_W} {ls : Array Slot} {pc : Nat} {rest st0 : List Value}
variable {y : MethodName} {bytes : ByteArray} {maxL nL n index : Nat} {ret : Option FieldType} {ws : List Cond} {rm : Room} {Ts : List Cond} {own C : String} {b : Addr} {As av : List Value} {E : String}
theorem hx_call (hr : vx_Run p l e R s m args below meth c H locs cells slots 1 6 (F0 m pc ls st0) rest (fun _ _ _ => False) (hQX E H.size) (fun q => H.size ≤ q)) (hS : va_S A H0 H locs) (hA : ∀ q, H0.size ≤ q → A q)
    (kx : ∀ (ce : Cell) (q9 : Addr) (H1 : Heap) (locs1 : List Loc), H.size ≤ H1.size → (∀ q : Nat, q < H.size → H1[q]? = H[q]?) → va_S A H0 H1 locs1 → H1[q9]? = some ce → ce.vm = .none → s.vm.findClass E = some ce.cls → vx_W p l e R s m args below meth c H1 locs1 (cells + 1) (slots + 6) Q (F0 m pc ls rest) q9) : W p l e R s m args below meth c H locs cells slots Q (F0 m pc ls st0) := by
  intro T hT X
  rcases hr T hT X with ⟨v, st₀, t, T', L, h0, X', hL, e1, e2, hF, st⟩ | ⟨q, st₀, t, T', L, E', ce, h0, X', hL, e1, e2, ⟨u, hp, hb, hF⟩, hce, hcv, hcl, st⟩
  · exact hF.elim
  · obtain ⟨k1, k2, k3⟩ := vx_keep (A1 := fun q => H.size ≤ q) h0 e1 hS (fun q hq h => absurd hq (Nat.not_lt.mpr h)) (fun q h => hA q (Nat.le_trans hS.1 h)) hL hF
    have hb' : E' = E := hb
    subst hb'
    obtain ⟨t2, a1, b1⟩ := kx ce q T'.heap (locs ++ L) k1 (fun q hq => k2 q hq (Nat.not_le.mpr hq)) k3 (by rw [e1]; exact hce) hcv hcl T' rfl X'
    exact ⟨t2, st.trans a1, b1⟩
theorem h_preX {U : State} {isC isT : List Nat} (h1 : isC.map (fun i => w[i]?) = wc.map some) (n1 : va_nd isC = true) (h4 : isT.filterMap (fun i => tys[i]?) = tysC) (hP : va_P D vwCl w H) (hK : va_K D vwCl tys s) (hD : va_D A w) (hv : hV s) (hU : U.heap = H) (hW : s.WarmedH U.vm) : hPre D tysC wc H.size U :=
  ⟨by rw [hU], by rw [hU]; exact hP.sub isC (fm_of h1), va_K.moved hW.alike (hK.sub isT h4), (hD.sub isC n1 h1).weaken (fun _ _ _ _ => trivial), hV.warm hW hv⟩
/-- a method of this kind calls another one: what is thrown goes on to the caller -/
theorem hX_thruV (S : CallFix p m c cc nL s av.toArray Ts own) (hM : mX l y ws rm (.ref b :: As) D tysC wc E) (cw : CallW R s av.toArray own C index y bytes maxL ret ws rm 1 6 n)
    (hP : va_P D vwCl w H) (hK : va_K D vwCl tys s) (hD : va_D (fun _ => True) w) (hS : va_S (fun q => s.heap.size ≤ q) s.heap H locs) (hv : hV s) (hz : hZ s)
    (isC isT : List Nat) (h1 : isC.map (fun i => w[i]?) = wc.map some) (n1 : va_nd isC = true) (h4 : isT.filterMap (fun i => tys[i]?) = tysC) (q0 ci : Nat) {qc : vw_C} {fs : List Value} (he : w[q0]? = some (b, .inr (ci, fs))) (hci : vwCl[ci]? = some qc) (hC : qc.1 = C)
    (hn : As.length = n) (hsz : ls.size = nL) (hst : st0 = As.reverse ++ .ref b :: rest) (hcat : (rest.map fun v => v.category).sum ≤ 8) (hdg : decode cc pc = .ok (.invokevirtual index, 3)) (hroom : 0 + 1 ≤ R.cells ∧ 0 + 6 ≤ R.slots)
    (hnt : ∀ x ∈ c.exceptionTable.toList, False) (hlocks : meth.locks = false) : W p l e R s m av.toArray below meth c H locs 0 0 (hEX below E s av) (F0 m pc ls st0) := by
  subst hC
  refine hx_call (E := E) (rest := rest) (vx_runV (As := As) (rest := rest) S (hM H.size) cw ⟨h_blindX, va_recv hK hP hci he, fun U hU hW => ⟨rfl, h_preX h1 n1 h4 hP hK hD hv hU hW, hZ.move hW (by rw [hU]; exact hS.1) (fun q hq => by rw [hU]; exact hS.2.1 q hq (Nat.not_le.mpr hq)) hz⟩⟩ rfl hn hsz hst (lv_room hcat) hdg hroom) hS (fun q h => h) (fun ce q9 H1 locs1 hz1 hk hS1 hce hcv hcl => ?_)
  exact vx_out (fun x hx => (hnt x hx).elim) hlocks hce hcv hcl (fun t ht ha => ⟨(), trivial, rfl, hS1.F ht⟩) hS1.2.2 (Nat.le_refl _) (Nat.le_refl _)
theorem hX_thruS (S : CallFix p m c cc nL s av.toArray Ts own) (hM : mX l y ws rm As D [] [] E) (cw : CallB R s av.toArray own index y bytes maxL ret ws rm 1 6 n ∧ (Cond.static y).before av.toArray s = true)
    (hK : va_K D vwCl tys s) (hS : va_S (fun q => s.heap.size ≤ q) s.heap H locs) (hv : hV s) (hz : hZ s)
    (hn : As.length = n) (hsz : ls.size = nL) (hst : st0 = As.reverse ++ rest) (hcat : (rest.map fun v => v.category).sum ≤ 8) (hdg : decode cc pc = .ok (.invokestatic index, 3)) (hroom : 0 + 1 ≤ R.cells ∧ 0 + 6 ≤ R.slots)
    (hnt : ∀ x ∈ c.exceptionTable.toList, False) (hlocks : meth.locks = false) : W p l e R s m av.toArray below meth c H locs 0 0 (hEX below E s av) (F0 m pc ls st0) := by
  refine hx_call (E := E) (rest := rest) (vx_runS (As := As) (rest := rest) S (hM H.size) cw ⟨h_blindX, fun U hU hW => ⟨rfl, ⟨by rw [hU], fun k q h => by simp at h, va_K.moved hW.alike (hK.sub (tys' := []) [] rfl), ⟨fun i j p q h => by simp at h, fun k q h => by simp at h⟩, hV.warm hW hv⟩, hZ.move hW (by rw [hU]; exact hS.1) (fun q hq => by rw [hU]; exact hS.2.1 q hq (Nat.not_le.mpr hq)) hz⟩⟩ rfl hn hsz hst (lv_room hcat) hdg hroom) hS (fun q h => h) (fun ce q9 H1 locs1 hz1 hk hS1 hce hcv hcl => ?_)
  exact vx_out (fun x hx => (hnt x hx).elim) hlocks hce hcv hcl (fun t ht ha => ⟨(), trivial, rfl, hS1.F ht⟩) hS1.2.2 (Nat.le_refl _) (Nat.le_refl _)
theorem hX_throw {text : String} {names : List String} {ik is ic : Nat} (hx : p.tables.exec = Jvm.exec) (hb : c.code = cc) (hl : l.stackTraces = false) (hown : s.vm.findClass own = some m.cls) (hcls : Bundle.fit E = true) (hnames : ∀ n ∈ names, Bundle.fit n = true)
    (hts : ∀ w ∈ Ts, w.before av.toArray s = true) (hin : ∀ w ∈ Cond.classLink own ik E :: Cond.initialized E :: (vx_atS own ic E names).filter goodWord, w ∈ Ts) (hcast : va_Nw (.castable E E) s) (hbad : ∀ w ∈ (vx_atS own ic E names).filter (fun w => !goodWord w), w ∈ [Cond.castable E E])
    (hgood : ∀ w ∈ Cond.classLink own ik E :: Cond.initialized E :: vx_atS own ic E names, vx_ot w = true) (hstr : ∃ sa, vk_R own is text sa s) (hz : hZ s) (hS : va_S (fun q => s.heap.size ≤ q) s.heap H locs) (hsize : ls.size = c.maxLocals)
    (d0 : decode cc pc = .ok (.new ik, 3)) (d3 : decode cc (pc + 3) = .ok (.dup, 1)) (d4 : decode cc (pc + 4) = .ok (.ldc is, 2)) (d6 : decode cc (pc + 6) = .ok (.invokespecial ic, 3)) (d9 : decode cc (pc + 9) = .ok (.athrow, 1))
    (hnt : ∀ x ∈ c.exceptionTable.toList, False) (hR : names.length + 3 < R.frames ∧ (rest.map fun v => v.category).sum + (13 * (names.length + 1) + 43) ≤ R.locals ∧ 0 + 1 ≤ R.cells ∧ 0 + 6 ≤ R.slots) (hlocks : meth.locks = false) :
    W p l e R s m av.toArray below meth c H locs 0 0 (hEX below E s av) (F0 m pc ls rest) := by
  obtain ⟨sa, hstr⟩ := hstr
  have hat : ∀ w ∈ vx_atS own ic E names, w.before av.toArray s = true := vx_hat (B := [Cond.castable E E]) (fun w hw => hts w (hin w (List.mem_cons_of_mem _ (List.mem_cons_of_mem _ hw)))) hbad (vx_c (va_Nw.use rfl hcast) vx_n)
  exact vx_throwS (A := fun q => s.heap.size ≤ q) hx hb hl hown hcls hnames (hts _ (hin _ List.mem_cons_self)) (hts _ (hin _ (List.mem_cons_of_mem _ List.mem_cons_self))) hstr hat hgood hz.1 hz.2.1 hS hsize d0 d3 d4 d6 d9
    (fun x hx => (hnt x hx).elim) hR.1 hR.2.1 hR.2.2.1 hR.2.2.2 hlocks (fun t ha hz1 hk => ⟨(), trivial, rfl, Nat.le_trans hS.1 hz1, fun q hq hn => by rw [hk q (Nat.lt_of_lt_of_le hq hS.1)]; exact hS.2.1 q hq hn⟩) hS.2.2 (Nat.le_refl _) (Nat.le_refl _)
/-- a helper of the law: it calls, and answers a number whether the callee returns or throws; one new cell at most -/
def mH (l : Launch) (y : MethodName) (ws : List Cond) (rm : Room) (av : List Value) (D : va_G) (tys : List (ClassId × FieldType)) (w0 w1 : va_W) (r : Int32) : Prop := ∀ sz : Nat, Met l y ws rm (va_Pc av (fun U => hPre D tys w0 sz U ∧ hZ U)) (hQI D w1 r (va_A w0 sz)) 1 6 (va_A w0 sz)
theorem hH_body {ws' : List Cond} {hh : List (Nat × Nat × Nat × Nat)} {r : Int32} (hy : plainName y.cls = true) (hw : ws = .codeWith y cc maxL ret hh :: ws') (hn : (lg_sl av).length ≤ maxL)
    (body : ∀ (p : Program) (e : Env) (s : State) (m : MethodId) (below : List Frame) (meth : Method) (c : Code) (A : Nat → Prop) (ls : Array Slot), hAt p s m meth c av cc maxL ret ws y.cls → c.exceptionTable.toList = tableOf hh → hZ s →
      (∀ q, s.heap.size ≤ q → A q) → va_P D vwCl w0 s.heap → va_K D vwCl tys s → va_D A w0 → va_S A s.heap s.heap [] → lv_has ls maxL (lv_args 0 av) →
      W p l e rm s m av.toArray below meth c s.heap [] 0 0 (MQ below (hQI D w1 r A) av.toArray s 1 6 A) (F0 m 0 ls [])) : mH l y ws rm av D tys w0 w1 r := by
  intro sz
  refine va_MetW (cc := cc) (maxL := maxL) (ret := ret) (hh := hh) hy hw ?_
  intro p e s m args below meth c s₁ B hml hv
  obtain ⟨rfl, ⟨hsz, hP, hK, hD0, hV0⟩, hZ0⟩ := hv
  subst hsz
  rw [lg_entry_eq]
  have hts := atoms_spec (ws := ws) B.pre
  exact body p e s m below meth c (va_A w0 s.heap.size) _ ⟨⟨B.exec, B.bytes, hml, findClass_of_methodNamed B.named, hts⟩, B.returns, B.notSynchronized, hV0⟩ (vx_table (x := y) B (hts _ (by rw [hw]; exact List.mem_cons_self))) hZ0 (fun q h => Or.inr h) hP hK (hD0.self (sz := s.heap.size)) va_S.rf (lv_entry av (n := maxL) hn)
theorem hH_iret {ty : FieldType} {v r : Int32} (hx : p.tables.exec = Jvm.exec) (hb : c.code = cc) (hr : meth.sig.returnType = some ty) (hlocks : meth.locks = false) (hn : narrow ty (.int v) = .int v) (hP : va_P D vwCl w1 H) (hD : va_D A w1) (hS : va_S A s.heap H locs) (hv : v = r) (hdg : decode cc pc = .ok (.ireturn, 1)) (h1 : cells ≤ 1) (h2 : slots ≤ 6) :
    W p l e R s m args below meth c H locs cells slots (MQ below (hQI D w1 r A) args s 1 6 A) (F0 m pc ls [.int v]) :=
  W.widen h1 h2 (W.zret hx hb hr hn (fun t ht hW => ⟨⟨v, (), rfl, hv, by rw [ht]; exact hP, hD⟩, hS.F ht⟩) hS.2.2 hdg hlocks)
/-- a call that throws, in a body whose first world stands (heap as at the start) -/
theorem hx_callV (S : CallFix p m c cc nL s args Ts own) (hM : mX l y ws rm (.ref b :: As) D tysC wc E) (cw : CallW R s args own C index y bytes maxL ret ws rm 1 6 n)
    (hP : va_P D vwCl w H) (hK : va_K D vwCl tys s) (hD : va_D A w) (hS : va_S A H0 H locs) (hA : ∀ q, H0.size ≤ q → A q) (hv : hV s) (hz : ∀ U : State, U.heap = H → s.WarmedH U.vm → hZ U)
    (isC isT : List Nat) (h1 : isC.map (fun i => w[i]?) = wc.map some) (n1 : va_nd isC = true) (h4 : isT.filterMap (fun i => tys[i]?) = tysC) (q0 ci : Nat) {qc : vw_C} {fs : List Value} (he : w[q0]? = some (b, .inr (ci, fs))) (hci : vwCl[ci]? = some qc) (hC : qc.1 = C)
    (hn : As.length = n) (hsz : ls.size = nL) (hst : st0 = As.reverse ++ .ref b :: rest) (hcat : (rest.map fun v => v.category).sum ≤ 8) (hdg : decode cc pc = .ok (.invokevirtual index, 3)) (hroom : cells + 1 ≤ R.cells ∧ slots + 6 ≤ R.slots)
    (kx : ∀ (ce : Cell) (q9 : Addr) (H1 : Heap) (locs1 : List Loc), va_P D vwCl w H1 → va_S A H0 H1 locs1 → H1[q9]? = some ce → ce.vm = .none → s.vm.findClass E = some ce.cls → vx_W p l e R s m args below meth c H1 locs1 (cells + 1) (slots + 6) Q (F0 m pc ls rest) q9) : W p l e R s m args below meth c H locs cells slots Q (F0 m pc ls st0) := by
  subst hC
  refine hx_call (E := E) (rest := rest) (vx_runV (As := As) (rest := rest) S (hM H.size) cw ⟨h_blindX, va_recv hK hP hci he, fun U hU hW => ⟨rfl, h_preX h1 n1 h4 hP hK hD hv hU hW, hz U hU hW⟩⟩ rfl hn hsz hst (lv_room hcat) hdg hroom) hS hA (fun ce q9 H1 locs1 hz1 hk hS1 hce hcv hcl => ?_)
  exact kx ce q9 H1 locs1 (hP.kept (fun k q hq => hk _ (vx_lt hP hq))) hS1 hce hcv hcl
/-- a call of a helper -/
theorem hc_H {hh : List (Nat × Nat × Nat × Nat)} {r : Int32} (S : CallFix p m c cc nL s args Ts own) (hM : mH l y ws rm As D tysC wc w1 r) (cw : vx_CSW R s args own index y bytes maxL ret hh ws rm 1 6 n)
    (hP : va_P D vwCl w H) (hK : va_K D vwCl tys s) (hD : va_D A w) (hS : va_S A H0 H locs) (hA : ∀ q, H0.size ≤ q → A q) (hv : hV s) (hz : ∀ U : State, U.heap = H → s.WarmedH U.vm → hZ U)
    (isC isR isJ isT : List Nat) (hc : hCut w wc wr w1 w' tys tysC isC isR isJ isT)
    (hn : As.length = n) (hsz : ls.size = nL) (hst : st0 = As.reverse ++ rest) (hcat : (rest.map fun v => v.category).sum ≤ 8) (hdg : decode cc pc = .ok (.invokestatic index, 3)) (hroom : cells + 1 ≤ R.cells ∧ slots + 6 ≤ R.slots)
    (kk : ∀ (H1 : Heap) (locs1 : List Loc), va_P D vwCl w' H1 → va_D A w' → va_S A H0 H1 locs1 → W p l e R s m args below meth c H1 locs1 (cells + 1) (slots + 6) Q (F0 m (pc + 3) ls (.int r :: rest))) : W p l e R s m args below meth c H locs cells slots Q (F0 m pc ls st0) := by
  have hFc := va_free (wc := wc) hD hS hA isC hc.1
  refine va_calli (vx_runSW (As := As) (rest := rest) S (hM H.size) cw ⟨h_blindX, fun U hU hW => ⟨rfl, h_pre hc hP hK hD hv hU hW, hz U hU hW⟩⟩ rfl hn hsz hst (lv_room hcat) hdg hroom) hS (fun q _ h => hFc q h) hFc (fun r1 u t H1 locs1 ht hvm hw hB hz1 hk1 hS1 => ?_)
  obtain ⟨hP1, hD1⟩ := hB
  rw [ht] at hP1
  obtain ⟨hP2, hD2⟩ := h_back hc hP hD hS hA hk1 hP1 hD1
  rw [hw]
  exact kk H1 locs1 hP2 hD2 hS1
end HX
end
section
/-! 'throw new NoSuchElementException(text)': that class's constructor takes RuntimeException's by the entry 13 of its own file, so the kit's words of a throw (entry 7) don't hold of it. hn_ctor follows the library's ctorThrowS (BundleOwnThrow) with the chain's first link its own; hn_throw follows the kit's vx_throwS. -/
abbrev hNS : String := "java/util/NoSuchElementException"
section HN
variable {p : Program} {l : Launch} {e : Env} {R : Room} {s : State} {m : MethodId} {args : Array Value} {below : List Frame} {meth : Method} {c : Code} {W : State} {locs : List Loc} {cells slots : Nat}
set_option maxHeartbeats 2000000 in
theorem hn_ctor (X : Stand p l e R s m args below meth c W locs cells slots) (hexec : p.tables.exec = Jvm.exec) (htr : e.platform.stackTraces = false) {own : String} {ic : Nat}
    (hown : s.vm.findClass own = some m.cls) (h : ∀ a ∈ hn_own own ic, a.before args s = true) (hlocs : ∀ x ∈ locs, ∀ cell, s.heap[x.base]? = some cell → cell.vm.isStatics = false)
    {a : Addr} {cX : ClassId} {kX : Class} (hfoundX : s.vm.findClass hNS = some cX) (hkX : s.vm.classes[cX]? = some kX) (hcell : W.heap[a]? = some (freshCell cX kX)) (hnew : s.heap.size ≤ a) {msg : Value} (hmsg : msg.isRef = true)
    {g : JFrame} (hg : g.method = m) (hsize : g.locals.size = c.maxLocals) (hlocked : g.locked = none) (hentered : g.entered = []) {rest : List Value} (hstack : g.stack = msg :: .ref a :: .ref a :: rest)
    (hd6 : decode c.code g.pc = .ok (.invokespecial ic, 3)) (hd9 : decode c.code (g.pc + 3) = .ok (.athrow, 1)) (hout : ∀ x ∈ c.exceptionTable.toList, covers x (g.pc + 3) = false)
    (hRframes : 2 + 3 < R.frames) (hRlocals : 2 * g.monitorRoom + ((Value.ref a :: rest).map fun v => v.category).sum + (13 * (2 + 1) + 42) ≤ R.locals) (hlocks : meth.locks = false) :
    ∃ U : State, Steps p.tables e below (W.setTop g) U ∧ U.status = .running ∧ Ended U below (.threw a) ∧ s.WarmedH U.vm ∧ s.sameButNew ({ U with vm := s.vm } : State) locs cells slots ∧ ∃ ce, U.heap[a]? = some ce ∧ ce.vm = .none ∧ s.vm.findClass hNS = some ce.cls := by
  have howns : e.platform.frameOwnsMonitors = true := by rw [X.admits.platform]
  have hfin : e.platform.finalization = false := by rw [X.admits.platform]
  have hpl : e.platform.magicAccessors = ({} : Platform).magicAccessors := by rw [X.admits.platform]
  have a' : ∀ x, x ∈ hn_own own ic → x.holds args s none s [] = true := fun x hx => h x hx
  obtain ⟨T, Z0, L, -, Y⟩ := ThrowableC.of_atoms (args := args) howns hfin hpl (fun x hx => h x (by simp [hn_own, hx]))
  obtain ⟨Z, M, LZ, LM, hnZ⟩ := Init0T.ofS_atoms (args := args) hpl L Y (fun x hx => h x (by simp [hn_own, hx]))
  obtain ⟨P2, Ps, hlen, L2, hL, hP2m, hlink1, hlink⟩ := Bundle.chainS (args := args) hpl hnZ ["java/lang/Exception"] "java/lang/RuntimeException" (by decide +kernel) (by decide +kernel) (fun x hx => h x (by simp [hn_own, hx]))
  obtain ⟨P1, L1, hP1m, hP1s⟩ := PassC.ofS_atoms (args := args) (s := s) hpl (X := hNS) (Y := "java/lang/RuntimeException") (index := 13) (bytes := prog_15_method_4_code) (by decide +kernel) (by decide +kernel) (by decide +kernel) (by decide +kernel) (by decide +kernel) (by decide +kernel) (fun x hx => h x (by simp [hn_own, hNS] at hx ⊢; simp [hx]))
  have hfound : s.vm.findClass hNS = some P1.m.cls := findClass_of_methodNamed hP1m
  cases Option.some.inj (hfoundX.symm.trans hfound)
  obtain ⟨c1, kX', hc1, hk, hord, -, -, hn6⟩ := Cond.instantiable_spec (a' (.instantiable hNS 6) (by simp [hn_own]))
  cases Option.some.inj (hc1.symm.trans hfound)
  cases Option.some.inj (hkX.symm.trans hk)
  have hsel0 : selectMethod e.platform s.vm P1.m.cls T.fill0 = .method T.fill0 := by
    obtain ⟨c2, r2, m2, q1, q2, q3, q4, -⟩ := Cond.selects_spec (a' (.selects hNS Bundle.tFill0 Bundle.tFill0) (by simp [hn_own]))
    cases Option.some.inj (q1.symm.trans hfound)
    cases Option.some.inj (q2.symm.trans (State.methodFound?_of_named Y.fill0 (by decide)))
    cases Option.some.inj (q3.symm.trans Y.fill0)
    rw [Launch.admits_selectMethod X.admits]; exact q4
  have hselF : selectMethod e.platform s.vm P1.m.cls T.fill = .method T.fill := by
    obtain ⟨c2, r2, m2, q1, q2, q3, q4, -⟩ := Cond.selects_spec (a' (.selects hNS Bundle.tFill Bundle.tFill) (by simp [hn_own]))
    cases Option.some.inj (q1.symm.trans hfound)
    cases Option.some.inj (q2.symm.trans (State.methodFound?_of_named Y.fill (by decide)))
    cases Option.some.inj (q3.symm.trans Y.fill)
    rw [Launch.admits_selectMethod X.admits]; exact q4
  obtain ⟨cS0, hcS0, hiss⟩ := Y.statics
  obtain ⟨u0, hu0⟩ := Cond.staticRefV Y.unassigned L.unassignedStatic L.statics hcS0 hiss (a' (.isRef (.static Bundle.tN "UNASSIGNED_STACK" Bundle.steD)) (by simp [hn_own]))
  obtain ⟨sen, hsen⟩ := Cond.staticRefV Y.sentinel L.sentinelStatic L.statics hcS0 hiss (a' (.isRef (.static Bundle.tN "SUPPRESSED_SENTINEL" Bundle.listD)) (by simp [hn_own]))
  obtain ⟨ci198, i198, fB, hk198, hg198, ha198, hsB, -, hnB, htB, hffB⟩ := Cond.ownField (t := .object "java/lang/Object") Y.found L.cls (by decide +kernel) (a' (.fieldLink Bundle.tN 198 Bundle.tN "backtrace" "Ljava/lang/Object;") (by simp [hn_own])) (a' (.lays Bundle.tN Bundle.tN "backtrace" "Ljava/lang/Object;") (by simp [hn_own])) e.platform hpl
  obtain ⟨cS, hcS', heS, -, hkeep⟩ := X.same.2.2.2.2.2 T.aS cS0 hcS0
  have hcS : W.heap[T.aS]? = some cS := hcS'
  have hout' : ∀ i, (⟨T.aS, i⟩ : Loc) ∉ locs := fun i hmem => by
    have := hlocs _ hmem cS0 hcS0
    rw [hiss] at this; cases this
  have hknownS : cS.vm ≠ .unknown := by
    rw [heS]; intro hu
    rw [show cS0.vm = .unknown from hu] at hiss
    cases hiss
  have hneS : T.aS ≠ a := Nat.ne_of_lt (Nat.lt_of_lt_of_le (Array.getElem?_eq_some_iff.mp hcS0).1 hnew)
  obtain ⟨iM, hffM⟩ := Y.msg
  obtain ⟨tyC, dC, hdC, hdnC⟩ := Cond.laysAt hfound hk Y.cause (a' (.lays hNS Bundle.tN "cause" "Ljava/lang/Throwable;") (by simp [hn_own]))
  obtain ⟨tyS, dS, hdS, hdnS⟩ := Cond.laysAt hfound hk Y.stack (a' (.lays hNS Bundle.tN "stackTrace" Bundle.steD) (by simp [hn_own]))
  obtain ⟨tyP, dP, hdP, hdnP⟩ := Cond.laysAt hfound hk Y.supp (a' (.lays hNS Bundle.tN "suppressedExceptions" Bundle.listD) (by simp [hn_own]))
  obtain ⟨tyM, dM, hdM, hdnM⟩ := Cond.laysAt hfound hk hffM (a' (.lays hNS Bundle.tN "detailMessage" "Ljava/lang/String;") (by simp [hn_own]))
  obtain ⟨tyB, dB, hdB, hdnB⟩ := Cond.laysAt hfound hk hffB (a' (.lays hNS Bundle.tN "backtrace" "Ljava/lang/Object;") (by simp [hn_own]))
  have bC := Cond.laysApart hdB hdC hdnB hdnC (by rw [hnB, Y.causeName]; decide)
  have bS := Cond.laysApart hdB hdS hdnB hdnS (by rw [hnB, Y.stackName]; decide)
  have bP := Cond.laysApart hdB hdP hdnB hdnP (by rw [hnB, Y.suppName]; decide)
  have hskip : SkipFacts T e.platform s (fun u => u) u0 ((preparedCellV T.toThrowableT (freshCell P1.m.cls kX) a u0 sen).withEntry W.cur) :=
    ⟨{ ci198 := ci198, i198 := i198, fBack := fB }, ⟨hk198, hg198, ha198, hsB⟩, by
      have := fresh_default (c := P1.m.cls) tyB
      rw [htB] at this
      simpa [preparedCellV, Cell.setSlot, Cell.withEntry, Array.getElem?_setIfInBounds, bC, bS, bP, bC.symm, bS.symm, bP.symm, defaultValue] using this, fun _ _ => rfl⟩
  obtain ⟨tm, methC, cdC, kC, vm₁, hnC, -, -, -, -, -, -, -, hW₁, st1⟩ := Steps.initColdS (tb := p.tables) (e := e) (below := below) (s := s) (U := W) X.here hexec X.warmed hpl hown (t := Bundle.initS hNS) rfl rfl (by decide +kernel)
    (a' (.methodLink own ic (Bundle.initS hNS)) (by simp [hn_own])) (h (.instanceMethod (Bundle.initS hNS)) (by simp [hn_own, Bundle.passSAtoms])) (bytes := prog_15_method_4_code) (maxL := 2) (h (.code (Bundle.initS hNS) prog_15_method_4_code 2 none) (by simp [hn_own, Bundle.passSAtoms]))
    (f := g) hg (a := a) (msg := msg) (rest := .ref a :: rest) hstack hd6
  cases Option.some.inj (hnC.symm.trans hP1m)
  have X₁ := X.noted hW₁
  obtain ⟨vm₂, X₂, st2⟩ := X₁.ctorMessageOffV hexec (g := { g with stack := .ref a :: rest }) hg hsize T L Z LZ M LM (P1 :: P2 :: Ps)
    (fun P hP => by
      rcases List.mem_cons.mp hP with rfl | hP
      · exact L1
      · rcases List.mem_cons.mp hP with rfl | hP
        · exact L2
        · exact hL P hP) ⟨Option.some.inj (hP1s.symm.trans hP2m), hlink1, hlink⟩ (u0 := u0) (sen := sen) (self := a) hmsg (cell := freshCell P1.m.cls kX) (cellS := cS)
    hcell (fun _ => by simp) (by simp) rfl rfl hsel0 hselF hcS hneS hknownS (by rw [hkeep _ (hout' _)]; exact hu0) (by rw [hkeep _ (hout' _)]; exact hsen)
    (Takes.of_laid hk hord tyC (by rw [Y.causeType]; rfl)) (Takes.of_laid hk hord tyS (by rw [Y.stackType]; exact fits_refV_array _ u0)) (Takes.of_laid hk hord tyP (by rw [Y.suppType]; exact fits_refV_object _ sen))
    (Takes.of_laid hk hord tyM (by rw [Y.msgType]; exact fits_refV_object _ ⟨msg, hmsg⟩)) Y.objLocals hskip htr [] hd6
    (by simp only [List.length_cons, hlen]; exact hRframes) (by simp only [List.length_cons, hlen]; exact hRlocals)
  obtain ⟨hwalk, hrun, hended, hWU, hsame⟩ := X₂.athrowLeaves hexec (g := { g with stack := .ref a :: rest, pc := g.pc + 3 }) hg hlocked hentered hout (a := a) (rest := rest) rfl hd9
  have hlt : a < ((W.setVm vm₁).setVm vm₂).heap.size := (Array.getElem?_eq_some_iff.mp hcell).1
  have hU := heapAt_setCell_self (s := (W.setVm vm₁).setVm vm₂) (plainBareV T.toThrowableT (freshCell P1.m.cls kX) a u0 sen msg) hlt
  refine ⟨_, st1 _ (fun acts => ?_), hrun, hended, hWU, hsame.weaken (fun y hy hlt' => ?_) (Nat.le_refl _) (Nat.le_refl _), _, hU, rfl, hfound⟩
  · rw [doInvoke_state]
    exact st2 _ hwalk
  · rcases List.mem_append.mp hy with h1 | h1
    · exact h1
    · exfalso
      have hb : y.base = a := by
        simp only [List.mem_cons, List.not_mem_nil, or_false] at h1
        rcases h1 with rfl | rfl | rfl | rfl | rfl <;> rfl
      rw [hb] at hlt'
      exact Nat.not_lt.mpr hnew hlt'
end HN
section HN2
variable {p : Program} {l : Launch} {e : Env} {R : Room} {s : State} {m : MethodId} {below : List Frame} {meth : Method} {c : Code} {H : Heap} {locs : List Loc} {ls : Array Slot} {pc : Nat} {rest : List Value} {av : List Value} {Ts : List Cond} {own : String} {cc : ByteArray}
theorem hn_throw {text : String} {ik is ic : Nat} (hx : p.tables.exec = Jvm.exec) (hb : c.code = cc) (hl : l.stackTraces = false) (hown : s.vm.findClass own = some m.cls)
    (hts : ∀ w ∈ Ts, w.before av.toArray s = true) (hin : ∀ w ∈ Cond.classLink own ik hNS :: Cond.initialized hNS :: (hn_atS own ic).filter goodWord, w ∈ Ts) (hcast : va_Nw (.castable hNS hNS) s) (hbad : ∀ w ∈ (hn_atS own ic).filter (fun w => !goodWord w), w ∈ [Cond.castable hNS hNS])
    (hgood : ∀ w ∈ Cond.classLink own ik hNS :: Cond.initialized hNS :: hn_atS own ic, vx_ot w = true) (hstr : ∃ sa, vk_R own is text sa s) (hz : hZ s) (hS : va_S (fun q => s.heap.size ≤ q) s.heap H locs) (hsize : ls.size = c.maxLocals)
    (d0 : decode cc pc = .ok (.new ik, 3)) (d3 : decode cc (pc + 3) = .ok (.dup, 1)) (d4 : decode cc (pc + 4) = .ok (.ldc is, 2)) (d6 : decode cc (pc + 6) = .ok (.invokespecial ic, 3)) (d9 : decode cc (pc + 9) = .ok (.athrow, 1))
    (hnt : ∀ x ∈ c.exceptionTable.toList, False) (hR : 2 + 3 < R.frames ∧ (rest.map fun v => v.category).sum + (13 * (2 + 1) + 44) ≤ R.locals ∧ 0 + 1 ≤ R.cells ∧ 0 + 6 ≤ R.slots) (hlocks : meth.locks = false) :
    W p l e R s m av.toArray below meth c H locs 0 0 (hEX below hNS s av) (F0 m pc ls rest) := by
  obtain ⟨sa, hstr⟩ := hstr
  have hat : ∀ w ∈ hn_atS own ic, w.before av.toArray s = true := vx_hat (B := [Cond.castable hNS hNS]) (fun w hw => hts w (hin w (List.mem_cons_of_mem _ (List.mem_cons_of_mem _ hw)))) hbad (vx_c (va_Nw.use rfl hcast) vx_n)
  have hk := hts _ (hin _ List.mem_cons_self)
  have hini := hts _ (hin _ (List.mem_cons_of_mem _ List.mem_cons_self))
  have hU := hz.1
  have hN := hz.2.1
  intro T hT X
  have htr : e.platform.stackTraces = false := (show e.platform.stackTraces = l.stackTraces by rw [X.admits.platform]).trans hl
  have Y := vx_rebase X (R' := { frames := R.frames, locals := R.locals, cells := 1, slots := 6 }) (Nat.le_refl _) (Nat.le_refl _) hR.2.2.1 hR.2.2.2
  obtain ⟨s', hA⟩ : ∃ z, z = (T.setVm s.vm).setFrames (.invoking m av.toArray :: below) := ⟨_, rfl⟩
  rw [← hA] at Y
  have hvm : s'.vm = s.vm := by rw [hA]; rfl
  have hhp : s'.heap = H := by rw [hA]; exact hT
  have hW0 : s.WarmedH s'.vm := by rw [hvm]; exact State.WarmedH.refl s
  have hat' : ∀ w ∈ hn_atS own ic, w.before av.toArray s' = true := fun w hw => vx_ot_at hW0 hvm.symm (hgood w (List.mem_cons_of_mem _ (List.mem_cons_of_mem _ hw))) (hat w hw)
  have hk' : (Cond.classLink own ik hNS).before av.toArray s' = true := vx_ot_at hW0 hvm.symm (hgood _ List.mem_cons_self) hk
  have hini' : (Cond.initialized hNS).before av.toArray s' = true := vx_ot_at hW0 hvm.symm (hgood _ (List.mem_cons_of_mem _ List.mem_cons_self)) hini
  have hU' : vx_Zq Bundle.tN "UNASSIGNED_STACK" Bundle.steD (fun q => s.heap.size ≤ q) s' s'.heap := by rw [hhp]; exact vx_Zq.moved hW0.alike (hU.kept hS.2.1)
  have hN' : vx_Zq Bundle.tN "SUPPRESSED_SENTINEL" Bundle.listD (fun q => s.heap.size ≤ q) s' s'.heap := by rw [hhp]; exact vx_Zq.moved hW0.alike (hN.kept hS.2.1)
  have h : ∀ w ∈ hn_own own ic, w.before av.toArray s' = true := vx_own hat' (vx_isRefq hU'.1) (vx_isRefq hN'.1) hU'.2.word hN'.2.word
  have hown' : s'.vm.findClass own = some m.cls := by rw [hvm]; exact hown
  have hins : (Cond.instantiable hNS 6).before av.toArray s' = true := h _ (by simp [hn_own])
  obtain ⟨vm₁, cX, kX, hfX, hkX, -, -, X₁, st1⟩ := Y.newCold hx (own := own) (C := hNS) (index := ik) (n := 6) hown' hk' hins hini'
    (g := F0 m pc ls rest) rfl (by rw [hb]; exact d0) (Nat.le_refl _) (Nat.le_refl _)
  generalize hT1 : (T.setVm vm₁).pushCell { cls := cX, slots := kX.instanceTypes.map defaultValue, vm := .none } = T1 at X₁ st1
  have hcat : (Value.ref T.heap.size).category = 1 := rfl
  have hcellA : T1.heap[T.heap.size]? = some (freshCell cX kX) := by rw [← hT1]; exact State.heap_pushCell_size _ _
  have d3' : decode c.code (pc + 3) = .ok (.dup, 1) := by rw [hb]; exact d3
  have d4' : decode c.code (pc + 4) = .ok (.ldc is, 2) := by rw [hb]; exact d4
  have hstr' : vk_R own is text sa s' := vk_R.warm hW0 hstr
  obtain ⟨U, hsteps, hrun, hend, hW, hsame, ce, hce, hcv, hcl0⟩ := hn_ctor X₁ hx htr (own := own) (ic := ic) hown' h (fun x hx => nomatch hx) hfX hkX hcellA (by rw [hhp, hT]; exact Nat.le_refl _) (msg := .ref sa) rfl
    (g := { method := m, pc := pc + 6, locals := ls, stack := .ref sa :: .ref T.heap.size :: .ref T.heap.size :: rest, locked := none }) rfl hsize rfl rfl (rest := rest) rfl
    (by rw [hb]; exact d6) (by rw [hb]; exact d9) (fun x hx => (hnt x hx).elim) hR.1 (by have := hR.2.1; simp only [List.map_cons, List.sum_cons, hcat]; omega) hlocks
  obtain ⟨f1, f2⟩ := vx_frame hsame
  rw [hhp] at f1 f2
  have hWs : s.WarmedH U.vm := State.WarmedH.trans hW0 hW
  have hcl : s.vm.findClass hNS = some ce.cls := by
    rw [hvm] at hcl0
    exact hcl0
  have hall : s.sameButNew ({ U with vm := s.vm } : State) locs 1 6 := by
    subst hA
    obtain ⟨e1, e2⟩ := hsame
    rw [State.setFrames_setFrames] at e1
    have h2 : (T.setVm s.vm).sameButNew ({ U with vm := s.vm } : State) [] (0 + 1) (0 + 6) := ⟨e1, e2⟩
    have h3 := X.same.trans h2
    rw [List.append_nil] at h3
    exact h3
  refine ⟨U, ?_, .threw T.heap.size, hrun, hend, Or.inr ⟨T.heap.size, rfl, hNS, ce, locs, ⟨(), trivial, rfl, Nat.le_trans hS.1 f1, fun q hq hn => by rw [f2 q (Nat.lt_of_lt_of_le hq hS.1) (fun z hz => nomatch hz)]; exact hS.2.1 q hq hn⟩, hce, hcv, hcl, hWs, hall, hS.2.2⟩⟩
  refine st1 _ ?_
  show Steps p.tables e below (T1.setTop { method := m, pc := pc + 3, locals := ls, stack := .ref T.heap.size :: rest, locked := none }) _
  jvm_step X₁.here [X₁.here.top, hx, d3', Value.category]
  exact X₁.ldcString hx (own := own) (text := text) (index := is) (a := sa) hown' hstr'.1 hstr'.2
    (g := { method := m, pc := pc + 4, locals := ls, stack := .ref T.heap.size :: .ref T.heap.size :: rest, locked := none }) rfl d4' _ hsteps
end HN2
end
section
/-! What each method does, as functions of the arrays' contents and the counts: each follows its method's own loop. -/
def s_put (v : Int64) : Nat → (Nat → Int64) → (Nat → Int64)
  | 0, f => vp_updL f 0 v
  | n + 1, f => if f n < v then s_put v n (vp_updL f (n + 1) (f n)) else vp_updL f (n + 1) v
def s_fL (f : Nat → Int64) (v : Int64) : Nat → Nat → Option Nat
  | 0, _ => none
  | k + 1, i => if f i = v then some i else s_fL f v k (i + 1)
def s_fI (f : Nat → Int32) (v : Int32) : Nat → Nat → Option Nat
  | 0, _ => none
  | k + 1, i => if f i = v then some i else s_fI f v k (i + 1)
def s_fP (fk ft : Nat → Int32) (a b : Int32) : Nat → Nat → Option Nat
  | 0, _ => none
  | k + 1, i => if fk i = a ∧ ft i = b then some i else s_fP fk ft a b k (i + 1)
def s_o : Option Nat → Int32
  | none => -1
  | some i => nI i
def s_b (x : Bool) : Int32 := if x = true then 1 else 0
def s_rmL (f : Nat → Int64) (p c : Nat) : Nat → Int64 := fun j => if p ≤ j ∧ j + 1 < c then f (j + 1) else f j
def s_rm (f : Nat → Int32) (p c : Nat) : Nat → Int32 := fun j => if p ≤ j ∧ j + 1 < c then f (j + 1) else f j
def s_ins (f : Nat → Int32) (x : Int32) (c : Nat) : Nat → Int32 := fun j => if j = 0 then x else if j ≤ c then f (j - 1) else f j
/-- the shift to the right, from c down to k, without the first place -/
def s_sh (f : Nat → Int32) (k c : Nat) : Nat → Int32 := fun j => if k < j ∧ j ≤ c then f (j - 1) else f j
def s_cmp (x : Int32) : Nat → Nat → Nat → (Nat → Int32) → (Nat → Int32) × Nat
  | 0, _, k, f => (f, k)
  | n + 1, i, k, f => if f i = x then s_cmp x n (i + 1) k f else s_cmp x n (i + 1) (k + 1) (upd f k (f i))
def s_up (f : Nat → Int32) : Nat → Int64
  | 0 => 7
  | n + 1 => 31 * s_up f n + (f n).toInt64
def s_dn (f : Nat → Int32) : Nat → Int64 → Int64
  | 0, a => a
  | n + 1, a => s_dn f n (31 * a + (f n).toInt64)
def s_last (f : Nat → Int32) (x : Int32) : Nat → Option Nat
  | 0 => none
  | n + 1 => if f n = x then some n else s_last f x n
def s_lp (f : Nat → Int32) : Nat → Nat
  | 0 => 0
  | i + 1 => if f (i + 1) < f (s_lp f i) then i + 1 else s_lp f i
def s_lq (fk ft : Nat → Int32) : Nat → Nat
  | 0 => 0
  | i + 1 => if fk (i + 1) < fk (s_lq fk ft i) ∨ (fk (i + 1) = fk (s_lq fk ft i) ∧ ft (s_lq fk ft i) < ft (i + 1)) then i + 1 else s_lq fk ft i
def s_fd (x y : Int64) : Int64 := if x ^^^ y < 0 ∧ ¬ x / y * y = x then x / y - 1 else x / y
def s_fm (x y : Int64) : Int64 := if x ^^^ y < 0 ∧ ¬ x - x / y * y = 0 then x - x / y * y + y else x - x / y * y
def s_rank (k t : Int32) : Int64 := k.toInt64 * 1000 + (nI 999 - t).toInt64
def s_key (r : Int64) : Int32 := (s_fd r 1000).toInt32
def s_tell (r : Int64) : Int64 := (s_key r).toInt64 * 1000 + (999 - s_fm r 1000)
def s_told (fk ft : Nat → Int32) (p : Nat) : Int64 := 1000 * (fk p).toInt64 + (ft p).toInt64
def s_xd (f : Nat → Int64) : Nat → (Nat → Int32) → Nat → (Nat → Int32)
  | 0, g, _ => g
  | n + 1, g, r => s_xd f n (upd g r (f n).toInt32) (r + 1)
def s_xp (f : Nat → Int64) : Nat → (Nat → Int32) → Nat → (Nat → Int32)
  | 0, g, _ => g
  | n + 1, g, r => s_xp f n (upd g r (s_key (f n))) (r + 1)
def s_xa (g : Nat → Int32) (f : Nat → Int64) (c : Nat) : Nat → (Nat → Int64)
  | 0 => f
  | i + 1 => s_put (g i).toInt64 (c + i) (s_xa g f c i)
def s_ma (h g : Nat → Int32) (c : Nat) : Nat → (Nat → Int32)
  | 0 => h
  | i + 1 => upd (s_ma h g c i) (c + i) (g i)
def s_md : Nat → (Nat → Int32) → (Nat → Int32) → Nat → (Nat → Int32) × (Nat → Int32)
  | 0, h, g, _ => (h, g)
  | n + 1, h, g, r => s_md n (s_rm h (s_lp h n) (n + 1)) (upd g r (h (s_lp h n))) (r + 1)
def s_mp : Nat → (Nat → Int32) → (Nat → Int32) → (Nat → Int32) → Nat → (Nat → Int32) × (Nat → Int32) × (Nat → Int32)
  | 0, k, t, g, _ => (k, t, g)
  | n + 1, k, t, g, r => s_mp n (s_rm k (s_lq k t n) (n + 1)) (s_rm t (s_lq k t n) (n + 1)) (upd g r (k (s_lq k t n))) (r + 1)
def s_dl (x : Int32) : Nat → (Nat → Int32) → (Nat → Int32) × Nat
  | 0, g => (g, 0)
  | n + 1, g => match s_fI g x (n + 1) 0 with
    | none => (g, n + 1)
    | some p => s_dl x n (s_rm g p (n + 1))
/-! the worlds -/
abbrev wQ (h a : Nat) (cL : ClassId) (f : Nat → Int64) (c : Nat) : va_W := [(h, .inr (0, [.ref a, .int (nI c)])), (a, .inl (cL, 200, .inr (.inl f)))]
abbrev wR (h a : Nat) (cI : ClassId) (f : Nat → Int32) (c : Nat) : va_W := [(h, .inr (1, [.ref a, .int (nI c)])), (a, .inl (cI, 200, .inl f))]
/-! shifts, a step at a time -/
theorem s_rmL_0 (f : Nat → Int64) (p : Nat) : s_rmL f p (p + 1) = f := by
  funext j; unfold s_rmL; split
  · omega
  · rfl
theorem s_rm_0 (f : Nat → Int32) (p : Nat) : s_rm f p (p + 1) = f := by
  funext j; unfold s_rm; split
  · omega
  · rfl
theorem s_rmL_s (f : Nat → Int64) {p i : Nat} (h : p < i) : vp_updL (s_rmL f p i) (i - 1) (s_rmL f p i i) = s_rmL f p (i + 1) := by
  funext j; unfold s_rmL vp_updL; dsimp only
  by_cases h1 : j = i - 1
  · subst h1
    have e : i - 1 + 1 = i := by omega
    rw [if_pos rfl, if_neg (by omega), if_pos (by omega), e]
  · rw [if_neg h1]
    by_cases h2 : p ≤ j ∧ j + 1 < i
    · rw [if_pos h2, if_pos (by omega)]
    · rw [if_neg h2, if_neg (by omega)]
theorem s_rm_s (f : Nat → Int32) {p i : Nat} (h : p < i) : upd (s_rm f p i) (i - 1) (s_rm f p i i) = s_rm f p (i + 1) := by
  funext j; unfold s_rm upd; dsimp only
  by_cases h1 : j = i - 1
  · subst h1
    have e : i - 1 + 1 = i := by omega
    rw [if_pos rfl, if_neg (by omega), if_pos (by omega), e]
  · rw [if_neg h1]
    by_cases h2 : p ≤ j ∧ j + 1 < i
    · rw [if_pos h2, if_pos (by omega)]
    · rw [if_neg h2, if_neg (by omega)]
theorem s_sh_0 (f : Nat → Int32) (c : Nat) : s_sh f c c = f := by
  funext j; unfold s_sh; split
  · omega
  · rfl
theorem s_sh_s (f : Nat → Int32) {k c : Nat} (h : k < c) : upd (s_sh f (k + 1) c) (k + 1) (s_sh f (k + 1) c k) = s_sh f k c := by
  funext j; unfold s_sh upd; dsimp only
  by_cases h1 : j = k + 1
  · subst h1
    rw [if_pos rfl, if_neg (by omega), if_pos (by omega)]; rfl
  · rw [if_neg h1]
    by_cases h2 : k + 1 < j ∧ j ≤ c
    · rw [if_pos h2, if_pos (by omega)]
    · rw [if_neg h2, if_neg (by omega)]
theorem s_ins_sh (f : Nat → Int32) (x : Int32) (c : Nat) : upd (s_sh f 0 c) 0 x = s_ins f x c := by
  funext j; unfold s_sh s_ins upd; dsimp only
  by_cases h1 : j = 0
  · rw [if_pos h1, if_pos h1]
  · rw [if_neg h1, if_neg h1]
    by_cases h2 : j ≤ c
    · rw [if_pos ⟨by omega, h2⟩, if_pos h2]
    · rw [if_neg (fun h => h2 h.2), if_neg h2]
theorem s_b_n (b : Bool) : narrow .boolean (.int (s_b b)) = .int (s_b b) := by cases b <;> decide +kernel
end
section
theorem dX0_init_0 : decode cX0_init 0 = .ok (.aload_n 0, 1) := by decide +kernel
theorem dX0_init_1 : decode cX0_init 1 = .ok (.invokespecial 3, 3) := by decide +kernel
theorem dX0_init_4 : decode cX0_init 4 = .ok (.aload_n 0, 1) := by decide +kernel
theorem dX0_init_5 : decode cX0_init 5 = .ok (.sipush 200, 3) := by decide +kernel
theorem dX0_init_8 : decode cX0_init 8 = .ok (.newarray .long, 2) := by decide +kernel
theorem dX0_init_10 : decode cX0_init 10 = .ok (.putfield 9, 3) := by decide +kernel
theorem dX0_init_13 : decode cX0_init 13 = .ok (.aload_n 0, 1) := by decide +kernel
theorem dX0_init_14 : decode cX0_init 14 = .ok (.iconst 0, 1) := by decide +kernel
theorem dX0_init_15 : decode cX0_init 15 = .ok (.putfield 15, 3) := by decide +kernel
theorem dX0_init_18 : decode cX0_init 18 = .ok (.return_, 1) := by decide +kernel
theorem dX0_put_0 : decode cX0_put 0 = .ok (.aload_n 0, 1) := by decide +kernel
theorem dX0_put_1 : decode cX0_put 1 = .ok (.getfield 15, 3) := by decide +kernel
theorem dX0_put_4 : decode cX0_put 4 = .ok (.aload_n 0, 1) := by decide +kernel
theorem dX0_put_5 : decode cX0_put 5 = .ok (.getfield 9, 3) := by decide +kernel
theorem dX0_put_8 : decode cX0_put 8 = .ok (.arraylength, 1) := by decide +kernel
theorem dX0_put_9 : decode cX0_put 9 = .ok (.if_icmp .lt 13, 3) := by decide +kernel
theorem dX0_put_12 : decode cX0_put 12 = .ok (.new 19, 3) := by decide +kernel
theorem dX0_put_15 : decode cX0_put 15 = .ok (.dup, 1) := by decide +kernel
theorem dX0_put_16 : decode cX0_put 16 = .ok (.ldc 21, 2) := by decide +kernel
theorem dX0_put_18 : decode cX0_put 18 = .ok (.invokespecial 23, 3) := by decide +kernel
theorem dX0_put_21 : decode cX0_put 21 = .ok (.athrow, 1) := by decide +kernel
theorem dX0_put_22 : decode cX0_put 22 = .ok (.aload_n 0, 1) := by decide +kernel
theorem dX0_put_23 : decode cX0_put 23 = .ok (.getfield 15, 3) := by decide +kernel
theorem dX0_put_26 : decode cX0_put 26 = .ok (.istore_n 3, 1) := by decide +kernel
theorem dX0_put_27 : decode cX0_put 27 = .ok (.iload_n 3, 1) := by decide +kernel
theorem dX0_put_28 : decode cX0_put 28 = .ok (.ifCond .le 36, 3) := by decide +kernel
theorem dX0_put_31 : decode cX0_put 31 = .ok (.aload_n 0, 1) := by decide +kernel
theorem dX0_put_32 : decode cX0_put 32 = .ok (.getfield 9, 3) := by decide +kernel
theorem dX0_put_35 : decode cX0_put 35 = .ok (.iload_n 3, 1) := by decide +kernel
theorem dX0_put_36 : decode cX0_put 36 = .ok (.iconst 1, 1) := by decide +kernel
theorem dX0_put_37 : decode cX0_put 37 = .ok (.isub, 1) := by decide +kernel
theorem dX0_put_38 : decode cX0_put 38 = .ok (.laload, 1) := by decide +kernel
theorem dX0_put_39 : decode cX0_put 39 = .ok (.lload_n 1, 1) := by decide +kernel
theorem dX0_put_40 : decode cX0_put 40 = .ok (.lcmp, 1) := by decide +kernel
theorem dX0_put_41 : decode cX0_put 41 = .ok (.ifCond .ge 23, 3) := by decide +kernel
theorem dX0_put_44 : decode cX0_put 44 = .ok (.aload_n 0, 1) := by decide +kernel
theorem dX0_put_45 : decode cX0_put 45 = .ok (.getfield 9, 3) := by decide +kernel
theorem dX0_put_48 : decode cX0_put 48 = .ok (.iload_n 3, 1) := by decide +kernel
theorem dX0_put_49 : decode cX0_put 49 = .ok (.aload_n 0, 1) := by decide +kernel
theorem dX0_put_50 : decode cX0_put 50 = .ok (.getfield 9, 3) := by decide +kernel
theorem dX0_put_53 : decode cX0_put 53 = .ok (.iload_n 3, 1) := by decide +kernel
theorem dX0_put_54 : decode cX0_put 54 = .ok (.iconst 1, 1) := by decide +kernel
theorem dX0_put_55 : decode cX0_put 55 = .ok (.isub, 1) := by decide +kernel
theorem dX0_put_56 : decode cX0_put 56 = .ok (.laload, 1) := by decide +kernel
theorem dX0_put_57 : decode cX0_put 57 = .ok (.lastore, 1) := by decide +kernel
theorem dX0_put_58 : decode cX0_put 58 = .ok (.iinc 3 (-1), 3) := by decide +kernel
theorem dX0_put_61 : decode cX0_put 61 = .ok (.goto (-34), 3) := by decide +kernel
theorem dX0_put_64 : decode cX0_put 64 = .ok (.aload_n 0, 1) := by decide +kernel
theorem dX0_put_65 : decode cX0_put 65 = .ok (.getfield 9, 3) := by decide +kernel
theorem dX0_put_68 : decode cX0_put 68 = .ok (.iload_n 3, 1) := by decide +kernel
theorem dX0_put_69 : decode cX0_put 69 = .ok (.lload_n 1, 1) := by decide +kernel
theorem dX0_put_70 : decode cX0_put 70 = .ok (.lastore, 1) := by decide +kernel
theorem dX0_put_71 : decode cX0_put 71 = .ok (.aload_n 0, 1) := by decide +kernel
theorem dX0_put_72 : decode cX0_put 72 = .ok (.dup, 1) := by decide +kernel
theorem dX0_put_73 : decode cX0_put 73 = .ok (.getfield 15, 3) := by decide +kernel
theorem dX0_put_76 : decode cX0_put 76 = .ok (.iconst 1, 1) := by decide +kernel
theorem dX0_put_77 : decode cX0_put 77 = .ok (.iadd, 1) := by decide +kernel
theorem dX0_put_78 : decode cX0_put 78 = .ok (.putfield 15, 3) := by decide +kernel
theorem dX0_put_81 : decode cX0_put 81 = .ok (.aload_n 0, 1) := by decide +kernel
theorem dX0_put_82 : decode cX0_put 82 = .ok (.getfield 15, 3) := by decide +kernel
theorem dX0_put_85 : decode cX0_put 85 = .ok (.ireturn, 1) := by decide +kernel
theorem dX0_least_0 : decode cX0_least 0 = .ok (.aload_n 0, 1) := by decide +kernel
theorem dX0_least_1 : decode cX0_least 1 = .ok (.getfield 15, 3) := by decide +kernel
theorem dX0_least_4 : decode cX0_least 4 = .ok (.ifCond .gt 13, 3) := by decide +kernel
theorem dX0_least_7 : decode cX0_least 7 = .ok (.new 26, 3) := by decide +kernel
theorem dX0_least_10 : decode cX0_least 10 = .ok (.dup, 1) := by decide +kernel
theorem dX0_least_11 : decode cX0_least 11 = .ok (.ldc 28, 2) := by decide +kernel
theorem dX0_least_13 : decode cX0_least 13 = .ok (.invokespecial 30, 3) := by decide +kernel
theorem dX0_least_16 : decode cX0_least 16 = .ok (.athrow, 1) := by decide +kernel
theorem dX0_least_17 : decode cX0_least 17 = .ok (.aload_n 0, 1) := by decide +kernel
theorem dX0_least_18 : decode cX0_least 18 = .ok (.getfield 9, 3) := by decide +kernel
theorem dX0_least_21 : decode cX0_least 21 = .ok (.aload_n 0, 1) := by decide +kernel
theorem dX0_least_22 : decode cX0_least 22 = .ok (.getfield 15, 3) := by decide +kernel
theorem dX0_least_25 : decode cX0_least 25 = .ok (.iconst 1, 1) := by decide +kernel
theorem dX0_least_26 : decode cX0_least 26 = .ok (.isub, 1) := by decide +kernel
theorem dX0_least_27 : decode cX0_least 27 = .ok (.laload, 1) := by decide +kernel
theorem dX0_least_28 : decode cX0_least 28 = .ok (.lreturn, 1) := by decide +kernel
set_option maxRecDepth 20000 in
theorem ggX0_takeLeast_X0_least : GoodIn wsX0_takeLeast wsX0_least := goodIn_ca (goodIn_r _ [6, 7, 8, 1, 9, 10, 11] (by decide +kernel) (by decide +kernel)) (goodIn_sub (fun _ h => List.mem_cons_of_mem _ (List.mem_append_right _ h)) (by decide +kernel))
set_option maxRecDepth 20000 in
theorem gX0_takeLeast_X0_least : GoodIn wsX0_takeLeast (wsV RX0 31 RX0 yX0_least wsX0_least) := goodIn_app (goodIn_of _ (by decide +kernel)) ggX0_takeLeast_X0_least
theorem dX0_takeLeast_0 : decode cX0_takeLeast 0 = .ok (.aload_n 0, 1) := by decide +kernel
theorem dX0_takeLeast_1 : decode cX0_takeLeast 1 = .ok (.invokevirtual 31, 3) := by decide +kernel
theorem dX0_takeLeast_4 : decode cX0_takeLeast 4 = .ok (.lstore_n 1, 1) := by decide +kernel
theorem dX0_takeLeast_5 : decode cX0_takeLeast 5 = .ok (.aload_n 0, 1) := by decide +kernel
theorem dX0_takeLeast_6 : decode cX0_takeLeast 6 = .ok (.dup, 1) := by decide +kernel
theorem dX0_takeLeast_7 : decode cX0_takeLeast 7 = .ok (.getfield 15, 3) := by decide +kernel
theorem dX0_takeLeast_10 : decode cX0_takeLeast 10 = .ok (.iconst 1, 1) := by decide +kernel
theorem dX0_takeLeast_11 : decode cX0_takeLeast 11 = .ok (.isub, 1) := by decide +kernel
theorem dX0_takeLeast_12 : decode cX0_takeLeast 12 = .ok (.putfield 15, 3) := by decide +kernel
theorem dX0_takeLeast_15 : decode cX0_takeLeast 15 = .ok (.lload_n 1, 1) := by decide +kernel
theorem dX0_takeLeast_16 : decode cX0_takeLeast 16 = .ok (.lreturn, 1) := by decide +kernel
set_option maxRecDepth 20000 in
theorem ggX0_takeLike_X0_placeOf : GoodIn wsX0_takeLike wsX0_placeOf := goodIn_r _ [7, 1, 2, 8, 9] (by decide +kernel) (by decide +kernel)
set_option maxRecDepth 20000 in
theorem gX0_takeLike_X0_placeOf : GoodIn wsX0_takeLike (wsV RX0 35 RX0 yX0_placeOf wsX0_placeOf) := goodIn_app (goodIn_of _ (by decide +kernel)) ggX0_takeLike_X0_placeOf
theorem dX0_takeLike_0 : decode cX0_takeLike 0 = .ok (.aload_n 0, 1) := by decide +kernel
theorem dX0_takeLike_1 : decode cX0_takeLike 1 = .ok (.lload_n 1, 1) := by decide +kernel
theorem dX0_takeLike_2 : decode cX0_takeLike 2 = .ok (.invokevirtual 35, 3) := by decide +kernel
theorem dX0_takeLike_5 : decode cX0_takeLike 5 = .ok (.istore_n 3, 1) := by decide +kernel
theorem dX0_takeLike_6 : decode cX0_takeLike 6 = .ok (.iload_n 3, 1) := by decide +kernel
theorem dX0_takeLike_7 : decode cX0_takeLike 7 = .ok (.ifCond .ge 5, 3) := by decide +kernel
theorem dX0_takeLike_10 : decode cX0_takeLike 10 = .ok (.iconst 0, 1) := by decide +kernel
theorem dX0_takeLike_11 : decode cX0_takeLike 11 = .ok (.ireturn, 1) := by decide +kernel
theorem dX0_takeLike_12 : decode cX0_takeLike 12 = .ok (.iload_n 3, 1) := by decide +kernel
theorem dX0_takeLike_13 : decode cX0_takeLike 13 = .ok (.iconst 1, 1) := by decide +kernel
theorem dX0_takeLike_14 : decode cX0_takeLike 14 = .ok (.iadd, 1) := by decide +kernel
theorem dX0_takeLike_15 : decode cX0_takeLike 15 = .ok (.istore 4, 2) := by decide +kernel
theorem dX0_takeLike_17 : decode cX0_takeLike 17 = .ok (.iload 4, 2) := by decide +kernel
theorem dX0_takeLike_19 : decode cX0_takeLike 19 = .ok (.aload_n 0, 1) := by decide +kernel
theorem dX0_takeLike_20 : decode cX0_takeLike 20 = .ok (.getfield 15, 3) := by decide +kernel
theorem dX0_takeLike_23 : decode cX0_takeLike 23 = .ok (.if_icmp .ge 25, 3) := by decide +kernel
theorem dX0_takeLike_26 : decode cX0_takeLike 26 = .ok (.aload_n 0, 1) := by decide +kernel
theorem dX0_takeLike_27 : decode cX0_takeLike 27 = .ok (.getfield 9, 3) := by decide +kernel
theorem dX0_takeLike_30 : decode cX0_takeLike 30 = .ok (.iload 4, 2) := by decide +kernel
theorem dX0_takeLike_32 : decode cX0_takeLike 32 = .ok (.iconst 1, 1) := by decide +kernel
theorem dX0_takeLike_33 : decode cX0_takeLike 33 = .ok (.isub, 1) := by decide +kernel
theorem dX0_takeLike_34 : decode cX0_takeLike 34 = .ok (.aload_n 0, 1) := by decide +kernel
theorem dX0_takeLike_35 : decode cX0_takeLike 35 = .ok (.getfield 9, 3) := by decide +kernel
theorem dX0_takeLike_38 : decode cX0_takeLike 38 = .ok (.iload 4, 2) := by decide +kernel
theorem dX0_takeLike_40 : decode cX0_takeLike 40 = .ok (.laload, 1) := by decide +kernel
theorem dX0_takeLike_41 : decode cX0_takeLike 41 = .ok (.lastore, 1) := by decide +kernel
theorem dX0_takeLike_42 : decode cX0_takeLike 42 = .ok (.iinc 4 1, 3) := by decide +kernel
theorem dX0_takeLike_45 : decode cX0_takeLike 45 = .ok (.goto (-28), 3) := by decide +kernel
theorem dX0_takeLike_48 : decode cX0_takeLike 48 = .ok (.aload_n 0, 1) := by decide +kernel
theorem dX0_takeLike_49 : decode cX0_takeLike 49 = .ok (.dup, 1) := by decide +kernel
theorem dX0_takeLike_50 : decode cX0_takeLike 50 = .ok (.getfield 15, 3) := by decide +kernel
theorem dX0_takeLike_53 : decode cX0_takeLike 53 = .ok (.iconst 1, 1) := by decide +kernel
theorem dX0_takeLike_54 : decode cX0_takeLike 54 = .ok (.isub, 1) := by decide +kernel
theorem dX0_takeLike_55 : decode cX0_takeLike 55 = .ok (.putfield 15, 3) := by decide +kernel
theorem dX0_takeLike_58 : decode cX0_takeLike 58 = .ok (.iconst 1, 1) := by decide +kernel
theorem dX0_takeLike_59 : decode cX0_takeLike 59 = .ok (.ireturn, 1) := by decide +kernel
theorem dX0_placeOf_0 : decode cX0_placeOf 0 = .ok (.iconst 0, 1) := by decide +kernel
theorem dX0_placeOf_1 : decode cX0_placeOf 1 = .ok (.istore_n 3, 1) := by decide +kernel
theorem dX0_placeOf_2 : decode cX0_placeOf 2 = .ok (.iload_n 3, 1) := by decide +kernel
theorem dX0_placeOf_3 : decode cX0_placeOf 3 = .ok (.aload_n 0, 1) := by decide +kernel
theorem dX0_placeOf_4 : decode cX0_placeOf 4 = .ok (.getfield 15, 3) := by decide +kernel
theorem dX0_placeOf_7 : decode cX0_placeOf 7 = .ok (.if_icmp .ge 22, 3) := by decide +kernel
theorem dX0_placeOf_10 : decode cX0_placeOf 10 = .ok (.aload_n 0, 1) := by decide +kernel
theorem dX0_placeOf_11 : decode cX0_placeOf 11 = .ok (.getfield 9, 3) := by decide +kernel
theorem dX0_placeOf_14 : decode cX0_placeOf 14 = .ok (.iload_n 3, 1) := by decide +kernel
theorem dX0_placeOf_15 : decode cX0_placeOf 15 = .ok (.laload, 1) := by decide +kernel
theorem dX0_placeOf_16 : decode cX0_placeOf 16 = .ok (.lload_n 1, 1) := by decide +kernel
theorem dX0_placeOf_17 : decode cX0_placeOf 17 = .ok (.lcmp, 1) := by decide +kernel
theorem dX0_placeOf_18 : decode cX0_placeOf 18 = .ok (.ifCond .ne 5, 3) := by decide +kernel
theorem dX0_placeOf_21 : decode cX0_placeOf 21 = .ok (.iload_n 3, 1) := by decide +kernel
theorem dX0_placeOf_22 : decode cX0_placeOf 22 = .ok (.ireturn, 1) := by decide +kernel
theorem dX0_placeOf_23 : decode cX0_placeOf 23 = .ok (.iinc 3 1, 3) := by decide +kernel
theorem dX0_placeOf_26 : decode cX0_placeOf 26 = .ok (.goto (-24), 3) := by decide +kernel
theorem dX0_placeOf_29 : decode cX0_placeOf 29 = .ok (.iconst (-1), 1) := by decide +kernel
theorem dX0_placeOf_30 : decode cX0_placeOf 30 = .ok (.ireturn, 1) := by decide +kernel
theorem dX0_empty_0 : decode cX0_empty 0 = .ok (.aload_n 0, 1) := by decide +kernel
theorem dX0_empty_1 : decode cX0_empty 1 = .ok (.getfield 15, 3) := by decide +kernel
theorem dX0_empty_4 : decode cX0_empty 4 = .ok (.istore_n 1, 1) := by decide +kernel
theorem dX0_empty_5 : decode cX0_empty 5 = .ok (.aload_n 0, 1) := by decide +kernel
theorem dX0_empty_6 : decode cX0_empty 6 = .ok (.iconst 0, 1) := by decide +kernel
theorem dX0_empty_7 : decode cX0_empty 7 = .ok (.putfield 15, 3) := by decide +kernel
theorem dX0_empty_10 : decode cX0_empty 10 = .ok (.iload_n 1, 1) := by decide +kernel
theorem dX0_empty_11 : decode cX0_empty 11 = .ok (.ireturn, 1) := by decide +kernel
theorem dX1_init_0 : decode cX1_init 0 = .ok (.aload_n 0, 1) := by decide +kernel
theorem dX1_init_1 : decode cX1_init 1 = .ok (.invokespecial 3, 3) := by decide +kernel
theorem dX1_init_4 : decode cX1_init 4 = .ok (.aload_n 0, 1) := by decide +kernel
theorem dX1_init_5 : decode cX1_init 5 = .ok (.sipush 200, 3) := by decide +kernel
theorem dX1_init_8 : decode cX1_init 8 = .ok (.newarray .int, 2) := by decide +kernel
theorem dX1_init_10 : decode cX1_init 10 = .ok (.putfield 9, 3) := by decide +kernel
theorem dX1_init_13 : decode cX1_init 13 = .ok (.aload_n 0, 1) := by decide +kernel
theorem dX1_init_14 : decode cX1_init 14 = .ok (.iconst 0, 1) := by decide +kernel
theorem dX1_init_15 : decode cX1_init 15 = .ok (.putfield 15, 3) := by decide +kernel
theorem dX1_init_18 : decode cX1_init 18 = .ok (.return_, 1) := by decide +kernel
theorem dX1_putFirst_0 : decode cX1_putFirst 0 = .ok (.aload_n 0, 1) := by decide +kernel
theorem dX1_putFirst_1 : decode cX1_putFirst 1 = .ok (.getfield 15, 3) := by decide +kernel
theorem dX1_putFirst_4 : decode cX1_putFirst 4 = .ok (.aload_n 0, 1) := by decide +kernel
theorem dX1_putFirst_5 : decode cX1_putFirst 5 = .ok (.getfield 9, 3) := by decide +kernel
theorem dX1_putFirst_8 : decode cX1_putFirst 8 = .ok (.arraylength, 1) := by decide +kernel
theorem dX1_putFirst_9 : decode cX1_putFirst 9 = .ok (.if_icmp .lt 13, 3) := by decide +kernel
theorem dX1_putFirst_12 : decode cX1_putFirst 12 = .ok (.new 19, 3) := by decide +kernel
theorem dX1_putFirst_15 : decode cX1_putFirst 15 = .ok (.dup, 1) := by decide +kernel
theorem dX1_putFirst_16 : decode cX1_putFirst 16 = .ok (.ldc 21, 2) := by decide +kernel
theorem dX1_putFirst_18 : decode cX1_putFirst 18 = .ok (.invokespecial 23, 3) := by decide +kernel
theorem dX1_putFirst_21 : decode cX1_putFirst 21 = .ok (.athrow, 1) := by decide +kernel
theorem dX1_putFirst_22 : decode cX1_putFirst 22 = .ok (.aload_n 0, 1) := by decide +kernel
theorem dX1_putFirst_23 : decode cX1_putFirst 23 = .ok (.getfield 15, 3) := by decide +kernel
theorem dX1_putFirst_26 : decode cX1_putFirst 26 = .ok (.istore_n 2, 1) := by decide +kernel
theorem dX1_putFirst_27 : decode cX1_putFirst 27 = .ok (.iload_n 2, 1) := by decide +kernel
theorem dX1_putFirst_28 : decode cX1_putFirst 28 = .ok (.ifCond .le 23, 3) := by decide +kernel
theorem dX1_putFirst_31 : decode cX1_putFirst 31 = .ok (.aload_n 0, 1) := by decide +kernel
theorem dX1_putFirst_32 : decode cX1_putFirst 32 = .ok (.getfield 9, 3) := by decide +kernel
theorem dX1_putFirst_35 : decode cX1_putFirst 35 = .ok (.iload_n 2, 1) := by decide +kernel
theorem dX1_putFirst_36 : decode cX1_putFirst 36 = .ok (.aload_n 0, 1) := by decide +kernel
theorem dX1_putFirst_37 : decode cX1_putFirst 37 = .ok (.getfield 9, 3) := by decide +kernel
theorem dX1_putFirst_40 : decode cX1_putFirst 40 = .ok (.iload_n 2, 1) := by decide +kernel
theorem dX1_putFirst_41 : decode cX1_putFirst 41 = .ok (.iconst 1, 1) := by decide +kernel
theorem dX1_putFirst_42 : decode cX1_putFirst 42 = .ok (.isub, 1) := by decide +kernel
theorem dX1_putFirst_43 : decode cX1_putFirst 43 = .ok (.iaload, 1) := by decide +kernel
theorem dX1_putFirst_44 : decode cX1_putFirst 44 = .ok (.iastore, 1) := by decide +kernel
theorem dX1_putFirst_45 : decode cX1_putFirst 45 = .ok (.iinc 2 (-1), 3) := by decide +kernel
theorem dX1_putFirst_48 : decode cX1_putFirst 48 = .ok (.goto (-21), 3) := by decide +kernel
theorem dX1_putFirst_51 : decode cX1_putFirst 51 = .ok (.aload_n 0, 1) := by decide +kernel
theorem dX1_putFirst_52 : decode cX1_putFirst 52 = .ok (.getfield 9, 3) := by decide +kernel
theorem dX1_putFirst_55 : decode cX1_putFirst 55 = .ok (.iconst 0, 1) := by decide +kernel
theorem dX1_putFirst_56 : decode cX1_putFirst 56 = .ok (.iload_n 1, 1) := by decide +kernel
theorem dX1_putFirst_57 : decode cX1_putFirst 57 = .ok (.iastore, 1) := by decide +kernel
theorem dX1_putFirst_58 : decode cX1_putFirst 58 = .ok (.aload_n 0, 1) := by decide +kernel
theorem dX1_putFirst_59 : decode cX1_putFirst 59 = .ok (.dup, 1) := by decide +kernel
theorem dX1_putFirst_60 : decode cX1_putFirst 60 = .ok (.getfield 15, 3) := by decide +kernel
theorem dX1_putFirst_63 : decode cX1_putFirst 63 = .ok (.iconst 1, 1) := by decide +kernel
theorem dX1_putFirst_64 : decode cX1_putFirst 64 = .ok (.iadd, 1) := by decide +kernel
theorem dX1_putFirst_65 : decode cX1_putFirst 65 = .ok (.putfield 15, 3) := by decide +kernel
theorem dX1_putFirst_68 : decode cX1_putFirst 68 = .ok (.aload_n 0, 1) := by decide +kernel
theorem dX1_putFirst_69 : decode cX1_putFirst 69 = .ok (.getfield 15, 3) := by decide +kernel
theorem dX1_putFirst_72 : decode cX1_putFirst 72 = .ok (.ireturn, 1) := by decide +kernel
theorem dX1_putLast_0 : decode cX1_putLast 0 = .ok (.aload_n 0, 1) := by decide +kernel
theorem dX1_putLast_1 : decode cX1_putLast 1 = .ok (.getfield 15, 3) := by decide +kernel
theorem dX1_putLast_4 : decode cX1_putLast 4 = .ok (.aload_n 0, 1) := by decide +kernel
theorem dX1_putLast_5 : decode cX1_putLast 5 = .ok (.getfield 9, 3) := by decide +kernel
theorem dX1_putLast_8 : decode cX1_putLast 8 = .ok (.arraylength, 1) := by decide +kernel
theorem dX1_putLast_9 : decode cX1_putLast 9 = .ok (.if_icmp .lt 13, 3) := by decide +kernel
theorem dX1_putLast_12 : decode cX1_putLast 12 = .ok (.new 19, 3) := by decide +kernel
theorem dX1_putLast_15 : decode cX1_putLast 15 = .ok (.dup, 1) := by decide +kernel
theorem dX1_putLast_16 : decode cX1_putLast 16 = .ok (.ldc 21, 2) := by decide +kernel
theorem dX1_putLast_18 : decode cX1_putLast 18 = .ok (.invokespecial 23, 3) := by decide +kernel
theorem dX1_putLast_21 : decode cX1_putLast 21 = .ok (.athrow, 1) := by decide +kernel
theorem dX1_putLast_22 : decode cX1_putLast 22 = .ok (.aload_n 0, 1) := by decide +kernel
theorem dX1_putLast_23 : decode cX1_putLast 23 = .ok (.getfield 9, 3) := by decide +kernel
theorem dX1_putLast_26 : decode cX1_putLast 26 = .ok (.aload_n 0, 1) := by decide +kernel
theorem dX1_putLast_27 : decode cX1_putLast 27 = .ok (.getfield 15, 3) := by decide +kernel
theorem dX1_putLast_30 : decode cX1_putLast 30 = .ok (.iload_n 1, 1) := by decide +kernel
theorem dX1_putLast_31 : decode cX1_putLast 31 = .ok (.iastore, 1) := by decide +kernel
theorem dX1_putLast_32 : decode cX1_putLast 32 = .ok (.aload_n 0, 1) := by decide +kernel
theorem dX1_putLast_33 : decode cX1_putLast 33 = .ok (.dup, 1) := by decide +kernel
theorem dX1_putLast_34 : decode cX1_putLast 34 = .ok (.getfield 15, 3) := by decide +kernel
theorem dX1_putLast_37 : decode cX1_putLast 37 = .ok (.iconst 1, 1) := by decide +kernel
theorem dX1_putLast_38 : decode cX1_putLast 38 = .ok (.iadd, 1) := by decide +kernel
theorem dX1_putLast_39 : decode cX1_putLast 39 = .ok (.putfield 15, 3) := by decide +kernel
theorem dX1_putLast_42 : decode cX1_putLast 42 = .ok (.aload_n 0, 1) := by decide +kernel
theorem dX1_putLast_43 : decode cX1_putLast 43 = .ok (.getfield 15, 3) := by decide +kernel
theorem dX1_putLast_46 : decode cX1_putLast 46 = .ok (.ireturn, 1) := by decide +kernel
theorem dX1_first_0 : decode cX1_first 0 = .ok (.aload_n 0, 1) := by decide +kernel
theorem dX1_first_1 : decode cX1_first 1 = .ok (.getfield 15, 3) := by decide +kernel
theorem dX1_first_4 : decode cX1_first 4 = .ok (.ifCond .gt 13, 3) := by decide +kernel
theorem dX1_first_7 : decode cX1_first 7 = .ok (.new 26, 3) := by decide +kernel
theorem dX1_first_10 : decode cX1_first 10 = .ok (.dup, 1) := by decide +kernel
theorem dX1_first_11 : decode cX1_first 11 = .ok (.ldc 28, 2) := by decide +kernel
theorem dX1_first_13 : decode cX1_first 13 = .ok (.invokespecial 30, 3) := by decide +kernel
theorem dX1_first_16 : decode cX1_first 16 = .ok (.athrow, 1) := by decide +kernel
theorem dX1_first_17 : decode cX1_first 17 = .ok (.aload_n 0, 1) := by decide +kernel
theorem dX1_first_18 : decode cX1_first 18 = .ok (.getfield 9, 3) := by decide +kernel
theorem dX1_first_21 : decode cX1_first 21 = .ok (.iconst 0, 1) := by decide +kernel
theorem dX1_first_22 : decode cX1_first 22 = .ok (.iaload, 1) := by decide +kernel
theorem dX1_first_23 : decode cX1_first 23 = .ok (.ireturn, 1) := by decide +kernel
theorem dX1_last_0 : decode cX1_last 0 = .ok (.aload_n 0, 1) := by decide +kernel
theorem dX1_last_1 : decode cX1_last 1 = .ok (.getfield 15, 3) := by decide +kernel
theorem dX1_last_4 : decode cX1_last 4 = .ok (.ifCond .gt 13, 3) := by decide +kernel
theorem dX1_last_7 : decode cX1_last 7 = .ok (.new 26, 3) := by decide +kernel
theorem dX1_last_10 : decode cX1_last 10 = .ok (.dup, 1) := by decide +kernel
theorem dX1_last_11 : decode cX1_last 11 = .ok (.ldc 28, 2) := by decide +kernel
theorem dX1_last_13 : decode cX1_last 13 = .ok (.invokespecial 30, 3) := by decide +kernel
theorem dX1_last_16 : decode cX1_last 16 = .ok (.athrow, 1) := by decide +kernel
theorem dX1_last_17 : decode cX1_last 17 = .ok (.aload_n 0, 1) := by decide +kernel
theorem dX1_last_18 : decode cX1_last 18 = .ok (.getfield 9, 3) := by decide +kernel
theorem dX1_last_21 : decode cX1_last 21 = .ok (.aload_n 0, 1) := by decide +kernel
theorem dX1_last_22 : decode cX1_last 22 = .ok (.getfield 15, 3) := by decide +kernel
theorem dX1_last_25 : decode cX1_last 25 = .ok (.iconst 1, 1) := by decide +kernel
theorem dX1_last_26 : decode cX1_last 26 = .ok (.isub, 1) := by decide +kernel
theorem dX1_last_27 : decode cX1_last 27 = .ok (.iaload, 1) := by decide +kernel
theorem dX1_last_28 : decode cX1_last 28 = .ok (.ireturn, 1) := by decide +kernel
set_option maxRecDepth 20000 in
theorem ggX1_takeFirst_X1_first : GoodIn wsX1_takeFirst wsX1_first := goodIn_ca (goodIn_r _ [5, 6, 7, 8, 9, 14, 15] (by decide +kernel) (by decide +kernel)) (goodIn_sub (fun _ h => List.mem_cons_of_mem _ (List.mem_append_right _ h)) (by decide +kernel))
set_option maxRecDepth 20000 in
theorem gX1_takeFirst_X1_first : GoodIn wsX1_takeFirst (wsV RX1 31 RX1 yX1_first wsX1_first) := goodIn_app (goodIn_of _ (by decide +kernel)) ggX1_takeFirst_X1_first
set_option maxRecDepth 20000 in
theorem ggX1_takeFirst_X1_takeFound : GoodIn wsX1_takeFirst wsX1_takeFound := goodIn_r _ [13, 8, 9, 14, 15] (by decide +kernel) (by decide +kernel)
set_option maxRecDepth 20000 in
theorem gX1_takeFirst_X1_takeFound : GoodIn wsX1_takeFirst (wsV RX1 35 RX1 yX1_takeFound wsX1_takeFound) := goodIn_app (goodIn_of _ (by decide +kernel)) ggX1_takeFirst_X1_takeFound
theorem dX1_takeFirst_0 : decode cX1_takeFirst 0 = .ok (.aload_n 0, 1) := by decide +kernel
theorem dX1_takeFirst_1 : decode cX1_takeFirst 1 = .ok (.invokevirtual 31, 3) := by decide +kernel
theorem dX1_takeFirst_4 : decode cX1_takeFirst 4 = .ok (.istore_n 1, 1) := by decide +kernel
theorem dX1_takeFirst_5 : decode cX1_takeFirst 5 = .ok (.aload_n 0, 1) := by decide +kernel
theorem dX1_takeFirst_6 : decode cX1_takeFirst 6 = .ok (.iconst 0, 1) := by decide +kernel
theorem dX1_takeFirst_7 : decode cX1_takeFirst 7 = .ok (.invokevirtual 35, 3) := by decide +kernel
theorem dX1_takeFirst_10 : decode cX1_takeFirst 10 = .ok (.pop, 1) := by decide +kernel
theorem dX1_takeFirst_11 : decode cX1_takeFirst 11 = .ok (.iload_n 1, 1) := by decide +kernel
theorem dX1_takeFirst_12 : decode cX1_takeFirst 12 = .ok (.ireturn, 1) := by decide +kernel
set_option maxRecDepth 20000 in
theorem ggX1_takeLast_X1_last : GoodIn wsX1_takeLast wsX1_last := goodIn_ca (goodIn_r _ [6, 7, 8, 1, 9, 10, 11] (by decide +kernel) (by decide +kernel)) (goodIn_sub (fun _ h => List.mem_cons_of_mem _ (List.mem_append_right _ h)) (by decide +kernel))
set_option maxRecDepth 20000 in
theorem gX1_takeLast_X1_last : GoodIn wsX1_takeLast (wsV RX1 39 RX1 yX1_last wsX1_last) := goodIn_app (goodIn_of _ (by decide +kernel)) ggX1_takeLast_X1_last
theorem dX1_takeLast_0 : decode cX1_takeLast 0 = .ok (.aload_n 0, 1) := by decide +kernel
theorem dX1_takeLast_1 : decode cX1_takeLast 1 = .ok (.invokevirtual 39, 3) := by decide +kernel
theorem dX1_takeLast_4 : decode cX1_takeLast 4 = .ok (.istore_n 1, 1) := by decide +kernel
theorem dX1_takeLast_5 : decode cX1_takeLast 5 = .ok (.aload_n 0, 1) := by decide +kernel
theorem dX1_takeLast_6 : decode cX1_takeLast 6 = .ok (.dup, 1) := by decide +kernel
theorem dX1_takeLast_7 : decode cX1_takeLast 7 = .ok (.getfield 15, 3) := by decide +kernel
theorem dX1_takeLast_10 : decode cX1_takeLast 10 = .ok (.iconst 1, 1) := by decide +kernel
theorem dX1_takeLast_11 : decode cX1_takeLast 11 = .ok (.isub, 1) := by decide +kernel
theorem dX1_takeLast_12 : decode cX1_takeLast 12 = .ok (.putfield 15, 3) := by decide +kernel
theorem dX1_takeLast_15 : decode cX1_takeLast 15 = .ok (.iload_n 1, 1) := by decide +kernel
theorem dX1_takeLast_16 : decode cX1_takeLast 16 = .ok (.ireturn, 1) := by decide +kernel
theorem dX1_takeFound_0 : decode cX1_takeFound 0 = .ok (.iload_n 1, 1) := by decide +kernel
theorem dX1_takeFound_1 : decode cX1_takeFound 1 = .ok (.ifCond .lt 11, 3) := by decide +kernel
theorem dX1_takeFound_4 : decode cX1_takeFound 4 = .ok (.iload_n 1, 1) := by decide +kernel
theorem dX1_takeFound_5 : decode cX1_takeFound 5 = .ok (.aload_n 0, 1) := by decide +kernel
theorem dX1_takeFound_6 : decode cX1_takeFound 6 = .ok (.getfield 15, 3) := by decide +kernel
theorem dX1_takeFound_9 : decode cX1_takeFound 9 = .ok (.if_icmp .lt 5, 3) := by decide +kernel
theorem dX1_takeFound_12 : decode cX1_takeFound 12 = .ok (.iconst 0, 1) := by decide +kernel
theorem dX1_takeFound_13 : decode cX1_takeFound 13 = .ok (.ireturn, 1) := by decide +kernel
theorem dX1_takeFound_14 : decode cX1_takeFound 14 = .ok (.iload_n 1, 1) := by decide +kernel
theorem dX1_takeFound_15 : decode cX1_takeFound 15 = .ok (.iconst 1, 1) := by decide +kernel
theorem dX1_takeFound_16 : decode cX1_takeFound 16 = .ok (.iadd, 1) := by decide +kernel
theorem dX1_takeFound_17 : decode cX1_takeFound 17 = .ok (.istore_n 2, 1) := by decide +kernel
theorem dX1_takeFound_18 : decode cX1_takeFound 18 = .ok (.iload_n 2, 1) := by decide +kernel
theorem dX1_takeFound_19 : decode cX1_takeFound 19 = .ok (.aload_n 0, 1) := by decide +kernel
theorem dX1_takeFound_20 : decode cX1_takeFound 20 = .ok (.getfield 15, 3) := by decide +kernel
theorem dX1_takeFound_23 : decode cX1_takeFound 23 = .ok (.if_icmp .ge 23, 3) := by decide +kernel
theorem dX1_takeFound_26 : decode cX1_takeFound 26 = .ok (.aload_n 0, 1) := by decide +kernel
theorem dX1_takeFound_27 : decode cX1_takeFound 27 = .ok (.getfield 9, 3) := by decide +kernel
theorem dX1_takeFound_30 : decode cX1_takeFound 30 = .ok (.iload_n 2, 1) := by decide +kernel
theorem dX1_takeFound_31 : decode cX1_takeFound 31 = .ok (.iconst 1, 1) := by decide +kernel
theorem dX1_takeFound_32 : decode cX1_takeFound 32 = .ok (.isub, 1) := by decide +kernel
theorem dX1_takeFound_33 : decode cX1_takeFound 33 = .ok (.aload_n 0, 1) := by decide +kernel
theorem dX1_takeFound_34 : decode cX1_takeFound 34 = .ok (.getfield 9, 3) := by decide +kernel
theorem dX1_takeFound_37 : decode cX1_takeFound 37 = .ok (.iload_n 2, 1) := by decide +kernel
theorem dX1_takeFound_38 : decode cX1_takeFound 38 = .ok (.iaload, 1) := by decide +kernel
theorem dX1_takeFound_39 : decode cX1_takeFound 39 = .ok (.iastore, 1) := by decide +kernel
theorem dX1_takeFound_40 : decode cX1_takeFound 40 = .ok (.iinc 2 1, 3) := by decide +kernel
theorem dX1_takeFound_43 : decode cX1_takeFound 43 = .ok (.goto (-25), 3) := by decide +kernel
theorem dX1_takeFound_46 : decode cX1_takeFound 46 = .ok (.aload_n 0, 1) := by decide +kernel
theorem dX1_takeFound_47 : decode cX1_takeFound 47 = .ok (.dup, 1) := by decide +kernel
theorem dX1_takeFound_48 : decode cX1_takeFound 48 = .ok (.getfield 15, 3) := by decide +kernel
theorem dX1_takeFound_51 : decode cX1_takeFound 51 = .ok (.iconst 1, 1) := by decide +kernel
theorem dX1_takeFound_52 : decode cX1_takeFound 52 = .ok (.isub, 1) := by decide +kernel
theorem dX1_takeFound_53 : decode cX1_takeFound 53 = .ok (.putfield 15, 3) := by decide +kernel
theorem dX1_takeFound_56 : decode cX1_takeFound 56 = .ok (.iconst 1, 1) := by decide +kernel
theorem dX1_takeFound_57 : decode cX1_takeFound 57 = .ok (.ireturn, 1) := by decide +kernel
theorem dX1_firstPlaceOf_0 : decode cX1_firstPlaceOf 0 = .ok (.iconst 0, 1) := by decide +kernel
theorem dX1_firstPlaceOf_1 : decode cX1_firstPlaceOf 1 = .ok (.istore_n 2, 1) := by decide +kernel
theorem dX1_firstPlaceOf_2 : decode cX1_firstPlaceOf 2 = .ok (.iload_n 2, 1) := by decide +kernel
theorem dX1_firstPlaceOf_3 : decode cX1_firstPlaceOf 3 = .ok (.aload_n 0, 1) := by decide +kernel
theorem dX1_firstPlaceOf_4 : decode cX1_firstPlaceOf 4 = .ok (.getfield 15, 3) := by decide +kernel
theorem dX1_firstPlaceOf_7 : decode cX1_firstPlaceOf 7 = .ok (.if_icmp .ge 21, 3) := by decide +kernel
theorem dX1_firstPlaceOf_10 : decode cX1_firstPlaceOf 10 = .ok (.aload_n 0, 1) := by decide +kernel
theorem dX1_firstPlaceOf_11 : decode cX1_firstPlaceOf 11 = .ok (.getfield 9, 3) := by decide +kernel
theorem dX1_firstPlaceOf_14 : decode cX1_firstPlaceOf 14 = .ok (.iload_n 2, 1) := by decide +kernel
theorem dX1_firstPlaceOf_15 : decode cX1_firstPlaceOf 15 = .ok (.iaload, 1) := by decide +kernel
theorem dX1_firstPlaceOf_16 : decode cX1_firstPlaceOf 16 = .ok (.iload_n 1, 1) := by decide +kernel
theorem dX1_firstPlaceOf_17 : decode cX1_firstPlaceOf 17 = .ok (.if_icmp .ne 5, 3) := by decide +kernel
theorem dX1_firstPlaceOf_20 : decode cX1_firstPlaceOf 20 = .ok (.iload_n 2, 1) := by decide +kernel
theorem dX1_firstPlaceOf_21 : decode cX1_firstPlaceOf 21 = .ok (.ireturn, 1) := by decide +kernel
theorem dX1_firstPlaceOf_22 : decode cX1_firstPlaceOf 22 = .ok (.iinc 2 1, 3) := by decide +kernel
theorem dX1_firstPlaceOf_25 : decode cX1_firstPlaceOf 25 = .ok (.goto (-23), 3) := by decide +kernel
theorem dX1_firstPlaceOf_28 : decode cX1_firstPlaceOf 28 = .ok (.iconst (-1), 1) := by decide +kernel
theorem dX1_firstPlaceOf_29 : decode cX1_firstPlaceOf 29 = .ok (.ireturn, 1) := by decide +kernel
theorem dX1_lastPlaceOf_0 : decode cX1_lastPlaceOf 0 = .ok (.aload_n 0, 1) := by decide +kernel
theorem dX1_lastPlaceOf_1 : decode cX1_lastPlaceOf 1 = .ok (.getfield 15, 3) := by decide +kernel
theorem dX1_lastPlaceOf_4 : decode cX1_lastPlaceOf 4 = .ok (.iconst 1, 1) := by decide +kernel
theorem dX1_lastPlaceOf_5 : decode cX1_lastPlaceOf 5 = .ok (.isub, 1) := by decide +kernel
theorem dX1_lastPlaceOf_6 : decode cX1_lastPlaceOf 6 = .ok (.istore_n 2, 1) := by decide +kernel
theorem dX1_lastPlaceOf_7 : decode cX1_lastPlaceOf 7 = .ok (.iload_n 2, 1) := by decide +kernel
theorem dX1_lastPlaceOf_8 : decode cX1_lastPlaceOf 8 = .ok (.ifCond .lt 21, 3) := by decide +kernel
theorem dX1_lastPlaceOf_11 : decode cX1_lastPlaceOf 11 = .ok (.aload_n 0, 1) := by decide +kernel
theorem dX1_lastPlaceOf_12 : decode cX1_lastPlaceOf 12 = .ok (.getfield 9, 3) := by decide +kernel
theorem dX1_lastPlaceOf_15 : decode cX1_lastPlaceOf 15 = .ok (.iload_n 2, 1) := by decide +kernel
theorem dX1_lastPlaceOf_16 : decode cX1_lastPlaceOf 16 = .ok (.iaload, 1) := by decide +kernel
theorem dX1_lastPlaceOf_17 : decode cX1_lastPlaceOf 17 = .ok (.iload_n 1, 1) := by decide +kernel
theorem dX1_lastPlaceOf_18 : decode cX1_lastPlaceOf 18 = .ok (.if_icmp .ne 5, 3) := by decide +kernel
theorem dX1_lastPlaceOf_21 : decode cX1_lastPlaceOf 21 = .ok (.iload_n 2, 1) := by decide +kernel
theorem dX1_lastPlaceOf_22 : decode cX1_lastPlaceOf 22 = .ok (.ireturn, 1) := by decide +kernel
theorem dX1_lastPlaceOf_23 : decode cX1_lastPlaceOf 23 = .ok (.iinc 2 (-1), 3) := by decide +kernel
theorem dX1_lastPlaceOf_26 : decode cX1_lastPlaceOf 26 = .ok (.goto (-19), 3) := by decide +kernel
theorem dX1_lastPlaceOf_29 : decode cX1_lastPlaceOf 29 = .ok (.iconst (-1), 1) := by decide +kernel
theorem dX1_lastPlaceOf_30 : decode cX1_lastPlaceOf 30 = .ok (.ireturn, 1) := by decide +kernel
theorem dX1_numberAt_0 : decode cX1_numberAt 0 = .ok (.iload_n 1, 1) := by decide +kernel
theorem dX1_numberAt_1 : decode cX1_numberAt 1 = .ok (.ifCond .lt 11, 3) := by decide +kernel
theorem dX1_numberAt_4 : decode cX1_numberAt 4 = .ok (.iload_n 1, 1) := by decide +kernel
theorem dX1_numberAt_5 : decode cX1_numberAt 5 = .ok (.aload_n 0, 1) := by decide +kernel
theorem dX1_numberAt_6 : decode cX1_numberAt 6 = .ok (.getfield 15, 3) := by decide +kernel
theorem dX1_numberAt_9 : decode cX1_numberAt 9 = .ok (.if_icmp .lt 13, 3) := by decide +kernel
theorem dX1_numberAt_12 : decode cX1_numberAt 12 = .ok (.new 42, 3) := by decide +kernel
theorem dX1_numberAt_15 : decode cX1_numberAt 15 = .ok (.dup, 1) := by decide +kernel
theorem dX1_numberAt_16 : decode cX1_numberAt 16 = .ok (.ldc 44, 2) := by decide +kernel
theorem dX1_numberAt_18 : decode cX1_numberAt 18 = .ok (.invokespecial 46, 3) := by decide +kernel
theorem dX1_numberAt_21 : decode cX1_numberAt 21 = .ok (.athrow, 1) := by decide +kernel
theorem dX1_numberAt_22 : decode cX1_numberAt 22 = .ok (.aload_n 0, 1) := by decide +kernel
theorem dX1_numberAt_23 : decode cX1_numberAt 23 = .ok (.getfield 9, 3) := by decide +kernel
theorem dX1_numberAt_26 : decode cX1_numberAt 26 = .ok (.iload_n 1, 1) := by decide +kernel
theorem dX1_numberAt_27 : decode cX1_numberAt 27 = .ok (.iaload, 1) := by decide +kernel
theorem dX1_numberAt_28 : decode cX1_numberAt 28 = .ok (.ireturn, 1) := by decide +kernel
theorem dX1_numberFromLast_0 : decode cX1_numberFromLast 0 = .ok (.iload_n 1, 1) := by decide +kernel
theorem dX1_numberFromLast_1 : decode cX1_numberFromLast 1 = .ok (.ifCond .lt 11, 3) := by decide +kernel
theorem dX1_numberFromLast_4 : decode cX1_numberFromLast 4 = .ok (.iload_n 1, 1) := by decide +kernel
theorem dX1_numberFromLast_5 : decode cX1_numberFromLast 5 = .ok (.aload_n 0, 1) := by decide +kernel
theorem dX1_numberFromLast_6 : decode cX1_numberFromLast 6 = .ok (.getfield 15, 3) := by decide +kernel
theorem dX1_numberFromLast_9 : decode cX1_numberFromLast 9 = .ok (.if_icmp .lt 13, 3) := by decide +kernel
theorem dX1_numberFromLast_12 : decode cX1_numberFromLast 12 = .ok (.new 42, 3) := by decide +kernel
theorem dX1_numberFromLast_15 : decode cX1_numberFromLast 15 = .ok (.dup, 1) := by decide +kernel
theorem dX1_numberFromLast_16 : decode cX1_numberFromLast 16 = .ok (.ldc 44, 2) := by decide +kernel
theorem dX1_numberFromLast_18 : decode cX1_numberFromLast 18 = .ok (.invokespecial 46, 3) := by decide +kernel
theorem dX1_numberFromLast_21 : decode cX1_numberFromLast 21 = .ok (.athrow, 1) := by decide +kernel
theorem dX1_numberFromLast_22 : decode cX1_numberFromLast 22 = .ok (.aload_n 0, 1) := by decide +kernel
theorem dX1_numberFromLast_23 : decode cX1_numberFromLast 23 = .ok (.getfield 9, 3) := by decide +kernel
theorem dX1_numberFromLast_26 : decode cX1_numberFromLast 26 = .ok (.aload_n 0, 1) := by decide +kernel
theorem dX1_numberFromLast_27 : decode cX1_numberFromLast 27 = .ok (.getfield 15, 3) := by decide +kernel
theorem dX1_numberFromLast_30 : decode cX1_numberFromLast 30 = .ok (.iconst 1, 1) := by decide +kernel
theorem dX1_numberFromLast_31 : decode cX1_numberFromLast 31 = .ok (.isub, 1) := by decide +kernel
theorem dX1_numberFromLast_32 : decode cX1_numberFromLast 32 = .ok (.iload_n 1, 1) := by decide +kernel
theorem dX1_numberFromLast_33 : decode cX1_numberFromLast 33 = .ok (.isub, 1) := by decide +kernel
theorem dX1_numberFromLast_34 : decode cX1_numberFromLast 34 = .ok (.iaload, 1) := by decide +kernel
theorem dX1_numberFromLast_35 : decode cX1_numberFromLast 35 = .ok (.ireturn, 1) := by decide +kernel
theorem dX1_takeAllLike_0 : decode cX1_takeAllLike 0 = .ok (.iconst 0, 1) := by decide +kernel
theorem dX1_takeAllLike_1 : decode cX1_takeAllLike 1 = .ok (.istore_n 2, 1) := by decide +kernel
theorem dX1_takeAllLike_2 : decode cX1_takeAllLike 2 = .ok (.iconst 0, 1) := by decide +kernel
theorem dX1_takeAllLike_3 : decode cX1_takeAllLike 3 = .ok (.istore_n 3, 1) := by decide +kernel
theorem dX1_takeAllLike_4 : decode cX1_takeAllLike 4 = .ok (.iload_n 3, 1) := by decide +kernel
theorem dX1_takeAllLike_5 : decode cX1_takeAllLike 5 = .ok (.aload_n 0, 1) := by decide +kernel
theorem dX1_takeAllLike_6 : decode cX1_takeAllLike 6 = .ok (.getfield 15, 3) := by decide +kernel
theorem dX1_takeAllLike_9 : decode cX1_takeAllLike 9 = .ok (.if_icmp .ge 34, 3) := by decide +kernel
theorem dX1_takeAllLike_12 : decode cX1_takeAllLike 12 = .ok (.aload_n 0, 1) := by decide +kernel
theorem dX1_takeAllLike_13 : decode cX1_takeAllLike 13 = .ok (.getfield 9, 3) := by decide +kernel
theorem dX1_takeAllLike_16 : decode cX1_takeAllLike 16 = .ok (.iload_n 3, 1) := by decide +kernel
theorem dX1_takeAllLike_17 : decode cX1_takeAllLike 17 = .ok (.iaload, 1) := by decide +kernel
theorem dX1_takeAllLike_18 : decode cX1_takeAllLike 18 = .ok (.iload_n 1, 1) := by decide +kernel
theorem dX1_takeAllLike_19 : decode cX1_takeAllLike 19 = .ok (.if_icmp .eq 18, 3) := by decide +kernel
theorem dX1_takeAllLike_22 : decode cX1_takeAllLike 22 = .ok (.aload_n 0, 1) := by decide +kernel
theorem dX1_takeAllLike_23 : decode cX1_takeAllLike 23 = .ok (.getfield 9, 3) := by decide +kernel
theorem dX1_takeAllLike_26 : decode cX1_takeAllLike 26 = .ok (.iload_n 2, 1) := by decide +kernel
theorem dX1_takeAllLike_27 : decode cX1_takeAllLike 27 = .ok (.aload_n 0, 1) := by decide +kernel
theorem dX1_takeAllLike_28 : decode cX1_takeAllLike 28 = .ok (.getfield 9, 3) := by decide +kernel
theorem dX1_takeAllLike_31 : decode cX1_takeAllLike 31 = .ok (.iload_n 3, 1) := by decide +kernel
theorem dX1_takeAllLike_32 : decode cX1_takeAllLike 32 = .ok (.iaload, 1) := by decide +kernel
theorem dX1_takeAllLike_33 : decode cX1_takeAllLike 33 = .ok (.iastore, 1) := by decide +kernel
theorem dX1_takeAllLike_34 : decode cX1_takeAllLike 34 = .ok (.iinc 2 1, 3) := by decide +kernel
theorem dX1_takeAllLike_37 : decode cX1_takeAllLike 37 = .ok (.iinc 3 1, 3) := by decide +kernel
theorem dX1_takeAllLike_40 : decode cX1_takeAllLike 40 = .ok (.goto (-36), 3) := by decide +kernel
theorem dX1_takeAllLike_43 : decode cX1_takeAllLike 43 = .ok (.aload_n 0, 1) := by decide +kernel
theorem dX1_takeAllLike_44 : decode cX1_takeAllLike 44 = .ok (.getfield 15, 3) := by decide +kernel
theorem dX1_takeAllLike_47 : decode cX1_takeAllLike 47 = .ok (.iload_n 2, 1) := by decide +kernel
theorem dX1_takeAllLike_48 : decode cX1_takeAllLike 48 = .ok (.isub, 1) := by decide +kernel
theorem dX1_takeAllLike_49 : decode cX1_takeAllLike 49 = .ok (.istore_n 3, 1) := by decide +kernel
theorem dX1_takeAllLike_50 : decode cX1_takeAllLike 50 = .ok (.aload_n 0, 1) := by decide +kernel
theorem dX1_takeAllLike_51 : decode cX1_takeAllLike 51 = .ok (.iload_n 2, 1) := by decide +kernel
theorem dX1_takeAllLike_52 : decode cX1_takeAllLike 52 = .ok (.putfield 15, 3) := by decide +kernel
theorem dX1_takeAllLike_55 : decode cX1_takeAllLike 55 = .ok (.iload_n 3, 1) := by decide +kernel
theorem dX1_takeAllLike_56 : decode cX1_takeAllLike 56 = .ok (.ireturn, 1) := by decide +kernel
theorem dX1_sumFromFirst_0 : decode cX1_sumFromFirst 0 = .ok (.ldc2_w 47, 3) := by decide +kernel
theorem dX1_sumFromFirst_3 : decode cX1_sumFromFirst 3 = .ok (.lstore_n 1, 1) := by decide +kernel
theorem dX1_sumFromFirst_4 : decode cX1_sumFromFirst 4 = .ok (.iconst 0, 1) := by decide +kernel
theorem dX1_sumFromFirst_5 : decode cX1_sumFromFirst 5 = .ok (.istore_n 3, 1) := by decide +kernel
theorem dX1_sumFromFirst_6 : decode cX1_sumFromFirst 6 = .ok (.iload_n 3, 1) := by decide +kernel
theorem dX1_sumFromFirst_7 : decode cX1_sumFromFirst 7 = .ok (.aload_n 0, 1) := by decide +kernel
theorem dX1_sumFromFirst_8 : decode cX1_sumFromFirst 8 = .ok (.getfield 15, 3) := by decide +kernel
theorem dX1_sumFromFirst_11 : decode cX1_sumFromFirst 11 = .ok (.if_icmp .ge 23, 3) := by decide +kernel
theorem dX1_sumFromFirst_14 : decode cX1_sumFromFirst 14 = .ok (.ldc2_w 49, 3) := by decide +kernel
theorem dX1_sumFromFirst_17 : decode cX1_sumFromFirst 17 = .ok (.lload_n 1, 1) := by decide +kernel
theorem dX1_sumFromFirst_18 : decode cX1_sumFromFirst 18 = .ok (.lmul, 1) := by decide +kernel
theorem dX1_sumFromFirst_19 : decode cX1_sumFromFirst 19 = .ok (.aload_n 0, 1) := by decide +kernel
theorem dX1_sumFromFirst_20 : decode cX1_sumFromFirst 20 = .ok (.getfield 9, 3) := by decide +kernel
theorem dX1_sumFromFirst_23 : decode cX1_sumFromFirst 23 = .ok (.iload_n 3, 1) := by decide +kernel
theorem dX1_sumFromFirst_24 : decode cX1_sumFromFirst 24 = .ok (.iaload, 1) := by decide +kernel
theorem dX1_sumFromFirst_25 : decode cX1_sumFromFirst 25 = .ok (.i2l, 1) := by decide +kernel
theorem dX1_sumFromFirst_26 : decode cX1_sumFromFirst 26 = .ok (.ladd, 1) := by decide +kernel
theorem dX1_sumFromFirst_27 : decode cX1_sumFromFirst 27 = .ok (.lstore_n 1, 1) := by decide +kernel
theorem dX1_sumFromFirst_28 : decode cX1_sumFromFirst 28 = .ok (.iinc 3 1, 3) := by decide +kernel
theorem dX1_sumFromFirst_31 : decode cX1_sumFromFirst 31 = .ok (.goto (-25), 3) := by decide +kernel
theorem dX1_sumFromFirst_34 : decode cX1_sumFromFirst 34 = .ok (.lload_n 1, 1) := by decide +kernel
theorem dX1_sumFromFirst_35 : decode cX1_sumFromFirst 35 = .ok (.lreturn, 1) := by decide +kernel
theorem dX1_sumFromLast_0 : decode cX1_sumFromLast 0 = .ok (.ldc2_w 47, 3) := by decide +kernel
theorem dX1_sumFromLast_3 : decode cX1_sumFromLast 3 = .ok (.lstore_n 1, 1) := by decide +kernel
theorem dX1_sumFromLast_4 : decode cX1_sumFromLast 4 = .ok (.aload_n 0, 1) := by decide +kernel
theorem dX1_sumFromLast_5 : decode cX1_sumFromLast 5 = .ok (.getfield 15, 3) := by decide +kernel
theorem dX1_sumFromLast_8 : decode cX1_sumFromLast 8 = .ok (.iconst 1, 1) := by decide +kernel
theorem dX1_sumFromLast_9 : decode cX1_sumFromLast 9 = .ok (.isub, 1) := by decide +kernel
theorem dX1_sumFromLast_10 : decode cX1_sumFromLast 10 = .ok (.istore_n 3, 1) := by decide +kernel
theorem dX1_sumFromLast_11 : decode cX1_sumFromLast 11 = .ok (.iload_n 3, 1) := by decide +kernel
theorem dX1_sumFromLast_12 : decode cX1_sumFromLast 12 = .ok (.ifCond .lt 23, 3) := by decide +kernel
theorem dX1_sumFromLast_15 : decode cX1_sumFromLast 15 = .ok (.ldc2_w 49, 3) := by decide +kernel
theorem dX1_sumFromLast_18 : decode cX1_sumFromLast 18 = .ok (.lload_n 1, 1) := by decide +kernel
theorem dX1_sumFromLast_19 : decode cX1_sumFromLast 19 = .ok (.lmul, 1) := by decide +kernel
theorem dX1_sumFromLast_20 : decode cX1_sumFromLast 20 = .ok (.aload_n 0, 1) := by decide +kernel
theorem dX1_sumFromLast_21 : decode cX1_sumFromLast 21 = .ok (.getfield 9, 3) := by decide +kernel
theorem dX1_sumFromLast_24 : decode cX1_sumFromLast 24 = .ok (.iload_n 3, 1) := by decide +kernel
theorem dX1_sumFromLast_25 : decode cX1_sumFromLast 25 = .ok (.iaload, 1) := by decide +kernel
theorem dX1_sumFromLast_26 : decode cX1_sumFromLast 26 = .ok (.i2l, 1) := by decide +kernel
theorem dX1_sumFromLast_27 : decode cX1_sumFromLast 27 = .ok (.ladd, 1) := by decide +kernel
theorem dX1_sumFromLast_28 : decode cX1_sumFromLast 28 = .ok (.lstore_n 1, 1) := by decide +kernel
theorem dX1_sumFromLast_29 : decode cX1_sumFromLast 29 = .ok (.iinc 3 (-1), 3) := by decide +kernel
theorem dX1_sumFromLast_32 : decode cX1_sumFromLast 32 = .ok (.goto (-21), 3) := by decide +kernel
theorem dX1_sumFromLast_35 : decode cX1_sumFromLast 35 = .ok (.lload_n 1, 1) := by decide +kernel
theorem dX1_sumFromLast_36 : decode cX1_sumFromLast 36 = .ok (.lreturn, 1) := by decide +kernel
theorem dX1_empty_0 : decode cX1_empty 0 = .ok (.aload_n 0, 1) := by decide +kernel
theorem dX1_empty_1 : decode cX1_empty 1 = .ok (.getfield 15, 3) := by decide +kernel
theorem dX1_empty_4 : decode cX1_empty 4 = .ok (.istore_n 1, 1) := by decide +kernel
theorem dX1_empty_5 : decode cX1_empty 5 = .ok (.aload_n 0, 1) := by decide +kernel
theorem dX1_empty_6 : decode cX1_empty 6 = .ok (.iconst 0, 1) := by decide +kernel
theorem dX1_empty_7 : decode cX1_empty 7 = .ok (.putfield 15, 3) := by decide +kernel
theorem dX1_empty_10 : decode cX1_empty 10 = .ok (.iload_n 1, 1) := by decide +kernel
theorem dX1_empty_11 : decode cX1_empty 11 = .ok (.ireturn, 1) := by decide +kernel
set_option maxRecDepth 20000 in
theorem ggX2_init_X0_init : GoodIn wsX2_init wsX0_init := goodIn_r _ [14, 15, 2, 3, 16, 17, 18, 25, 26] (by decide +kernel) (by decide +kernel)
set_option maxRecDepth 20000 in
theorem gX2_init_X0_init_n9 : GoodIn wsX2_init (wsX0_init) := ggX2_init_X0_init
set_option maxRecDepth 20000 in
theorem ggX2_init_X1_init : GoodIn wsX2_init wsX1_init := goodIn_r _ [20, 21, 2, 3, 22, 23, 24, 30, 31] (by decide +kernel) (by decide +kernel)
set_option maxRecDepth 20000 in
theorem gX2_init_X1_init_n21 : GoodIn wsX2_init (wsX1_init) := ggX2_init_X1_init
theorem dX2_init_0 : decode cX2_init 0 = .ok (.aload_n 0, 1) := by decide +kernel
theorem dX2_init_1 : decode cX2_init 1 = .ok (.invokespecial 1, 3) := by decide +kernel
theorem dX2_init_4 : decode cX2_init 4 = .ok (.aload_n 0, 1) := by decide +kernel
theorem dX2_init_5 : decode cX2_init 5 = .ok (.new 7, 3) := by decide +kernel
theorem dX2_init_8 : decode cX2_init 8 = .ok (.dup, 1) := by decide +kernel
theorem dX2_init_9 : decode cX2_init 9 = .ok (.invokespecial 9, 3) := by decide +kernel
theorem dX2_init_12 : decode cX2_init 12 = .ok (.putfield 10, 3) := by decide +kernel
theorem dX2_init_15 : decode cX2_init 15 = .ok (.aload_n 0, 1) := by decide +kernel
theorem dX2_init_16 : decode cX2_init 16 = .ok (.new 7, 3) := by decide +kernel
theorem dX2_init_19 : decode cX2_init 19 = .ok (.dup, 1) := by decide +kernel
theorem dX2_init_20 : decode cX2_init 20 = .ok (.invokespecial 9, 3) := by decide +kernel
theorem dX2_init_23 : decode cX2_init 23 = .ok (.putfield 16, 3) := by decide +kernel
theorem dX2_init_26 : decode cX2_init 26 = .ok (.aload_n 0, 1) := by decide +kernel
theorem dX2_init_27 : decode cX2_init 27 = .ok (.new 19, 3) := by decide +kernel
theorem dX2_init_30 : decode cX2_init 30 = .ok (.dup, 1) := by decide +kernel
theorem dX2_init_31 : decode cX2_init 31 = .ok (.invokespecial 21, 3) := by decide +kernel
theorem dX2_init_34 : decode cX2_init 34 = .ok (.putfield 22, 3) := by decide +kernel
theorem dX2_init_37 : decode cX2_init 37 = .ok (.return_, 1) := by decide +kernel
set_option maxRecDepth 20000 in
theorem ggX2_offer_X0_put : GoodIn wsX2_offer wsX0_put := goodIn_ca (goodIn_r _ [6, 7, 8, 9, 10, 14, 15] (by decide +kernel) (by decide +kernel)) (goodIn_sub (fun _ h => List.mem_cons_of_mem _ (List.mem_append_right _ h)) (by decide +kernel))
set_option maxRecDepth 20000 in
theorem gX2_offer_X0_put : GoodIn wsX2_offer (wsV RX2 26 RX0 yX0_put wsX0_put) := goodIn_app (goodIn_of _ (by decide +kernel)) ggX2_offer_X0_put
theorem dX2_offer_0 : decode cX2_offer 0 = .ok (.aload_n 0, 1) := by decide +kernel
theorem dX2_offer_1 : decode cX2_offer 1 = .ok (.getfield 10, 3) := by decide +kernel
theorem dX2_offer_4 : decode cX2_offer 4 = .ok (.iload_n 1, 1) := by decide +kernel
theorem dX2_offer_5 : decode cX2_offer 5 = .ok (.i2l, 1) := by decide +kernel
theorem dX2_offer_6 : decode cX2_offer 6 = .ok (.invokevirtual 26, 3) := by decide +kernel
theorem dX2_offer_9 : decode cX2_offer 9 = .ok (.ireturn, 1) := by decide +kernel
set_option maxRecDepth 20000 in
theorem ggX2_add_X0_put : GoodIn wsX2_add wsX0_put := goodIn_ca (goodIn_r _ [6, 7, 8, 9, 10, 14, 15] (by decide +kernel) (by decide +kernel)) (goodIn_sub (fun _ h => List.mem_cons_of_mem _ (List.mem_append_right _ h)) (by decide +kernel))
set_option maxRecDepth 20000 in
theorem gX2_add_X0_put : GoodIn wsX2_add (wsV RX2 26 RX0 yX0_put wsX0_put) := goodIn_app (goodIn_of _ (by decide +kernel)) ggX2_add_X0_put
theorem dX2_add_0 : decode cX2_add 0 = .ok (.aload_n 0, 1) := by decide +kernel
theorem dX2_add_1 : decode cX2_add 1 = .ok (.getfield 10, 3) := by decide +kernel
theorem dX2_add_4 : decode cX2_add 4 = .ok (.iload_n 1, 1) := by decide +kernel
theorem dX2_add_5 : decode cX2_add 5 = .ok (.i2l, 1) := by decide +kernel
theorem dX2_add_6 : decode cX2_add 6 = .ok (.invokevirtual 26, 3) := by decide +kernel
theorem dX2_add_9 : decode cX2_add 9 = .ok (.ireturn, 1) := by decide +kernel
set_option maxRecDepth 20000 in
theorem ggX2_peek_X0_least : GoodIn wsX2_peek wsX0_least := goodIn_ca (goodIn_r _ [6, 7, 8, 9, 10, 14, 15] (by decide +kernel) (by decide +kernel)) (goodIn_sub (fun _ h => List.mem_cons_of_mem _ (List.mem_append_right _ h)) (by decide +kernel))
set_option maxRecDepth 20000 in
theorem gX2_peek_X0_least : GoodIn wsX2_peek (wsV RX2 30 RX0 yX0_least wsX0_least) := goodIn_app (goodIn_of _ (by decide +kernel)) ggX2_peek_X0_least
theorem dX2_peek_0 : decode cX2_peek 0 = .ok (.aload_n 0, 1) := by decide +kernel
theorem dX2_peek_1 : decode cX2_peek 1 = .ok (.getfield 10, 3) := by decide +kernel
theorem dX2_peek_4 : decode cX2_peek 4 = .ok (.invokevirtual 30, 3) := by decide +kernel
theorem dX2_peek_7 : decode cX2_peek 7 = .ok (.l2i, 1) := by decide +kernel
theorem dX2_peek_8 : decode cX2_peek 8 = .ok (.ireturn, 1) := by decide +kernel
set_option maxRecDepth 20000 in
theorem ggX2_poll_X0_takeLeast : GoodIn wsX2_poll wsX0_takeLeast := goodIn_ca (goodIn_r _ [6, 7, 8, 9, 10, 5, 11, 12, 13, 14, 18, 19] (by decide +kernel) (by decide +kernel)) (goodIn_sub (fun _ h => List.mem_cons_of_mem _ (List.mem_append_right _ h)) (by decide +kernel))
set_option maxRecDepth 20000 in
theorem gX2_poll_X0_takeLeast : GoodIn wsX2_poll (wsV RX2 34 RX0 yX0_takeLeast wsX0_takeLeast) := goodIn_app (goodIn_of _ (by decide +kernel)) ggX2_poll_X0_takeLeast
theorem dX2_poll_0 : decode cX2_poll 0 = .ok (.aload_n 0, 1) := by decide +kernel
theorem dX2_poll_1 : decode cX2_poll 1 = .ok (.getfield 10, 3) := by decide +kernel
theorem dX2_poll_4 : decode cX2_poll 4 = .ok (.invokevirtual 34, 3) := by decide +kernel
theorem dX2_poll_7 : decode cX2_poll 7 = .ok (.l2i, 1) := by decide +kernel
theorem dX2_poll_8 : decode cX2_poll 8 = .ok (.ireturn, 1) := by decide +kernel
set_option maxRecDepth 20000 in
theorem ggX2_remove_X0_takeLike : GoodIn wsX2_remove wsX0_takeLike := goodIn_r _ [6, 7, 8, 9, 10, 11, 5, 12, 16, 17] (by decide +kernel) (by decide +kernel)
set_option maxRecDepth 20000 in
theorem gX2_remove_X0_takeLike : GoodIn wsX2_remove (wsV RX2 37 RX0 yX0_takeLike wsX0_takeLike) := goodIn_app (goodIn_of _ (by decide +kernel)) ggX2_remove_X0_takeLike
theorem dX2_remove_0 : decode cX2_remove 0 = .ok (.aload_n 0, 1) := by decide +kernel
theorem dX2_remove_1 : decode cX2_remove 1 = .ok (.getfield 10, 3) := by decide +kernel
theorem dX2_remove_4 : decode cX2_remove 4 = .ok (.iload_n 1, 1) := by decide +kernel
theorem dX2_remove_5 : decode cX2_remove 5 = .ok (.i2l, 1) := by decide +kernel
theorem dX2_remove_6 : decode cX2_remove 6 = .ok (.invokevirtual 37, 3) := by decide +kernel
theorem dX2_remove_9 : decode cX2_remove 9 = .ok (.ireturn, 1) := by decide +kernel
set_option maxRecDepth 20000 in
theorem ggX2_contains_X0_placeOf : GoodIn wsX2_contains wsX0_placeOf := goodIn_r _ [6, 7, 8, 12, 13] (by decide +kernel) (by decide +kernel)
set_option maxRecDepth 20000 in
theorem gX2_contains_X0_placeOf : GoodIn wsX2_contains (wsV RX2 41 RX0 yX0_placeOf wsX0_placeOf) := goodIn_app (goodIn_of _ (by decide +kernel)) ggX2_contains_X0_placeOf
theorem dX2_contains_0 : decode cX2_contains 0 = .ok (.aload_n 0, 1) := by decide +kernel
theorem dX2_contains_1 : decode cX2_contains 1 = .ok (.getfield 10, 3) := by decide +kernel
theorem dX2_contains_4 : decode cX2_contains 4 = .ok (.iload_n 1, 1) := by decide +kernel
theorem dX2_contains_5 : decode cX2_contains 5 = .ok (.i2l, 1) := by decide +kernel
theorem dX2_contains_6 : decode cX2_contains 6 = .ok (.invokevirtual 41, 3) := by decide +kernel
theorem dX2_contains_9 : decode cX2_contains 9 = .ok (.ifCond .lt 7, 3) := by decide +kernel
theorem dX2_contains_12 : decode cX2_contains 12 = .ok (.iconst 1, 1) := by decide +kernel
theorem dX2_contains_13 : decode cX2_contains 13 = .ok (.goto 4, 3) := by decide +kernel
theorem dX2_contains_16 : decode cX2_contains 16 = .ok (.iconst 0, 1) := by decide +kernel
theorem dX2_contains_17 : decode cX2_contains 17 = .ok (.ireturn, 1) := by decide +kernel
theorem dX2_size_0 : decode cX2_size 0 = .ok (.aload_n 0, 1) := by decide +kernel
theorem dX2_size_1 : decode cX2_size 1 = .ok (.getfield 10, 3) := by decide +kernel
theorem dX2_size_4 : decode cX2_size 4 = .ok (.getfield 44, 3) := by decide +kernel
theorem dX2_size_7 : decode cX2_size 7 = .ok (.ireturn, 1) := by decide +kernel
set_option maxRecDepth 20000 in
theorem ggX2_clear_X0_empty : GoodIn wsX2_clear wsX0_empty := goodIn_r _ [6, 7, 11, 12] (by decide +kernel) (by decide +kernel)
set_option maxRecDepth 20000 in
theorem gX2_clear_X0_empty : GoodIn wsX2_clear (wsV RX2 48 RX0 yX0_empty wsX0_empty) := goodIn_app (goodIn_of _ (by decide +kernel)) ggX2_clear_X0_empty
theorem dX2_clear_0 : decode cX2_clear 0 = .ok (.aload_n 0, 1) := by decide +kernel
theorem dX2_clear_1 : decode cX2_clear 1 = .ok (.getfield 10, 3) := by decide +kernel
theorem dX2_clear_4 : decode cX2_clear 4 = .ok (.invokevirtual 48, 3) := by decide +kernel
theorem dX2_clear_7 : decode cX2_clear 7 = .ok (.ireturn, 1) := by decide +kernel
set_option maxRecDepth 20000 in
theorem ggX2_addAll_X1_numberAt : GoodIn wsX2_addAll wsX1_numberAt := goodIn_ca (goodIn_r _ [9, 10, 11, 12, 13, 27, 28] (by decide +kernel) (by decide +kernel)) (goodIn_sub (fun _ h => List.mem_cons_of_mem _ (List.mem_append_left _ (List.mem_append_right _ h))) (by decide +kernel))
set_option maxRecDepth 20000 in
theorem gX2_addAll_X1_numberAt : GoodIn wsX2_addAll (wsV RX2 60 RX1 yX1_numberAt wsX1_numberAt) := goodIn_app (goodIn_of _ (by decide +kernel)) ggX2_addAll_X1_numberAt
set_option maxRecDepth 20000 in
theorem ggX2_addAll_X0_put : GoodIn wsX2_addAll wsX0_put := goodIn_ca (goodIn_r _ [18, 19, 2, 20, 21, 25, 26] (by decide +kernel) (by decide +kernel)) (goodIn_sub (fun _ h => List.mem_cons_of_mem _ (List.mem_append_right _ h)) (by decide +kernel))
set_option maxRecDepth 20000 in
theorem gX2_addAll_X0_put : GoodIn wsX2_addAll (wsV RX2 26 RX0 yX0_put wsX0_put) := goodIn_app (goodIn_of _ (by decide +kernel)) ggX2_addAll_X0_put
theorem dX2_addAll_0 : decode cX2_addAll 0 = .ok (.aload_n 0, 1) := by decide +kernel
theorem dX2_addAll_1 : decode cX2_addAll 1 = .ok (.getfield 10, 3) := by decide +kernel
theorem dX2_addAll_4 : decode cX2_addAll 4 = .ok (.getfield 44, 3) := by decide +kernel
theorem dX2_addAll_7 : decode cX2_addAll 7 = .ok (.aload_n 0, 1) := by decide +kernel
theorem dX2_addAll_8 : decode cX2_addAll 8 = .ok (.getfield 22, 3) := by decide +kernel
theorem dX2_addAll_11 : decode cX2_addAll 11 = .ok (.getfield 52, 3) := by decide +kernel
theorem dX2_addAll_14 : decode cX2_addAll 14 = .ok (.iadd, 1) := by decide +kernel
theorem dX2_addAll_15 : decode cX2_addAll 15 = .ok (.sipush 200, 3) := by decide +kernel
theorem dX2_addAll_18 : decode cX2_addAll 18 = .ok (.if_icmp .le 13, 3) := by decide +kernel
theorem dX2_addAll_21 : decode cX2_addAll 21 = .ok (.new 53, 3) := by decide +kernel
theorem dX2_addAll_24 : decode cX2_addAll 24 = .ok (.dup, 1) := by decide +kernel
theorem dX2_addAll_25 : decode cX2_addAll 25 = .ok (.ldc 55, 2) := by decide +kernel
theorem dX2_addAll_27 : decode cX2_addAll 27 = .ok (.invokespecial 57, 3) := by decide +kernel
theorem dX2_addAll_30 : decode cX2_addAll 30 = .ok (.athrow, 1) := by decide +kernel
theorem dX2_addAll_31 : decode cX2_addAll 31 = .ok (.iconst 0, 1) := by decide +kernel
theorem dX2_addAll_32 : decode cX2_addAll 32 = .ok (.istore_n 1, 1) := by decide +kernel
theorem dX2_addAll_33 : decode cX2_addAll 33 = .ok (.iload_n 1, 1) := by decide +kernel
theorem dX2_addAll_34 : decode cX2_addAll 34 = .ok (.aload_n 0, 1) := by decide +kernel
theorem dX2_addAll_35 : decode cX2_addAll 35 = .ok (.getfield 22, 3) := by decide +kernel
theorem dX2_addAll_38 : decode cX2_addAll 38 = .ok (.getfield 52, 3) := by decide +kernel
theorem dX2_addAll_41 : decode cX2_addAll 41 = .ok (.if_icmp .ge 26, 3) := by decide +kernel
theorem dX2_addAll_44 : decode cX2_addAll 44 = .ok (.aload_n 0, 1) := by decide +kernel
theorem dX2_addAll_45 : decode cX2_addAll 45 = .ok (.getfield 10, 3) := by decide +kernel
theorem dX2_addAll_48 : decode cX2_addAll 48 = .ok (.aload_n 0, 1) := by decide +kernel
theorem dX2_addAll_49 : decode cX2_addAll 49 = .ok (.getfield 22, 3) := by decide +kernel
theorem dX2_addAll_52 : decode cX2_addAll 52 = .ok (.iload_n 1, 1) := by decide +kernel
theorem dX2_addAll_53 : decode cX2_addAll 53 = .ok (.invokevirtual 60, 3) := by decide +kernel
theorem dX2_addAll_56 : decode cX2_addAll 56 = .ok (.i2l, 1) := by decide +kernel
theorem dX2_addAll_57 : decode cX2_addAll 57 = .ok (.invokevirtual 26, 3) := by decide +kernel
theorem dX2_addAll_60 : decode cX2_addAll 60 = .ok (.pop, 1) := by decide +kernel
theorem dX2_addAll_61 : decode cX2_addAll 61 = .ok (.iinc 1 1, 3) := by decide +kernel
theorem dX2_addAll_64 : decode cX2_addAll 64 = .ok (.goto (-31), 3) := by decide +kernel
theorem dX2_addAll_67 : decode cX2_addAll 67 = .ok (.aload_n 0, 1) := by decide +kernel
theorem dX2_addAll_68 : decode cX2_addAll 68 = .ok (.getfield 10, 3) := by decide +kernel
theorem dX2_addAll_71 : decode cX2_addAll 71 = .ok (.getfield 44, 3) := by decide +kernel
theorem dX2_addAll_74 : decode cX2_addAll 74 = .ok (.ireturn, 1) := by decide +kernel
set_option maxRecDepth 20000 in
theorem ggX2_drain_X2_refuseAtRow : GoodIn wsX2_drain wsX2_refuseAtRow := goodIn_ca (goodIn_r _ [7, 8, 9, 2, 31, 32, 33, 36, 37] (by decide +kernel) (by decide +kernel)) (goodIn_sub (fun _ h => List.mem_cons_of_mem _ (List.mem_append_left _ (List.mem_append_left _ (List.mem_append_right _ h)))) (by decide +kernel))
set_option maxRecDepth 20000 in
theorem gX2_drain_X2_refuseAtRow : GoodIn wsX2_drain (wsV RX2 64 RX2 yX2_refuseAtRow wsX2_refuseAtRow) := goodIn_app (goodIn_of _ (by decide +kernel)) ggX2_drain_X2_refuseAtRow
set_option maxRecDepth 20000 in
theorem ggX2_drain_X0_takeLeast : GoodIn wsX2_drain wsX0_takeLeast := goodIn_ca (goodIn_r _ [14, 15, 16, 17, 18, 13, 19, 20, 21, 22, 34, 35] (by decide +kernel) (by decide +kernel)) (goodIn_sub (fun _ h => List.mem_cons_of_mem _ (List.mem_append_left _ (List.mem_append_right _ h))) (by decide +kernel))
set_option maxRecDepth 20000 in
theorem gX2_drain_X0_takeLeast : GoodIn wsX2_drain (wsV RX2 34 RX0 yX0_takeLeast wsX0_takeLeast) := goodIn_app (goodIn_of _ (by decide +kernel)) ggX2_drain_X0_takeLeast
set_option maxRecDepth 20000 in
theorem ggX2_drain_X1_putLast : GoodIn wsX2_drain wsX1_putLast := goodIn_ca (goodIn_r _ [27, 28, 9, 29, 30, 36, 37] (by decide +kernel) (by decide +kernel)) (goodIn_sub (fun _ h => List.mem_cons_of_mem _ (List.mem_append_right _ h)) (by decide +kernel))
set_option maxRecDepth 20000 in
theorem gX2_drain_X1_putLast : GoodIn wsX2_drain (wsV RX2 68 RX1 yX1_putLast wsX1_putLast) := goodIn_app (goodIn_of _ (by decide +kernel)) ggX2_drain_X1_putLast
theorem dX2_drain_0 : decode cX2_drain 0 = .ok (.aload_n 0, 1) := by decide +kernel
theorem dX2_drain_1 : decode cX2_drain 1 = .ok (.aload_n 0, 1) := by decide +kernel
theorem dX2_drain_2 : decode cX2_drain 2 = .ok (.getfield 10, 3) := by decide +kernel
theorem dX2_drain_5 : decode cX2_drain 5 = .ok (.getfield 44, 3) := by decide +kernel
theorem dX2_drain_8 : decode cX2_drain 8 = .ok (.invokevirtual 64, 3) := by decide +kernel
theorem dX2_drain_11 : decode cX2_drain 11 = .ok (.aload_n 0, 1) := by decide +kernel
theorem dX2_drain_12 : decode cX2_drain 12 = .ok (.getfield 10, 3) := by decide +kernel
theorem dX2_drain_15 : decode cX2_drain 15 = .ok (.getfield 44, 3) := by decide +kernel
theorem dX2_drain_18 : decode cX2_drain 18 = .ok (.istore_n 1, 1) := by decide +kernel
theorem dX2_drain_19 : decode cX2_drain 19 = .ok (.iconst 0, 1) := by decide +kernel
theorem dX2_drain_20 : decode cX2_drain 20 = .ok (.istore_n 2, 1) := by decide +kernel
theorem dX2_drain_21 : decode cX2_drain 21 = .ok (.iload_n 2, 1) := by decide +kernel
theorem dX2_drain_22 : decode cX2_drain 22 = .ok (.iload_n 1, 1) := by decide +kernel
theorem dX2_drain_23 : decode cX2_drain 23 = .ok (.if_icmp .ge 25, 3) := by decide +kernel
theorem dX2_drain_26 : decode cX2_drain 26 = .ok (.aload_n 0, 1) := by decide +kernel
theorem dX2_drain_27 : decode cX2_drain 27 = .ok (.getfield 22, 3) := by decide +kernel
theorem dX2_drain_30 : decode cX2_drain 30 = .ok (.aload_n 0, 1) := by decide +kernel
theorem dX2_drain_31 : decode cX2_drain 31 = .ok (.getfield 10, 3) := by decide +kernel
theorem dX2_drain_34 : decode cX2_drain 34 = .ok (.invokevirtual 34, 3) := by decide +kernel
theorem dX2_drain_37 : decode cX2_drain 37 = .ok (.l2i, 1) := by decide +kernel
theorem dX2_drain_38 : decode cX2_drain 38 = .ok (.invokevirtual 68, 3) := by decide +kernel
theorem dX2_drain_41 : decode cX2_drain 41 = .ok (.pop, 1) := by decide +kernel
theorem dX2_drain_42 : decode cX2_drain 42 = .ok (.iinc 2 1, 3) := by decide +kernel
theorem dX2_drain_45 : decode cX2_drain 45 = .ok (.goto (-24), 3) := by decide +kernel
theorem dX2_drain_48 : decode cX2_drain 48 = .ok (.iload_n 1, 1) := by decide +kernel
theorem dX2_drain_49 : decode cX2_drain 49 = .ok (.ireturn, 1) := by decide +kernel
set_option maxRecDepth 20000 in
theorem ggX2_offerPair_X2_rankOf : GoodIn wsX2_offerPair wsX2_rankOf := goodIn_ca (goodIn_r _ [5, 6, 7, 8] (by decide +kernel) (by decide +kernel)) (goodIn_sub (fun _ h => List.mem_cons_of_mem _ (List.mem_append_left _ (List.mem_append_right _ h))) (by decide +kernel))
set_option maxRecDepth 20000 in
theorem gX2_offerPair_X2_rankOf : GoodIn wsX2_offerPair (va_wsS RX2 71 yX2_rankOf wsX2_rankOf) := goodIn_app (goodIn_of _ (by decide +kernel)) ggX2_offerPair_X2_rankOf
set_option maxRecDepth 20000 in
theorem ggX2_offerPair_X0_put : GoodIn wsX2_offerPair wsX0_put := goodIn_ca (goodIn_r _ [13, 14, 15, 16, 17, 21, 22] (by decide +kernel) (by decide +kernel)) (goodIn_sub (fun _ h => List.mem_cons_of_mem _ (List.mem_append_right _ h)) (by decide +kernel))
set_option maxRecDepth 20000 in
theorem gX2_offerPair_X0_put : GoodIn wsX2_offerPair (wsV RX2 26 RX0 yX0_put wsX0_put) := goodIn_app (goodIn_of _ (by decide +kernel)) ggX2_offerPair_X0_put
theorem dX2_offerPair_0 : decode cX2_offerPair 0 = .ok (.aload_n 0, 1) := by decide +kernel
theorem dX2_offerPair_1 : decode cX2_offerPair 1 = .ok (.getfield 16, 3) := by decide +kernel
theorem dX2_offerPair_4 : decode cX2_offerPair 4 = .ok (.iload_n 1, 1) := by decide +kernel
theorem dX2_offerPair_5 : decode cX2_offerPair 5 = .ok (.iload_n 2, 1) := by decide +kernel
theorem dX2_offerPair_6 : decode cX2_offerPair 6 = .ok (.invokestatic 71, 3) := by decide +kernel
theorem dX2_offerPair_9 : decode cX2_offerPair 9 = .ok (.invokevirtual 26, 3) := by decide +kernel
theorem dX2_offerPair_12 : decode cX2_offerPair 12 = .ok (.ireturn, 1) := by decide +kernel
set_option maxRecDepth 20000 in
theorem ggX2_peekPair_X0_least : GoodIn wsX2_peekPair wsX0_least := goodIn_ca (goodIn_r _ [6, 7, 8, 9, 10, 30, 31] (by decide +kernel) (by decide +kernel)) (goodIn_sub (fun _ h => List.mem_cons_of_mem _ (List.mem_append_right _ h)) (by decide +kernel))
set_option maxRecDepth 20000 in
theorem gX2_peekPair_X0_least : GoodIn wsX2_peekPair (wsV RX2 30 RX0 yX0_least wsX0_least) := goodIn_app (goodIn_of _ (by decide +kernel)) ggX2_peekPair_X0_least
set_option maxRecDepth 20000 in
theorem ggX2_peekPair_X2_toldOf : GoodIn wsX2_peekPair wsX2_toldOf := goodIn_r _ [14, 15, 16, 17, 18, 19, 20, 21, 22, 13, 23, 24, 25, 26] (by decide +kernel) (by decide +kernel)
set_option maxRecDepth 20000 in
theorem gX2_peekPair_X2_toldOf : GoodIn wsX2_peekPair (va_wsS RX2 75 yX2_toldOf wsX2_toldOf) := goodIn_app (goodIn_of _ (by decide +kernel)) ggX2_peekPair_X2_toldOf
theorem dX2_peekPair_0 : decode cX2_peekPair 0 = .ok (.aload_n 0, 1) := by decide +kernel
theorem dX2_peekPair_1 : decode cX2_peekPair 1 = .ok (.getfield 16, 3) := by decide +kernel
theorem dX2_peekPair_4 : decode cX2_peekPair 4 = .ok (.invokevirtual 30, 3) := by decide +kernel
theorem dX2_peekPair_7 : decode cX2_peekPair 7 = .ok (.invokestatic 75, 3) := by decide +kernel
theorem dX2_peekPair_10 : decode cX2_peekPair 10 = .ok (.lreturn, 1) := by decide +kernel
set_option maxRecDepth 20000 in
theorem ggX2_pollPair_X0_takeLeast : GoodIn wsX2_pollPair wsX0_takeLeast := goodIn_ca (goodIn_r _ [6, 7, 8, 9, 10, 5, 11, 12, 13, 14, 34, 35] (by decide +kernel) (by decide +kernel)) (goodIn_sub (fun _ h => List.mem_cons_of_mem _ (List.mem_append_right _ h)) (by decide +kernel))
set_option maxRecDepth 20000 in
theorem gX2_pollPair_X0_takeLeast : GoodIn wsX2_pollPair (wsV RX2 34 RX0 yX0_takeLeast wsX0_takeLeast) := goodIn_app (goodIn_of _ (by decide +kernel)) ggX2_pollPair_X0_takeLeast
set_option maxRecDepth 20000 in
theorem ggX2_pollPair_X2_toldOf : GoodIn wsX2_pollPair wsX2_toldOf := goodIn_r _ [18, 19, 20, 21, 22, 23, 24, 25, 26, 17, 27, 28, 29, 30] (by decide +kernel) (by decide +kernel)
set_option maxRecDepth 20000 in
theorem gX2_pollPair_X2_toldOf : GoodIn wsX2_pollPair (va_wsS RX2 75 yX2_toldOf wsX2_toldOf) := goodIn_app (goodIn_of _ (by decide +kernel)) ggX2_pollPair_X2_toldOf
theorem dX2_pollPair_0 : decode cX2_pollPair 0 = .ok (.aload_n 0, 1) := by decide +kernel
theorem dX2_pollPair_1 : decode cX2_pollPair 1 = .ok (.getfield 16, 3) := by decide +kernel
theorem dX2_pollPair_4 : decode cX2_pollPair 4 = .ok (.invokevirtual 34, 3) := by decide +kernel
theorem dX2_pollPair_7 : decode cX2_pollPair 7 = .ok (.invokestatic 75, 3) := by decide +kernel
theorem dX2_pollPair_10 : decode cX2_pollPair 10 = .ok (.lreturn, 1) := by decide +kernel
set_option maxRecDepth 20000 in
theorem ggX2_removePair_X2_rankOf : GoodIn wsX2_removePair wsX2_rankOf := goodIn_ca (goodIn_r _ [5, 6, 7, 8] (by decide +kernel) (by decide +kernel)) (goodIn_sub (fun _ h => List.mem_cons_of_mem _ (List.mem_append_right _ h)) (by decide +kernel))
set_option maxRecDepth 20000 in
theorem gX2_removePair_X2_rankOf : GoodIn wsX2_removePair (va_wsS RX2 71 yX2_rankOf wsX2_rankOf) := goodIn_app (goodIn_of _ (by decide +kernel)) ggX2_removePair_X2_rankOf
set_option maxRecDepth 20000 in
theorem ggX2_removePair_X0_takeLike : GoodIn wsX2_removePair wsX0_takeLike := goodIn_r _ [13, 14, 15, 16, 17, 18, 12, 19, 23, 24] (by decide +kernel) (by decide +kernel)
set_option maxRecDepth 20000 in
theorem gX2_removePair_X0_takeLike : GoodIn wsX2_removePair (wsV RX2 37 RX0 yX0_takeLike wsX0_takeLike) := goodIn_app (goodIn_of _ (by decide +kernel)) ggX2_removePair_X0_takeLike
theorem dX2_removePair_0 : decode cX2_removePair 0 = .ok (.aload_n 0, 1) := by decide +kernel
theorem dX2_removePair_1 : decode cX2_removePair 1 = .ok (.getfield 16, 3) := by decide +kernel
theorem dX2_removePair_4 : decode cX2_removePair 4 = .ok (.iload_n 1, 1) := by decide +kernel
theorem dX2_removePair_5 : decode cX2_removePair 5 = .ok (.iload_n 2, 1) := by decide +kernel
theorem dX2_removePair_6 : decode cX2_removePair 6 = .ok (.invokestatic 71, 3) := by decide +kernel
theorem dX2_removePair_9 : decode cX2_removePair 9 = .ok (.invokevirtual 37, 3) := by decide +kernel
theorem dX2_removePair_12 : decode cX2_removePair 12 = .ok (.ireturn, 1) := by decide +kernel
set_option maxRecDepth 20000 in
theorem ggX2_containsPair_X2_rankOf : GoodIn wsX2_containsPair wsX2_rankOf := goodIn_ca (goodIn_r _ [5, 6, 7, 8] (by decide +kernel) (by decide +kernel)) (goodIn_sub (fun _ h => List.mem_cons_of_mem _ (List.mem_append_right _ h)) (by decide +kernel))
set_option maxRecDepth 20000 in
theorem gX2_containsPair_X2_rankOf : GoodIn wsX2_containsPair (va_wsS RX2 71 yX2_rankOf wsX2_rankOf) := goodIn_app (goodIn_of _ (by decide +kernel)) ggX2_containsPair_X2_rankOf
set_option maxRecDepth 20000 in
theorem ggX2_containsPair_X0_placeOf : GoodIn wsX2_containsPair wsX0_placeOf := goodIn_r _ [13, 14, 15, 19, 20] (by decide +kernel) (by decide +kernel)
set_option maxRecDepth 20000 in
theorem gX2_containsPair_X0_placeOf : GoodIn wsX2_containsPair (wsV RX2 41 RX0 yX0_placeOf wsX0_placeOf) := goodIn_app (goodIn_of _ (by decide +kernel)) ggX2_containsPair_X0_placeOf
theorem dX2_containsPair_0 : decode cX2_containsPair 0 = .ok (.aload_n 0, 1) := by decide +kernel
theorem dX2_containsPair_1 : decode cX2_containsPair 1 = .ok (.getfield 16, 3) := by decide +kernel
theorem dX2_containsPair_4 : decode cX2_containsPair 4 = .ok (.iload_n 1, 1) := by decide +kernel
theorem dX2_containsPair_5 : decode cX2_containsPair 5 = .ok (.iload_n 2, 1) := by decide +kernel
theorem dX2_containsPair_6 : decode cX2_containsPair 6 = .ok (.invokestatic 71, 3) := by decide +kernel
theorem dX2_containsPair_9 : decode cX2_containsPair 9 = .ok (.invokevirtual 41, 3) := by decide +kernel
theorem dX2_containsPair_12 : decode cX2_containsPair 12 = .ok (.ifCond .lt 7, 3) := by decide +kernel
theorem dX2_containsPair_15 : decode cX2_containsPair 15 = .ok (.iconst 1, 1) := by decide +kernel
theorem dX2_containsPair_16 : decode cX2_containsPair 16 = .ok (.goto 4, 3) := by decide +kernel
theorem dX2_containsPair_19 : decode cX2_containsPair 19 = .ok (.iconst 0, 1) := by decide +kernel
theorem dX2_containsPair_20 : decode cX2_containsPair 20 = .ok (.ireturn, 1) := by decide +kernel
theorem dX2_sizePairs_0 : decode cX2_sizePairs 0 = .ok (.aload_n 0, 1) := by decide +kernel
theorem dX2_sizePairs_1 : decode cX2_sizePairs 1 = .ok (.getfield 16, 3) := by decide +kernel
theorem dX2_sizePairs_4 : decode cX2_sizePairs 4 = .ok (.getfield 44, 3) := by decide +kernel
theorem dX2_sizePairs_7 : decode cX2_sizePairs 7 = .ok (.ireturn, 1) := by decide +kernel
set_option maxRecDepth 20000 in
theorem ggX2_clearPairs_X0_empty : GoodIn wsX2_clearPairs wsX0_empty := goodIn_r _ [6, 7, 11, 12] (by decide +kernel) (by decide +kernel)
set_option maxRecDepth 20000 in
theorem gX2_clearPairs_X0_empty : GoodIn wsX2_clearPairs (wsV RX2 48 RX0 yX0_empty wsX0_empty) := goodIn_app (goodIn_of _ (by decide +kernel)) ggX2_clearPairs_X0_empty
theorem dX2_clearPairs_0 : decode cX2_clearPairs 0 = .ok (.aload_n 0, 1) := by decide +kernel
theorem dX2_clearPairs_1 : decode cX2_clearPairs 1 = .ok (.getfield 16, 3) := by decide +kernel
theorem dX2_clearPairs_4 : decode cX2_clearPairs 4 = .ok (.invokevirtual 48, 3) := by decide +kernel
theorem dX2_clearPairs_7 : decode cX2_clearPairs 7 = .ok (.ireturn, 1) := by decide +kernel
set_option maxRecDepth 20000 in
theorem ggX2_drainPairs_X2_refuseAtRow : GoodIn wsX2_drainPairs wsX2_refuseAtRow := goodIn_ca (goodIn_r _ [7, 8, 9, 2, 39, 40, 41, 44, 45] (by decide +kernel) (by decide +kernel)) (goodIn_sub (fun _ h => List.mem_cons_of_mem _ (List.mem_append_left _ (List.mem_append_left _ (List.mem_append_right _ h)))) (by decide +kernel))
set_option maxRecDepth 20000 in
theorem gX2_drainPairs_X2_refuseAtRow : GoodIn wsX2_drainPairs (wsV RX2 64 RX2 yX2_refuseAtRow wsX2_refuseAtRow) := goodIn_app (goodIn_of _ (by decide +kernel)) ggX2_drainPairs_X2_refuseAtRow
set_option maxRecDepth 20000 in
theorem ggX2_drainPairs_X0_takeLeast : GoodIn wsX2_drainPairs wsX0_takeLeast := goodIn_ca (goodIn_r _ [14, 15, 16, 17, 18, 13, 19, 20, 21, 22, 42, 43] (by decide +kernel) (by decide +kernel)) (goodIn_sub (fun _ h => List.mem_cons_of_mem _ (List.mem_append_left _ (List.mem_append_right _ h))) (by decide +kernel))
set_option maxRecDepth 20000 in
theorem gX2_drainPairs_X0_takeLeast : GoodIn wsX2_drainPairs (wsV RX2 34 RX0 yX0_takeLeast wsX0_takeLeast) := goodIn_app (goodIn_of _ (by decide +kernel)) ggX2_drainPairs_X0_takeLeast
set_option maxRecDepth 20000 in
theorem ggX2_drainPairs_X2_keyOf : GoodIn wsX2_drainPairs wsX2_keyOf := goodIn_r _ [25, 26, 27, 28, 29, 30] (by decide +kernel) (by decide +kernel)
set_option maxRecDepth 20000 in
theorem gX2_drainPairs_X2_keyOf : GoodIn wsX2_drainPairs (va_wsS RX2 79 yX2_keyOf wsX2_keyOf) := goodIn_app (goodIn_of _ (by decide +kernel)) ggX2_drainPairs_X2_keyOf
set_option maxRecDepth 20000 in
theorem ggX2_drainPairs_X1_putLast : GoodIn wsX2_drainPairs wsX1_putLast := goodIn_ca (goodIn_r _ [35, 36, 9, 37, 38, 44, 45] (by decide +kernel) (by decide +kernel)) (goodIn_sub (fun _ h => List.mem_cons_of_mem _ (List.mem_append_right _ h)) (by decide +kernel))
set_option maxRecDepth 20000 in
theorem gX2_drainPairs_X1_putLast : GoodIn wsX2_drainPairs (wsV RX2 68 RX1 yX1_putLast wsX1_putLast) := goodIn_app (goodIn_of _ (by decide +kernel)) ggX2_drainPairs_X1_putLast
theorem dX2_drainPairs_0 : decode cX2_drainPairs 0 = .ok (.aload_n 0, 1) := by decide +kernel
theorem dX2_drainPairs_1 : decode cX2_drainPairs 1 = .ok (.aload_n 0, 1) := by decide +kernel
theorem dX2_drainPairs_2 : decode cX2_drainPairs 2 = .ok (.getfield 16, 3) := by decide +kernel
theorem dX2_drainPairs_5 : decode cX2_drainPairs 5 = .ok (.getfield 44, 3) := by decide +kernel
theorem dX2_drainPairs_8 : decode cX2_drainPairs 8 = .ok (.invokevirtual 64, 3) := by decide +kernel
theorem dX2_drainPairs_11 : decode cX2_drainPairs 11 = .ok (.aload_n 0, 1) := by decide +kernel
theorem dX2_drainPairs_12 : decode cX2_drainPairs 12 = .ok (.getfield 16, 3) := by decide +kernel
theorem dX2_drainPairs_15 : decode cX2_drainPairs 15 = .ok (.getfield 44, 3) := by decide +kernel
theorem dX2_drainPairs_18 : decode cX2_drainPairs 18 = .ok (.istore_n 1, 1) := by decide +kernel
theorem dX2_drainPairs_19 : decode cX2_drainPairs 19 = .ok (.iconst 0, 1) := by decide +kernel
theorem dX2_drainPairs_20 : decode cX2_drainPairs 20 = .ok (.istore_n 2, 1) := by decide +kernel
theorem dX2_drainPairs_21 : decode cX2_drainPairs 21 = .ok (.iload_n 2, 1) := by decide +kernel
theorem dX2_drainPairs_22 : decode cX2_drainPairs 22 = .ok (.iload_n 1, 1) := by decide +kernel
theorem dX2_drainPairs_23 : decode cX2_drainPairs 23 = .ok (.if_icmp .ge 27, 3) := by decide +kernel
theorem dX2_drainPairs_26 : decode cX2_drainPairs 26 = .ok (.aload_n 0, 1) := by decide +kernel
theorem dX2_drainPairs_27 : decode cX2_drainPairs 27 = .ok (.getfield 22, 3) := by decide +kernel
theorem dX2_drainPairs_30 : decode cX2_drainPairs 30 = .ok (.aload_n 0, 1) := by decide +kernel
theorem dX2_drainPairs_31 : decode cX2_drainPairs 31 = .ok (.getfield 16, 3) := by decide +kernel
theorem dX2_drainPairs_34 : decode cX2_drainPairs 34 = .ok (.invokevirtual 34, 3) := by decide +kernel
theorem dX2_drainPairs_37 : decode cX2_drainPairs 37 = .ok (.invokestatic 79, 3) := by decide +kernel
theorem dX2_drainPairs_40 : decode cX2_drainPairs 40 = .ok (.invokevirtual 68, 3) := by decide +kernel
theorem dX2_drainPairs_43 : decode cX2_drainPairs 43 = .ok (.pop, 1) := by decide +kernel
theorem dX2_drainPairs_44 : decode cX2_drainPairs 44 = .ok (.iinc 2 1, 3) := by decide +kernel
theorem dX2_drainPairs_47 : decode cX2_drainPairs 47 = .ok (.goto (-26), 3) := by decide +kernel
theorem dX2_drainPairs_50 : decode cX2_drainPairs 50 = .ok (.iload_n 1, 1) := by decide +kernel
theorem dX2_drainPairs_51 : decode cX2_drainPairs 51 = .ok (.ireturn, 1) := by decide +kernel
set_option maxRecDepth 20000 in
theorem ggX2_addFirst_X1_putFirst : GoodIn wsX2_addFirst wsX1_putFirst := goodIn_ca (goodIn_r _ [6, 7, 8, 9, 10, 14, 15] (by decide +kernel) (by decide +kernel)) (goodIn_sub (fun _ h => List.mem_cons_of_mem _ (List.mem_append_right _ h)) (by decide +kernel))
set_option maxRecDepth 20000 in
theorem gX2_addFirst_X1_putFirst : GoodIn wsX2_addFirst (wsV RX2 82 RX1 yX1_putFirst wsX1_putFirst) := goodIn_app (goodIn_of _ (by decide +kernel)) ggX2_addFirst_X1_putFirst
theorem dX2_addFirst_0 : decode cX2_addFirst 0 = .ok (.aload_n 0, 1) := by decide +kernel
theorem dX2_addFirst_1 : decode cX2_addFirst 1 = .ok (.getfield 22, 3) := by decide +kernel
theorem dX2_addFirst_4 : decode cX2_addFirst 4 = .ok (.iload_n 1, 1) := by decide +kernel
theorem dX2_addFirst_5 : decode cX2_addFirst 5 = .ok (.invokevirtual 82, 3) := by decide +kernel
theorem dX2_addFirst_8 : decode cX2_addFirst 8 = .ok (.ireturn, 1) := by decide +kernel
set_option maxRecDepth 20000 in
theorem ggX2_addLast_X1_putLast : GoodIn wsX2_addLast wsX1_putLast := goodIn_ca (goodIn_r _ [6, 7, 8, 9, 10, 14, 15] (by decide +kernel) (by decide +kernel)) (goodIn_sub (fun _ h => List.mem_cons_of_mem _ (List.mem_append_right _ h)) (by decide +kernel))
set_option maxRecDepth 20000 in
theorem gX2_addLast_X1_putLast : GoodIn wsX2_addLast (wsV RX2 68 RX1 yX1_putLast wsX1_putLast) := goodIn_app (goodIn_of _ (by decide +kernel)) ggX2_addLast_X1_putLast
theorem dX2_addLast_0 : decode cX2_addLast 0 = .ok (.aload_n 0, 1) := by decide +kernel
theorem dX2_addLast_1 : decode cX2_addLast 1 = .ok (.getfield 22, 3) := by decide +kernel
theorem dX2_addLast_4 : decode cX2_addLast 4 = .ok (.iload_n 1, 1) := by decide +kernel
theorem dX2_addLast_5 : decode cX2_addLast 5 = .ok (.invokevirtual 68, 3) := by decide +kernel
theorem dX2_addLast_8 : decode cX2_addLast 8 = .ok (.ireturn, 1) := by decide +kernel
set_option maxRecDepth 20000 in
theorem ggX2_getFirst_X1_first : GoodIn wsX2_getFirst wsX1_first := goodIn_ca (goodIn_r _ [6, 7, 8, 9, 10, 14, 15] (by decide +kernel) (by decide +kernel)) (goodIn_sub (fun _ h => List.mem_cons_of_mem _ (List.mem_append_right _ h)) (by decide +kernel))
set_option maxRecDepth 20000 in
theorem gX2_getFirst_X1_first : GoodIn wsX2_getFirst (wsV RX2 85 RX1 yX1_first wsX1_first) := goodIn_app (goodIn_of _ (by decide +kernel)) ggX2_getFirst_X1_first
theorem dX2_getFirst_0 : decode cX2_getFirst 0 = .ok (.aload_n 0, 1) := by decide +kernel
theorem dX2_getFirst_1 : decode cX2_getFirst 1 = .ok (.getfield 22, 3) := by decide +kernel
theorem dX2_getFirst_4 : decode cX2_getFirst 4 = .ok (.invokevirtual 85, 3) := by decide +kernel
theorem dX2_getFirst_7 : decode cX2_getFirst 7 = .ok (.ireturn, 1) := by decide +kernel
set_option maxRecDepth 20000 in
theorem ggX2_getLast_X1_last : GoodIn wsX2_getLast wsX1_last := goodIn_ca (goodIn_r _ [6, 7, 8, 9, 10, 14, 15] (by decide +kernel) (by decide +kernel)) (goodIn_sub (fun _ h => List.mem_cons_of_mem _ (List.mem_append_right _ h)) (by decide +kernel))
set_option maxRecDepth 20000 in
theorem gX2_getLast_X1_last : GoodIn wsX2_getLast (wsV RX2 88 RX1 yX1_last wsX1_last) := goodIn_app (goodIn_of _ (by decide +kernel)) ggX2_getLast_X1_last
theorem dX2_getLast_0 : decode cX2_getLast 0 = .ok (.aload_n 0, 1) := by decide +kernel
theorem dX2_getLast_1 : decode cX2_getLast 1 = .ok (.getfield 22, 3) := by decide +kernel
theorem dX2_getLast_4 : decode cX2_getLast 4 = .ok (.invokevirtual 88, 3) := by decide +kernel
theorem dX2_getLast_7 : decode cX2_getLast 7 = .ok (.ireturn, 1) := by decide +kernel
set_option maxRecDepth 20000 in
theorem ggX2_removeFirst_X1_takeFirst : GoodIn wsX2_removeFirst wsX1_takeFirst := goodIn_ca (goodIn_r _ [6, 7, 8, 9, 5, 10, 11, 12, 13, 14, 15, 16, 17, 18, 22, 23] (by decide +kernel) (by decide +kernel)) (goodIn_sub (fun _ h => List.mem_cons_of_mem _ (List.mem_append_right _ h)) (by decide +kernel))
set_option maxRecDepth 20000 in
theorem gX2_removeFirst_X1_takeFirst : GoodIn wsX2_removeFirst (wsV RX2 91 RX1 yX1_takeFirst wsX1_takeFirst) := goodIn_app (goodIn_of _ (by decide +kernel)) ggX2_removeFirst_X1_takeFirst
theorem dX2_removeFirst_0 : decode cX2_removeFirst 0 = .ok (.aload_n 0, 1) := by decide +kernel
theorem dX2_removeFirst_1 : decode cX2_removeFirst 1 = .ok (.getfield 22, 3) := by decide +kernel
theorem dX2_removeFirst_4 : decode cX2_removeFirst 4 = .ok (.invokevirtual 91, 3) := by decide +kernel
theorem dX2_removeFirst_7 : decode cX2_removeFirst 7 = .ok (.ireturn, 1) := by decide +kernel
set_option maxRecDepth 20000 in
theorem ggX2_removeLast_X1_takeLast : GoodIn wsX2_removeLast wsX1_takeLast := goodIn_ca (goodIn_r _ [6, 7, 8, 9, 10, 5, 11, 12, 13, 14, 18, 19] (by decide +kernel) (by decide +kernel)) (goodIn_sub (fun _ h => List.mem_cons_of_mem _ (List.mem_append_right _ h)) (by decide +kernel))
set_option maxRecDepth 20000 in
theorem gX2_removeLast_X1_takeLast : GoodIn wsX2_removeLast (wsV RX2 94 RX1 yX1_takeLast wsX1_takeLast) := goodIn_app (goodIn_of _ (by decide +kernel)) ggX2_removeLast_X1_takeLast
theorem dX2_removeLast_0 : decode cX2_removeLast 0 = .ok (.aload_n 0, 1) := by decide +kernel
theorem dX2_removeLast_1 : decode cX2_removeLast 1 = .ok (.getfield 22, 3) := by decide +kernel
theorem dX2_removeLast_4 : decode cX2_removeLast 4 = .ok (.invokevirtual 94, 3) := by decide +kernel
theorem dX2_removeLast_7 : decode cX2_removeLast 7 = .ok (.ireturn, 1) := by decide +kernel
set_option maxRecDepth 20000 in
theorem ggX2_push_X1_putFirst : GoodIn wsX2_push wsX1_putFirst := goodIn_ca (goodIn_r _ [6, 7, 8, 9, 10, 14, 15] (by decide +kernel) (by decide +kernel)) (goodIn_sub (fun _ h => List.mem_cons_of_mem _ (List.mem_append_right _ h)) (by decide +kernel))
set_option maxRecDepth 20000 in
theorem gX2_push_X1_putFirst : GoodIn wsX2_push (wsV RX2 82 RX1 yX1_putFirst wsX1_putFirst) := goodIn_app (goodIn_of _ (by decide +kernel)) ggX2_push_X1_putFirst
theorem dX2_push_0 : decode cX2_push 0 = .ok (.aload_n 0, 1) := by decide +kernel
theorem dX2_push_1 : decode cX2_push 1 = .ok (.getfield 22, 3) := by decide +kernel
theorem dX2_push_4 : decode cX2_push 4 = .ok (.iload_n 1, 1) := by decide +kernel
theorem dX2_push_5 : decode cX2_push 5 = .ok (.invokevirtual 82, 3) := by decide +kernel
theorem dX2_push_8 : decode cX2_push 8 = .ok (.ireturn, 1) := by decide +kernel
set_option maxRecDepth 20000 in
theorem ggX2_pop_X1_takeFirst : GoodIn wsX2_pop wsX1_takeFirst := goodIn_ca (goodIn_r _ [6, 7, 8, 9, 5, 10, 11, 12, 13, 14, 15, 16, 17, 18, 22, 23] (by decide +kernel) (by decide +kernel)) (goodIn_sub (fun _ h => List.mem_cons_of_mem _ (List.mem_append_right _ h)) (by decide +kernel))
set_option maxRecDepth 20000 in
theorem gX2_pop_X1_takeFirst : GoodIn wsX2_pop (wsV RX2 91 RX1 yX1_takeFirst wsX1_takeFirst) := goodIn_app (goodIn_of _ (by decide +kernel)) ggX2_pop_X1_takeFirst
theorem dX2_pop_0 : decode cX2_pop 0 = .ok (.aload_n 0, 1) := by decide +kernel
theorem dX2_pop_1 : decode cX2_pop 1 = .ok (.getfield 22, 3) := by decide +kernel
theorem dX2_pop_4 : decode cX2_pop 4 = .ok (.invokevirtual 91, 3) := by decide +kernel
theorem dX2_pop_7 : decode cX2_pop 7 = .ok (.ireturn, 1) := by decide +kernel
set_option maxRecDepth 20000 in
theorem ggX2_removeFirstOccurrence_X1_firstPlaceOf : GoodIn wsX2_removeFirstOccurrence wsX1_firstPlaceOf := goodIn_r _ [6, 7, 8, 16, 17] (by decide +kernel) (by decide +kernel)
set_option maxRecDepth 20000 in
theorem gX2_removeFirstOccurrence_X1_firstPlaceOf : GoodIn wsX2_removeFirstOccurrence (wsV RX2 97 RX1 yX1_firstPlaceOf wsX1_firstPlaceOf) := goodIn_app (goodIn_of _ (by decide +kernel)) ggX2_removeFirstOccurrence_X1_firstPlaceOf
set_option maxRecDepth 20000 in
theorem ggX2_removeFirstOccurrence_X1_takeFound : GoodIn wsX2_removeFirstOccurrence wsX1_takeFound := goodIn_r _ [12, 7, 8, 16, 17] (by decide +kernel) (by decide +kernel)
set_option maxRecDepth 20000 in
theorem gX2_removeFirstOccurrence_X1_takeFound : GoodIn wsX2_removeFirstOccurrence (wsV RX2 100 RX1 yX1_takeFound wsX1_takeFound) := goodIn_app (goodIn_of _ (by decide +kernel)) ggX2_removeFirstOccurrence_X1_takeFound
theorem dX2_removeFirstOccurrence_0 : decode cX2_removeFirstOccurrence 0 = .ok (.aload_n 0, 1) := by decide +kernel
theorem dX2_removeFirstOccurrence_1 : decode cX2_removeFirstOccurrence 1 = .ok (.getfield 22, 3) := by decide +kernel
theorem dX2_removeFirstOccurrence_4 : decode cX2_removeFirstOccurrence 4 = .ok (.aload_n 0, 1) := by decide +kernel
theorem dX2_removeFirstOccurrence_5 : decode cX2_removeFirstOccurrence 5 = .ok (.getfield 22, 3) := by decide +kernel
theorem dX2_removeFirstOccurrence_8 : decode cX2_removeFirstOccurrence 8 = .ok (.iload_n 1, 1) := by decide +kernel
theorem dX2_removeFirstOccurrence_9 : decode cX2_removeFirstOccurrence 9 = .ok (.invokevirtual 97, 3) := by decide +kernel
theorem dX2_removeFirstOccurrence_12 : decode cX2_removeFirstOccurrence 12 = .ok (.invokevirtual 100, 3) := by decide +kernel
theorem dX2_removeFirstOccurrence_15 : decode cX2_removeFirstOccurrence 15 = .ok (.ireturn, 1) := by decide +kernel
set_option maxRecDepth 20000 in
theorem ggX2_removeLastOccurrence_X1_lastPlaceOf : GoodIn wsX2_removeLastOccurrence wsX1_lastPlaceOf := goodIn_r _ [6, 7, 8, 16, 17] (by decide +kernel) (by decide +kernel)
set_option maxRecDepth 20000 in
theorem gX2_removeLastOccurrence_X1_lastPlaceOf : GoodIn wsX2_removeLastOccurrence (wsV RX2 104 RX1 yX1_lastPlaceOf wsX1_lastPlaceOf) := goodIn_app (goodIn_of _ (by decide +kernel)) ggX2_removeLastOccurrence_X1_lastPlaceOf
set_option maxRecDepth 20000 in
theorem ggX2_removeLastOccurrence_X1_takeFound : GoodIn wsX2_removeLastOccurrence wsX1_takeFound := goodIn_r _ [12, 7, 8, 16, 17] (by decide +kernel) (by decide +kernel)
set_option maxRecDepth 20000 in
theorem gX2_removeLastOccurrence_X1_takeFound : GoodIn wsX2_removeLastOccurrence (wsV RX2 100 RX1 yX1_takeFound wsX1_takeFound) := goodIn_app (goodIn_of _ (by decide +kernel)) ggX2_removeLastOccurrence_X1_takeFound
theorem dX2_removeLastOccurrence_0 : decode cX2_removeLastOccurrence 0 = .ok (.aload_n 0, 1) := by decide +kernel
theorem dX2_removeLastOccurrence_1 : decode cX2_removeLastOccurrence 1 = .ok (.getfield 22, 3) := by decide +kernel
theorem dX2_removeLastOccurrence_4 : decode cX2_removeLastOccurrence 4 = .ok (.aload_n 0, 1) := by decide +kernel
theorem dX2_removeLastOccurrence_5 : decode cX2_removeLastOccurrence 5 = .ok (.getfield 22, 3) := by decide +kernel
theorem dX2_removeLastOccurrence_8 : decode cX2_removeLastOccurrence 8 = .ok (.iload_n 1, 1) := by decide +kernel
theorem dX2_removeLastOccurrence_9 : decode cX2_removeLastOccurrence 9 = .ok (.invokevirtual 104, 3) := by decide +kernel
theorem dX2_removeLastOccurrence_12 : decode cX2_removeLastOccurrence 12 = .ok (.invokevirtual 100, 3) := by decide +kernel
theorem dX2_removeLastOccurrence_15 : decode cX2_removeLastOccurrence 15 = .ok (.ireturn, 1) := by decide +kernel
set_option maxRecDepth 20000 in
theorem ggX2_has_X1_firstPlaceOf : GoodIn wsX2_has wsX1_firstPlaceOf := goodIn_r _ [6, 7, 8, 12, 13] (by decide +kernel) (by decide +kernel)
set_option maxRecDepth 20000 in
theorem gX2_has_X1_firstPlaceOf : GoodIn wsX2_has (wsV RX2 97 RX1 yX1_firstPlaceOf wsX1_firstPlaceOf) := goodIn_app (goodIn_of _ (by decide +kernel)) ggX2_has_X1_firstPlaceOf
theorem dX2_has_0 : decode cX2_has 0 = .ok (.aload_n 0, 1) := by decide +kernel
theorem dX2_has_1 : decode cX2_has 1 = .ok (.getfield 22, 3) := by decide +kernel
theorem dX2_has_4 : decode cX2_has 4 = .ok (.iload_n 1, 1) := by decide +kernel
theorem dX2_has_5 : decode cX2_has 5 = .ok (.invokevirtual 97, 3) := by decide +kernel
theorem dX2_has_8 : decode cX2_has 8 = .ok (.ifCond .lt 7, 3) := by decide +kernel
theorem dX2_has_11 : decode cX2_has 11 = .ok (.iconst 1, 1) := by decide +kernel
theorem dX2_has_12 : decode cX2_has 12 = .ok (.goto 4, 3) := by decide +kernel
theorem dX2_has_15 : decode cX2_has 15 = .ok (.iconst 0, 1) := by decide +kernel
theorem dX2_has_16 : decode cX2_has 16 = .ok (.ireturn, 1) := by decide +kernel
theorem dX2_length_0 : decode cX2_length 0 = .ok (.aload_n 0, 1) := by decide +kernel
theorem dX2_length_1 : decode cX2_length 1 = .ok (.getfield 22, 3) := by decide +kernel
theorem dX2_length_4 : decode cX2_length 4 = .ok (.getfield 52, 3) := by decide +kernel
theorem dX2_length_7 : decode cX2_length 7 = .ok (.ireturn, 1) := by decide +kernel
set_option maxRecDepth 20000 in
theorem ggX2_wipe_X1_empty : GoodIn wsX2_wipe wsX1_empty := goodIn_r _ [6, 7, 11, 12] (by decide +kernel) (by decide +kernel)
set_option maxRecDepth 20000 in
theorem gX2_wipe_X1_empty : GoodIn wsX2_wipe (wsV RX2 107 RX1 yX1_empty wsX1_empty) := goodIn_app (goodIn_of _ (by decide +kernel)) ggX2_wipe_X1_empty
theorem dX2_wipe_0 : decode cX2_wipe 0 = .ok (.aload_n 0, 1) := by decide +kernel
theorem dX2_wipe_1 : decode cX2_wipe 1 = .ok (.getfield 22, 3) := by decide +kernel
theorem dX2_wipe_4 : decode cX2_wipe 4 = .ok (.invokevirtual 107, 3) := by decide +kernel
theorem dX2_wipe_7 : decode cX2_wipe 7 = .ok (.ireturn, 1) := by decide +kernel
set_option maxRecDepth 20000 in
theorem ggX2_at_X1_numberAt : GoodIn wsX2_at wsX1_numberAt := goodIn_ca (goodIn_r _ [6, 7, 8, 9, 10, 14, 15] (by decide +kernel) (by decide +kernel)) (goodIn_sub (fun _ h => List.mem_cons_of_mem _ (List.mem_append_right _ h)) (by decide +kernel))
set_option maxRecDepth 20000 in
theorem gX2_at_X1_numberAt : GoodIn wsX2_at (wsV RX2 60 RX1 yX1_numberAt wsX1_numberAt) := goodIn_app (goodIn_of _ (by decide +kernel)) ggX2_at_X1_numberAt
theorem dX2_at_0 : decode cX2_at 0 = .ok (.aload_n 0, 1) := by decide +kernel
theorem dX2_at_1 : decode cX2_at 1 = .ok (.getfield 22, 3) := by decide +kernel
theorem dX2_at_4 : decode cX2_at 4 = .ok (.iload_n 1, 1) := by decide +kernel
theorem dX2_at_5 : decode cX2_at 5 = .ok (.invokevirtual 60, 3) := by decide +kernel
theorem dX2_at_8 : decode cX2_at 8 = .ok (.ireturn, 1) := by decide +kernel
set_option maxRecDepth 20000 in
theorem ggX2_back_X1_numberFromLast : GoodIn wsX2_back wsX1_numberFromLast := goodIn_ca (goodIn_r _ [6, 7, 8, 9, 10, 14, 15] (by decide +kernel) (by decide +kernel)) (goodIn_sub (fun _ h => List.mem_cons_of_mem _ (List.mem_append_right _ h)) (by decide +kernel))
set_option maxRecDepth 20000 in
theorem gX2_back_X1_numberFromLast : GoodIn wsX2_back (wsV RX2 108 RX1 yX1_numberFromLast wsX1_numberFromLast) := goodIn_app (goodIn_of _ (by decide +kernel)) ggX2_back_X1_numberFromLast
theorem dX2_back_0 : decode cX2_back 0 = .ok (.aload_n 0, 1) := by decide +kernel
theorem dX2_back_1 : decode cX2_back 1 = .ok (.getfield 22, 3) := by decide +kernel
theorem dX2_back_4 : decode cX2_back 4 = .ok (.iload_n 1, 1) := by decide +kernel
theorem dX2_back_5 : decode cX2_back 5 = .ok (.invokevirtual 108, 3) := by decide +kernel
theorem dX2_back_8 : decode cX2_back 8 = .ok (.ireturn, 1) := by decide +kernel
set_option maxRecDepth 20000 in
theorem ggX2_dropLike_X1_takeAllLike : GoodIn wsX2_dropLike wsX1_takeAllLike := goodIn_r _ [6, 7, 8, 12, 13] (by decide +kernel) (by decide +kernel)
set_option maxRecDepth 20000 in
theorem gX2_dropLike_X1_takeAllLike : GoodIn wsX2_dropLike (wsV RX2 111 RX1 yX1_takeAllLike wsX1_takeAllLike) := goodIn_app (goodIn_of _ (by decide +kernel)) ggX2_dropLike_X1_takeAllLike
theorem dX2_dropLike_0 : decode cX2_dropLike 0 = .ok (.aload_n 0, 1) := by decide +kernel
theorem dX2_dropLike_1 : decode cX2_dropLike 1 = .ok (.getfield 22, 3) := by decide +kernel
theorem dX2_dropLike_4 : decode cX2_dropLike 4 = .ok (.iload_n 1, 1) := by decide +kernel
theorem dX2_dropLike_5 : decode cX2_dropLike 5 = .ok (.invokevirtual 111, 3) := by decide +kernel
theorem dX2_dropLike_8 : decode cX2_dropLike 8 = .ok (.ireturn, 1) := by decide +kernel
set_option maxRecDepth 20000 in
theorem ggX2_walk_X1_sumFromFirst : GoodIn wsX2_walk wsX1_sumFromFirst := goodIn_r _ [6, 7, 8, 9, 10, 14, 15] (by decide +kernel) (by decide +kernel)
set_option maxRecDepth 20000 in
theorem gX2_walk_X1_sumFromFirst : GoodIn wsX2_walk (wsV RX2 114 RX1 yX1_sumFromFirst wsX1_sumFromFirst) := goodIn_app (goodIn_of _ (by decide +kernel)) ggX2_walk_X1_sumFromFirst
theorem dX2_walk_0 : decode cX2_walk 0 = .ok (.aload_n 0, 1) := by decide +kernel
theorem dX2_walk_1 : decode cX2_walk 1 = .ok (.getfield 22, 3) := by decide +kernel
theorem dX2_walk_4 : decode cX2_walk 4 = .ok (.invokevirtual 114, 3) := by decide +kernel
theorem dX2_walk_7 : decode cX2_walk 7 = .ok (.lreturn, 1) := by decide +kernel
set_option maxRecDepth 20000 in
theorem ggX2_walkBack_X1_sumFromLast : GoodIn wsX2_walkBack wsX1_sumFromLast := goodIn_r _ [6, 7, 8, 9, 10, 14, 15] (by decide +kernel) (by decide +kernel)
set_option maxRecDepth 20000 in
theorem gX2_walkBack_X1_sumFromLast : GoodIn wsX2_walkBack (wsV RX2 117 RX1 yX1_sumFromLast wsX1_sumFromLast) := goodIn_app (goodIn_of _ (by decide +kernel)) ggX2_walkBack_X1_sumFromLast
theorem dX2_walkBack_0 : decode cX2_walkBack 0 = .ok (.aload_n 0, 1) := by decide +kernel
theorem dX2_walkBack_1 : decode cX2_walkBack 1 = .ok (.getfield 22, 3) := by decide +kernel
theorem dX2_walkBack_4 : decode cX2_walkBack 4 = .ok (.invokevirtual 117, 3) := by decide +kernel
theorem dX2_walkBack_7 : decode cX2_walkBack 7 = .ok (.lreturn, 1) := by decide +kernel
theorem dX2_refuseAtRow_0 : decode cX2_refuseAtRow 0 = .ok (.aload_n 0, 1) := by decide +kernel
theorem dX2_refuseAtRow_1 : decode cX2_refuseAtRow 1 = .ok (.getfield 22, 3) := by decide +kernel
theorem dX2_refuseAtRow_4 : decode cX2_refuseAtRow 4 = .ok (.getfield 52, 3) := by decide +kernel
theorem dX2_refuseAtRow_7 : decode cX2_refuseAtRow 7 = .ok (.iload_n 1, 1) := by decide +kernel
theorem dX2_refuseAtRow_8 : decode cX2_refuseAtRow 8 = .ok (.iadd, 1) := by decide +kernel
theorem dX2_refuseAtRow_9 : decode cX2_refuseAtRow 9 = .ok (.sipush 200, 3) := by decide +kernel
theorem dX2_refuseAtRow_12 : decode cX2_refuseAtRow 12 = .ok (.if_icmp .le 13, 3) := by decide +kernel
theorem dX2_refuseAtRow_15 : decode cX2_refuseAtRow 15 = .ok (.new 53, 3) := by decide +kernel
theorem dX2_refuseAtRow_18 : decode cX2_refuseAtRow 18 = .ok (.dup, 1) := by decide +kernel
theorem dX2_refuseAtRow_19 : decode cX2_refuseAtRow 19 = .ok (.ldc 120, 2) := by decide +kernel
theorem dX2_refuseAtRow_21 : decode cX2_refuseAtRow 21 = .ok (.invokespecial 57, 3) := by decide +kernel
theorem dX2_refuseAtRow_24 : decode cX2_refuseAtRow 24 = .ok (.athrow, 1) := by decide +kernel
theorem dX2_refuseAtRow_25 : decode cX2_refuseAtRow 25 = .ok (.return_, 1) := by decide +kernel
theorem dX2_rankOf_0 : decode cX2_rankOf 0 = .ok (.iload_n 1, 1) := by decide +kernel
theorem dX2_rankOf_1 : decode cX2_rankOf 1 = .ok (.ifCond .lt 10, 3) := by decide +kernel
theorem dX2_rankOf_4 : decode cX2_rankOf 4 = .ok (.iload_n 1, 1) := by decide +kernel
theorem dX2_rankOf_5 : decode cX2_rankOf 5 = .ok (.sipush 999, 3) := by decide +kernel
theorem dX2_rankOf_8 : decode cX2_rankOf 8 = .ok (.if_icmp .le 13, 3) := by decide +kernel
theorem dX2_rankOf_11 : decode cX2_rankOf 11 = .ok (.new 122, 3) := by decide +kernel
theorem dX2_rankOf_14 : decode cX2_rankOf 14 = .ok (.dup, 1) := by decide +kernel
theorem dX2_rankOf_15 : decode cX2_rankOf 15 = .ok (.ldc 124, 2) := by decide +kernel
theorem dX2_rankOf_17 : decode cX2_rankOf 17 = .ok (.invokespecial 126, 3) := by decide +kernel
theorem dX2_rankOf_20 : decode cX2_rankOf 20 = .ok (.athrow, 1) := by decide +kernel
theorem dX2_rankOf_21 : decode cX2_rankOf 21 = .ok (.iload_n 0, 1) := by decide +kernel
theorem dX2_rankOf_22 : decode cX2_rankOf 22 = .ok (.i2l, 1) := by decide +kernel
theorem dX2_rankOf_23 : decode cX2_rankOf 23 = .ok (.ldc2_w 127, 3) := by decide +kernel
theorem dX2_rankOf_26 : decode cX2_rankOf 26 = .ok (.lmul, 1) := by decide +kernel
theorem dX2_rankOf_27 : decode cX2_rankOf 27 = .ok (.sipush 999, 3) := by decide +kernel
theorem dX2_rankOf_30 : decode cX2_rankOf 30 = .ok (.iload_n 1, 1) := by decide +kernel
theorem dX2_rankOf_31 : decode cX2_rankOf 31 = .ok (.isub, 1) := by decide +kernel
theorem dX2_rankOf_32 : decode cX2_rankOf 32 = .ok (.i2l, 1) := by decide +kernel
theorem dX2_rankOf_33 : decode cX2_rankOf 33 = .ok (.ladd, 1) := by decide +kernel
theorem dX2_rankOf_34 : decode cX2_rankOf 34 = .ok (.lreturn, 1) := by decide +kernel
set_option maxRecDepth 20000 in
theorem ggX2_keyOf_J9_floorDiv_f86c9 : GoodIn wsX2_keyOf wsJ9_floorDiv_f86c9 := goodIn_r _ [5] (by decide +kernel) (by decide +kernel)
set_option maxRecDepth 20000 in
theorem gX2_keyOf_J9_floorDiv_f86c9 : GoodIn wsX2_keyOf (va_wsS RX2 129 yJ9_floorDiv_f86c9 wsJ9_floorDiv_f86c9) := goodIn_app (goodIn_of _ (by decide +kernel)) ggX2_keyOf_J9_floorDiv_f86c9
theorem dX2_keyOf_0 : decode cX2_keyOf 0 = .ok (.lload_n 0, 1) := by decide +kernel
theorem dX2_keyOf_1 : decode cX2_keyOf 1 = .ok (.ldc2_w 127, 3) := by decide +kernel
theorem dX2_keyOf_4 : decode cX2_keyOf 4 = .ok (.invokestatic 129, 3) := by decide +kernel
theorem dX2_keyOf_7 : decode cX2_keyOf 7 = .ok (.l2i, 1) := by decide +kernel
theorem dX2_keyOf_8 : decode cX2_keyOf 8 = .ok (.ireturn, 1) := by decide +kernel
set_option maxRecDepth 20000 in
theorem ggX2_toldOf_J9_floorMod_f86c9 : GoodIn wsX2_toldOf wsJ9_floorMod_f86c9 := goodIn_r _ [6] (by decide +kernel) (by decide +kernel)
set_option maxRecDepth 20000 in
theorem gX2_toldOf_J9_floorMod_f86c9 : GoodIn wsX2_toldOf (va_wsS RX2 137 yJ9_floorMod_f86c9 wsJ9_floorMod_f86c9) := goodIn_app (goodIn_of _ (by decide +kernel)) ggX2_toldOf_J9_floorMod_f86c9
set_option maxRecDepth 20000 in
theorem ggX2_toldOf_X2_keyOf : GoodIn wsX2_toldOf wsX2_keyOf := goodIn_r _ [10, 2, 11, 12, 5, 13] (by decide +kernel) (by decide +kernel)
set_option maxRecDepth 20000 in
theorem gX2_toldOf_X2_keyOf : GoodIn wsX2_toldOf (va_wsS RX2 79 yX2_keyOf wsX2_keyOf) := goodIn_app (goodIn_of _ (by decide +kernel)) ggX2_toldOf_X2_keyOf
theorem dX2_toldOf_0 : decode cX2_toldOf 0 = .ok (.ldc2_w 135, 3) := by decide +kernel
theorem dX2_toldOf_3 : decode cX2_toldOf 3 = .ok (.lload_n 0, 1) := by decide +kernel
theorem dX2_toldOf_4 : decode cX2_toldOf 4 = .ok (.ldc2_w 127, 3) := by decide +kernel
theorem dX2_toldOf_7 : decode cX2_toldOf 7 = .ok (.invokestatic 137, 3) := by decide +kernel
theorem dX2_toldOf_10 : decode cX2_toldOf 10 = .ok (.lsub, 1) := by decide +kernel
theorem dX2_toldOf_11 : decode cX2_toldOf 11 = .ok (.lstore_n 2, 1) := by decide +kernel
theorem dX2_toldOf_12 : decode cX2_toldOf 12 = .ok (.lload_n 0, 1) := by decide +kernel
theorem dX2_toldOf_13 : decode cX2_toldOf 13 = .ok (.invokestatic 79, 3) := by decide +kernel
theorem dX2_toldOf_16 : decode cX2_toldOf 16 = .ok (.i2l, 1) := by decide +kernel
theorem dX2_toldOf_17 : decode cX2_toldOf 17 = .ok (.ldc2_w 127, 3) := by decide +kernel
theorem dX2_toldOf_20 : decode cX2_toldOf 20 = .ok (.lmul, 1) := by decide +kernel
theorem dX2_toldOf_21 : decode cX2_toldOf 21 = .ok (.lload_n 2, 1) := by decide +kernel
theorem dX2_toldOf_22 : decode cX2_toldOf 22 = .ok (.ladd, 1) := by decide +kernel
theorem dX2_toldOf_23 : decode cX2_toldOf 23 = .ok (.lreturn, 1) := by decide +kernel
theorem dX3_init_0 : decode cX3_init 0 = .ok (.aload_n 0, 1) := by decide +kernel
theorem dX3_init_1 : decode cX3_init 1 = .ok (.invokespecial 1, 3) := by decide +kernel
theorem dX3_init_4 : decode cX3_init 4 = .ok (.aload_n 0, 1) := by decide +kernel
theorem dX3_init_5 : decode cX3_init 5 = .ok (.sipush 200, 3) := by decide +kernel
theorem dX3_init_8 : decode cX3_init 8 = .ok (.newarray .int, 2) := by decide +kernel
theorem dX3_init_10 : decode cX3_init 10 = .ok (.putfield 7, 3) := by decide +kernel
theorem dX3_init_13 : decode cX3_init 13 = .ok (.aload_n 0, 1) := by decide +kernel
theorem dX3_init_14 : decode cX3_init 14 = .ok (.sipush 200, 3) := by decide +kernel
theorem dX3_init_17 : decode cX3_init 17 = .ok (.newarray .int, 2) := by decide +kernel
theorem dX3_init_19 : decode cX3_init 19 = .ok (.putfield 13, 3) := by decide +kernel
theorem dX3_init_22 : decode cX3_init 22 = .ok (.aload_n 0, 1) := by decide +kernel
theorem dX3_init_23 : decode cX3_init 23 = .ok (.sipush 200, 3) := by decide +kernel
theorem dX3_init_26 : decode cX3_init 26 = .ok (.newarray .int, 2) := by decide +kernel
theorem dX3_init_28 : decode cX3_init 28 = .ok (.putfield 16, 3) := by decide +kernel
theorem dX3_init_31 : decode cX3_init 31 = .ok (.aload_n 0, 1) := by decide +kernel
theorem dX3_init_32 : decode cX3_init 32 = .ok (.sipush 200, 3) := by decide +kernel
theorem dX3_init_35 : decode cX3_init 35 = .ok (.newarray .int, 2) := by decide +kernel
theorem dX3_init_37 : decode cX3_init 37 = .ok (.putfield 19, 3) := by decide +kernel
theorem dX3_init_40 : decode cX3_init 40 = .ok (.return_, 1) := by decide +kernel
theorem dX3_thrown_0 : decode cX3_thrown 0 = .ok (.aload_n 0, 1) := by decide +kernel
theorem dX3_thrown_1 : decode cX3_thrown 1 = .ok (.getfield 22, 3) := by decide +kernel
theorem dX3_thrown_4 : decode cX3_thrown 4 = .ok (.ireturn, 1) := by decide +kernel
theorem dX3_isWrong_0 : decode cX3_isWrong 0 = .ok (.aload_n 0, 1) := by decide +kernel
theorem dX3_isWrong_1 : decode cX3_isWrong 1 = .ok (.iload_n 1, 1) := by decide +kernel
theorem dX3_isWrong_2 : decode cX3_isWrong 2 = .ok (.putfield 22, 3) := by decide +kernel
theorem dX3_isWrong_5 : decode cX3_isWrong 5 = .ok (.iload_n 1, 1) := by decide +kernel
theorem dX3_isWrong_6 : decode cX3_isWrong 6 = .ok (.ifCond .eq 7, 3) := by decide +kernel
theorem dX3_isWrong_9 : decode cX3_isWrong 9 = .ok (.iconst 1, 1) := by decide +kernel
theorem dX3_isWrong_10 : decode cX3_isWrong 10 = .ok (.goto 4, 3) := by decide +kernel
theorem dX3_isWrong_13 : decode cX3_isWrong 13 = .ok (.iconst 0, 1) := by decide +kernel
theorem dX3_isWrong_14 : decode cX3_isWrong 14 = .ok (.ireturn, 1) := by decide +kernel
theorem dX3_leastPlace_0 : decode cX3_leastPlace 0 = .ok (.iconst 0, 1) := by decide +kernel
theorem dX3_leastPlace_1 : decode cX3_leastPlace 1 = .ok (.istore_n 1, 1) := by decide +kernel
theorem dX3_leastPlace_2 : decode cX3_leastPlace 2 = .ok (.iconst 1, 1) := by decide +kernel
theorem dX3_leastPlace_3 : decode cX3_leastPlace 3 = .ok (.istore_n 2, 1) := by decide +kernel
theorem dX3_leastPlace_4 : decode cX3_leastPlace 4 = .ok (.iload_n 2, 1) := by decide +kernel
theorem dX3_leastPlace_5 : decode cX3_leastPlace 5 = .ok (.aload_n 0, 1) := by decide +kernel
theorem dX3_leastPlace_6 : decode cX3_leastPlace 6 = .ok (.getfield 26, 3) := by decide +kernel
theorem dX3_leastPlace_9 : decode cX3_leastPlace 9 = .ok (.if_icmp .ge 26, 3) := by decide +kernel
theorem dX3_leastPlace_12 : decode cX3_leastPlace 12 = .ok (.aload_n 0, 1) := by decide +kernel
theorem dX3_leastPlace_13 : decode cX3_leastPlace 13 = .ok (.getfield 7, 3) := by decide +kernel
theorem dX3_leastPlace_16 : decode cX3_leastPlace 16 = .ok (.iload_n 2, 1) := by decide +kernel
theorem dX3_leastPlace_17 : decode cX3_leastPlace 17 = .ok (.iaload, 1) := by decide +kernel
theorem dX3_leastPlace_18 : decode cX3_leastPlace 18 = .ok (.aload_n 0, 1) := by decide +kernel
theorem dX3_leastPlace_19 : decode cX3_leastPlace 19 = .ok (.getfield 7, 3) := by decide +kernel
theorem dX3_leastPlace_22 : decode cX3_leastPlace 22 = .ok (.iload_n 1, 1) := by decide +kernel
theorem dX3_leastPlace_23 : decode cX3_leastPlace 23 = .ok (.iaload, 1) := by decide +kernel
theorem dX3_leastPlace_24 : decode cX3_leastPlace 24 = .ok (.if_icmp .ge 5, 3) := by decide +kernel
theorem dX3_leastPlace_27 : decode cX3_leastPlace 27 = .ok (.iload_n 2, 1) := by decide +kernel
theorem dX3_leastPlace_28 : decode cX3_leastPlace 28 = .ok (.istore_n 1, 1) := by decide +kernel
theorem dX3_leastPlace_29 : decode cX3_leastPlace 29 = .ok (.iinc 2 1, 3) := by decide +kernel
theorem dX3_leastPlace_32 : decode cX3_leastPlace 32 = .ok (.goto (-28), 3) := by decide +kernel
theorem dX3_leastPlace_35 : decode cX3_leastPlace 35 = .ok (.iload_n 1, 1) := by decide +kernel
theorem dX3_leastPlace_36 : decode cX3_leastPlace 36 = .ok (.ireturn, 1) := by decide +kernel
theorem dX3_heldPlace_0 : decode cX3_heldPlace 0 = .ok (.iconst 0, 1) := by decide +kernel
theorem dX3_heldPlace_1 : decode cX3_heldPlace 1 = .ok (.istore_n 2, 1) := by decide +kernel
theorem dX3_heldPlace_2 : decode cX3_heldPlace 2 = .ok (.iload_n 2, 1) := by decide +kernel
theorem dX3_heldPlace_3 : decode cX3_heldPlace 3 = .ok (.aload_n 0, 1) := by decide +kernel
theorem dX3_heldPlace_4 : decode cX3_heldPlace 4 = .ok (.getfield 26, 3) := by decide +kernel
theorem dX3_heldPlace_7 : decode cX3_heldPlace 7 = .ok (.if_icmp .ge 21, 3) := by decide +kernel
theorem dX3_heldPlace_10 : decode cX3_heldPlace 10 = .ok (.aload_n 0, 1) := by decide +kernel
theorem dX3_heldPlace_11 : decode cX3_heldPlace 11 = .ok (.getfield 7, 3) := by decide +kernel
theorem dX3_heldPlace_14 : decode cX3_heldPlace 14 = .ok (.iload_n 2, 1) := by decide +kernel
theorem dX3_heldPlace_15 : decode cX3_heldPlace 15 = .ok (.iaload, 1) := by decide +kernel
theorem dX3_heldPlace_16 : decode cX3_heldPlace 16 = .ok (.iload_n 1, 1) := by decide +kernel
theorem dX3_heldPlace_17 : decode cX3_heldPlace 17 = .ok (.if_icmp .ne 5, 3) := by decide +kernel
theorem dX3_heldPlace_20 : decode cX3_heldPlace 20 = .ok (.iload_n 2, 1) := by decide +kernel
theorem dX3_heldPlace_21 : decode cX3_heldPlace 21 = .ok (.ireturn, 1) := by decide +kernel
theorem dX3_heldPlace_22 : decode cX3_heldPlace 22 = .ok (.iinc 2 1, 3) := by decide +kernel
theorem dX3_heldPlace_25 : decode cX3_heldPlace 25 = .ok (.goto (-23), 3) := by decide +kernel
theorem dX3_heldPlace_28 : decode cX3_heldPlace 28 = .ok (.iconst (-1), 1) := by decide +kernel
theorem dX3_heldPlace_29 : decode cX3_heldPlace 29 = .ok (.ireturn, 1) := by decide +kernel
theorem dX3_takeHeld_0 : decode cX3_takeHeld 0 = .ok (.aload_n 0, 1) := by decide +kernel
theorem dX3_takeHeld_1 : decode cX3_takeHeld 1 = .ok (.getfield 7, 3) := by decide +kernel
theorem dX3_takeHeld_4 : decode cX3_takeHeld 4 = .ok (.iload_n 1, 1) := by decide +kernel
theorem dX3_takeHeld_5 : decode cX3_takeHeld 5 = .ok (.iaload, 1) := by decide +kernel
theorem dX3_takeHeld_6 : decode cX3_takeHeld 6 = .ok (.istore_n 2, 1) := by decide +kernel
theorem dX3_takeHeld_7 : decode cX3_takeHeld 7 = .ok (.aload_n 0, 1) := by decide +kernel
theorem dX3_takeHeld_8 : decode cX3_takeHeld 8 = .ok (.dup, 1) := by decide +kernel
theorem dX3_takeHeld_9 : decode cX3_takeHeld 9 = .ok (.getfield 26, 3) := by decide +kernel
theorem dX3_takeHeld_12 : decode cX3_takeHeld 12 = .ok (.iconst 1, 1) := by decide +kernel
theorem dX3_takeHeld_13 : decode cX3_takeHeld 13 = .ok (.isub, 1) := by decide +kernel
theorem dX3_takeHeld_14 : decode cX3_takeHeld 14 = .ok (.putfield 26, 3) := by decide +kernel
theorem dX3_takeHeld_17 : decode cX3_takeHeld 17 = .ok (.iload_n 1, 1) := by decide +kernel
theorem dX3_takeHeld_18 : decode cX3_takeHeld 18 = .ok (.istore_n 3, 1) := by decide +kernel
theorem dX3_takeHeld_19 : decode cX3_takeHeld 19 = .ok (.iload_n 3, 1) := by decide +kernel
theorem dX3_takeHeld_20 : decode cX3_takeHeld 20 = .ok (.aload_n 0, 1) := by decide +kernel
theorem dX3_takeHeld_21 : decode cX3_takeHeld 21 = .ok (.getfield 26, 3) := by decide +kernel
theorem dX3_takeHeld_24 : decode cX3_takeHeld 24 = .ok (.if_icmp .ge 23, 3) := by decide +kernel
theorem dX3_takeHeld_27 : decode cX3_takeHeld 27 = .ok (.aload_n 0, 1) := by decide +kernel
theorem dX3_takeHeld_28 : decode cX3_takeHeld 28 = .ok (.getfield 7, 3) := by decide +kernel
theorem dX3_takeHeld_31 : decode cX3_takeHeld 31 = .ok (.iload_n 3, 1) := by decide +kernel
theorem dX3_takeHeld_32 : decode cX3_takeHeld 32 = .ok (.aload_n 0, 1) := by decide +kernel
theorem dX3_takeHeld_33 : decode cX3_takeHeld 33 = .ok (.getfield 7, 3) := by decide +kernel
theorem dX3_takeHeld_36 : decode cX3_takeHeld 36 = .ok (.iload_n 3, 1) := by decide +kernel
theorem dX3_takeHeld_37 : decode cX3_takeHeld 37 = .ok (.iconst 1, 1) := by decide +kernel
theorem dX3_takeHeld_38 : decode cX3_takeHeld 38 = .ok (.iadd, 1) := by decide +kernel
theorem dX3_takeHeld_39 : decode cX3_takeHeld 39 = .ok (.iaload, 1) := by decide +kernel
theorem dX3_takeHeld_40 : decode cX3_takeHeld 40 = .ok (.iastore, 1) := by decide +kernel
theorem dX3_takeHeld_41 : decode cX3_takeHeld 41 = .ok (.iinc 3 1, 3) := by decide +kernel
theorem dX3_takeHeld_44 : decode cX3_takeHeld 44 = .ok (.goto (-25), 3) := by decide +kernel
theorem dX3_takeHeld_47 : decode cX3_takeHeld 47 = .ok (.iload_n 2, 1) := by decide +kernel
theorem dX3_takeHeld_48 : decode cX3_takeHeld 48 = .ok (.ireturn, 1) := by decide +kernel
set_option maxRecDepth 20000 in
theorem ggX3_offer_X3_isWrong : GoodIn wsX3_offer wsX3_isWrong := goodIn_r _ [7, 8, 9, 10, 11, 12, 13, 14, 15, 16] (by decide +kernel) (by decide +kernel)
set_option maxRecDepth 20000 in
theorem gX3_offer_X3_isWrong : GoodIn wsX3_offer (wsV RX3 29 RX3 yX3_isWrong wsX3_isWrong) := goodIn_app (goodIn_of _ (by decide +kernel)) ggX3_offer_X3_isWrong
theorem dX3_offer_0 : decode cX3_offer 0 = .ok (.aload_n 0, 1) := by decide +kernel
theorem dX3_offer_1 : decode cX3_offer 1 = .ok (.aload_n 0, 1) := by decide +kernel
theorem dX3_offer_2 : decode cX3_offer 2 = .ok (.getfield 26, 3) := by decide +kernel
theorem dX3_offer_5 : decode cX3_offer 5 = .ok (.sipush 200, 3) := by decide +kernel
theorem dX3_offer_8 : decode cX3_offer 8 = .ok (.if_icmp .ne 7, 3) := by decide +kernel
theorem dX3_offer_11 : decode cX3_offer 11 = .ok (.iconst 1, 1) := by decide +kernel
theorem dX3_offer_12 : decode cX3_offer 12 = .ok (.goto 4, 3) := by decide +kernel
theorem dX3_offer_15 : decode cX3_offer 15 = .ok (.iconst 0, 1) := by decide +kernel
theorem dX3_offer_16 : decode cX3_offer 16 = .ok (.invokevirtual 29, 3) := by decide +kernel
theorem dX3_offer_19 : decode cX3_offer 19 = .ok (.ifCond .eq 5, 3) := by decide +kernel
theorem dX3_offer_22 : decode cX3_offer 22 = .ok (.iconst 0, 1) := by decide +kernel
theorem dX3_offer_23 : decode cX3_offer 23 = .ok (.ireturn, 1) := by decide +kernel
theorem dX3_offer_24 : decode cX3_offer 24 = .ok (.aload_n 0, 1) := by decide +kernel
theorem dX3_offer_25 : decode cX3_offer 25 = .ok (.getfield 7, 3) := by decide +kernel
theorem dX3_offer_28 : decode cX3_offer 28 = .ok (.aload_n 0, 1) := by decide +kernel
theorem dX3_offer_29 : decode cX3_offer 29 = .ok (.getfield 26, 3) := by decide +kernel
theorem dX3_offer_32 : decode cX3_offer 32 = .ok (.iload_n 1, 1) := by decide +kernel
theorem dX3_offer_33 : decode cX3_offer 33 = .ok (.iastore, 1) := by decide +kernel
theorem dX3_offer_34 : decode cX3_offer 34 = .ok (.aload_n 0, 1) := by decide +kernel
theorem dX3_offer_35 : decode cX3_offer 35 = .ok (.dup, 1) := by decide +kernel
theorem dX3_offer_36 : decode cX3_offer 36 = .ok (.getfield 26, 3) := by decide +kernel
theorem dX3_offer_39 : decode cX3_offer 39 = .ok (.iconst 1, 1) := by decide +kernel
theorem dX3_offer_40 : decode cX3_offer 40 = .ok (.iadd, 1) := by decide +kernel
theorem dX3_offer_41 : decode cX3_offer 41 = .ok (.putfield 26, 3) := by decide +kernel
theorem dX3_offer_44 : decode cX3_offer 44 = .ok (.aload_n 0, 1) := by decide +kernel
theorem dX3_offer_45 : decode cX3_offer 45 = .ok (.getfield 26, 3) := by decide +kernel
theorem dX3_offer_48 : decode cX3_offer 48 = .ok (.ireturn, 1) := by decide +kernel
set_option maxRecDepth 20000 in
theorem ggX3_add_X3_offer : GoodIn wsX3_add wsX3_offer := goodIn_r _ [5, 6, 7, 8, 9, 10, 4, 11, 12, 13, 14, 15, 16, 17, 18, 19, 20] (by decide +kernel) (by decide +kernel)
set_option maxRecDepth 20000 in
theorem gX3_add_X3_offer : GoodIn wsX3_add (wsV RX3 33 RX3 yX3_offer wsX3_offer) := goodIn_app (goodIn_of _ (by decide +kernel)) ggX3_add_X3_offer
theorem dX3_add_0 : decode cX3_add 0 = .ok (.aload_n 0, 1) := by decide +kernel
theorem dX3_add_1 : decode cX3_add 1 = .ok (.iload_n 1, 1) := by decide +kernel
theorem dX3_add_2 : decode cX3_add 2 = .ok (.invokevirtual 33, 3) := by decide +kernel
theorem dX3_add_5 : decode cX3_add 5 = .ok (.ireturn, 1) := by decide +kernel
set_option maxRecDepth 20000 in
theorem ggX3_peek_X3_isWrong : GoodIn wsX3_peek wsX3_isWrong := goodIn_r _ [7, 8, 13, 14, 15, 16, 17, 18, 19, 20] (by decide +kernel) (by decide +kernel)
set_option maxRecDepth 20000 in
theorem gX3_peek_X3_isWrong : GoodIn wsX3_peek (wsV RX3 29 RX3 yX3_isWrong wsX3_isWrong) := goodIn_app (goodIn_of _ (by decide +kernel)) ggX3_peek_X3_isWrong
set_option maxRecDepth 20000 in
theorem ggX3_peek_X3_leastPlace : GoodIn wsX3_peek wsX3_leastPlace := goodIn_r _ [12, 1, 2, 13, 14, 15, 16, 17, 18, 19, 20] (by decide +kernel) (by decide +kernel)
set_option maxRecDepth 20000 in
theorem gX3_peek_X3_leastPlace : GoodIn wsX3_peek (wsV RX3 37 RX3 yX3_leastPlace wsX3_leastPlace) := goodIn_app (goodIn_of _ (by decide +kernel)) ggX3_peek_X3_leastPlace
theorem dX3_peek_0 : decode cX3_peek 0 = .ok (.aload_n 0, 1) := by decide +kernel
theorem dX3_peek_1 : decode cX3_peek 1 = .ok (.aload_n 0, 1) := by decide +kernel
theorem dX3_peek_2 : decode cX3_peek 2 = .ok (.getfield 26, 3) := by decide +kernel
theorem dX3_peek_5 : decode cX3_peek 5 = .ok (.ifCond .ne 7, 3) := by decide +kernel
theorem dX3_peek_8 : decode cX3_peek 8 = .ok (.iconst 1, 1) := by decide +kernel
theorem dX3_peek_9 : decode cX3_peek 9 = .ok (.goto 4, 3) := by decide +kernel
theorem dX3_peek_12 : decode cX3_peek 12 = .ok (.iconst 0, 1) := by decide +kernel
theorem dX3_peek_13 : decode cX3_peek 13 = .ok (.invokevirtual 29, 3) := by decide +kernel
theorem dX3_peek_16 : decode cX3_peek 16 = .ok (.ifCond .eq 7, 3) := by decide +kernel
theorem dX3_peek_19 : decode cX3_peek 19 = .ok (.iconst 0, 1) := by decide +kernel
theorem dX3_peek_20 : decode cX3_peek 20 = .ok (.goto 12, 3) := by decide +kernel
theorem dX3_peek_23 : decode cX3_peek 23 = .ok (.aload_n 0, 1) := by decide +kernel
theorem dX3_peek_24 : decode cX3_peek 24 = .ok (.getfield 7, 3) := by decide +kernel
theorem dX3_peek_27 : decode cX3_peek 27 = .ok (.aload_n 0, 1) := by decide +kernel
theorem dX3_peek_28 : decode cX3_peek 28 = .ok (.invokevirtual 37, 3) := by decide +kernel
theorem dX3_peek_31 : decode cX3_peek 31 = .ok (.iaload, 1) := by decide +kernel
theorem dX3_peek_32 : decode cX3_peek 32 = .ok (.ireturn, 1) := by decide +kernel
set_option maxRecDepth 20000 in
theorem ggX3_poll_X3_isWrong : GoodIn wsX3_poll wsX3_isWrong := goodIn_r _ [6, 7, 17, 18, 19, 20, 21, 22, 23, 24] (by decide +kernel) (by decide +kernel)
set_option maxRecDepth 20000 in
theorem gX3_poll_X3_isWrong : GoodIn wsX3_poll (wsV RX3 29 RX3 yX3_isWrong wsX3_isWrong) := goodIn_app (goodIn_of _ (by decide +kernel)) ggX3_poll_X3_isWrong
set_option maxRecDepth 20000 in
theorem ggX3_poll_X3_leastPlace : GoodIn wsX3_poll wsX3_leastPlace := goodIn_r _ [11, 1, 12, 17, 18, 19, 20, 21, 22, 23, 24] (by decide +kernel) (by decide +kernel)
set_option maxRecDepth 20000 in
theorem gX3_poll_X3_leastPlace : GoodIn wsX3_poll (wsV RX3 37 RX3 yX3_leastPlace wsX3_leastPlace) := goodIn_app (goodIn_of _ (by decide +kernel)) ggX3_poll_X3_leastPlace
set_option maxRecDepth 20000 in
theorem ggX3_poll_X3_takeHeld : GoodIn wsX3_poll wsX3_takeHeld := goodIn_r _ [16, 12, 1, 17, 18, 19, 20, 21, 22, 23, 24] (by decide +kernel) (by decide +kernel)
set_option maxRecDepth 20000 in
theorem gX3_poll_X3_takeHeld : GoodIn wsX3_poll (wsV RX3 41 RX3 yX3_takeHeld wsX3_takeHeld) := goodIn_app (goodIn_of _ (by decide +kernel)) ggX3_poll_X3_takeHeld
theorem dX3_poll_0 : decode cX3_poll 0 = .ok (.aload_n 0, 1) := by decide +kernel
theorem dX3_poll_1 : decode cX3_poll 1 = .ok (.aload_n 0, 1) := by decide +kernel
theorem dX3_poll_2 : decode cX3_poll 2 = .ok (.getfield 26, 3) := by decide +kernel
theorem dX3_poll_5 : decode cX3_poll 5 = .ok (.ifCond .ne 7, 3) := by decide +kernel
theorem dX3_poll_8 : decode cX3_poll 8 = .ok (.iconst 1, 1) := by decide +kernel
theorem dX3_poll_9 : decode cX3_poll 9 = .ok (.goto 4, 3) := by decide +kernel
theorem dX3_poll_12 : decode cX3_poll 12 = .ok (.iconst 0, 1) := by decide +kernel
theorem dX3_poll_13 : decode cX3_poll 13 = .ok (.invokevirtual 29, 3) := by decide +kernel
theorem dX3_poll_16 : decode cX3_poll 16 = .ok (.ifCond .eq 7, 3) := by decide +kernel
theorem dX3_poll_19 : decode cX3_poll 19 = .ok (.iconst 0, 1) := by decide +kernel
theorem dX3_poll_20 : decode cX3_poll 20 = .ok (.goto 11, 3) := by decide +kernel
theorem dX3_poll_23 : decode cX3_poll 23 = .ok (.aload_n 0, 1) := by decide +kernel
theorem dX3_poll_24 : decode cX3_poll 24 = .ok (.aload_n 0, 1) := by decide +kernel
theorem dX3_poll_25 : decode cX3_poll 25 = .ok (.invokevirtual 37, 3) := by decide +kernel
theorem dX3_poll_28 : decode cX3_poll 28 = .ok (.invokevirtual 41, 3) := by decide +kernel
theorem dX3_poll_31 : decode cX3_poll 31 = .ok (.ireturn, 1) := by decide +kernel
set_option maxRecDepth 20000 in
theorem ggX3_remove_X3_heldPlace : GoodIn wsX3_remove wsX3_heldPlace := goodIn_r _ [6, 7, 8, 13, 14, 15, 16, 17, 18, 19, 20] (by decide +kernel) (by decide +kernel)
set_option maxRecDepth 20000 in
theorem gX3_remove_X3_heldPlace : GoodIn wsX3_remove (wsV RX3 44 RX3 yX3_heldPlace wsX3_heldPlace) := goodIn_app (goodIn_of _ (by decide +kernel)) ggX3_remove_X3_heldPlace
set_option maxRecDepth 20000 in
theorem ggX3_remove_X3_takeHeld : GoodIn wsX3_remove wsX3_takeHeld := goodIn_r _ [12, 8, 7, 13, 14, 15, 16, 17, 18, 19, 20] (by decide +kernel) (by decide +kernel)
set_option maxRecDepth 20000 in
theorem gX3_remove_X3_takeHeld : GoodIn wsX3_remove (wsV RX3 41 RX3 yX3_takeHeld wsX3_takeHeld) := goodIn_app (goodIn_of _ (by decide +kernel)) ggX3_remove_X3_takeHeld
theorem dX3_remove_0 : decode cX3_remove 0 = .ok (.aload_n 0, 1) := by decide +kernel
theorem dX3_remove_1 : decode cX3_remove 1 = .ok (.iconst 0, 1) := by decide +kernel
theorem dX3_remove_2 : decode cX3_remove 2 = .ok (.putfield 22, 3) := by decide +kernel
theorem dX3_remove_5 : decode cX3_remove 5 = .ok (.aload_n 0, 1) := by decide +kernel
theorem dX3_remove_6 : decode cX3_remove 6 = .ok (.iload_n 1, 1) := by decide +kernel
theorem dX3_remove_7 : decode cX3_remove 7 = .ok (.invokevirtual 44, 3) := by decide +kernel
theorem dX3_remove_10 : decode cX3_remove 10 = .ok (.istore_n 2, 1) := by decide +kernel
theorem dX3_remove_11 : decode cX3_remove 11 = .ok (.iload_n 2, 1) := by decide +kernel
theorem dX3_remove_12 : decode cX3_remove 12 = .ok (.ifCond .ge 5, 3) := by decide +kernel
theorem dX3_remove_15 : decode cX3_remove 15 = .ok (.iconst 0, 1) := by decide +kernel
theorem dX3_remove_16 : decode cX3_remove 16 = .ok (.ireturn, 1) := by decide +kernel
theorem dX3_remove_17 : decode cX3_remove 17 = .ok (.aload_n 0, 1) := by decide +kernel
theorem dX3_remove_18 : decode cX3_remove 18 = .ok (.iload_n 2, 1) := by decide +kernel
theorem dX3_remove_19 : decode cX3_remove 19 = .ok (.invokevirtual 41, 3) := by decide +kernel
theorem dX3_remove_22 : decode cX3_remove 22 = .ok (.pop, 1) := by decide +kernel
theorem dX3_remove_23 : decode cX3_remove 23 = .ok (.iconst 1, 1) := by decide +kernel
theorem dX3_remove_24 : decode cX3_remove 24 = .ok (.ireturn, 1) := by decide +kernel
set_option maxRecDepth 20000 in
theorem ggX3_contains_X3_heldPlace : GoodIn wsX3_contains wsX3_heldPlace := goodIn_r _ [6, 7, 8, 9, 10, 11, 12, 13, 14, 15, 16] (by decide +kernel) (by decide +kernel)
set_option maxRecDepth 20000 in
theorem gX3_contains_X3_heldPlace : GoodIn wsX3_contains (wsV RX3 44 RX3 yX3_heldPlace wsX3_heldPlace) := goodIn_app (goodIn_of _ (by decide +kernel)) ggX3_contains_X3_heldPlace
theorem dX3_contains_0 : decode cX3_contains 0 = .ok (.aload_n 0, 1) := by decide +kernel
theorem dX3_contains_1 : decode cX3_contains 1 = .ok (.iconst 0, 1) := by decide +kernel
theorem dX3_contains_2 : decode cX3_contains 2 = .ok (.putfield 22, 3) := by decide +kernel
theorem dX3_contains_5 : decode cX3_contains 5 = .ok (.aload_n 0, 1) := by decide +kernel
theorem dX3_contains_6 : decode cX3_contains 6 = .ok (.iload_n 1, 1) := by decide +kernel
theorem dX3_contains_7 : decode cX3_contains 7 = .ok (.invokevirtual 44, 3) := by decide +kernel
theorem dX3_contains_10 : decode cX3_contains 10 = .ok (.ifCond .lt 7, 3) := by decide +kernel
theorem dX3_contains_13 : decode cX3_contains 13 = .ok (.iconst 1, 1) := by decide +kernel
theorem dX3_contains_14 : decode cX3_contains 14 = .ok (.goto 4, 3) := by decide +kernel
theorem dX3_contains_17 : decode cX3_contains 17 = .ok (.iconst 0, 1) := by decide +kernel
theorem dX3_contains_18 : decode cX3_contains 18 = .ok (.ireturn, 1) := by decide +kernel
theorem dX3_size_0 : decode cX3_size 0 = .ok (.aload_n 0, 1) := by decide +kernel
theorem dX3_size_1 : decode cX3_size 1 = .ok (.iconst 0, 1) := by decide +kernel
theorem dX3_size_2 : decode cX3_size 2 = .ok (.putfield 22, 3) := by decide +kernel
theorem dX3_size_5 : decode cX3_size 5 = .ok (.aload_n 0, 1) := by decide +kernel
theorem dX3_size_6 : decode cX3_size 6 = .ok (.getfield 26, 3) := by decide +kernel
theorem dX3_size_9 : decode cX3_size 9 = .ok (.ireturn, 1) := by decide +kernel
theorem dX3_clear_0 : decode cX3_clear 0 = .ok (.aload_n 0, 1) := by decide +kernel
theorem dX3_clear_1 : decode cX3_clear 1 = .ok (.iconst 0, 1) := by decide +kernel
theorem dX3_clear_2 : decode cX3_clear 2 = .ok (.putfield 22, 3) := by decide +kernel
theorem dX3_clear_5 : decode cX3_clear 5 = .ok (.aload_n 0, 1) := by decide +kernel
theorem dX3_clear_6 : decode cX3_clear 6 = .ok (.getfield 26, 3) := by decide +kernel
theorem dX3_clear_9 : decode cX3_clear 9 = .ok (.istore_n 1, 1) := by decide +kernel
theorem dX3_clear_10 : decode cX3_clear 10 = .ok (.aload_n 0, 1) := by decide +kernel
theorem dX3_clear_11 : decode cX3_clear 11 = .ok (.iconst 0, 1) := by decide +kernel
theorem dX3_clear_12 : decode cX3_clear 12 = .ok (.putfield 26, 3) := by decide +kernel
theorem dX3_clear_15 : decode cX3_clear 15 = .ok (.iload_n 1, 1) := by decide +kernel
theorem dX3_clear_16 : decode cX3_clear 16 = .ok (.ireturn, 1) := by decide +kernel
set_option maxRecDepth 20000 in
theorem ggX3_addAll_X3_isWrong : GoodIn wsX3_addAll wsX3_isWrong := goodIn_r _ [9, 10, 11, 12, 13, 14, 15, 16, 17, 18] (by decide +kernel) (by decide +kernel)
set_option maxRecDepth 20000 in
theorem gX3_addAll_X3_isWrong : GoodIn wsX3_addAll (wsV RX3 29 RX3 yX3_isWrong wsX3_isWrong) := goodIn_app (goodIn_of _ (by decide +kernel)) ggX3_addAll_X3_isWrong
theorem dX3_addAll_0 : decode cX3_addAll 0 = .ok (.aload_n 0, 1) := by decide +kernel
theorem dX3_addAll_1 : decode cX3_addAll 1 = .ok (.aload_n 0, 1) := by decide +kernel
theorem dX3_addAll_2 : decode cX3_addAll 2 = .ok (.getfield 26, 3) := by decide +kernel
theorem dX3_addAll_5 : decode cX3_addAll 5 = .ok (.aload_n 0, 1) := by decide +kernel
theorem dX3_addAll_6 : decode cX3_addAll 6 = .ok (.getfield 47, 3) := by decide +kernel
theorem dX3_addAll_9 : decode cX3_addAll 9 = .ok (.iadd, 1) := by decide +kernel
theorem dX3_addAll_10 : decode cX3_addAll 10 = .ok (.sipush 200, 3) := by decide +kernel
theorem dX3_addAll_13 : decode cX3_addAll 13 = .ok (.if_icmp .le 7, 3) := by decide +kernel
theorem dX3_addAll_16 : decode cX3_addAll 16 = .ok (.iconst 1, 1) := by decide +kernel
theorem dX3_addAll_17 : decode cX3_addAll 17 = .ok (.goto 4, 3) := by decide +kernel
theorem dX3_addAll_20 : decode cX3_addAll 20 = .ok (.iconst 0, 1) := by decide +kernel
theorem dX3_addAll_21 : decode cX3_addAll 21 = .ok (.invokevirtual 29, 3) := by decide +kernel
theorem dX3_addAll_24 : decode cX3_addAll 24 = .ok (.ifCond .eq 5, 3) := by decide +kernel
theorem dX3_addAll_27 : decode cX3_addAll 27 = .ok (.iconst 0, 1) := by decide +kernel
end
section
theorem dX3_addAll_28 : decode cX3_addAll 28 = .ok (.ireturn, 1) := by decide +kernel
theorem dX3_addAll_29 : decode cX3_addAll 29 = .ok (.iconst 0, 1) := by decide +kernel
theorem dX3_addAll_30 : decode cX3_addAll 30 = .ok (.istore_n 1, 1) := by decide +kernel
theorem dX3_addAll_31 : decode cX3_addAll 31 = .ok (.iload_n 1, 1) := by decide +kernel
theorem dX3_addAll_32 : decode cX3_addAll 32 = .ok (.aload_n 0, 1) := by decide +kernel
theorem dX3_addAll_33 : decode cX3_addAll 33 = .ok (.getfield 47, 3) := by decide +kernel
theorem dX3_addAll_36 : decode cX3_addAll 36 = .ok (.if_icmp .ge 34, 3) := by decide +kernel
theorem dX3_addAll_39 : decode cX3_addAll 39 = .ok (.aload_n 0, 1) := by decide +kernel
theorem dX3_addAll_40 : decode cX3_addAll 40 = .ok (.getfield 7, 3) := by decide +kernel
theorem dX3_addAll_43 : decode cX3_addAll 43 = .ok (.aload_n 0, 1) := by decide +kernel
theorem dX3_addAll_44 : decode cX3_addAll 44 = .ok (.getfield 26, 3) := by decide +kernel
theorem dX3_addAll_47 : decode cX3_addAll 47 = .ok (.aload_n 0, 1) := by decide +kernel
theorem dX3_addAll_48 : decode cX3_addAll 48 = .ok (.getfield 13, 3) := by decide +kernel
theorem dX3_addAll_51 : decode cX3_addAll 51 = .ok (.iload_n 1, 1) := by decide +kernel
theorem dX3_addAll_52 : decode cX3_addAll 52 = .ok (.iaload, 1) := by decide +kernel
theorem dX3_addAll_53 : decode cX3_addAll 53 = .ok (.iastore, 1) := by decide +kernel
theorem dX3_addAll_54 : decode cX3_addAll 54 = .ok (.aload_n 0, 1) := by decide +kernel
theorem dX3_addAll_55 : decode cX3_addAll 55 = .ok (.dup, 1) := by decide +kernel
theorem dX3_addAll_56 : decode cX3_addAll 56 = .ok (.getfield 26, 3) := by decide +kernel
theorem dX3_addAll_59 : decode cX3_addAll 59 = .ok (.iconst 1, 1) := by decide +kernel
theorem dX3_addAll_60 : decode cX3_addAll 60 = .ok (.iadd, 1) := by decide +kernel
theorem dX3_addAll_61 : decode cX3_addAll 61 = .ok (.putfield 26, 3) := by decide +kernel
theorem dX3_addAll_64 : decode cX3_addAll 64 = .ok (.iinc 1 1, 3) := by decide +kernel
theorem dX3_addAll_67 : decode cX3_addAll 67 = .ok (.goto (-36), 3) := by decide +kernel
theorem dX3_addAll_70 : decode cX3_addAll 70 = .ok (.aload_n 0, 1) := by decide +kernel
theorem dX3_addAll_71 : decode cX3_addAll 71 = .ok (.getfield 26, 3) := by decide +kernel
theorem dX3_addAll_74 : decode cX3_addAll 74 = .ok (.ireturn, 1) := by decide +kernel
set_option maxRecDepth 20000 in
theorem ggX3_drain_X3_isWrong : GoodIn wsX3_drain wsX3_isWrong := goodIn_r _ [8, 9, 19, 20, 21, 22, 23, 24, 25, 26] (by decide +kernel) (by decide +kernel)
set_option maxRecDepth 20000 in
theorem gX3_drain_X3_isWrong : GoodIn wsX3_drain (wsV RX3 29 RX3 yX3_isWrong wsX3_isWrong) := goodIn_app (goodIn_of _ (by decide +kernel)) ggX3_drain_X3_isWrong
set_option maxRecDepth 20000 in
theorem ggX3_drain_X3_leastPlace : GoodIn wsX3_drain wsX3_leastPlace := goodIn_r _ [13, 1, 14, 19, 20, 21, 22, 23, 24, 25, 26] (by decide +kernel) (by decide +kernel)
set_option maxRecDepth 20000 in
theorem gX3_drain_X3_leastPlace : GoodIn wsX3_drain (wsV RX3 37 RX3 yX3_leastPlace wsX3_leastPlace) := goodIn_app (goodIn_of _ (by decide +kernel)) ggX3_drain_X3_leastPlace
set_option maxRecDepth 20000 in
theorem ggX3_drain_X3_takeHeld : GoodIn wsX3_drain wsX3_takeHeld := goodIn_r _ [18, 14, 1, 19, 20, 21, 22, 23, 24, 25, 26] (by decide +kernel) (by decide +kernel)
set_option maxRecDepth 20000 in
theorem gX3_drain_X3_takeHeld : GoodIn wsX3_drain (wsV RX3 41 RX3 yX3_takeHeld wsX3_takeHeld) := goodIn_app (goodIn_of _ (by decide +kernel)) ggX3_drain_X3_takeHeld
theorem dX3_drain_0 : decode cX3_drain 0 = .ok (.aload_n 0, 1) := by decide +kernel
theorem dX3_drain_1 : decode cX3_drain 1 = .ok (.aload_n 0, 1) := by decide +kernel
theorem dX3_drain_2 : decode cX3_drain 2 = .ok (.getfield 26, 3) := by decide +kernel
theorem dX3_drain_5 : decode cX3_drain 5 = .ok (.aload_n 0, 1) := by decide +kernel
theorem dX3_drain_6 : decode cX3_drain 6 = .ok (.getfield 47, 3) := by decide +kernel
theorem dX3_drain_9 : decode cX3_drain 9 = .ok (.iadd, 1) := by decide +kernel
theorem dX3_drain_10 : decode cX3_drain 10 = .ok (.sipush 200, 3) := by decide +kernel
theorem dX3_drain_13 : decode cX3_drain 13 = .ok (.if_icmp .le 7, 3) := by decide +kernel
theorem dX3_drain_16 : decode cX3_drain 16 = .ok (.iconst 1, 1) := by decide +kernel
theorem dX3_drain_17 : decode cX3_drain 17 = .ok (.goto 4, 3) := by decide +kernel
theorem dX3_drain_20 : decode cX3_drain 20 = .ok (.iconst 0, 1) := by decide +kernel
theorem dX3_drain_21 : decode cX3_drain 21 = .ok (.invokevirtual 29, 3) := by decide +kernel
theorem dX3_drain_24 : decode cX3_drain 24 = .ok (.ifCond .eq 5, 3) := by decide +kernel
theorem dX3_drain_27 : decode cX3_drain 27 = .ok (.iconst 0, 1) := by decide +kernel
theorem dX3_drain_28 : decode cX3_drain 28 = .ok (.ireturn, 1) := by decide +kernel
theorem dX3_drain_29 : decode cX3_drain 29 = .ok (.aload_n 0, 1) := by decide +kernel
theorem dX3_drain_30 : decode cX3_drain 30 = .ok (.getfield 26, 3) := by decide +kernel
theorem dX3_drain_33 : decode cX3_drain 33 = .ok (.istore_n 1, 1) := by decide +kernel
theorem dX3_drain_34 : decode cX3_drain 34 = .ok (.aload_n 0, 1) := by decide +kernel
theorem dX3_drain_35 : decode cX3_drain 35 = .ok (.getfield 26, 3) := by decide +kernel
theorem dX3_drain_38 : decode cX3_drain 38 = .ok (.ifCond .le 33, 3) := by decide +kernel
theorem dX3_drain_41 : decode cX3_drain 41 = .ok (.aload_n 0, 1) := by decide +kernel
theorem dX3_drain_42 : decode cX3_drain 42 = .ok (.getfield 13, 3) := by decide +kernel
theorem dX3_drain_45 : decode cX3_drain 45 = .ok (.aload_n 0, 1) := by decide +kernel
theorem dX3_drain_46 : decode cX3_drain 46 = .ok (.getfield 47, 3) := by decide +kernel
theorem dX3_drain_49 : decode cX3_drain 49 = .ok (.aload_n 0, 1) := by decide +kernel
theorem dX3_drain_50 : decode cX3_drain 50 = .ok (.aload_n 0, 1) := by decide +kernel
theorem dX3_drain_51 : decode cX3_drain 51 = .ok (.invokevirtual 37, 3) := by decide +kernel
theorem dX3_drain_54 : decode cX3_drain 54 = .ok (.invokevirtual 41, 3) := by decide +kernel
theorem dX3_drain_57 : decode cX3_drain 57 = .ok (.iastore, 1) := by decide +kernel
theorem dX3_drain_58 : decode cX3_drain 58 = .ok (.aload_n 0, 1) := by decide +kernel
theorem dX3_drain_59 : decode cX3_drain 59 = .ok (.dup, 1) := by decide +kernel
theorem dX3_drain_60 : decode cX3_drain 60 = .ok (.getfield 47, 3) := by decide +kernel
theorem dX3_drain_63 : decode cX3_drain 63 = .ok (.iconst 1, 1) := by decide +kernel
theorem dX3_drain_64 : decode cX3_drain 64 = .ok (.iadd, 1) := by decide +kernel
theorem dX3_drain_65 : decode cX3_drain 65 = .ok (.putfield 47, 3) := by decide +kernel
theorem dX3_drain_68 : decode cX3_drain 68 = .ok (.goto (-34), 3) := by decide +kernel
theorem dX3_drain_71 : decode cX3_drain 71 = .ok (.iload_n 1, 1) := by decide +kernel
theorem dX3_drain_72 : decode cX3_drain 72 = .ok (.ireturn, 1) := by decide +kernel
theorem dX3_leastPair_0 : decode cX3_leastPair 0 = .ok (.iconst 0, 1) := by decide +kernel
theorem dX3_leastPair_1 : decode cX3_leastPair 1 = .ok (.istore_n 1, 1) := by decide +kernel
theorem dX3_leastPair_2 : decode cX3_leastPair 2 = .ok (.iconst 1, 1) := by decide +kernel
theorem dX3_leastPair_3 : decode cX3_leastPair 3 = .ok (.istore_n 2, 1) := by decide +kernel
theorem dX3_leastPair_4 : decode cX3_leastPair 4 = .ok (.iload_n 2, 1) := by decide +kernel
theorem dX3_leastPair_5 : decode cX3_leastPair 5 = .ok (.aload_n 0, 1) := by decide +kernel
theorem dX3_leastPair_6 : decode cX3_leastPair 6 = .ok (.getfield 50, 3) := by decide +kernel
theorem dX3_leastPair_9 : decode cX3_leastPair 9 = .ok (.if_icmp .ge 56, 3) := by decide +kernel
theorem dX3_leastPair_12 : decode cX3_leastPair 12 = .ok (.aload_n 0, 1) := by decide +kernel
theorem dX3_leastPair_13 : decode cX3_leastPair 13 = .ok (.getfield 16, 3) := by decide +kernel
theorem dX3_leastPair_16 : decode cX3_leastPair 16 = .ok (.iload_n 2, 1) := by decide +kernel
theorem dX3_leastPair_17 : decode cX3_leastPair 17 = .ok (.iaload, 1) := by decide +kernel
theorem dX3_leastPair_18 : decode cX3_leastPair 18 = .ok (.aload_n 0, 1) := by decide +kernel
theorem dX3_leastPair_19 : decode cX3_leastPair 19 = .ok (.getfield 16, 3) := by decide +kernel
theorem dX3_leastPair_22 : decode cX3_leastPair 22 = .ok (.iload_n 1, 1) := by decide +kernel
theorem dX3_leastPair_23 : decode cX3_leastPair 23 = .ok (.iaload, 1) := by decide +kernel
theorem dX3_leastPair_24 : decode cX3_leastPair 24 = .ok (.if_icmp .lt 33, 3) := by decide +kernel
theorem dX3_leastPair_27 : decode cX3_leastPair 27 = .ok (.aload_n 0, 1) := by decide +kernel
theorem dX3_leastPair_28 : decode cX3_leastPair 28 = .ok (.getfield 16, 3) := by decide +kernel
theorem dX3_leastPair_31 : decode cX3_leastPair 31 = .ok (.iload_n 2, 1) := by decide +kernel
theorem dX3_leastPair_32 : decode cX3_leastPair 32 = .ok (.iaload, 1) := by decide +kernel
theorem dX3_leastPair_33 : decode cX3_leastPair 33 = .ok (.aload_n 0, 1) := by decide +kernel
theorem dX3_leastPair_34 : decode cX3_leastPair 34 = .ok (.getfield 16, 3) := by decide +kernel
theorem dX3_leastPair_37 : decode cX3_leastPair 37 = .ok (.iload_n 1, 1) := by decide +kernel
theorem dX3_leastPair_38 : decode cX3_leastPair 38 = .ok (.iaload, 1) := by decide +kernel
theorem dX3_leastPair_39 : decode cX3_leastPair 39 = .ok (.if_icmp .ne 20, 3) := by decide +kernel
theorem dX3_leastPair_42 : decode cX3_leastPair 42 = .ok (.aload_n 0, 1) := by decide +kernel
theorem dX3_leastPair_43 : decode cX3_leastPair 43 = .ok (.getfield 19, 3) := by decide +kernel
theorem dX3_leastPair_46 : decode cX3_leastPair 46 = .ok (.iload_n 2, 1) := by decide +kernel
theorem dX3_leastPair_47 : decode cX3_leastPair 47 = .ok (.iaload, 1) := by decide +kernel
theorem dX3_leastPair_48 : decode cX3_leastPair 48 = .ok (.aload_n 0, 1) := by decide +kernel
theorem dX3_leastPair_49 : decode cX3_leastPair 49 = .ok (.getfield 19, 3) := by decide +kernel
theorem dX3_leastPair_52 : decode cX3_leastPair 52 = .ok (.iload_n 1, 1) := by decide +kernel
theorem dX3_leastPair_53 : decode cX3_leastPair 53 = .ok (.iaload, 1) := by decide +kernel
theorem dX3_leastPair_54 : decode cX3_leastPair 54 = .ok (.if_icmp .le 5, 3) := by decide +kernel
theorem dX3_leastPair_57 : decode cX3_leastPair 57 = .ok (.iload_n 2, 1) := by decide +kernel
theorem dX3_leastPair_58 : decode cX3_leastPair 58 = .ok (.istore_n 1, 1) := by decide +kernel
theorem dX3_leastPair_59 : decode cX3_leastPair 59 = .ok (.iinc 2 1, 3) := by decide +kernel
theorem dX3_leastPair_62 : decode cX3_leastPair 62 = .ok (.goto (-58), 3) := by decide +kernel
theorem dX3_leastPair_65 : decode cX3_leastPair 65 = .ok (.iload_n 1, 1) := by decide +kernel
theorem dX3_leastPair_66 : decode cX3_leastPair 66 = .ok (.ireturn, 1) := by decide +kernel
theorem dX3_pairPlace_0 : decode cX3_pairPlace 0 = .ok (.iconst 0, 1) := by decide +kernel
theorem dX3_pairPlace_1 : decode cX3_pairPlace 1 = .ok (.istore_n 3, 1) := by decide +kernel
theorem dX3_pairPlace_2 : decode cX3_pairPlace 2 = .ok (.iload_n 3, 1) := by decide +kernel
theorem dX3_pairPlace_3 : decode cX3_pairPlace 3 = .ok (.aload_n 0, 1) := by decide +kernel
theorem dX3_pairPlace_4 : decode cX3_pairPlace 4 = .ok (.getfield 50, 3) := by decide +kernel
theorem dX3_pairPlace_7 : decode cX3_pairPlace 7 = .ok (.if_icmp .ge 31, 3) := by decide +kernel
theorem dX3_pairPlace_10 : decode cX3_pairPlace 10 = .ok (.aload_n 0, 1) := by decide +kernel
theorem dX3_pairPlace_11 : decode cX3_pairPlace 11 = .ok (.getfield 16, 3) := by decide +kernel
theorem dX3_pairPlace_14 : decode cX3_pairPlace 14 = .ok (.iload_n 3, 1) := by decide +kernel
theorem dX3_pairPlace_15 : decode cX3_pairPlace 15 = .ok (.iaload, 1) := by decide +kernel
theorem dX3_pairPlace_16 : decode cX3_pairPlace 16 = .ok (.iload_n 1, 1) := by decide +kernel
theorem dX3_pairPlace_17 : decode cX3_pairPlace 17 = .ok (.if_icmp .ne 15, 3) := by decide +kernel
theorem dX3_pairPlace_20 : decode cX3_pairPlace 20 = .ok (.aload_n 0, 1) := by decide +kernel
theorem dX3_pairPlace_21 : decode cX3_pairPlace 21 = .ok (.getfield 19, 3) := by decide +kernel
theorem dX3_pairPlace_24 : decode cX3_pairPlace 24 = .ok (.iload_n 3, 1) := by decide +kernel
theorem dX3_pairPlace_25 : decode cX3_pairPlace 25 = .ok (.iaload, 1) := by decide +kernel
theorem dX3_pairPlace_26 : decode cX3_pairPlace 26 = .ok (.iload_n 2, 1) := by decide +kernel
theorem dX3_pairPlace_27 : decode cX3_pairPlace 27 = .ok (.if_icmp .ne 5, 3) := by decide +kernel
theorem dX3_pairPlace_30 : decode cX3_pairPlace 30 = .ok (.iload_n 3, 1) := by decide +kernel
theorem dX3_pairPlace_31 : decode cX3_pairPlace 31 = .ok (.ireturn, 1) := by decide +kernel
theorem dX3_pairPlace_32 : decode cX3_pairPlace 32 = .ok (.iinc 3 1, 3) := by decide +kernel
theorem dX3_pairPlace_35 : decode cX3_pairPlace 35 = .ok (.goto (-33), 3) := by decide +kernel
theorem dX3_pairPlace_38 : decode cX3_pairPlace 38 = .ok (.iconst (-1), 1) := by decide +kernel
theorem dX3_pairPlace_39 : decode cX3_pairPlace 39 = .ok (.ireturn, 1) := by decide +kernel
theorem dX3_takePair_0 : decode cX3_takePair 0 = .ok (.aload_n 0, 1) := by decide +kernel
theorem dX3_takePair_1 : decode cX3_takePair 1 = .ok (.dup, 1) := by decide +kernel
theorem dX3_takePair_2 : decode cX3_takePair 2 = .ok (.getfield 50, 3) := by decide +kernel
theorem dX3_takePair_5 : decode cX3_takePair 5 = .ok (.iconst 1, 1) := by decide +kernel
theorem dX3_takePair_6 : decode cX3_takePair 6 = .ok (.isub, 1) := by decide +kernel
theorem dX3_takePair_7 : decode cX3_takePair 7 = .ok (.putfield 50, 3) := by decide +kernel
theorem dX3_takePair_10 : decode cX3_takePair 10 = .ok (.iload_n 1, 1) := by decide +kernel
theorem dX3_takePair_11 : decode cX3_takePair 11 = .ok (.istore_n 2, 1) := by decide +kernel
theorem dX3_takePair_12 : decode cX3_takePair 12 = .ok (.iload_n 2, 1) := by decide +kernel
theorem dX3_takePair_13 : decode cX3_takePair 13 = .ok (.aload_n 0, 1) := by decide +kernel
theorem dX3_takePair_14 : decode cX3_takePair 14 = .ok (.getfield 50, 3) := by decide +kernel
theorem dX3_takePair_17 : decode cX3_takePair 17 = .ok (.if_icmp .ge 37, 3) := by decide +kernel
theorem dX3_takePair_20 : decode cX3_takePair 20 = .ok (.aload_n 0, 1) := by decide +kernel
theorem dX3_takePair_21 : decode cX3_takePair 21 = .ok (.getfield 16, 3) := by decide +kernel
theorem dX3_takePair_24 : decode cX3_takePair 24 = .ok (.iload_n 2, 1) := by decide +kernel
theorem dX3_takePair_25 : decode cX3_takePair 25 = .ok (.aload_n 0, 1) := by decide +kernel
theorem dX3_takePair_26 : decode cX3_takePair 26 = .ok (.getfield 16, 3) := by decide +kernel
theorem dX3_takePair_29 : decode cX3_takePair 29 = .ok (.iload_n 2, 1) := by decide +kernel
theorem dX3_takePair_30 : decode cX3_takePair 30 = .ok (.iconst 1, 1) := by decide +kernel
theorem dX3_takePair_31 : decode cX3_takePair 31 = .ok (.iadd, 1) := by decide +kernel
theorem dX3_takePair_32 : decode cX3_takePair 32 = .ok (.iaload, 1) := by decide +kernel
theorem dX3_takePair_33 : decode cX3_takePair 33 = .ok (.iastore, 1) := by decide +kernel
theorem dX3_takePair_34 : decode cX3_takePair 34 = .ok (.aload_n 0, 1) := by decide +kernel
theorem dX3_takePair_35 : decode cX3_takePair 35 = .ok (.getfield 19, 3) := by decide +kernel
theorem dX3_takePair_38 : decode cX3_takePair 38 = .ok (.iload_n 2, 1) := by decide +kernel
theorem dX3_takePair_39 : decode cX3_takePair 39 = .ok (.aload_n 0, 1) := by decide +kernel
theorem dX3_takePair_40 : decode cX3_takePair 40 = .ok (.getfield 19, 3) := by decide +kernel
theorem dX3_takePair_43 : decode cX3_takePair 43 = .ok (.iload_n 2, 1) := by decide +kernel
theorem dX3_takePair_44 : decode cX3_takePair 44 = .ok (.iconst 1, 1) := by decide +kernel
theorem dX3_takePair_45 : decode cX3_takePair 45 = .ok (.iadd, 1) := by decide +kernel
theorem dX3_takePair_46 : decode cX3_takePair 46 = .ok (.iaload, 1) := by decide +kernel
theorem dX3_takePair_47 : decode cX3_takePair 47 = .ok (.iastore, 1) := by decide +kernel
theorem dX3_takePair_48 : decode cX3_takePair 48 = .ok (.iinc 2 1, 3) := by decide +kernel
theorem dX3_takePair_51 : decode cX3_takePair 51 = .ok (.goto (-39), 3) := by decide +kernel
theorem dX3_takePair_54 : decode cX3_takePair 54 = .ok (.return_, 1) := by decide +kernel
set_option maxRecDepth 20000 in
theorem ggX3_isNoTag_X3_isWrong : GoodIn wsX3_isNoTag wsX3_isWrong := goodIn_r _ [5, 6, 7, 8, 9, 10, 11, 12, 13, 14] (by decide +kernel) (by decide +kernel)
set_option maxRecDepth 20000 in
theorem gX3_isNoTag_X3_isWrong : GoodIn wsX3_isNoTag (wsV RX3 29 RX3 yX3_isWrong wsX3_isWrong) := goodIn_app (goodIn_of _ (by decide +kernel)) ggX3_isNoTag_X3_isWrong
theorem dX3_isNoTag_0 : decode cX3_isNoTag 0 = .ok (.aload_n 0, 1) := by decide +kernel
theorem dX3_isNoTag_1 : decode cX3_isNoTag 1 = .ok (.iload_n 1, 1) := by decide +kernel
theorem dX3_isNoTag_2 : decode cX3_isNoTag 2 = .ok (.ifCond .lt 10, 3) := by decide +kernel
theorem dX3_isNoTag_5 : decode cX3_isNoTag 5 = .ok (.iload_n 1, 1) := by decide +kernel
theorem dX3_isNoTag_6 : decode cX3_isNoTag 6 = .ok (.sipush 999, 3) := by decide +kernel
theorem dX3_isNoTag_9 : decode cX3_isNoTag 9 = .ok (.if_icmp .le 7, 3) := by decide +kernel
theorem dX3_isNoTag_12 : decode cX3_isNoTag 12 = .ok (.iconst 1, 1) := by decide +kernel
theorem dX3_isNoTag_13 : decode cX3_isNoTag 13 = .ok (.goto 4, 3) := by decide +kernel
theorem dX3_isNoTag_16 : decode cX3_isNoTag 16 = .ok (.iconst 0, 1) := by decide +kernel
theorem dX3_isNoTag_17 : decode cX3_isNoTag 17 = .ok (.invokevirtual 29, 3) := by decide +kernel
theorem dX3_isNoTag_20 : decode cX3_isNoTag 20 = .ok (.ireturn, 1) := by decide +kernel
set_option maxRecDepth 20000 in
theorem ggX3_offerPair_X3_isNoTag : GoodIn wsX3_offerPair wsX3_isNoTag := goodIn_r _ [8, 9, 10, 11, 7, 12, 13, 14, 15, 16, 17, 18, 19, 20, 21] (by decide +kernel) (by decide +kernel)
set_option maxRecDepth 20000 in
theorem gX3_offerPair_X3_isNoTag : GoodIn wsX3_offerPair (wsV RX3 53 RX3 yX3_isNoTag wsX3_isNoTag) := goodIn_app (goodIn_of _ (by decide +kernel)) ggX3_offerPair_X3_isNoTag
set_option maxRecDepth 20000 in
theorem ggX3_offerPair_X3_isWrong : GoodIn wsX3_offerPair wsX3_isWrong := goodIn_r _ [12, 13, 14, 15, 16, 17, 18, 19, 20, 21] (by decide +kernel) (by decide +kernel)
set_option maxRecDepth 20000 in
theorem gX3_offerPair_X3_isWrong : GoodIn wsX3_offerPair (wsV RX3 29 RX3 yX3_isWrong wsX3_isWrong) := goodIn_app (goodIn_of _ (by decide +kernel)) ggX3_offerPair_X3_isWrong
theorem dX3_offerPair_0 : decode cX3_offerPair 0 = .ok (.aload_n 0, 1) := by decide +kernel
theorem dX3_offerPair_1 : decode cX3_offerPair 1 = .ok (.iload_n 2, 1) := by decide +kernel
theorem dX3_offerPair_2 : decode cX3_offerPair 2 = .ok (.invokevirtual 53, 3) := by decide +kernel
theorem dX3_offerPair_5 : decode cX3_offerPair 5 = .ok (.ifCond .ne 25, 3) := by decide +kernel
theorem dX3_offerPair_8 : decode cX3_offerPair 8 = .ok (.aload_n 0, 1) := by decide +kernel
theorem dX3_offerPair_9 : decode cX3_offerPair 9 = .ok (.aload_n 0, 1) := by decide +kernel
theorem dX3_offerPair_10 : decode cX3_offerPair 10 = .ok (.getfield 50, 3) := by decide +kernel
theorem dX3_offerPair_13 : decode cX3_offerPair 13 = .ok (.sipush 200, 3) := by decide +kernel
theorem dX3_offerPair_16 : decode cX3_offerPair 16 = .ok (.if_icmp .ne 7, 3) := by decide +kernel
theorem dX3_offerPair_19 : decode cX3_offerPair 19 = .ok (.iconst 2, 1) := by decide +kernel
theorem dX3_offerPair_20 : decode cX3_offerPair 20 = .ok (.goto 4, 3) := by decide +kernel
theorem dX3_offerPair_23 : decode cX3_offerPair 23 = .ok (.iconst 0, 1) := by decide +kernel
theorem dX3_offerPair_24 : decode cX3_offerPair 24 = .ok (.invokevirtual 29, 3) := by decide +kernel
theorem dX3_offerPair_27 : decode cX3_offerPair 27 = .ok (.ifCond .eq 5, 3) := by decide +kernel
theorem dX3_offerPair_30 : decode cX3_offerPair 30 = .ok (.iconst 0, 1) := by decide +kernel
theorem dX3_offerPair_31 : decode cX3_offerPair 31 = .ok (.ireturn, 1) := by decide +kernel
theorem dX3_offerPair_32 : decode cX3_offerPair 32 = .ok (.aload_n 0, 1) := by decide +kernel
theorem dX3_offerPair_33 : decode cX3_offerPair 33 = .ok (.getfield 16, 3) := by decide +kernel
theorem dX3_offerPair_36 : decode cX3_offerPair 36 = .ok (.aload_n 0, 1) := by decide +kernel
theorem dX3_offerPair_37 : decode cX3_offerPair 37 = .ok (.getfield 50, 3) := by decide +kernel
theorem dX3_offerPair_40 : decode cX3_offerPair 40 = .ok (.iload_n 1, 1) := by decide +kernel
theorem dX3_offerPair_41 : decode cX3_offerPair 41 = .ok (.iastore, 1) := by decide +kernel
theorem dX3_offerPair_42 : decode cX3_offerPair 42 = .ok (.aload_n 0, 1) := by decide +kernel
theorem dX3_offerPair_43 : decode cX3_offerPair 43 = .ok (.getfield 19, 3) := by decide +kernel
theorem dX3_offerPair_46 : decode cX3_offerPair 46 = .ok (.aload_n 0, 1) := by decide +kernel
theorem dX3_offerPair_47 : decode cX3_offerPair 47 = .ok (.getfield 50, 3) := by decide +kernel
theorem dX3_offerPair_50 : decode cX3_offerPair 50 = .ok (.iload_n 2, 1) := by decide +kernel
theorem dX3_offerPair_51 : decode cX3_offerPair 51 = .ok (.iastore, 1) := by decide +kernel
theorem dX3_offerPair_52 : decode cX3_offerPair 52 = .ok (.aload_n 0, 1) := by decide +kernel
theorem dX3_offerPair_53 : decode cX3_offerPair 53 = .ok (.dup, 1) := by decide +kernel
theorem dX3_offerPair_54 : decode cX3_offerPair 54 = .ok (.getfield 50, 3) := by decide +kernel
theorem dX3_offerPair_57 : decode cX3_offerPair 57 = .ok (.iconst 1, 1) := by decide +kernel
theorem dX3_offerPair_58 : decode cX3_offerPair 58 = .ok (.iadd, 1) := by decide +kernel
theorem dX3_offerPair_59 : decode cX3_offerPair 59 = .ok (.putfield 50, 3) := by decide +kernel
theorem dX3_offerPair_62 : decode cX3_offerPair 62 = .ok (.aload_n 0, 1) := by decide +kernel
theorem dX3_offerPair_63 : decode cX3_offerPair 63 = .ok (.getfield 50, 3) := by decide +kernel
theorem dX3_offerPair_66 : decode cX3_offerPair 66 = .ok (.ireturn, 1) := by decide +kernel
theorem dX3_told_0 : decode cX3_told 0 = .ok (.ldc2_w 56, 3) := by decide +kernel
theorem dX3_told_3 : decode cX3_told 3 = .ok (.aload_n 0, 1) := by decide +kernel
theorem dX3_told_4 : decode cX3_told 4 = .ok (.getfield 16, 3) := by decide +kernel
theorem dX3_told_7 : decode cX3_told 7 = .ok (.iload_n 1, 1) := by decide +kernel
theorem dX3_told_8 : decode cX3_told 8 = .ok (.iaload, 1) := by decide +kernel
theorem dX3_told_9 : decode cX3_told 9 = .ok (.i2l, 1) := by decide +kernel
theorem dX3_told_10 : decode cX3_told 10 = .ok (.lmul, 1) := by decide +kernel
theorem dX3_told_11 : decode cX3_told 11 = .ok (.aload_n 0, 1) := by decide +kernel
theorem dX3_told_12 : decode cX3_told 12 = .ok (.getfield 19, 3) := by decide +kernel
theorem dX3_told_15 : decode cX3_told 15 = .ok (.iload_n 1, 1) := by decide +kernel
theorem dX3_told_16 : decode cX3_told 16 = .ok (.iaload, 1) := by decide +kernel
theorem dX3_told_17 : decode cX3_told 17 = .ok (.i2l, 1) := by decide +kernel
theorem dX3_told_18 : decode cX3_told 18 = .ok (.ladd, 1) := by decide +kernel
theorem dX3_told_19 : decode cX3_told 19 = .ok (.lreturn, 1) := by decide +kernel
set_option maxRecDepth 20000 in
theorem ggX3_peekPair_X3_isWrong : GoodIn wsX3_peekPair wsX3_isWrong := goodIn_r _ [6, 7, 19, 20, 21, 22, 23, 24, 25, 26] (by decide +kernel) (by decide +kernel)
set_option maxRecDepth 20000 in
theorem gX3_peekPair_X3_isWrong : GoodIn wsX3_peekPair (wsV RX3 29 RX3 yX3_isWrong wsX3_isWrong) := goodIn_app (goodIn_of _ (by decide +kernel)) ggX3_peekPair_X3_isWrong
set_option maxRecDepth 20000 in
theorem ggX3_peekPair_X3_leastPair : GoodIn wsX3_peekPair wsX3_leastPair := goodIn_r _ [11, 1, 12, 13, 19, 20, 21, 22, 23, 24, 25, 26] (by decide +kernel) (by decide +kernel)
set_option maxRecDepth 20000 in
theorem gX3_peekPair_X3_leastPair : GoodIn wsX3_peekPair (wsV RX3 58 RX3 yX3_leastPair wsX3_leastPair) := goodIn_app (goodIn_of _ (by decide +kernel)) ggX3_peekPair_X3_leastPair
set_option maxRecDepth 20000 in
theorem ggX3_peekPair_X3_told : GoodIn wsX3_peekPair wsX3_told := goodIn_r _ [17, 18, 12, 13, 19, 20, 21, 22, 23, 24, 25, 26] (by decide +kernel) (by decide +kernel)
set_option maxRecDepth 20000 in
theorem gX3_peekPair_X3_told : GoodIn wsX3_peekPair (wsV RX3 61 RX3 yX3_told wsX3_told) := goodIn_app (goodIn_of _ (by decide +kernel)) ggX3_peekPair_X3_told
theorem dX3_peekPair_0 : decode cX3_peekPair 0 = .ok (.aload_n 0, 1) := by decide +kernel
theorem dX3_peekPair_1 : decode cX3_peekPair 1 = .ok (.aload_n 0, 1) := by decide +kernel
theorem dX3_peekPair_2 : decode cX3_peekPair 2 = .ok (.getfield 50, 3) := by decide +kernel
theorem dX3_peekPair_5 : decode cX3_peekPair 5 = .ok (.ifCond .ne 7, 3) := by decide +kernel
theorem dX3_peekPair_8 : decode cX3_peekPair 8 = .ok (.iconst 1, 1) := by decide +kernel
theorem dX3_peekPair_9 : decode cX3_peekPair 9 = .ok (.goto 4, 3) := by decide +kernel
theorem dX3_peekPair_12 : decode cX3_peekPair 12 = .ok (.iconst 0, 1) := by decide +kernel
theorem dX3_peekPair_13 : decode cX3_peekPair 13 = .ok (.invokevirtual 29, 3) := by decide +kernel
theorem dX3_peekPair_16 : decode cX3_peekPair 16 = .ok (.ifCond .eq 7, 3) := by decide +kernel
theorem dX3_peekPair_19 : decode cX3_peekPair 19 = .ok (.lconst 0, 1) := by decide +kernel
theorem dX3_peekPair_20 : decode cX3_peekPair 20 = .ok (.goto 11, 3) := by decide +kernel
theorem dX3_peekPair_23 : decode cX3_peekPair 23 = .ok (.aload_n 0, 1) := by decide +kernel
theorem dX3_peekPair_24 : decode cX3_peekPair 24 = .ok (.aload_n 0, 1) := by decide +kernel
theorem dX3_peekPair_25 : decode cX3_peekPair 25 = .ok (.invokevirtual 58, 3) := by decide +kernel
theorem dX3_peekPair_28 : decode cX3_peekPair 28 = .ok (.invokevirtual 61, 3) := by decide +kernel
theorem dX3_peekPair_31 : decode cX3_peekPair 31 = .ok (.lreturn, 1) := by decide +kernel
set_option maxRecDepth 20000 in
theorem ggX3_pollPair_X3_isWrong : GoodIn wsX3_pollPair wsX3_isWrong := goodIn_r _ [6, 7, 23, 24, 25, 26, 27, 28, 29, 30] (by decide +kernel) (by decide +kernel)
set_option maxRecDepth 20000 in
theorem gX3_pollPair_X3_isWrong : GoodIn wsX3_pollPair (wsV RX3 29 RX3 yX3_isWrong wsX3_isWrong) := goodIn_app (goodIn_of _ (by decide +kernel)) ggX3_pollPair_X3_isWrong
set_option maxRecDepth 20000 in
theorem ggX3_pollPair_X3_leastPair : GoodIn wsX3_pollPair wsX3_leastPair := goodIn_r _ [11, 1, 12, 13, 23, 24, 25, 26, 27, 28, 29, 30] (by decide +kernel) (by decide +kernel)
set_option maxRecDepth 20000 in
theorem gX3_pollPair_X3_leastPair : GoodIn wsX3_pollPair (wsV RX3 58 RX3 yX3_leastPair wsX3_leastPair) := goodIn_app (goodIn_of _ (by decide +kernel)) ggX3_pollPair_X3_leastPair
set_option maxRecDepth 20000 in
theorem ggX3_pollPair_X3_told : GoodIn wsX3_pollPair wsX3_told := goodIn_r _ [17, 18, 12, 13, 23, 24, 25, 26, 27, 28, 29, 30] (by decide +kernel) (by decide +kernel)
set_option maxRecDepth 20000 in
theorem gX3_pollPair_X3_told : GoodIn wsX3_pollPair (wsV RX3 61 RX3 yX3_told wsX3_told) := goodIn_app (goodIn_of _ (by decide +kernel)) ggX3_pollPair_X3_told
set_option maxRecDepth 20000 in
theorem ggX3_pollPair_X3_takePair : GoodIn wsX3_pollPair wsX3_takePair := goodIn_r _ [22, 1, 12, 13, 23, 24, 25, 26, 27, 28, 29, 30] (by decide +kernel) (by decide +kernel)
set_option maxRecDepth 20000 in
theorem gX3_pollPair_X3_takePair : GoodIn wsX3_pollPair (wsV RX3 65 RX3 yX3_takePair wsX3_takePair) := goodIn_app (goodIn_of _ (by decide +kernel)) ggX3_pollPair_X3_takePair
theorem dX3_pollPair_0 : decode cX3_pollPair 0 = .ok (.aload_n 0, 1) := by decide +kernel
theorem dX3_pollPair_1 : decode cX3_pollPair 1 = .ok (.aload_n 0, 1) := by decide +kernel
theorem dX3_pollPair_2 : decode cX3_pollPair 2 = .ok (.getfield 50, 3) := by decide +kernel
theorem dX3_pollPair_5 : decode cX3_pollPair 5 = .ok (.ifCond .ne 7, 3) := by decide +kernel
theorem dX3_pollPair_8 : decode cX3_pollPair 8 = .ok (.iconst 1, 1) := by decide +kernel
theorem dX3_pollPair_9 : decode cX3_pollPair 9 = .ok (.goto 4, 3) := by decide +kernel
theorem dX3_pollPair_12 : decode cX3_pollPair 12 = .ok (.iconst 0, 1) := by decide +kernel
theorem dX3_pollPair_13 : decode cX3_pollPair 13 = .ok (.invokevirtual 29, 3) := by decide +kernel
theorem dX3_pollPair_16 : decode cX3_pollPair 16 = .ok (.ifCond .eq 5, 3) := by decide +kernel
theorem dX3_pollPair_19 : decode cX3_pollPair 19 = .ok (.lconst 0, 1) := by decide +kernel
theorem dX3_pollPair_20 : decode cX3_pollPair 20 = .ok (.lreturn, 1) := by decide +kernel
theorem dX3_pollPair_21 : decode cX3_pollPair 21 = .ok (.aload_n 0, 1) := by decide +kernel
theorem dX3_pollPair_22 : decode cX3_pollPair 22 = .ok (.invokevirtual 58, 3) := by decide +kernel
theorem dX3_pollPair_25 : decode cX3_pollPair 25 = .ok (.istore_n 1, 1) := by decide +kernel
theorem dX3_pollPair_26 : decode cX3_pollPair 26 = .ok (.aload_n 0, 1) := by decide +kernel
theorem dX3_pollPair_27 : decode cX3_pollPair 27 = .ok (.iload_n 1, 1) := by decide +kernel
theorem dX3_pollPair_28 : decode cX3_pollPair 28 = .ok (.invokevirtual 61, 3) := by decide +kernel
theorem dX3_pollPair_31 : decode cX3_pollPair 31 = .ok (.lstore_n 2, 1) := by decide +kernel
theorem dX3_pollPair_32 : decode cX3_pollPair 32 = .ok (.aload_n 0, 1) := by decide +kernel
theorem dX3_pollPair_33 : decode cX3_pollPair 33 = .ok (.iload_n 1, 1) := by decide +kernel
theorem dX3_pollPair_34 : decode cX3_pollPair 34 = .ok (.invokevirtual 65, 3) := by decide +kernel
theorem dX3_pollPair_37 : decode cX3_pollPair 37 = .ok (.lload_n 2, 1) := by decide +kernel
theorem dX3_pollPair_38 : decode cX3_pollPair 38 = .ok (.lreturn, 1) := by decide +kernel
set_option maxRecDepth 20000 in
theorem ggX3_removePair_X3_isNoTag : GoodIn wsX3_removePair wsX3_isNoTag := goodIn_r _ [5, 6, 7, 8, 4, 9, 10, 22, 23, 24, 25, 26, 27, 28, 29] (by decide +kernel) (by decide +kernel)
set_option maxRecDepth 20000 in
theorem gX3_removePair_X3_isNoTag : GoodIn wsX3_removePair (wsV RX3 53 RX3 yX3_isNoTag wsX3_isNoTag) := goodIn_app (goodIn_of _ (by decide +kernel)) ggX3_removePair_X3_isNoTag
set_option maxRecDepth 20000 in
theorem ggX3_removePair_X3_pairPlace : GoodIn wsX3_removePair wsX3_pairPlace := goodIn_r _ [14, 15, 16, 17, 22, 23, 24, 25, 26, 27, 28, 29] (by decide +kernel) (by decide +kernel)
set_option maxRecDepth 20000 in
theorem gX3_removePair_X3_pairPlace : GoodIn wsX3_removePair (wsV RX3 69 RX3 yX3_pairPlace wsX3_pairPlace) := goodIn_app (goodIn_of _ (by decide +kernel)) ggX3_removePair_X3_pairPlace
set_option maxRecDepth 20000 in
theorem ggX3_removePair_X3_takePair : GoodIn wsX3_removePair wsX3_takePair := goodIn_r _ [21, 15, 16, 17, 22, 23, 24, 25, 26, 27, 28, 29] (by decide +kernel) (by decide +kernel)
set_option maxRecDepth 20000 in
theorem gX3_removePair_X3_takePair : GoodIn wsX3_removePair (wsV RX3 65 RX3 yX3_takePair wsX3_takePair) := goodIn_app (goodIn_of _ (by decide +kernel)) ggX3_removePair_X3_takePair
theorem dX3_removePair_0 : decode cX3_removePair 0 = .ok (.aload_n 0, 1) := by decide +kernel
theorem dX3_removePair_1 : decode cX3_removePair 1 = .ok (.iload_n 2, 1) := by decide +kernel
theorem dX3_removePair_2 : decode cX3_removePair 2 = .ok (.invokevirtual 53, 3) := by decide +kernel
theorem dX3_removePair_5 : decode cX3_removePair 5 = .ok (.ifCond .eq 5, 3) := by decide +kernel
theorem dX3_removePair_8 : decode cX3_removePair 8 = .ok (.iconst 0, 1) := by decide +kernel
theorem dX3_removePair_9 : decode cX3_removePair 9 = .ok (.ireturn, 1) := by decide +kernel
theorem dX3_removePair_10 : decode cX3_removePair 10 = .ok (.aload_n 0, 1) := by decide +kernel
theorem dX3_removePair_11 : decode cX3_removePair 11 = .ok (.iload_n 1, 1) := by decide +kernel
theorem dX3_removePair_12 : decode cX3_removePair 12 = .ok (.iload_n 2, 1) := by decide +kernel
theorem dX3_removePair_13 : decode cX3_removePair 13 = .ok (.invokevirtual 69, 3) := by decide +kernel
theorem dX3_removePair_16 : decode cX3_removePair 16 = .ok (.istore_n 3, 1) := by decide +kernel
theorem dX3_removePair_17 : decode cX3_removePair 17 = .ok (.iload_n 3, 1) := by decide +kernel
theorem dX3_removePair_18 : decode cX3_removePair 18 = .ok (.ifCond .ge 5, 3) := by decide +kernel
theorem dX3_removePair_21 : decode cX3_removePair 21 = .ok (.iconst 0, 1) := by decide +kernel
theorem dX3_removePair_22 : decode cX3_removePair 22 = .ok (.ireturn, 1) := by decide +kernel
theorem dX3_removePair_23 : decode cX3_removePair 23 = .ok (.aload_n 0, 1) := by decide +kernel
theorem dX3_removePair_24 : decode cX3_removePair 24 = .ok (.iload_n 3, 1) := by decide +kernel
theorem dX3_removePair_25 : decode cX3_removePair 25 = .ok (.invokevirtual 65, 3) := by decide +kernel
theorem dX3_removePair_28 : decode cX3_removePair 28 = .ok (.iconst 1, 1) := by decide +kernel
theorem dX3_removePair_29 : decode cX3_removePair 29 = .ok (.ireturn, 1) := by decide +kernel
set_option maxRecDepth 20000 in
theorem ggX3_containsPair_X3_isNoTag : GoodIn wsX3_containsPair wsX3_isNoTag := goodIn_r _ [5, 6, 7, 8, 4, 9, 10, 18, 19, 20, 21, 22, 23, 24, 25] (by decide +kernel) (by decide +kernel)
set_option maxRecDepth 20000 in
theorem gX3_containsPair_X3_isNoTag : GoodIn wsX3_containsPair (wsV RX3 53 RX3 yX3_isNoTag wsX3_isNoTag) := goodIn_app (goodIn_of _ (by decide +kernel)) ggX3_containsPair_X3_isNoTag
set_option maxRecDepth 20000 in
theorem ggX3_containsPair_X3_pairPlace : GoodIn wsX3_containsPair wsX3_pairPlace := goodIn_r _ [14, 15, 16, 17, 18, 19, 20, 21, 22, 23, 24, 25] (by decide +kernel) (by decide +kernel)
set_option maxRecDepth 20000 in
theorem gX3_containsPair_X3_pairPlace : GoodIn wsX3_containsPair (wsV RX3 69 RX3 yX3_pairPlace wsX3_pairPlace) := goodIn_app (goodIn_of _ (by decide +kernel)) ggX3_containsPair_X3_pairPlace
theorem dX3_containsPair_0 : decode cX3_containsPair 0 = .ok (.aload_n 0, 1) := by decide +kernel
theorem dX3_containsPair_1 : decode cX3_containsPair 1 = .ok (.iload_n 2, 1) := by decide +kernel
theorem dX3_containsPair_2 : decode cX3_containsPair 2 = .ok (.invokevirtual 53, 3) := by decide +kernel
theorem dX3_containsPair_5 : decode cX3_containsPair 5 = .ok (.ifCond .ne 16, 3) := by decide +kernel
theorem dX3_containsPair_8 : decode cX3_containsPair 8 = .ok (.aload_n 0, 1) := by decide +kernel
theorem dX3_containsPair_9 : decode cX3_containsPair 9 = .ok (.iload_n 1, 1) := by decide +kernel
theorem dX3_containsPair_10 : decode cX3_containsPair 10 = .ok (.iload_n 2, 1) := by decide +kernel
theorem dX3_containsPair_11 : decode cX3_containsPair 11 = .ok (.invokevirtual 69, 3) := by decide +kernel
theorem dX3_containsPair_14 : decode cX3_containsPair 14 = .ok (.ifCond .lt 7, 3) := by decide +kernel
theorem dX3_containsPair_17 : decode cX3_containsPair 17 = .ok (.iconst 1, 1) := by decide +kernel
theorem dX3_containsPair_18 : decode cX3_containsPair 18 = .ok (.goto 4, 3) := by decide +kernel
theorem dX3_containsPair_21 : decode cX3_containsPair 21 = .ok (.iconst 0, 1) := by decide +kernel
theorem dX3_containsPair_22 : decode cX3_containsPair 22 = .ok (.ireturn, 1) := by decide +kernel
theorem dX3_sizePairs_0 : decode cX3_sizePairs 0 = .ok (.aload_n 0, 1) := by decide +kernel
theorem dX3_sizePairs_1 : decode cX3_sizePairs 1 = .ok (.iconst 0, 1) := by decide +kernel
theorem dX3_sizePairs_2 : decode cX3_sizePairs 2 = .ok (.putfield 22, 3) := by decide +kernel
theorem dX3_sizePairs_5 : decode cX3_sizePairs 5 = .ok (.aload_n 0, 1) := by decide +kernel
theorem dX3_sizePairs_6 : decode cX3_sizePairs 6 = .ok (.getfield 50, 3) := by decide +kernel
theorem dX3_sizePairs_9 : decode cX3_sizePairs 9 = .ok (.ireturn, 1) := by decide +kernel
theorem dX3_clearPairs_0 : decode cX3_clearPairs 0 = .ok (.aload_n 0, 1) := by decide +kernel
theorem dX3_clearPairs_1 : decode cX3_clearPairs 1 = .ok (.iconst 0, 1) := by decide +kernel
theorem dX3_clearPairs_2 : decode cX3_clearPairs 2 = .ok (.putfield 22, 3) := by decide +kernel
theorem dX3_clearPairs_5 : decode cX3_clearPairs 5 = .ok (.aload_n 0, 1) := by decide +kernel
theorem dX3_clearPairs_6 : decode cX3_clearPairs 6 = .ok (.getfield 50, 3) := by decide +kernel
theorem dX3_clearPairs_9 : decode cX3_clearPairs 9 = .ok (.istore_n 1, 1) := by decide +kernel
theorem dX3_clearPairs_10 : decode cX3_clearPairs 10 = .ok (.aload_n 0, 1) := by decide +kernel
theorem dX3_clearPairs_11 : decode cX3_clearPairs 11 = .ok (.iconst 0, 1) := by decide +kernel
theorem dX3_clearPairs_12 : decode cX3_clearPairs 12 = .ok (.putfield 50, 3) := by decide +kernel
theorem dX3_clearPairs_15 : decode cX3_clearPairs 15 = .ok (.iload_n 1, 1) := by decide +kernel
theorem dX3_clearPairs_16 : decode cX3_clearPairs 16 = .ok (.ireturn, 1) := by decide +kernel
set_option maxRecDepth 20000 in
theorem ggX3_drainPairs_X3_isWrong : GoodIn wsX3_drainPairs wsX3_isWrong := goodIn_r _ [9, 10, 20, 21, 22, 23, 24, 25, 26, 27] (by decide +kernel) (by decide +kernel)
set_option maxRecDepth 20000 in
theorem gX3_drainPairs_X3_isWrong : GoodIn wsX3_drainPairs (wsV RX3 29 RX3 yX3_isWrong wsX3_isWrong) := goodIn_app (goodIn_of _ (by decide +kernel)) ggX3_drainPairs_X3_isWrong
set_option maxRecDepth 20000 in
theorem ggX3_drainPairs_X3_leastPair : GoodIn wsX3_drainPairs wsX3_leastPair := goodIn_r _ [14, 1, 4, 15, 20, 21, 22, 23, 24, 25, 26, 27] (by decide +kernel) (by decide +kernel)
set_option maxRecDepth 20000 in
theorem gX3_drainPairs_X3_leastPair : GoodIn wsX3_drainPairs (wsV RX3 58 RX3 yX3_leastPair wsX3_leastPair) := goodIn_app (goodIn_of _ (by decide +kernel)) ggX3_drainPairs_X3_leastPair
set_option maxRecDepth 20000 in
theorem ggX3_drainPairs_X3_takePair : GoodIn wsX3_drainPairs wsX3_takePair := goodIn_r _ [19, 1, 4, 15, 20, 21, 22, 23, 24, 25, 26, 27] (by decide +kernel) (by decide +kernel)
set_option maxRecDepth 20000 in
theorem gX3_drainPairs_X3_takePair : GoodIn wsX3_drainPairs (wsV RX3 65 RX3 yX3_takePair wsX3_takePair) := goodIn_app (goodIn_of _ (by decide +kernel)) ggX3_drainPairs_X3_takePair
theorem dX3_drainPairs_0 : decode cX3_drainPairs 0 = .ok (.aload_n 0, 1) := by decide +kernel
theorem dX3_drainPairs_1 : decode cX3_drainPairs 1 = .ok (.aload_n 0, 1) := by decide +kernel
theorem dX3_drainPairs_2 : decode cX3_drainPairs 2 = .ok (.getfield 50, 3) := by decide +kernel
theorem dX3_drainPairs_5 : decode cX3_drainPairs 5 = .ok (.aload_n 0, 1) := by decide +kernel
theorem dX3_drainPairs_6 : decode cX3_drainPairs 6 = .ok (.getfield 47, 3) := by decide +kernel
theorem dX3_drainPairs_9 : decode cX3_drainPairs 9 = .ok (.iadd, 1) := by decide +kernel
theorem dX3_drainPairs_10 : decode cX3_drainPairs 10 = .ok (.sipush 200, 3) := by decide +kernel
theorem dX3_drainPairs_13 : decode cX3_drainPairs 13 = .ok (.if_icmp .le 7, 3) := by decide +kernel
theorem dX3_drainPairs_16 : decode cX3_drainPairs 16 = .ok (.iconst 1, 1) := by decide +kernel
theorem dX3_drainPairs_17 : decode cX3_drainPairs 17 = .ok (.goto 4, 3) := by decide +kernel
theorem dX3_drainPairs_20 : decode cX3_drainPairs 20 = .ok (.iconst 0, 1) := by decide +kernel
theorem dX3_drainPairs_21 : decode cX3_drainPairs 21 = .ok (.invokevirtual 29, 3) := by decide +kernel
theorem dX3_drainPairs_24 : decode cX3_drainPairs 24 = .ok (.ifCond .eq 5, 3) := by decide +kernel
theorem dX3_drainPairs_27 : decode cX3_drainPairs 27 = .ok (.iconst 0, 1) := by decide +kernel
theorem dX3_drainPairs_28 : decode cX3_drainPairs 28 = .ok (.ireturn, 1) := by decide +kernel
theorem dX3_drainPairs_29 : decode cX3_drainPairs 29 = .ok (.aload_n 0, 1) := by decide +kernel
theorem dX3_drainPairs_30 : decode cX3_drainPairs 30 = .ok (.getfield 50, 3) := by decide +kernel
theorem dX3_drainPairs_33 : decode cX3_drainPairs 33 = .ok (.istore_n 1, 1) := by decide +kernel
theorem dX3_drainPairs_34 : decode cX3_drainPairs 34 = .ok (.aload_n 0, 1) := by decide +kernel
theorem dX3_drainPairs_35 : decode cX3_drainPairs 35 = .ok (.getfield 50, 3) := by decide +kernel
theorem dX3_drainPairs_38 : decode cX3_drainPairs 38 = .ok (.ifCond .le 41, 3) := by decide +kernel
theorem dX3_drainPairs_41 : decode cX3_drainPairs 41 = .ok (.aload_n 0, 1) := by decide +kernel
theorem dX3_drainPairs_42 : decode cX3_drainPairs 42 = .ok (.invokevirtual 58, 3) := by decide +kernel
theorem dX3_drainPairs_45 : decode cX3_drainPairs 45 = .ok (.istore_n 2, 1) := by decide +kernel
theorem dX3_drainPairs_46 : decode cX3_drainPairs 46 = .ok (.aload_n 0, 1) := by decide +kernel
theorem dX3_drainPairs_47 : decode cX3_drainPairs 47 = .ok (.getfield 13, 3) := by decide +kernel
theorem dX3_drainPairs_50 : decode cX3_drainPairs 50 = .ok (.aload_n 0, 1) := by decide +kernel
theorem dX3_drainPairs_51 : decode cX3_drainPairs 51 = .ok (.getfield 47, 3) := by decide +kernel
theorem dX3_drainPairs_54 : decode cX3_drainPairs 54 = .ok (.aload_n 0, 1) := by decide +kernel
theorem dX3_drainPairs_55 : decode cX3_drainPairs 55 = .ok (.getfield 16, 3) := by decide +kernel
theorem dX3_drainPairs_58 : decode cX3_drainPairs 58 = .ok (.iload_n 2, 1) := by decide +kernel
theorem dX3_drainPairs_59 : decode cX3_drainPairs 59 = .ok (.iaload, 1) := by decide +kernel
theorem dX3_drainPairs_60 : decode cX3_drainPairs 60 = .ok (.iastore, 1) := by decide +kernel
theorem dX3_drainPairs_61 : decode cX3_drainPairs 61 = .ok (.aload_n 0, 1) := by decide +kernel
theorem dX3_drainPairs_62 : decode cX3_drainPairs 62 = .ok (.dup, 1) := by decide +kernel
theorem dX3_drainPairs_63 : decode cX3_drainPairs 63 = .ok (.getfield 47, 3) := by decide +kernel
theorem dX3_drainPairs_66 : decode cX3_drainPairs 66 = .ok (.iconst 1, 1) := by decide +kernel
theorem dX3_drainPairs_67 : decode cX3_drainPairs 67 = .ok (.iadd, 1) := by decide +kernel
theorem dX3_drainPairs_68 : decode cX3_drainPairs 68 = .ok (.putfield 47, 3) := by decide +kernel
theorem dX3_drainPairs_71 : decode cX3_drainPairs 71 = .ok (.aload_n 0, 1) := by decide +kernel
theorem dX3_drainPairs_72 : decode cX3_drainPairs 72 = .ok (.iload_n 2, 1) := by decide +kernel
theorem dX3_drainPairs_73 : decode cX3_drainPairs 73 = .ok (.invokevirtual 65, 3) := by decide +kernel
theorem dX3_drainPairs_76 : decode cX3_drainPairs 76 = .ok (.goto (-42), 3) := by decide +kernel
theorem dX3_drainPairs_79 : decode cX3_drainPairs 79 = .ok (.iload_n 1, 1) := by decide +kernel
theorem dX3_drainPairs_80 : decode cX3_drainPairs 80 = .ok (.ireturn, 1) := by decide +kernel
theorem dX3_firstPlace_0 : decode cX3_firstPlace 0 = .ok (.iconst 0, 1) := by decide +kernel
theorem dX3_firstPlace_1 : decode cX3_firstPlace 1 = .ok (.istore_n 2, 1) := by decide +kernel
theorem dX3_firstPlace_2 : decode cX3_firstPlace 2 = .ok (.iload_n 2, 1) := by decide +kernel
theorem dX3_firstPlace_3 : decode cX3_firstPlace 3 = .ok (.aload_n 0, 1) := by decide +kernel
theorem dX3_firstPlace_4 : decode cX3_firstPlace 4 = .ok (.getfield 47, 3) := by decide +kernel
theorem dX3_firstPlace_7 : decode cX3_firstPlace 7 = .ok (.if_icmp .ge 21, 3) := by decide +kernel
theorem dX3_firstPlace_10 : decode cX3_firstPlace 10 = .ok (.aload_n 0, 1) := by decide +kernel
theorem dX3_firstPlace_11 : decode cX3_firstPlace 11 = .ok (.getfield 13, 3) := by decide +kernel
theorem dX3_firstPlace_14 : decode cX3_firstPlace 14 = .ok (.iload_n 2, 1) := by decide +kernel
theorem dX3_firstPlace_15 : decode cX3_firstPlace 15 = .ok (.iaload, 1) := by decide +kernel
theorem dX3_firstPlace_16 : decode cX3_firstPlace 16 = .ok (.iload_n 1, 1) := by decide +kernel
theorem dX3_firstPlace_17 : decode cX3_firstPlace 17 = .ok (.if_icmp .ne 5, 3) := by decide +kernel
theorem dX3_firstPlace_20 : decode cX3_firstPlace 20 = .ok (.iload_n 2, 1) := by decide +kernel
theorem dX3_firstPlace_21 : decode cX3_firstPlace 21 = .ok (.ireturn, 1) := by decide +kernel
theorem dX3_firstPlace_22 : decode cX3_firstPlace 22 = .ok (.iinc 2 1, 3) := by decide +kernel
theorem dX3_firstPlace_25 : decode cX3_firstPlace 25 = .ok (.goto (-23), 3) := by decide +kernel
theorem dX3_firstPlace_28 : decode cX3_firstPlace 28 = .ok (.iconst (-1), 1) := by decide +kernel
theorem dX3_firstPlace_29 : decode cX3_firstPlace 29 = .ok (.ireturn, 1) := by decide +kernel
theorem dX3_takeRow_0 : decode cX3_takeRow 0 = .ok (.aload_n 0, 1) := by decide +kernel
theorem dX3_takeRow_1 : decode cX3_takeRow 1 = .ok (.getfield 13, 3) := by decide +kernel
theorem dX3_takeRow_4 : decode cX3_takeRow 4 = .ok (.iload_n 1, 1) := by decide +kernel
theorem dX3_takeRow_5 : decode cX3_takeRow 5 = .ok (.iaload, 1) := by decide +kernel
theorem dX3_takeRow_6 : decode cX3_takeRow 6 = .ok (.istore_n 2, 1) := by decide +kernel
theorem dX3_takeRow_7 : decode cX3_takeRow 7 = .ok (.aload_n 0, 1) := by decide +kernel
theorem dX3_takeRow_8 : decode cX3_takeRow 8 = .ok (.dup, 1) := by decide +kernel
theorem dX3_takeRow_9 : decode cX3_takeRow 9 = .ok (.getfield 47, 3) := by decide +kernel
theorem dX3_takeRow_12 : decode cX3_takeRow 12 = .ok (.iconst 1, 1) := by decide +kernel
theorem dX3_takeRow_13 : decode cX3_takeRow 13 = .ok (.isub, 1) := by decide +kernel
theorem dX3_takeRow_14 : decode cX3_takeRow 14 = .ok (.putfield 47, 3) := by decide +kernel
theorem dX3_takeRow_17 : decode cX3_takeRow 17 = .ok (.iload_n 1, 1) := by decide +kernel
theorem dX3_takeRow_18 : decode cX3_takeRow 18 = .ok (.istore_n 3, 1) := by decide +kernel
theorem dX3_takeRow_19 : decode cX3_takeRow 19 = .ok (.iload_n 3, 1) := by decide +kernel
theorem dX3_takeRow_20 : decode cX3_takeRow 20 = .ok (.aload_n 0, 1) := by decide +kernel
theorem dX3_takeRow_21 : decode cX3_takeRow 21 = .ok (.getfield 47, 3) := by decide +kernel
theorem dX3_takeRow_24 : decode cX3_takeRow 24 = .ok (.if_icmp .ge 23, 3) := by decide +kernel
theorem dX3_takeRow_27 : decode cX3_takeRow 27 = .ok (.aload_n 0, 1) := by decide +kernel
theorem dX3_takeRow_28 : decode cX3_takeRow 28 = .ok (.getfield 13, 3) := by decide +kernel
theorem dX3_takeRow_31 : decode cX3_takeRow 31 = .ok (.iload_n 3, 1) := by decide +kernel
theorem dX3_takeRow_32 : decode cX3_takeRow 32 = .ok (.aload_n 0, 1) := by decide +kernel
theorem dX3_takeRow_33 : decode cX3_takeRow 33 = .ok (.getfield 13, 3) := by decide +kernel
theorem dX3_takeRow_36 : decode cX3_takeRow 36 = .ok (.iload_n 3, 1) := by decide +kernel
theorem dX3_takeRow_37 : decode cX3_takeRow 37 = .ok (.iconst 1, 1) := by decide +kernel
theorem dX3_takeRow_38 : decode cX3_takeRow 38 = .ok (.iadd, 1) := by decide +kernel
theorem dX3_takeRow_39 : decode cX3_takeRow 39 = .ok (.iaload, 1) := by decide +kernel
theorem dX3_takeRow_40 : decode cX3_takeRow 40 = .ok (.iastore, 1) := by decide +kernel
theorem dX3_takeRow_41 : decode cX3_takeRow 41 = .ok (.iinc 3 1, 3) := by decide +kernel
theorem dX3_takeRow_44 : decode cX3_takeRow 44 = .ok (.goto (-25), 3) := by decide +kernel
theorem dX3_takeRow_47 : decode cX3_takeRow 47 = .ok (.iload_n 2, 1) := by decide +kernel
theorem dX3_takeRow_48 : decode cX3_takeRow 48 = .ok (.ireturn, 1) := by decide +kernel
set_option maxRecDepth 20000 in
theorem ggX3_isNone_X3_isWrong : GoodIn wsX3_isNone wsX3_isWrong := goodIn_r _ [6, 7, 8, 9, 10, 11, 12, 13, 14, 15] (by decide +kernel) (by decide +kernel)
set_option maxRecDepth 20000 in
theorem gX3_isNone_X3_isWrong : GoodIn wsX3_isNone (wsV RX3 29 RX3 yX3_isWrong wsX3_isWrong) := goodIn_app (goodIn_of _ (by decide +kernel)) ggX3_isNone_X3_isWrong
theorem dX3_isNone_0 : decode cX3_isNone 0 = .ok (.aload_n 0, 1) := by decide +kernel
theorem dX3_isNone_1 : decode cX3_isNone 1 = .ok (.aload_n 0, 1) := by decide +kernel
theorem dX3_isNone_2 : decode cX3_isNone 2 = .ok (.getfield 47, 3) := by decide +kernel
theorem dX3_isNone_5 : decode cX3_isNone 5 = .ok (.ifCond .ne 7, 3) := by decide +kernel
theorem dX3_isNone_8 : decode cX3_isNone 8 = .ok (.iconst 1, 1) := by decide +kernel
theorem dX3_isNone_9 : decode cX3_isNone 9 = .ok (.goto 4, 3) := by decide +kernel
theorem dX3_isNone_12 : decode cX3_isNone 12 = .ok (.iconst 0, 1) := by decide +kernel
theorem dX3_isNone_13 : decode cX3_isNone 13 = .ok (.invokevirtual 29, 3) := by decide +kernel
theorem dX3_isNone_16 : decode cX3_isNone 16 = .ok (.ireturn, 1) := by decide +kernel
set_option maxRecDepth 20000 in
theorem ggX3_addFirst_X3_isWrong : GoodIn wsX3_addFirst wsX3_isWrong := goodIn_r _ [7, 8, 9, 10, 11, 12, 13, 14, 15, 16] (by decide +kernel) (by decide +kernel)
set_option maxRecDepth 20000 in
theorem gX3_addFirst_X3_isWrong : GoodIn wsX3_addFirst (wsV RX3 29 RX3 yX3_isWrong wsX3_isWrong) := goodIn_app (goodIn_of _ (by decide +kernel)) ggX3_addFirst_X3_isWrong
theorem dX3_addFirst_0 : decode cX3_addFirst 0 = .ok (.aload_n 0, 1) := by decide +kernel
theorem dX3_addFirst_1 : decode cX3_addFirst 1 = .ok (.aload_n 0, 1) := by decide +kernel
theorem dX3_addFirst_2 : decode cX3_addFirst 2 = .ok (.getfield 47, 3) := by decide +kernel
theorem dX3_addFirst_5 : decode cX3_addFirst 5 = .ok (.sipush 200, 3) := by decide +kernel
theorem dX3_addFirst_8 : decode cX3_addFirst 8 = .ok (.if_icmp .ne 7, 3) := by decide +kernel
theorem dX3_addFirst_11 : decode cX3_addFirst 11 = .ok (.iconst 1, 1) := by decide +kernel
theorem dX3_addFirst_12 : decode cX3_addFirst 12 = .ok (.goto 4, 3) := by decide +kernel
theorem dX3_addFirst_15 : decode cX3_addFirst 15 = .ok (.iconst 0, 1) := by decide +kernel
theorem dX3_addFirst_16 : decode cX3_addFirst 16 = .ok (.invokevirtual 29, 3) := by decide +kernel
theorem dX3_addFirst_19 : decode cX3_addFirst 19 = .ok (.ifCond .eq 5, 3) := by decide +kernel
theorem dX3_addFirst_22 : decode cX3_addFirst 22 = .ok (.iconst 0, 1) := by decide +kernel
theorem dX3_addFirst_23 : decode cX3_addFirst 23 = .ok (.ireturn, 1) := by decide +kernel
theorem dX3_addFirst_24 : decode cX3_addFirst 24 = .ok (.aload_n 0, 1) := by decide +kernel
theorem dX3_addFirst_25 : decode cX3_addFirst 25 = .ok (.getfield 47, 3) := by decide +kernel
theorem dX3_addFirst_28 : decode cX3_addFirst 28 = .ok (.istore_n 2, 1) := by decide +kernel
theorem dX3_addFirst_29 : decode cX3_addFirst 29 = .ok (.iload_n 2, 1) := by decide +kernel
theorem dX3_addFirst_30 : decode cX3_addFirst 30 = .ok (.ifCond .le 23, 3) := by decide +kernel
theorem dX3_addFirst_33 : decode cX3_addFirst 33 = .ok (.aload_n 0, 1) := by decide +kernel
theorem dX3_addFirst_34 : decode cX3_addFirst 34 = .ok (.getfield 13, 3) := by decide +kernel
theorem dX3_addFirst_37 : decode cX3_addFirst 37 = .ok (.iload_n 2, 1) := by decide +kernel
theorem dX3_addFirst_38 : decode cX3_addFirst 38 = .ok (.aload_n 0, 1) := by decide +kernel
theorem dX3_addFirst_39 : decode cX3_addFirst 39 = .ok (.getfield 13, 3) := by decide +kernel
theorem dX3_addFirst_42 : decode cX3_addFirst 42 = .ok (.iload_n 2, 1) := by decide +kernel
theorem dX3_addFirst_43 : decode cX3_addFirst 43 = .ok (.iconst 1, 1) := by decide +kernel
theorem dX3_addFirst_44 : decode cX3_addFirst 44 = .ok (.isub, 1) := by decide +kernel
theorem dX3_addFirst_45 : decode cX3_addFirst 45 = .ok (.iaload, 1) := by decide +kernel
theorem dX3_addFirst_46 : decode cX3_addFirst 46 = .ok (.iastore, 1) := by decide +kernel
theorem dX3_addFirst_47 : decode cX3_addFirst 47 = .ok (.iinc 2 (-1), 3) := by decide +kernel
theorem dX3_addFirst_50 : decode cX3_addFirst 50 = .ok (.goto (-21), 3) := by decide +kernel
theorem dX3_addFirst_53 : decode cX3_addFirst 53 = .ok (.aload_n 0, 1) := by decide +kernel
theorem dX3_addFirst_54 : decode cX3_addFirst 54 = .ok (.getfield 13, 3) := by decide +kernel
theorem dX3_addFirst_57 : decode cX3_addFirst 57 = .ok (.iconst 0, 1) := by decide +kernel
theorem dX3_addFirst_58 : decode cX3_addFirst 58 = .ok (.iload_n 1, 1) := by decide +kernel
theorem dX3_addFirst_59 : decode cX3_addFirst 59 = .ok (.iastore, 1) := by decide +kernel
theorem dX3_addFirst_60 : decode cX3_addFirst 60 = .ok (.aload_n 0, 1) := by decide +kernel
theorem dX3_addFirst_61 : decode cX3_addFirst 61 = .ok (.dup, 1) := by decide +kernel
theorem dX3_addFirst_62 : decode cX3_addFirst 62 = .ok (.getfield 47, 3) := by decide +kernel
theorem dX3_addFirst_65 : decode cX3_addFirst 65 = .ok (.iconst 1, 1) := by decide +kernel
theorem dX3_addFirst_66 : decode cX3_addFirst 66 = .ok (.iadd, 1) := by decide +kernel
theorem dX3_addFirst_67 : decode cX3_addFirst 67 = .ok (.putfield 47, 3) := by decide +kernel
theorem dX3_addFirst_70 : decode cX3_addFirst 70 = .ok (.aload_n 0, 1) := by decide +kernel
theorem dX3_addFirst_71 : decode cX3_addFirst 71 = .ok (.getfield 47, 3) := by decide +kernel
theorem dX3_addFirst_74 : decode cX3_addFirst 74 = .ok (.ireturn, 1) := by decide +kernel
set_option maxRecDepth 20000 in
theorem ggX3_addLast_X3_isWrong : GoodIn wsX3_addLast wsX3_isWrong := goodIn_r _ [7, 8, 9, 10, 11, 12, 13, 14, 15, 16] (by decide +kernel) (by decide +kernel)
set_option maxRecDepth 20000 in
theorem gX3_addLast_X3_isWrong : GoodIn wsX3_addLast (wsV RX3 29 RX3 yX3_isWrong wsX3_isWrong) := goodIn_app (goodIn_of _ (by decide +kernel)) ggX3_addLast_X3_isWrong
theorem dX3_addLast_0 : decode cX3_addLast 0 = .ok (.aload_n 0, 1) := by decide +kernel
theorem dX3_addLast_1 : decode cX3_addLast 1 = .ok (.aload_n 0, 1) := by decide +kernel
theorem dX3_addLast_2 : decode cX3_addLast 2 = .ok (.getfield 47, 3) := by decide +kernel
theorem dX3_addLast_5 : decode cX3_addLast 5 = .ok (.sipush 200, 3) := by decide +kernel
theorem dX3_addLast_8 : decode cX3_addLast 8 = .ok (.if_icmp .ne 7, 3) := by decide +kernel
theorem dX3_addLast_11 : decode cX3_addLast 11 = .ok (.iconst 1, 1) := by decide +kernel
theorem dX3_addLast_12 : decode cX3_addLast 12 = .ok (.goto 4, 3) := by decide +kernel
theorem dX3_addLast_15 : decode cX3_addLast 15 = .ok (.iconst 0, 1) := by decide +kernel
theorem dX3_addLast_16 : decode cX3_addLast 16 = .ok (.invokevirtual 29, 3) := by decide +kernel
theorem dX3_addLast_19 : decode cX3_addLast 19 = .ok (.ifCond .eq 5, 3) := by decide +kernel
theorem dX3_addLast_22 : decode cX3_addLast 22 = .ok (.iconst 0, 1) := by decide +kernel
theorem dX3_addLast_23 : decode cX3_addLast 23 = .ok (.ireturn, 1) := by decide +kernel
theorem dX3_addLast_24 : decode cX3_addLast 24 = .ok (.aload_n 0, 1) := by decide +kernel
theorem dX3_addLast_25 : decode cX3_addLast 25 = .ok (.getfield 13, 3) := by decide +kernel
theorem dX3_addLast_28 : decode cX3_addLast 28 = .ok (.aload_n 0, 1) := by decide +kernel
theorem dX3_addLast_29 : decode cX3_addLast 29 = .ok (.getfield 47, 3) := by decide +kernel
theorem dX3_addLast_32 : decode cX3_addLast 32 = .ok (.iload_n 1, 1) := by decide +kernel
theorem dX3_addLast_33 : decode cX3_addLast 33 = .ok (.iastore, 1) := by decide +kernel
theorem dX3_addLast_34 : decode cX3_addLast 34 = .ok (.aload_n 0, 1) := by decide +kernel
theorem dX3_addLast_35 : decode cX3_addLast 35 = .ok (.dup, 1) := by decide +kernel
theorem dX3_addLast_36 : decode cX3_addLast 36 = .ok (.getfield 47, 3) := by decide +kernel
theorem dX3_addLast_39 : decode cX3_addLast 39 = .ok (.iconst 1, 1) := by decide +kernel
theorem dX3_addLast_40 : decode cX3_addLast 40 = .ok (.iadd, 1) := by decide +kernel
theorem dX3_addLast_41 : decode cX3_addLast 41 = .ok (.putfield 47, 3) := by decide +kernel
theorem dX3_addLast_44 : decode cX3_addLast 44 = .ok (.aload_n 0, 1) := by decide +kernel
theorem dX3_addLast_45 : decode cX3_addLast 45 = .ok (.getfield 47, 3) := by decide +kernel
theorem dX3_addLast_48 : decode cX3_addLast 48 = .ok (.ireturn, 1) := by decide +kernel
set_option maxRecDepth 20000 in
theorem ggX3_getFirst_X3_isNone : GoodIn wsX3_getFirst wsX3_isNone := goodIn_r _ [6, 7, 8, 9, 10, 5, 11, 12, 13, 14, 15, 16, 17, 18, 19, 20] (by decide +kernel) (by decide +kernel)
set_option maxRecDepth 20000 in
theorem gX3_getFirst_X3_isNone : GoodIn wsX3_getFirst (wsV RX3 73 RX3 yX3_isNone wsX3_isNone) := goodIn_app (goodIn_of _ (by decide +kernel)) ggX3_getFirst_X3_isNone
theorem dX3_getFirst_0 : decode cX3_getFirst 0 = .ok (.aload_n 0, 1) := by decide +kernel
theorem dX3_getFirst_1 : decode cX3_getFirst 1 = .ok (.invokevirtual 73, 3) := by decide +kernel
theorem dX3_getFirst_4 : decode cX3_getFirst 4 = .ok (.ifCond .eq 7, 3) := by decide +kernel
theorem dX3_getFirst_7 : decode cX3_getFirst 7 = .ok (.iconst 0, 1) := by decide +kernel
theorem dX3_getFirst_8 : decode cX3_getFirst 8 = .ok (.goto 9, 3) := by decide +kernel
theorem dX3_getFirst_11 : decode cX3_getFirst 11 = .ok (.aload_n 0, 1) := by decide +kernel
theorem dX3_getFirst_12 : decode cX3_getFirst 12 = .ok (.getfield 13, 3) := by decide +kernel
theorem dX3_getFirst_15 : decode cX3_getFirst 15 = .ok (.iconst 0, 1) := by decide +kernel
theorem dX3_getFirst_16 : decode cX3_getFirst 16 = .ok (.iaload, 1) := by decide +kernel
theorem dX3_getFirst_17 : decode cX3_getFirst 17 = .ok (.ireturn, 1) := by decide +kernel
set_option maxRecDepth 20000 in
theorem ggX3_getLast_X3_isNone : GoodIn wsX3_getLast wsX3_isNone := goodIn_r _ [7, 2, 8, 9, 10, 6, 11, 12, 13, 14, 15, 16, 17, 18, 19, 20] (by decide +kernel) (by decide +kernel)
set_option maxRecDepth 20000 in
theorem gX3_getLast_X3_isNone : GoodIn wsX3_getLast (wsV RX3 73 RX3 yX3_isNone wsX3_isNone) := goodIn_app (goodIn_of _ (by decide +kernel)) ggX3_getLast_X3_isNone
theorem dX3_getLast_0 : decode cX3_getLast 0 = .ok (.aload_n 0, 1) := by decide +kernel
theorem dX3_getLast_1 : decode cX3_getLast 1 = .ok (.invokevirtual 73, 3) := by decide +kernel
theorem dX3_getLast_4 : decode cX3_getLast 4 = .ok (.ifCond .eq 7, 3) := by decide +kernel
theorem dX3_getLast_7 : decode cX3_getLast 7 = .ok (.iconst 0, 1) := by decide +kernel
theorem dX3_getLast_8 : decode cX3_getLast 8 = .ok (.goto 14, 3) := by decide +kernel
theorem dX3_getLast_11 : decode cX3_getLast 11 = .ok (.aload_n 0, 1) := by decide +kernel
theorem dX3_getLast_12 : decode cX3_getLast 12 = .ok (.getfield 13, 3) := by decide +kernel
theorem dX3_getLast_15 : decode cX3_getLast 15 = .ok (.aload_n 0, 1) := by decide +kernel
theorem dX3_getLast_16 : decode cX3_getLast 16 = .ok (.getfield 47, 3) := by decide +kernel
theorem dX3_getLast_19 : decode cX3_getLast 19 = .ok (.iconst 1, 1) := by decide +kernel
theorem dX3_getLast_20 : decode cX3_getLast 20 = .ok (.isub, 1) := by decide +kernel
theorem dX3_getLast_21 : decode cX3_getLast 21 = .ok (.iaload, 1) := by decide +kernel
theorem dX3_getLast_22 : decode cX3_getLast 22 = .ok (.ireturn, 1) := by decide +kernel
set_option maxRecDepth 20000 in
theorem ggX3_removeFirst_X3_isNone : GoodIn wsX3_removeFirst wsX3_isNone := goodIn_r _ [5, 6, 7, 8, 9, 4, 10, 11, 17, 18, 19, 20, 21, 22, 23, 24] (by decide +kernel) (by decide +kernel)
set_option maxRecDepth 20000 in
theorem gX3_removeFirst_X3_isNone : GoodIn wsX3_removeFirst (wsV RX3 73 RX3 yX3_isNone wsX3_isNone) := goodIn_app (goodIn_of _ (by decide +kernel)) ggX3_removeFirst_X3_isNone
set_option maxRecDepth 20000 in
theorem ggX3_removeFirst_X3_takeRow : GoodIn wsX3_removeFirst wsX3_takeRow := goodIn_r _ [15, 16, 6, 17, 18, 19, 20, 21, 22, 23, 24] (by decide +kernel) (by decide +kernel)
set_option maxRecDepth 20000 in
theorem gX3_removeFirst_X3_takeRow : GoodIn wsX3_removeFirst (wsV RX3 77 RX3 yX3_takeRow wsX3_takeRow) := goodIn_app (goodIn_of _ (by decide +kernel)) ggX3_removeFirst_X3_takeRow
theorem dX3_removeFirst_0 : decode cX3_removeFirst 0 = .ok (.aload_n 0, 1) := by decide +kernel
theorem dX3_removeFirst_1 : decode cX3_removeFirst 1 = .ok (.invokevirtual 73, 3) := by decide +kernel
theorem dX3_removeFirst_4 : decode cX3_removeFirst 4 = .ok (.ifCond .eq 7, 3) := by decide +kernel
theorem dX3_removeFirst_7 : decode cX3_removeFirst 7 = .ok (.iconst 0, 1) := by decide +kernel
theorem dX3_removeFirst_8 : decode cX3_removeFirst 8 = .ok (.goto 8, 3) := by decide +kernel
theorem dX3_removeFirst_11 : decode cX3_removeFirst 11 = .ok (.aload_n 0, 1) := by decide +kernel
theorem dX3_removeFirst_12 : decode cX3_removeFirst 12 = .ok (.iconst 0, 1) := by decide +kernel
theorem dX3_removeFirst_13 : decode cX3_removeFirst 13 = .ok (.invokevirtual 77, 3) := by decide +kernel
theorem dX3_removeFirst_16 : decode cX3_removeFirst 16 = .ok (.ireturn, 1) := by decide +kernel
set_option maxRecDepth 20000 in
theorem ggX3_removeLast_X3_isNone : GoodIn wsX3_removeLast wsX3_isNone := goodIn_r _ [6, 1, 7, 8, 9, 5, 10, 11, 17, 18, 19, 20, 21, 22, 23, 24] (by decide +kernel) (by decide +kernel)
set_option maxRecDepth 20000 in
theorem gX3_removeLast_X3_isNone : GoodIn wsX3_removeLast (wsV RX3 73 RX3 yX3_isNone wsX3_isNone) := goodIn_app (goodIn_of _ (by decide +kernel)) ggX3_removeLast_X3_isNone
set_option maxRecDepth 20000 in
theorem ggX3_removeLast_X3_takeRow : GoodIn wsX3_removeLast wsX3_takeRow := goodIn_r _ [15, 16, 1, 17, 18, 19, 20, 21, 22, 23, 24] (by decide +kernel) (by decide +kernel)
set_option maxRecDepth 20000 in
theorem gX3_removeLast_X3_takeRow : GoodIn wsX3_removeLast (wsV RX3 77 RX3 yX3_takeRow wsX3_takeRow) := goodIn_app (goodIn_of _ (by decide +kernel)) ggX3_removeLast_X3_takeRow
theorem dX3_removeLast_0 : decode cX3_removeLast 0 = .ok (.aload_n 0, 1) := by decide +kernel
theorem dX3_removeLast_1 : decode cX3_removeLast 1 = .ok (.invokevirtual 73, 3) := by decide +kernel
theorem dX3_removeLast_4 : decode cX3_removeLast 4 = .ok (.ifCond .eq 7, 3) := by decide +kernel
theorem dX3_removeLast_7 : decode cX3_removeLast 7 = .ok (.iconst 0, 1) := by decide +kernel
theorem dX3_removeLast_8 : decode cX3_removeLast 8 = .ok (.goto 13, 3) := by decide +kernel
theorem dX3_removeLast_11 : decode cX3_removeLast 11 = .ok (.aload_n 0, 1) := by decide +kernel
theorem dX3_removeLast_12 : decode cX3_removeLast 12 = .ok (.aload_n 0, 1) := by decide +kernel
theorem dX3_removeLast_13 : decode cX3_removeLast 13 = .ok (.getfield 47, 3) := by decide +kernel
theorem dX3_removeLast_16 : decode cX3_removeLast 16 = .ok (.iconst 1, 1) := by decide +kernel
theorem dX3_removeLast_17 : decode cX3_removeLast 17 = .ok (.isub, 1) := by decide +kernel
theorem dX3_removeLast_18 : decode cX3_removeLast 18 = .ok (.invokevirtual 77, 3) := by decide +kernel
theorem dX3_removeLast_21 : decode cX3_removeLast 21 = .ok (.ireturn, 1) := by decide +kernel
set_option maxRecDepth 20000 in
theorem ggX3_push_X3_addFirst : GoodIn wsX3_push wsX3_addFirst := goodIn_r _ [5, 6, 7, 8, 9, 10, 4, 11, 12, 13, 14, 15, 16, 17, 18, 19, 20] (by decide +kernel) (by decide +kernel)
set_option maxRecDepth 20000 in
theorem gX3_push_X3_addFirst : GoodIn wsX3_push (wsV RX3 80 RX3 yX3_addFirst wsX3_addFirst) := goodIn_app (goodIn_of _ (by decide +kernel)) ggX3_push_X3_addFirst
theorem dX3_push_0 : decode cX3_push 0 = .ok (.aload_n 0, 1) := by decide +kernel
theorem dX3_push_1 : decode cX3_push 1 = .ok (.iload_n 1, 1) := by decide +kernel
theorem dX3_push_2 : decode cX3_push 2 = .ok (.invokevirtual 80, 3) := by decide +kernel
theorem dX3_push_5 : decode cX3_push 5 = .ok (.ireturn, 1) := by decide +kernel
set_option maxRecDepth 20000 in
theorem ggX3_pop_X3_removeFirst : GoodIn wsX3_pop wsX3_removeFirst := goodIn_r _ [5, 6, 7, 8, 4, 9, 10, 11, 12, 13, 14, 15, 16, 17, 18, 19, 20, 21, 22, 23, 24, 25, 26, 27, 28] (by decide +kernel) (by decide +kernel)
set_option maxRecDepth 20000 in
theorem gX3_pop_X3_removeFirst : GoodIn wsX3_pop (wsV RX3 83 RX3 yX3_removeFirst wsX3_removeFirst) := goodIn_app (goodIn_of _ (by decide +kernel)) ggX3_pop_X3_removeFirst
theorem dX3_pop_0 : decode cX3_pop 0 = .ok (.aload_n 0, 1) := by decide +kernel
theorem dX3_pop_1 : decode cX3_pop 1 = .ok (.invokevirtual 83, 3) := by decide +kernel
theorem dX3_pop_4 : decode cX3_pop 4 = .ok (.ireturn, 1) := by decide +kernel
set_option maxRecDepth 20000 in
theorem ggX3_removeFirstOccurrence_X3_firstPlace : GoodIn wsX3_removeFirstOccurrence wsX3_firstPlace := goodIn_r _ [6, 7, 8, 13, 14, 15, 16, 17, 18, 19, 20] (by decide +kernel) (by decide +kernel)
set_option maxRecDepth 20000 in
theorem gX3_removeFirstOccurrence_X3_firstPlace : GoodIn wsX3_removeFirstOccurrence (wsV RX3 86 RX3 yX3_firstPlace wsX3_firstPlace) := goodIn_app (goodIn_of _ (by decide +kernel)) ggX3_removeFirstOccurrence_X3_firstPlace
set_option maxRecDepth 20000 in
theorem ggX3_removeFirstOccurrence_X3_takeRow : GoodIn wsX3_removeFirstOccurrence wsX3_takeRow := goodIn_r _ [12, 8, 7, 13, 14, 15, 16, 17, 18, 19, 20] (by decide +kernel) (by decide +kernel)
set_option maxRecDepth 20000 in
theorem gX3_removeFirstOccurrence_X3_takeRow : GoodIn wsX3_removeFirstOccurrence (wsV RX3 77 RX3 yX3_takeRow wsX3_takeRow) := goodIn_app (goodIn_of _ (by decide +kernel)) ggX3_removeFirstOccurrence_X3_takeRow
theorem dX3_removeFirstOccurrence_0 : decode cX3_removeFirstOccurrence 0 = .ok (.aload_n 0, 1) := by decide +kernel
theorem dX3_removeFirstOccurrence_1 : decode cX3_removeFirstOccurrence 1 = .ok (.iconst 0, 1) := by decide +kernel
theorem dX3_removeFirstOccurrence_2 : decode cX3_removeFirstOccurrence 2 = .ok (.putfield 22, 3) := by decide +kernel
theorem dX3_removeFirstOccurrence_5 : decode cX3_removeFirstOccurrence 5 = .ok (.aload_n 0, 1) := by decide +kernel
theorem dX3_removeFirstOccurrence_6 : decode cX3_removeFirstOccurrence 6 = .ok (.iload_n 1, 1) := by decide +kernel
theorem dX3_removeFirstOccurrence_7 : decode cX3_removeFirstOccurrence 7 = .ok (.invokevirtual 86, 3) := by decide +kernel
theorem dX3_removeFirstOccurrence_10 : decode cX3_removeFirstOccurrence 10 = .ok (.istore_n 2, 1) := by decide +kernel
theorem dX3_removeFirstOccurrence_11 : decode cX3_removeFirstOccurrence 11 = .ok (.iload_n 2, 1) := by decide +kernel
theorem dX3_removeFirstOccurrence_12 : decode cX3_removeFirstOccurrence 12 = .ok (.ifCond .ge 5, 3) := by decide +kernel
theorem dX3_removeFirstOccurrence_15 : decode cX3_removeFirstOccurrence 15 = .ok (.iconst 0, 1) := by decide +kernel
theorem dX3_removeFirstOccurrence_16 : decode cX3_removeFirstOccurrence 16 = .ok (.ireturn, 1) := by decide +kernel
theorem dX3_removeFirstOccurrence_17 : decode cX3_removeFirstOccurrence 17 = .ok (.aload_n 0, 1) := by decide +kernel
theorem dX3_removeFirstOccurrence_18 : decode cX3_removeFirstOccurrence 18 = .ok (.iload_n 2, 1) := by decide +kernel
theorem dX3_removeFirstOccurrence_19 : decode cX3_removeFirstOccurrence 19 = .ok (.invokevirtual 77, 3) := by decide +kernel
theorem dX3_removeFirstOccurrence_22 : decode cX3_removeFirstOccurrence 22 = .ok (.pop, 1) := by decide +kernel
theorem dX3_removeFirstOccurrence_23 : decode cX3_removeFirstOccurrence 23 = .ok (.iconst 1, 1) := by decide +kernel
theorem dX3_removeFirstOccurrence_24 : decode cX3_removeFirstOccurrence 24 = .ok (.ireturn, 1) := by decide +kernel
set_option maxRecDepth 20000 in
theorem ggX3_removeLastOccurrence_X3_takeRow : GoodIn wsX3_removeLastOccurrence wsX3_takeRow := goodIn_r _ [8, 3, 2, 9, 10, 11, 12, 13, 14, 15, 16] (by decide +kernel) (by decide +kernel)
set_option maxRecDepth 20000 in
theorem gX3_removeLastOccurrence_X3_takeRow : GoodIn wsX3_removeLastOccurrence (wsV RX3 77 RX3 yX3_takeRow wsX3_takeRow) := goodIn_app (goodIn_of _ (by decide +kernel)) ggX3_removeLastOccurrence_X3_takeRow
theorem dX3_removeLastOccurrence_0 : decode cX3_removeLastOccurrence 0 = .ok (.aload_n 0, 1) := by decide +kernel
theorem dX3_removeLastOccurrence_1 : decode cX3_removeLastOccurrence 1 = .ok (.iconst 0, 1) := by decide +kernel
theorem dX3_removeLastOccurrence_2 : decode cX3_removeLastOccurrence 2 = .ok (.putfield 22, 3) := by decide +kernel
theorem dX3_removeLastOccurrence_5 : decode cX3_removeLastOccurrence 5 = .ok (.aload_n 0, 1) := by decide +kernel
theorem dX3_removeLastOccurrence_6 : decode cX3_removeLastOccurrence 6 = .ok (.getfield 47, 3) := by decide +kernel
theorem dX3_removeLastOccurrence_9 : decode cX3_removeLastOccurrence 9 = .ok (.iconst 1, 1) := by decide +kernel
theorem dX3_removeLastOccurrence_10 : decode cX3_removeLastOccurrence 10 = .ok (.isub, 1) := by decide +kernel
theorem dX3_removeLastOccurrence_11 : decode cX3_removeLastOccurrence 11 = .ok (.istore_n 2, 1) := by decide +kernel
theorem dX3_removeLastOccurrence_12 : decode cX3_removeLastOccurrence 12 = .ok (.iload_n 2, 1) := by decide +kernel
theorem dX3_removeLastOccurrence_13 : decode cX3_removeLastOccurrence 13 = .ok (.ifCond .lt 19, 3) := by decide +kernel
theorem dX3_removeLastOccurrence_16 : decode cX3_removeLastOccurrence 16 = .ok (.aload_n 0, 1) := by decide +kernel
theorem dX3_removeLastOccurrence_17 : decode cX3_removeLastOccurrence 17 = .ok (.getfield 13, 3) := by decide +kernel
theorem dX3_removeLastOccurrence_20 : decode cX3_removeLastOccurrence 20 = .ok (.iload_n 2, 1) := by decide +kernel
theorem dX3_removeLastOccurrence_21 : decode cX3_removeLastOccurrence 21 = .ok (.iaload, 1) := by decide +kernel
theorem dX3_removeLastOccurrence_22 : decode cX3_removeLastOccurrence 22 = .ok (.iload_n 1, 1) := by decide +kernel
theorem dX3_removeLastOccurrence_23 : decode cX3_removeLastOccurrence 23 = .ok (.if_icmp .eq 9, 3) := by decide +kernel
theorem dX3_removeLastOccurrence_26 : decode cX3_removeLastOccurrence 26 = .ok (.iinc 2 (-1), 3) := by decide +kernel
theorem dX3_removeLastOccurrence_29 : decode cX3_removeLastOccurrence 29 = .ok (.goto (-17), 3) := by decide +kernel
theorem dX3_removeLastOccurrence_32 : decode cX3_removeLastOccurrence 32 = .ok (.iload_n 2, 1) := by decide +kernel
theorem dX3_removeLastOccurrence_33 : decode cX3_removeLastOccurrence 33 = .ok (.ifCond .ge 5, 3) := by decide +kernel
theorem dX3_removeLastOccurrence_36 : decode cX3_removeLastOccurrence 36 = .ok (.iconst 0, 1) := by decide +kernel
theorem dX3_removeLastOccurrence_37 : decode cX3_removeLastOccurrence 37 = .ok (.ireturn, 1) := by decide +kernel
theorem dX3_removeLastOccurrence_38 : decode cX3_removeLastOccurrence 38 = .ok (.aload_n 0, 1) := by decide +kernel
theorem dX3_removeLastOccurrence_39 : decode cX3_removeLastOccurrence 39 = .ok (.iload_n 2, 1) := by decide +kernel
theorem dX3_removeLastOccurrence_40 : decode cX3_removeLastOccurrence 40 = .ok (.invokevirtual 77, 3) := by decide +kernel
theorem dX3_removeLastOccurrence_43 : decode cX3_removeLastOccurrence 43 = .ok (.pop, 1) := by decide +kernel
theorem dX3_removeLastOccurrence_44 : decode cX3_removeLastOccurrence 44 = .ok (.iconst 1, 1) := by decide +kernel
theorem dX3_removeLastOccurrence_45 : decode cX3_removeLastOccurrence 45 = .ok (.ireturn, 1) := by decide +kernel
set_option maxRecDepth 20000 in
theorem ggX3_has_X3_firstPlace : GoodIn wsX3_has wsX3_firstPlace := goodIn_r _ [6, 7, 8, 9, 10, 11, 12, 13, 14, 15, 16] (by decide +kernel) (by decide +kernel)
set_option maxRecDepth 20000 in
theorem gX3_has_X3_firstPlace : GoodIn wsX3_has (wsV RX3 86 RX3 yX3_firstPlace wsX3_firstPlace) := goodIn_app (goodIn_of _ (by decide +kernel)) ggX3_has_X3_firstPlace
theorem dX3_has_0 : decode cX3_has 0 = .ok (.aload_n 0, 1) := by decide +kernel
theorem dX3_has_1 : decode cX3_has 1 = .ok (.iconst 0, 1) := by decide +kernel
theorem dX3_has_2 : decode cX3_has 2 = .ok (.putfield 22, 3) := by decide +kernel
theorem dX3_has_5 : decode cX3_has 5 = .ok (.aload_n 0, 1) := by decide +kernel
theorem dX3_has_6 : decode cX3_has 6 = .ok (.iload_n 1, 1) := by decide +kernel
theorem dX3_has_7 : decode cX3_has 7 = .ok (.invokevirtual 86, 3) := by decide +kernel
theorem dX3_has_10 : decode cX3_has 10 = .ok (.ifCond .lt 7, 3) := by decide +kernel
theorem dX3_has_13 : decode cX3_has 13 = .ok (.iconst 1, 1) := by decide +kernel
theorem dX3_has_14 : decode cX3_has 14 = .ok (.goto 4, 3) := by decide +kernel
theorem dX3_has_17 : decode cX3_has 17 = .ok (.iconst 0, 1) := by decide +kernel
theorem dX3_has_18 : decode cX3_has 18 = .ok (.ireturn, 1) := by decide +kernel
theorem dX3_length_0 : decode cX3_length 0 = .ok (.aload_n 0, 1) := by decide +kernel
theorem dX3_length_1 : decode cX3_length 1 = .ok (.iconst 0, 1) := by decide +kernel
theorem dX3_length_2 : decode cX3_length 2 = .ok (.putfield 22, 3) := by decide +kernel
theorem dX3_length_5 : decode cX3_length 5 = .ok (.aload_n 0, 1) := by decide +kernel
theorem dX3_length_6 : decode cX3_length 6 = .ok (.getfield 47, 3) := by decide +kernel
theorem dX3_length_9 : decode cX3_length 9 = .ok (.ireturn, 1) := by decide +kernel
theorem dX3_wipe_0 : decode cX3_wipe 0 = .ok (.aload_n 0, 1) := by decide +kernel
theorem dX3_wipe_1 : decode cX3_wipe 1 = .ok (.iconst 0, 1) := by decide +kernel
theorem dX3_wipe_2 : decode cX3_wipe 2 = .ok (.putfield 22, 3) := by decide +kernel
theorem dX3_wipe_5 : decode cX3_wipe 5 = .ok (.aload_n 0, 1) := by decide +kernel
theorem dX3_wipe_6 : decode cX3_wipe 6 = .ok (.getfield 47, 3) := by decide +kernel
theorem dX3_wipe_9 : decode cX3_wipe 9 = .ok (.istore_n 1, 1) := by decide +kernel
theorem dX3_wipe_10 : decode cX3_wipe 10 = .ok (.aload_n 0, 1) := by decide +kernel
theorem dX3_wipe_11 : decode cX3_wipe 11 = .ok (.iconst 0, 1) := by decide +kernel
theorem dX3_wipe_12 : decode cX3_wipe 12 = .ok (.putfield 47, 3) := by decide +kernel
theorem dX3_wipe_15 : decode cX3_wipe 15 = .ok (.iload_n 1, 1) := by decide +kernel
theorem dX3_wipe_16 : decode cX3_wipe 16 = .ok (.ireturn, 1) := by decide +kernel
set_option maxRecDepth 20000 in
theorem ggX3_isNoPlace_X3_isWrong : GoodIn wsX3_isNoPlace wsX3_isWrong := goodIn_r _ [6, 7, 8, 9, 10, 11, 12, 13, 14, 15] (by decide +kernel) (by decide +kernel)
set_option maxRecDepth 20000 in
theorem gX3_isNoPlace_X3_isWrong : GoodIn wsX3_isNoPlace (wsV RX3 29 RX3 yX3_isWrong wsX3_isWrong) := goodIn_app (goodIn_of _ (by decide +kernel)) ggX3_isNoPlace_X3_isWrong
theorem dX3_isNoPlace_0 : decode cX3_isNoPlace 0 = .ok (.aload_n 0, 1) := by decide +kernel
theorem dX3_isNoPlace_1 : decode cX3_isNoPlace 1 = .ok (.iload_n 1, 1) := by decide +kernel
theorem dX3_isNoPlace_2 : decode cX3_isNoPlace 2 = .ok (.ifCond .lt 15, 3) := by decide +kernel
theorem dX3_isNoPlace_5 : decode cX3_isNoPlace 5 = .ok (.iload_n 1, 1) := by decide +kernel
theorem dX3_isNoPlace_6 : decode cX3_isNoPlace 6 = .ok (.aload_n 0, 1) := by decide +kernel
theorem dX3_isNoPlace_7 : decode cX3_isNoPlace 7 = .ok (.getfield 47, 3) := by decide +kernel
theorem dX3_isNoPlace_10 : decode cX3_isNoPlace 10 = .ok (.if_icmp .ge 7, 3) := by decide +kernel
theorem dX3_isNoPlace_13 : decode cX3_isNoPlace 13 = .ok (.iconst 0, 1) := by decide +kernel
theorem dX3_isNoPlace_14 : decode cX3_isNoPlace 14 = .ok (.goto 4, 3) := by decide +kernel
theorem dX3_isNoPlace_17 : decode cX3_isNoPlace 17 = .ok (.iconst 1, 1) := by decide +kernel
theorem dX3_isNoPlace_18 : decode cX3_isNoPlace 18 = .ok (.invokevirtual 29, 3) := by decide +kernel
theorem dX3_isNoPlace_21 : decode cX3_isNoPlace 21 = .ok (.ireturn, 1) := by decide +kernel
set_option maxRecDepth 20000 in
theorem ggX3_at_X3_isNoPlace : GoodIn wsX3_at wsX3_isNoPlace := goodIn_r _ [6, 7, 8, 9, 10, 5, 11, 12, 13, 14, 15, 16, 17, 18, 19, 20] (by decide +kernel) (by decide +kernel)
set_option maxRecDepth 20000 in
theorem gX3_at_X3_isNoPlace : GoodIn wsX3_at (wsV RX3 89 RX3 yX3_isNoPlace wsX3_isNoPlace) := goodIn_app (goodIn_of _ (by decide +kernel)) ggX3_at_X3_isNoPlace
theorem dX3_at_0 : decode cX3_at 0 = .ok (.aload_n 0, 1) := by decide +kernel
theorem dX3_at_1 : decode cX3_at 1 = .ok (.iload_n 1, 1) := by decide +kernel
theorem dX3_at_2 : decode cX3_at 2 = .ok (.invokevirtual 89, 3) := by decide +kernel
theorem dX3_at_5 : decode cX3_at 5 = .ok (.ifCond .eq 7, 3) := by decide +kernel
theorem dX3_at_8 : decode cX3_at 8 = .ok (.iconst 0, 1) := by decide +kernel
theorem dX3_at_9 : decode cX3_at 9 = .ok (.goto 9, 3) := by decide +kernel
theorem dX3_at_12 : decode cX3_at 12 = .ok (.aload_n 0, 1) := by decide +kernel
theorem dX3_at_13 : decode cX3_at 13 = .ok (.getfield 13, 3) := by decide +kernel
theorem dX3_at_16 : decode cX3_at 16 = .ok (.iload_n 1, 1) := by decide +kernel
theorem dX3_at_17 : decode cX3_at 17 = .ok (.iaload, 1) := by decide +kernel
theorem dX3_at_18 : decode cX3_at 18 = .ok (.ireturn, 1) := by decide +kernel
set_option maxRecDepth 20000 in
theorem ggX3_back_X3_isNoPlace : GoodIn wsX3_back wsX3_isNoPlace := goodIn_r _ [7, 2, 8, 9, 10, 6, 11, 12, 13, 14, 15, 16, 17, 18, 19, 20] (by decide +kernel) (by decide +kernel)
set_option maxRecDepth 20000 in
theorem gX3_back_X3_isNoPlace : GoodIn wsX3_back (wsV RX3 89 RX3 yX3_isNoPlace wsX3_isNoPlace) := goodIn_app (goodIn_of _ (by decide +kernel)) ggX3_back_X3_isNoPlace
theorem dX3_back_0 : decode cX3_back 0 = .ok (.aload_n 0, 1) := by decide +kernel
theorem dX3_back_1 : decode cX3_back 1 = .ok (.iload_n 1, 1) := by decide +kernel
theorem dX3_back_2 : decode cX3_back 2 = .ok (.invokevirtual 89, 3) := by decide +kernel
theorem dX3_back_5 : decode cX3_back 5 = .ok (.ifCond .eq 7, 3) := by decide +kernel
theorem dX3_back_8 : decode cX3_back 8 = .ok (.iconst 0, 1) := by decide +kernel
theorem dX3_back_9 : decode cX3_back 9 = .ok (.goto 16, 3) := by decide +kernel
theorem dX3_back_12 : decode cX3_back 12 = .ok (.aload_n 0, 1) := by decide +kernel
theorem dX3_back_13 : decode cX3_back 13 = .ok (.getfield 13, 3) := by decide +kernel
theorem dX3_back_16 : decode cX3_back 16 = .ok (.aload_n 0, 1) := by decide +kernel
theorem dX3_back_17 : decode cX3_back 17 = .ok (.getfield 47, 3) := by decide +kernel
theorem dX3_back_20 : decode cX3_back 20 = .ok (.iconst 1, 1) := by decide +kernel
theorem dX3_back_21 : decode cX3_back 21 = .ok (.isub, 1) := by decide +kernel
theorem dX3_back_22 : decode cX3_back 22 = .ok (.iload_n 1, 1) := by decide +kernel
theorem dX3_back_23 : decode cX3_back 23 = .ok (.isub, 1) := by decide +kernel
theorem dX3_back_24 : decode cX3_back 24 = .ok (.iaload, 1) := by decide +kernel
theorem dX3_back_25 : decode cX3_back 25 = .ok (.ireturn, 1) := by decide +kernel
set_option maxRecDepth 20000 in
theorem ggX3_dropLike_X3_firstPlace : GoodIn wsX3_dropLike wsX3_firstPlace := goodIn_r _ [7, 2, 8, 13, 14, 15, 16, 17, 18, 19, 20] (by decide +kernel) (by decide +kernel)
set_option maxRecDepth 20000 in
theorem gX3_dropLike_X3_firstPlace : GoodIn wsX3_dropLike (wsV RX3 86 RX3 yX3_firstPlace wsX3_firstPlace) := goodIn_app (goodIn_of _ (by decide +kernel)) ggX3_dropLike_X3_firstPlace
set_option maxRecDepth 20000 in
theorem ggX3_dropLike_X3_takeRow : GoodIn wsX3_dropLike wsX3_takeRow := goodIn_r _ [12, 8, 2, 13, 14, 15, 16, 17, 18, 19, 20] (by decide +kernel) (by decide +kernel)
set_option maxRecDepth 20000 in
theorem gX3_dropLike_X3_takeRow : GoodIn wsX3_dropLike (wsV RX3 77 RX3 yX3_takeRow wsX3_takeRow) := goodIn_app (goodIn_of _ (by decide +kernel)) ggX3_dropLike_X3_takeRow
theorem dX3_dropLike_0 : decode cX3_dropLike 0 = .ok (.aload_n 0, 1) := by decide +kernel
theorem dX3_dropLike_1 : decode cX3_dropLike 1 = .ok (.iconst 0, 1) := by decide +kernel
theorem dX3_dropLike_2 : decode cX3_dropLike 2 = .ok (.putfield 22, 3) := by decide +kernel
theorem dX3_dropLike_5 : decode cX3_dropLike 5 = .ok (.aload_n 0, 1) := by decide +kernel
theorem dX3_dropLike_6 : decode cX3_dropLike 6 = .ok (.getfield 47, 3) := by decide +kernel
theorem dX3_dropLike_9 : decode cX3_dropLike 9 = .ok (.istore_n 2, 1) := by decide +kernel
theorem dX3_dropLike_10 : decode cX3_dropLike 10 = .ok (.aload_n 0, 1) := by decide +kernel
theorem dX3_dropLike_11 : decode cX3_dropLike 11 = .ok (.iload_n 1, 1) := by decide +kernel
theorem dX3_dropLike_12 : decode cX3_dropLike 12 = .ok (.invokevirtual 86, 3) := by decide +kernel
theorem dX3_dropLike_15 : decode cX3_dropLike 15 = .ok (.istore_n 3, 1) := by decide +kernel
theorem dX3_dropLike_16 : decode cX3_dropLike 16 = .ok (.iload_n 3, 1) := by decide +kernel
theorem dX3_dropLike_17 : decode cX3_dropLike 17 = .ok (.ifCond .lt 18, 3) := by decide +kernel
theorem dX3_dropLike_20 : decode cX3_dropLike 20 = .ok (.aload_n 0, 1) := by decide +kernel
theorem dX3_dropLike_21 : decode cX3_dropLike 21 = .ok (.iload_n 3, 1) := by decide +kernel
theorem dX3_dropLike_22 : decode cX3_dropLike 22 = .ok (.invokevirtual 77, 3) := by decide +kernel
theorem dX3_dropLike_25 : decode cX3_dropLike 25 = .ok (.pop, 1) := by decide +kernel
theorem dX3_dropLike_26 : decode cX3_dropLike 26 = .ok (.aload_n 0, 1) := by decide +kernel
theorem dX3_dropLike_27 : decode cX3_dropLike 27 = .ok (.iload_n 1, 1) := by decide +kernel
theorem dX3_dropLike_28 : decode cX3_dropLike 28 = .ok (.invokevirtual 86, 3) := by decide +kernel
theorem dX3_dropLike_31 : decode cX3_dropLike 31 = .ok (.istore_n 3, 1) := by decide +kernel
theorem dX3_dropLike_32 : decode cX3_dropLike 32 = .ok (.goto (-16), 3) := by decide +kernel
theorem dX3_dropLike_35 : decode cX3_dropLike 35 = .ok (.iload_n 2, 1) := by decide +kernel
theorem dX3_dropLike_36 : decode cX3_dropLike 36 = .ok (.aload_n 0, 1) := by decide +kernel
theorem dX3_dropLike_37 : decode cX3_dropLike 37 = .ok (.getfield 47, 3) := by decide +kernel
theorem dX3_dropLike_40 : decode cX3_dropLike 40 = .ok (.isub, 1) := by decide +kernel
theorem dX3_dropLike_41 : decode cX3_dropLike 41 = .ok (.ireturn, 1) := by decide +kernel
theorem dX3_walk_0 : decode cX3_walk 0 = .ok (.aload_n 0, 1) := by decide +kernel
theorem dX3_walk_1 : decode cX3_walk 1 = .ok (.iconst 0, 1) := by decide +kernel
theorem dX3_walk_2 : decode cX3_walk 2 = .ok (.putfield 22, 3) := by decide +kernel
theorem dX3_walk_5 : decode cX3_walk 5 = .ok (.ldc2_w 92, 3) := by decide +kernel
theorem dX3_walk_8 : decode cX3_walk 8 = .ok (.lstore_n 1, 1) := by decide +kernel
theorem dX3_walk_9 : decode cX3_walk 9 = .ok (.iconst 0, 1) := by decide +kernel
theorem dX3_walk_10 : decode cX3_walk 10 = .ok (.istore_n 3, 1) := by decide +kernel
theorem dX3_walk_11 : decode cX3_walk 11 = .ok (.iload_n 3, 1) := by decide +kernel
theorem dX3_walk_12 : decode cX3_walk 12 = .ok (.aload_n 0, 1) := by decide +kernel
theorem dX3_walk_13 : decode cX3_walk 13 = .ok (.getfield 47, 3) := by decide +kernel
theorem dX3_walk_16 : decode cX3_walk 16 = .ok (.if_icmp .ge 23, 3) := by decide +kernel
theorem dX3_walk_19 : decode cX3_walk 19 = .ok (.ldc2_w 94, 3) := by decide +kernel
theorem dX3_walk_22 : decode cX3_walk 22 = .ok (.lload_n 1, 1) := by decide +kernel
theorem dX3_walk_23 : decode cX3_walk 23 = .ok (.lmul, 1) := by decide +kernel
theorem dX3_walk_24 : decode cX3_walk 24 = .ok (.aload_n 0, 1) := by decide +kernel
theorem dX3_walk_25 : decode cX3_walk 25 = .ok (.getfield 13, 3) := by decide +kernel
theorem dX3_walk_28 : decode cX3_walk 28 = .ok (.iload_n 3, 1) := by decide +kernel
theorem dX3_walk_29 : decode cX3_walk 29 = .ok (.iaload, 1) := by decide +kernel
theorem dX3_walk_30 : decode cX3_walk 30 = .ok (.i2l, 1) := by decide +kernel
theorem dX3_walk_31 : decode cX3_walk 31 = .ok (.ladd, 1) := by decide +kernel
theorem dX3_walk_32 : decode cX3_walk 32 = .ok (.lstore_n 1, 1) := by decide +kernel
theorem dX3_walk_33 : decode cX3_walk 33 = .ok (.iinc 3 1, 3) := by decide +kernel
theorem dX3_walk_36 : decode cX3_walk 36 = .ok (.goto (-25), 3) := by decide +kernel
theorem dX3_walk_39 : decode cX3_walk 39 = .ok (.lload_n 1, 1) := by decide +kernel
theorem dX3_walk_40 : decode cX3_walk 40 = .ok (.lreturn, 1) := by decide +kernel
theorem dX3_walkBack_0 : decode cX3_walkBack 0 = .ok (.aload_n 0, 1) := by decide +kernel
theorem dX3_walkBack_1 : decode cX3_walkBack 1 = .ok (.iconst 0, 1) := by decide +kernel
theorem dX3_walkBack_2 : decode cX3_walkBack 2 = .ok (.putfield 22, 3) := by decide +kernel
theorem dX3_walkBack_5 : decode cX3_walkBack 5 = .ok (.ldc2_w 92, 3) := by decide +kernel
theorem dX3_walkBack_8 : decode cX3_walkBack 8 = .ok (.lstore_n 1, 1) := by decide +kernel
theorem dX3_walkBack_9 : decode cX3_walkBack 9 = .ok (.aload_n 0, 1) := by decide +kernel
theorem dX3_walkBack_10 : decode cX3_walkBack 10 = .ok (.getfield 47, 3) := by decide +kernel
theorem dX3_walkBack_13 : decode cX3_walkBack 13 = .ok (.iconst 1, 1) := by decide +kernel
theorem dX3_walkBack_14 : decode cX3_walkBack 14 = .ok (.isub, 1) := by decide +kernel
theorem dX3_walkBack_15 : decode cX3_walkBack 15 = .ok (.istore_n 3, 1) := by decide +kernel
theorem dX3_walkBack_16 : decode cX3_walkBack 16 = .ok (.iload_n 3, 1) := by decide +kernel
theorem dX3_walkBack_17 : decode cX3_walkBack 17 = .ok (.ifCond .lt 23, 3) := by decide +kernel
theorem dX3_walkBack_20 : decode cX3_walkBack 20 = .ok (.ldc2_w 94, 3) := by decide +kernel
theorem dX3_walkBack_23 : decode cX3_walkBack 23 = .ok (.lload_n 1, 1) := by decide +kernel
theorem dX3_walkBack_24 : decode cX3_walkBack 24 = .ok (.lmul, 1) := by decide +kernel
theorem dX3_walkBack_25 : decode cX3_walkBack 25 = .ok (.aload_n 0, 1) := by decide +kernel
theorem dX3_walkBack_26 : decode cX3_walkBack 26 = .ok (.getfield 13, 3) := by decide +kernel
theorem dX3_walkBack_29 : decode cX3_walkBack 29 = .ok (.iload_n 3, 1) := by decide +kernel
theorem dX3_walkBack_30 : decode cX3_walkBack 30 = .ok (.iaload, 1) := by decide +kernel
theorem dX3_walkBack_31 : decode cX3_walkBack 31 = .ok (.i2l, 1) := by decide +kernel
theorem dX3_walkBack_32 : decode cX3_walkBack 32 = .ok (.ladd, 1) := by decide +kernel
theorem dX3_walkBack_33 : decode cX3_walkBack 33 = .ok (.lstore_n 1, 1) := by decide +kernel
theorem dX3_walkBack_34 : decode cX3_walkBack 34 = .ok (.iinc 3 (-1), 3) := by decide +kernel
theorem dX3_walkBack_37 : decode cX3_walkBack 37 = .ok (.goto (-21), 3) := by decide +kernel
theorem dX3_walkBack_40 : decode cX3_walkBack 40 = .ok (.lload_n 1, 1) := by decide +kernel
theorem dX3_walkBack_41 : decode cX3_walkBack 41 = .ok (.lreturn, 1) := by decide +kernel
theorem dJ9_floorDiv_f86c9_0 : decode cJ9_floorDiv_f86c9 0 = .ok (.lload_n 0, 1) := by decide +kernel
theorem dJ9_floorDiv_f86c9_1 : decode cJ9_floorDiv_f86c9 1 = .ok (.lload_n 2, 1) := by decide +kernel
theorem dJ9_floorDiv_f86c9_2 : decode cJ9_floorDiv_f86c9 2 = .ok (.ldiv, 1) := by decide +kernel
theorem dJ9_floorDiv_f86c9_3 : decode cJ9_floorDiv_f86c9 3 = .ok (.lstore 4, 2) := by decide +kernel
theorem dJ9_floorDiv_f86c9_5 : decode cJ9_floorDiv_f86c9 5 = .ok (.lload_n 0, 1) := by decide +kernel
theorem dJ9_floorDiv_f86c9_6 : decode cJ9_floorDiv_f86c9 6 = .ok (.lload_n 2, 1) := by decide +kernel
theorem dJ9_floorDiv_f86c9_7 : decode cJ9_floorDiv_f86c9 7 = .ok (.lxor, 1) := by decide +kernel
theorem dJ9_floorDiv_f86c9_8 : decode cJ9_floorDiv_f86c9 8 = .ok (.lconst 0, 1) := by decide +kernel
theorem dJ9_floorDiv_f86c9_9 : decode cJ9_floorDiv_f86c9 9 = .ok (.lcmp, 1) := by decide +kernel
theorem dJ9_floorDiv_f86c9_10 : decode cJ9_floorDiv_f86c9 10 = .ok (.ifCond .ge 17, 3) := by decide +kernel
theorem dJ9_floorDiv_f86c9_13 : decode cJ9_floorDiv_f86c9 13 = .ok (.lload 4, 2) := by decide +kernel
theorem dJ9_floorDiv_f86c9_15 : decode cJ9_floorDiv_f86c9 15 = .ok (.lload_n 2, 1) := by decide +kernel
theorem dJ9_floorDiv_f86c9_16 : decode cJ9_floorDiv_f86c9 16 = .ok (.lmul, 1) := by decide +kernel
theorem dJ9_floorDiv_f86c9_17 : decode cJ9_floorDiv_f86c9 17 = .ok (.lload_n 0, 1) := by decide +kernel
theorem dJ9_floorDiv_f86c9_18 : decode cJ9_floorDiv_f86c9 18 = .ok (.lcmp, 1) := by decide +kernel
theorem dJ9_floorDiv_f86c9_19 : decode cJ9_floorDiv_f86c9 19 = .ok (.ifCond .eq 8, 3) := by decide +kernel
theorem dJ9_floorDiv_f86c9_22 : decode cJ9_floorDiv_f86c9 22 = .ok (.lload 4, 2) := by decide +kernel
theorem dJ9_floorDiv_f86c9_24 : decode cJ9_floorDiv_f86c9 24 = .ok (.lconst 1, 1) := by decide +kernel
theorem dJ9_floorDiv_f86c9_25 : decode cJ9_floorDiv_f86c9 25 = .ok (.lsub, 1) := by decide +kernel
theorem dJ9_floorDiv_f86c9_26 : decode cJ9_floorDiv_f86c9 26 = .ok (.lreturn, 1) := by decide +kernel
theorem dJ9_floorDiv_f86c9_27 : decode cJ9_floorDiv_f86c9 27 = .ok (.lload 4, 2) := by decide +kernel
theorem dJ9_floorDiv_f86c9_29 : decode cJ9_floorDiv_f86c9 29 = .ok (.lreturn, 1) := by decide +kernel
theorem dJ9_floorMod_f86c9_0 : decode cJ9_floorMod_f86c9 0 = .ok (.lload_n 0, 1) := by decide +kernel
theorem dJ9_floorMod_f86c9_1 : decode cJ9_floorMod_f86c9 1 = .ok (.lload_n 2, 1) := by decide +kernel
theorem dJ9_floorMod_f86c9_2 : decode cJ9_floorMod_f86c9 2 = .ok (.lrem, 1) := by decide +kernel
theorem dJ9_floorMod_f86c9_3 : decode cJ9_floorMod_f86c9 3 = .ok (.lstore 4, 2) := by decide +kernel
theorem dJ9_floorMod_f86c9_5 : decode cJ9_floorMod_f86c9 5 = .ok (.lload_n 0, 1) := by decide +kernel
theorem dJ9_floorMod_f86c9_6 : decode cJ9_floorMod_f86c9 6 = .ok (.lload_n 2, 1) := by decide +kernel
theorem dJ9_floorMod_f86c9_7 : decode cJ9_floorMod_f86c9 7 = .ok (.lxor, 1) := by decide +kernel
theorem dJ9_floorMod_f86c9_8 : decode cJ9_floorMod_f86c9 8 = .ok (.lconst 0, 1) := by decide +kernel
theorem dJ9_floorMod_f86c9_9 : decode cJ9_floorMod_f86c9 9 = .ok (.lcmp, 1) := by decide +kernel
theorem dJ9_floorMod_f86c9_10 : decode cJ9_floorMod_f86c9 10 = .ok (.ifCond .ge 15, 3) := by decide +kernel
theorem dJ9_floorMod_f86c9_13 : decode cJ9_floorMod_f86c9 13 = .ok (.lload 4, 2) := by decide +kernel
theorem dJ9_floorMod_f86c9_15 : decode cJ9_floorMod_f86c9 15 = .ok (.lconst 0, 1) := by decide +kernel
theorem dJ9_floorMod_f86c9_16 : decode cJ9_floorMod_f86c9 16 = .ok (.lcmp, 1) := by decide +kernel
theorem dJ9_floorMod_f86c9_17 : decode cJ9_floorMod_f86c9 17 = .ok (.ifCond .eq 8, 3) := by decide +kernel
theorem dJ9_floorMod_f86c9_20 : decode cJ9_floorMod_f86c9 20 = .ok (.lload 4, 2) := by decide +kernel
theorem dJ9_floorMod_f86c9_22 : decode cJ9_floorMod_f86c9 22 = .ok (.lload_n 2, 1) := by decide +kernel
theorem dJ9_floorMod_f86c9_23 : decode cJ9_floorMod_f86c9 23 = .ok (.ladd, 1) := by decide +kernel
theorem dJ9_floorMod_f86c9_24 : decode cJ9_floorMod_f86c9 24 = .ok (.lreturn, 1) := by decide +kernel
theorem dJ9_floorMod_f86c9_25 : decode cJ9_floorMod_f86c9 25 = .ok (.lload 4, 2) := by decide +kernel
theorem dJ9_floorMod_f86c9_27 : decode cJ9_floorMod_f86c9 27 = .ok (.lreturn, 1) := by decide +kernel
set_option maxRecDepth 20000 in
theorem ggL_offer_X2_offer : GoodIn wsL_offer wsX2_offer := goodIn_ca (goodIn_r _ [6, 7, 8, 9, 10, 11, 12, 13, 14, 15, 16, 17, 18, 19, 20, 21] (by decide +kernel) (by decide +kernel)) (goodIn_sub (fun _ h => List.mem_cons_of_mem _ (List.mem_append_right _ h)) (by decide +kernel))
set_option maxRecDepth 20000 in
theorem gL_offer_X2_offer : GoodIn wsL_offer (wsV RL 7 RX2 yX2_offer wsX2_offer) := goodIn_app (goodIn_of _ (by decide +kernel)) ggL_offer_X2_offer
theorem dL_offer_0 : decode cL_offer 0 = .ok (.aload_n 2, 1) := by decide +kernel
theorem dL_offer_1 : decode cL_offer 1 = .ok (.iconst 0, 1) := by decide +kernel
theorem dL_offer_2 : decode cL_offer 2 = .ok (.aload_n 0, 1) := by decide +kernel
theorem dL_offer_3 : decode cL_offer 3 = .ok (.iload_n 1, 1) := by decide +kernel
theorem dL_offer_4 : decode cL_offer 4 = .ok (.invokevirtual 7, 3) := by decide +kernel
theorem dL_offer_7 : decode cL_offer 7 = .ok (.i2l, 1) := by decide +kernel
theorem dL_offer_8 : decode cL_offer 8 = .ok (.lastore, 1) := by decide +kernel
theorem dL_offer_9 : decode cL_offer 9 = .ok (.goto 6, 3) := by decide +kernel
theorem dL_offer_12 : decode cL_offer 12 = .ok (.astore_n 3, 1) := by decide +kernel
theorem dL_offer_13 : decode cL_offer 13 = .ok (.iconst 1, 1) := by decide +kernel
theorem dL_offer_14 : decode cL_offer 14 = .ok (.ireturn, 1) := by decide +kernel
theorem dL_offer_15 : decode cL_offer 15 = .ok (.iconst 0, 1) := by decide +kernel
theorem dL_offer_16 : decode cL_offer 16 = .ok (.ireturn, 1) := by decide +kernel
set_option maxRecDepth 20000 in
theorem ggL_add_X2_add : GoodIn wsL_add wsX2_add := goodIn_ca (goodIn_r _ [6, 7, 8, 9, 10, 11, 12, 13, 14, 15, 16, 17, 18, 19, 20, 21] (by decide +kernel) (by decide +kernel)) (goodIn_sub (fun _ h => List.mem_cons_of_mem _ (List.mem_append_right _ h)) (by decide +kernel))
set_option maxRecDepth 20000 in
theorem gL_add_X2_add : GoodIn wsL_add (wsV RL 15 RX2 yX2_add wsX2_add) := goodIn_app (goodIn_of _ (by decide +kernel)) ggL_add_X2_add
theorem dL_add_0 : decode cL_add 0 = .ok (.aload_n 2, 1) := by decide +kernel
theorem dL_add_1 : decode cL_add 1 = .ok (.iconst 0, 1) := by decide +kernel
theorem dL_add_2 : decode cL_add 2 = .ok (.aload_n 0, 1) := by decide +kernel
theorem dL_add_3 : decode cL_add 3 = .ok (.iload_n 1, 1) := by decide +kernel
theorem dL_add_4 : decode cL_add 4 = .ok (.invokevirtual 15, 3) := by decide +kernel
theorem dL_add_7 : decode cL_add 7 = .ok (.i2l, 1) := by decide +kernel
theorem dL_add_8 : decode cL_add 8 = .ok (.lastore, 1) := by decide +kernel
theorem dL_add_9 : decode cL_add 9 = .ok (.goto 6, 3) := by decide +kernel
theorem dL_add_12 : decode cL_add 12 = .ok (.astore_n 3, 1) := by decide +kernel
theorem dL_add_13 : decode cL_add 13 = .ok (.iconst 1, 1) := by decide +kernel
theorem dL_add_14 : decode cL_add 14 = .ok (.ireturn, 1) := by decide +kernel
theorem dL_add_15 : decode cL_add 15 = .ok (.iconst 0, 1) := by decide +kernel
theorem dL_add_16 : decode cL_add 16 = .ok (.ireturn, 1) := by decide +kernel
set_option maxRecDepth 20000 in
theorem ggL_peek_X2_peek : GoodIn wsL_peek wsX2_peek := goodIn_ca (goodIn_r _ [6, 7, 8, 9, 10, 11, 12, 13, 14, 15, 16, 17, 18, 19, 20, 21] (by decide +kernel) (by decide +kernel)) (goodIn_sub (fun _ h => List.mem_cons_of_mem _ (List.mem_append_right _ h)) (by decide +kernel))
set_option maxRecDepth 20000 in
theorem gL_peek_X2_peek : GoodIn wsL_peek (wsV RL 18 RX2 yX2_peek wsX2_peek) := goodIn_app (goodIn_of _ (by decide +kernel)) ggL_peek_X2_peek
theorem dL_peek_0 : decode cL_peek 0 = .ok (.aload_n 1, 1) := by decide +kernel
theorem dL_peek_1 : decode cL_peek 1 = .ok (.iconst 0, 1) := by decide +kernel
theorem dL_peek_2 : decode cL_peek 2 = .ok (.aload_n 0, 1) := by decide +kernel
theorem dL_peek_3 : decode cL_peek 3 = .ok (.invokevirtual 18, 3) := by decide +kernel
theorem dL_peek_6 : decode cL_peek 6 = .ok (.i2l, 1) := by decide +kernel
theorem dL_peek_7 : decode cL_peek 7 = .ok (.lastore, 1) := by decide +kernel
theorem dL_peek_8 : decode cL_peek 8 = .ok (.goto 6, 3) := by decide +kernel
theorem dL_peek_11 : decode cL_peek 11 = .ok (.astore_n 2, 1) := by decide +kernel
theorem dL_peek_12 : decode cL_peek 12 = .ok (.iconst 1, 1) := by decide +kernel
theorem dL_peek_13 : decode cL_peek 13 = .ok (.ireturn, 1) := by decide +kernel
theorem dL_peek_14 : decode cL_peek 14 = .ok (.iconst 0, 1) := by decide +kernel
theorem dL_peek_15 : decode cL_peek 15 = .ok (.ireturn, 1) := by decide +kernel
set_option maxRecDepth 20000 in
theorem ggL_poll_X2_poll : GoodIn wsL_poll wsX2_poll := goodIn_ca (goodIn_r _ [6, 7, 8, 9, 10, 11, 12, 13, 14, 15, 16, 17, 18, 19, 20, 21, 22, 23, 24, 25] (by decide +kernel) (by decide +kernel)) (goodIn_sub (fun _ h => List.mem_cons_of_mem _ (List.mem_append_right _ h)) (by decide +kernel))
set_option maxRecDepth 20000 in
theorem gL_poll_X2_poll : GoodIn wsL_poll (wsV RL 24 RX2 yX2_poll wsX2_poll) := goodIn_app (goodIn_of _ (by decide +kernel)) ggL_poll_X2_poll
theorem dL_poll_0 : decode cL_poll 0 = .ok (.aload_n 1, 1) := by decide +kernel
theorem dL_poll_1 : decode cL_poll 1 = .ok (.iconst 0, 1) := by decide +kernel
theorem dL_poll_2 : decode cL_poll 2 = .ok (.aload_n 0, 1) := by decide +kernel
theorem dL_poll_3 : decode cL_poll 3 = .ok (.invokevirtual 24, 3) := by decide +kernel
theorem dL_poll_6 : decode cL_poll 6 = .ok (.i2l, 1) := by decide +kernel
theorem dL_poll_7 : decode cL_poll 7 = .ok (.lastore, 1) := by decide +kernel
theorem dL_poll_8 : decode cL_poll 8 = .ok (.goto 6, 3) := by decide +kernel
theorem dL_poll_11 : decode cL_poll 11 = .ok (.astore_n 2, 1) := by decide +kernel
theorem dL_poll_12 : decode cL_poll 12 = .ok (.iconst 1, 1) := by decide +kernel
theorem dL_poll_13 : decode cL_poll 13 = .ok (.ireturn, 1) := by decide +kernel
theorem dL_poll_14 : decode cL_poll 14 = .ok (.iconst 0, 1) := by decide +kernel
theorem dL_poll_15 : decode cL_poll 15 = .ok (.ireturn, 1) := by decide +kernel
set_option maxRecDepth 20000 in
theorem ggL_addAll_X2_addAll : GoodIn wsL_addAll wsX2_addAll := goodIn_ca (goodIn_ca (goodIn_ca (goodIn_r _ [6, 7, 8, 9, 10, 11, 12, 13, 14, 15, 16, 17, 18, 19, 20, 21, 22, 23, 24, 25, 26, 27, 28, 29, 30, 31, 32, 33, 34] (by decide +kernel) (by decide +kernel)) (goodIn_sub (fun _ h => List.mem_cons_of_mem _ (List.mem_append_left _ (List.mem_append_left _ (List.mem_append_right _ h)))) (by decide +kernel))) (goodIn_sub (fun _ h => List.mem_cons_of_mem _ (List.mem_append_left _ (List.mem_append_right _ h))) (by decide +kernel))) (goodIn_sub (fun _ h => List.mem_cons_of_mem _ (List.mem_append_right _ h)) (by decide +kernel))
set_option maxRecDepth 20000 in
theorem gL_addAll_X2_addAll : GoodIn wsL_addAll (wsV RL 27 RX2 yX2_addAll wsX2_addAll) := goodIn_app (goodIn_of _ (by decide +kernel)) ggL_addAll_X2_addAll
theorem dL_addAll_0 : decode cL_addAll 0 = .ok (.aload_n 1, 1) := by decide +kernel
theorem dL_addAll_1 : decode cL_addAll 1 = .ok (.iconst 0, 1) := by decide +kernel
theorem dL_addAll_2 : decode cL_addAll 2 = .ok (.aload_n 0, 1) := by decide +kernel
theorem dL_addAll_3 : decode cL_addAll 3 = .ok (.invokevirtual 27, 3) := by decide +kernel
theorem dL_addAll_6 : decode cL_addAll 6 = .ok (.i2l, 1) := by decide +kernel
theorem dL_addAll_7 : decode cL_addAll 7 = .ok (.lastore, 1) := by decide +kernel
theorem dL_addAll_8 : decode cL_addAll 8 = .ok (.goto 6, 3) := by decide +kernel
theorem dL_addAll_11 : decode cL_addAll 11 = .ok (.astore_n 2, 1) := by decide +kernel
theorem dL_addAll_12 : decode cL_addAll 12 = .ok (.iconst 1, 1) := by decide +kernel
theorem dL_addAll_13 : decode cL_addAll 13 = .ok (.ireturn, 1) := by decide +kernel
theorem dL_addAll_14 : decode cL_addAll 14 = .ok (.iconst 0, 1) := by decide +kernel
theorem dL_addAll_15 : decode cL_addAll 15 = .ok (.ireturn, 1) := by decide +kernel
set_option maxRecDepth 20000 in
theorem ggL_drain_X2_drain : GoodIn wsL_drain wsX2_drain := goodIn_ca (goodIn_ca (goodIn_ca (goodIn_r _ [6, 7, 8, 9, 10, 11, 5, 12, 13, 14, 15, 16, 17, 18, 19, 20, 21, 22, 23, 24, 25, 26, 27, 28, 29, 30, 31, 32, 33, 34, 35, 36, 37, 38, 39, 40, 41, 42] (by decide +kernel) (by decide +kernel)) (goodIn_sub (fun _ h => List.mem_cons_of_mem _ (List.mem_append_left _ (List.mem_append_left _ (List.mem_append_right _ h)))) (by decide +kernel))) (goodIn_sub (fun _ h => List.mem_cons_of_mem _ (List.mem_append_left _ (List.mem_append_right _ h))) (by decide +kernel))) (goodIn_sub (fun _ h => List.mem_cons_of_mem _ (List.mem_append_right _ h)) (by decide +kernel))
set_option maxRecDepth 20000 in
theorem gL_drain_X2_drain : GoodIn wsL_drain (wsV RL 30 RX2 yX2_drain wsX2_drain) := goodIn_app (goodIn_of _ (by decide +kernel)) ggL_drain_X2_drain
theorem dL_drain_0 : decode cL_drain 0 = .ok (.aload_n 1, 1) := by decide +kernel
theorem dL_drain_1 : decode cL_drain 1 = .ok (.iconst 0, 1) := by decide +kernel
theorem dL_drain_2 : decode cL_drain 2 = .ok (.aload_n 0, 1) := by decide +kernel
theorem dL_drain_3 : decode cL_drain 3 = .ok (.invokevirtual 30, 3) := by decide +kernel
theorem dL_drain_6 : decode cL_drain 6 = .ok (.i2l, 1) := by decide +kernel
theorem dL_drain_7 : decode cL_drain 7 = .ok (.lastore, 1) := by decide +kernel
theorem dL_drain_8 : decode cL_drain 8 = .ok (.goto 6, 3) := by decide +kernel
theorem dL_drain_11 : decode cL_drain 11 = .ok (.astore_n 2, 1) := by decide +kernel
theorem dL_drain_12 : decode cL_drain 12 = .ok (.iconst 1, 1) := by decide +kernel
theorem dL_drain_13 : decode cL_drain 13 = .ok (.ireturn, 1) := by decide +kernel
theorem dL_drain_14 : decode cL_drain 14 = .ok (.iconst 0, 1) := by decide +kernel
theorem dL_drain_15 : decode cL_drain 15 = .ok (.ireturn, 1) := by decide +kernel
set_option maxRecDepth 20000 in
theorem ggL_offerPair_X2_offerPair : GoodIn wsL_offerPair wsX2_offerPair := goodIn_ca (goodIn_ca (goodIn_r _ [7, 8, 9, 10, 6, 11, 12, 13, 14, 15, 16, 17, 18, 19, 20, 21, 22, 23, 24, 25, 26, 27, 28] (by decide +kernel) (by decide +kernel)) (goodIn_sub (fun _ h => List.mem_cons_of_mem _ (List.mem_append_left _ (List.mem_append_right _ h))) (by decide +kernel))) (goodIn_sub (fun _ h => List.mem_cons_of_mem _ (List.mem_append_right _ h)) (by decide +kernel))
set_option maxRecDepth 20000 in
theorem gL_offerPair_X2_offerPair : GoodIn wsL_offerPair (wsV RL 33 RX2 yX2_offerPair wsX2_offerPair) := goodIn_app (goodIn_of _ (by decide +kernel)) ggL_offerPair_X2_offerPair
theorem dL_offerPair_0 : decode cL_offerPair 0 = .ok (.aload_n 3, 1) := by decide +kernel
theorem dL_offerPair_1 : decode cL_offerPair 1 = .ok (.iconst 0, 1) := by decide +kernel
theorem dL_offerPair_2 : decode cL_offerPair 2 = .ok (.aload_n 0, 1) := by decide +kernel
theorem dL_offerPair_3 : decode cL_offerPair 3 = .ok (.iload_n 1, 1) := by decide +kernel
theorem dL_offerPair_4 : decode cL_offerPair 4 = .ok (.iload_n 2, 1) := by decide +kernel
theorem dL_offerPair_5 : decode cL_offerPair 5 = .ok (.invokevirtual 33, 3) := by decide +kernel
theorem dL_offerPair_8 : decode cL_offerPair 8 = .ok (.i2l, 1) := by decide +kernel
theorem dL_offerPair_9 : decode cL_offerPair 9 = .ok (.lastore, 1) := by decide +kernel
theorem dL_offerPair_10 : decode cL_offerPair 10 = .ok (.goto 11, 3) := by decide +kernel
theorem dL_offerPair_13 : decode cL_offerPair 13 = .ok (.astore 4, 2) := by decide +kernel
theorem dL_offerPair_15 : decode cL_offerPair 15 = .ok (.iconst 1, 1) := by decide +kernel
theorem dL_offerPair_16 : decode cL_offerPair 16 = .ok (.ireturn, 1) := by decide +kernel
theorem dL_offerPair_17 : decode cL_offerPair 17 = .ok (.astore 4, 2) := by decide +kernel
theorem dL_offerPair_19 : decode cL_offerPair 19 = .ok (.iconst 2, 1) := by decide +kernel
theorem dL_offerPair_20 : decode cL_offerPair 20 = .ok (.ireturn, 1) := by decide +kernel
theorem dL_offerPair_21 : decode cL_offerPair 21 = .ok (.iconst 0, 1) := by decide +kernel
theorem dL_offerPair_22 : decode cL_offerPair 22 = .ok (.ireturn, 1) := by decide +kernel
set_option maxRecDepth 20000 in
theorem ggL_peekPair_X2_peekPair : GoodIn wsL_peekPair wsX2_peekPair := goodIn_ca (goodIn_r _ [6, 7, 8, 9, 10, 11, 12, 13, 14, 15, 16, 17, 18, 5, 19, 20, 21, 22, 23, 24, 25, 26, 27, 28, 29, 30, 31, 32, 33, 34, 35, 36] (by decide +kernel) (by decide +kernel)) (goodIn_sub (fun _ h => List.mem_cons_of_mem _ (List.mem_append_right _ h)) (by decide +kernel))
set_option maxRecDepth 20000 in
theorem gL_peekPair_X2_peekPair : GoodIn wsL_peekPair (wsV RL 39 RX2 yX2_peekPair wsX2_peekPair) := goodIn_app (goodIn_of _ (by decide +kernel)) ggL_peekPair_X2_peekPair
theorem dL_peekPair_0 : decode cL_peekPair 0 = .ok (.aload_n 1, 1) := by decide +kernel
theorem dL_peekPair_1 : decode cL_peekPair 1 = .ok (.iconst 0, 1) := by decide +kernel
theorem dL_peekPair_2 : decode cL_peekPair 2 = .ok (.aload_n 0, 1) := by decide +kernel
theorem dL_peekPair_3 : decode cL_peekPair 3 = .ok (.invokevirtual 39, 3) := by decide +kernel
theorem dL_peekPair_6 : decode cL_peekPair 6 = .ok (.lastore, 1) := by decide +kernel
theorem dL_peekPair_7 : decode cL_peekPair 7 = .ok (.goto 6, 3) := by decide +kernel
theorem dL_peekPair_10 : decode cL_peekPair 10 = .ok (.astore_n 2, 1) := by decide +kernel
theorem dL_peekPair_11 : decode cL_peekPair 11 = .ok (.iconst 1, 1) := by decide +kernel
theorem dL_peekPair_12 : decode cL_peekPair 12 = .ok (.ireturn, 1) := by decide +kernel
theorem dL_peekPair_13 : decode cL_peekPair 13 = .ok (.iconst 0, 1) := by decide +kernel
theorem dL_peekPair_14 : decode cL_peekPair 14 = .ok (.ireturn, 1) := by decide +kernel
set_option maxRecDepth 20000 in
theorem ggL_pollPair_X2_pollPair : GoodIn wsL_pollPair wsX2_pollPair := goodIn_ca (goodIn_r _ [6, 7, 8, 9, 10, 11, 12, 13, 14, 15, 16, 17, 18, 19, 20, 21, 22, 5, 23, 24, 25, 26, 27, 28, 29, 30, 31, 32, 33, 34, 35, 36, 37, 38, 39, 40] (by decide +kernel) (by decide +kernel)) (goodIn_sub (fun _ h => List.mem_cons_of_mem _ (List.mem_append_right _ h)) (by decide +kernel))
set_option maxRecDepth 20000 in
theorem gL_pollPair_X2_pollPair : GoodIn wsL_pollPair (wsV RL 43 RX2 yX2_pollPair wsX2_pollPair) := goodIn_app (goodIn_of _ (by decide +kernel)) ggL_pollPair_X2_pollPair
theorem dL_pollPair_0 : decode cL_pollPair 0 = .ok (.aload_n 1, 1) := by decide +kernel
theorem dL_pollPair_1 : decode cL_pollPair 1 = .ok (.iconst 0, 1) := by decide +kernel
theorem dL_pollPair_2 : decode cL_pollPair 2 = .ok (.aload_n 0, 1) := by decide +kernel
theorem dL_pollPair_3 : decode cL_pollPair 3 = .ok (.invokevirtual 43, 3) := by decide +kernel
theorem dL_pollPair_6 : decode cL_pollPair 6 = .ok (.lastore, 1) := by decide +kernel
theorem dL_pollPair_7 : decode cL_pollPair 7 = .ok (.goto 6, 3) := by decide +kernel
theorem dL_pollPair_10 : decode cL_pollPair 10 = .ok (.astore_n 2, 1) := by decide +kernel
theorem dL_pollPair_11 : decode cL_pollPair 11 = .ok (.iconst 1, 1) := by decide +kernel
theorem dL_pollPair_12 : decode cL_pollPair 12 = .ok (.ireturn, 1) := by decide +kernel
theorem dL_pollPair_13 : decode cL_pollPair 13 = .ok (.iconst 0, 1) := by decide +kernel
theorem dL_pollPair_14 : decode cL_pollPair 14 = .ok (.ireturn, 1) := by decide +kernel
set_option maxRecDepth 20000 in
theorem ggL_removePair_X2_removePair : GoodIn wsL_removePair wsX2_removePair := goodIn_ca (goodIn_r _ [6, 7, 8, 9, 5, 10, 11, 12, 13, 14, 15, 16, 17, 18, 19, 20, 21, 22, 23, 24, 25, 26, 27, 28, 29] (by decide +kernel) (by decide +kernel)) (goodIn_sub (fun _ h => List.mem_cons_of_mem _ (List.mem_append_right _ h)) (by decide +kernel))
set_option maxRecDepth 20000 in
theorem gL_removePair_X2_removePair : GoodIn wsL_removePair (wsV RL 46 RX2 yX2_removePair wsX2_removePair) := goodIn_app (goodIn_of _ (by decide +kernel)) ggL_removePair_X2_removePair
theorem dL_removePair_0 : decode cL_removePair 0 = .ok (.aload_n 3, 1) := by decide +kernel
theorem dL_removePair_1 : decode cL_removePair 1 = .ok (.iconst 0, 1) := by decide +kernel
theorem dL_removePair_2 : decode cL_removePair 2 = .ok (.aload_n 0, 1) := by decide +kernel
theorem dL_removePair_3 : decode cL_removePair 3 = .ok (.iload_n 1, 1) := by decide +kernel
theorem dL_removePair_4 : decode cL_removePair 4 = .ok (.iload_n 2, 1) := by decide +kernel
theorem dL_removePair_5 : decode cL_removePair 5 = .ok (.invokevirtual 46, 3) := by decide +kernel
theorem dL_removePair_8 : decode cL_removePair 8 = .ok (.ifCond .eq 7, 3) := by decide +kernel
theorem dL_removePair_11 : decode cL_removePair 11 = .ok (.lconst 1, 1) := by decide +kernel
theorem dL_removePair_12 : decode cL_removePair 12 = .ok (.goto 4, 3) := by decide +kernel
theorem dL_removePair_15 : decode cL_removePair 15 = .ok (.lconst 0, 1) := by decide +kernel
theorem dL_removePair_16 : decode cL_removePair 16 = .ok (.lastore, 1) := by decide +kernel
theorem dL_removePair_17 : decode cL_removePair 17 = .ok (.goto 7, 3) := by decide +kernel
theorem dL_removePair_20 : decode cL_removePair 20 = .ok (.astore 4, 2) := by decide +kernel
theorem dL_removePair_22 : decode cL_removePair 22 = .ok (.iconst 1, 1) := by decide +kernel
theorem dL_removePair_23 : decode cL_removePair 23 = .ok (.ireturn, 1) := by decide +kernel
theorem dL_removePair_24 : decode cL_removePair 24 = .ok (.iconst 0, 1) := by decide +kernel
theorem dL_removePair_25 : decode cL_removePair 25 = .ok (.ireturn, 1) := by decide +kernel
set_option maxRecDepth 20000 in
theorem ggL_containsPair_X2_containsPair : GoodIn wsL_containsPair wsX2_containsPair := goodIn_ca (goodIn_r _ [6, 7, 8, 9, 5, 10, 11, 12, 13, 14, 15, 16, 17, 18, 19, 20, 21, 22, 23, 24, 25] (by decide +kernel) (by decide +kernel)) (goodIn_sub (fun _ h => List.mem_cons_of_mem _ (List.mem_append_right _ h)) (by decide +kernel))
set_option maxRecDepth 20000 in
theorem gL_containsPair_X2_containsPair : GoodIn wsL_containsPair (wsV RL 50 RX2 yX2_containsPair wsX2_containsPair) := goodIn_app (goodIn_of _ (by decide +kernel)) ggL_containsPair_X2_containsPair
theorem dL_containsPair_0 : decode cL_containsPair 0 = .ok (.aload_n 3, 1) := by decide +kernel
theorem dL_containsPair_1 : decode cL_containsPair 1 = .ok (.iconst 0, 1) := by decide +kernel
theorem dL_containsPair_2 : decode cL_containsPair 2 = .ok (.aload_n 0, 1) := by decide +kernel
theorem dL_containsPair_3 : decode cL_containsPair 3 = .ok (.iload_n 1, 1) := by decide +kernel
theorem dL_containsPair_4 : decode cL_containsPair 4 = .ok (.iload_n 2, 1) := by decide +kernel
theorem dL_containsPair_5 : decode cL_containsPair 5 = .ok (.invokevirtual 50, 3) := by decide +kernel
theorem dL_containsPair_8 : decode cL_containsPair 8 = .ok (.ifCond .eq 7, 3) := by decide +kernel
theorem dL_containsPair_11 : decode cL_containsPair 11 = .ok (.lconst 1, 1) := by decide +kernel
theorem dL_containsPair_12 : decode cL_containsPair 12 = .ok (.goto 4, 3) := by decide +kernel
theorem dL_containsPair_15 : decode cL_containsPair 15 = .ok (.lconst 0, 1) := by decide +kernel
theorem dL_containsPair_16 : decode cL_containsPair 16 = .ok (.lastore, 1) := by decide +kernel
theorem dL_containsPair_17 : decode cL_containsPair 17 = .ok (.goto 7, 3) := by decide +kernel
theorem dL_containsPair_20 : decode cL_containsPair 20 = .ok (.astore 4, 2) := by decide +kernel
theorem dL_containsPair_22 : decode cL_containsPair 22 = .ok (.iconst 1, 1) := by decide +kernel
theorem dL_containsPair_23 : decode cL_containsPair 23 = .ok (.ireturn, 1) := by decide +kernel
theorem dL_containsPair_24 : decode cL_containsPair 24 = .ok (.iconst 0, 1) := by decide +kernel
theorem dL_containsPair_25 : decode cL_containsPair 25 = .ok (.ireturn, 1) := by decide +kernel
set_option maxRecDepth 20000 in
theorem ggL_drainPairs_X2_drainPairs : GoodIn wsL_drainPairs wsX2_drainPairs := goodIn_ca (goodIn_ca (goodIn_ca (goodIn_r _ [6, 7, 8, 9, 10, 11, 5, 12, 13, 14, 15, 16, 17, 18, 19, 20, 21, 22, 23, 24, 25, 26, 27, 28, 29, 30, 31, 32, 33, 34, 35, 36, 37, 38, 39, 40, 41, 42, 43, 44, 45, 46, 47, 48, 49, 50] (by decide +kernel) (by decide +kernel)) (goodIn_sub (fun _ h => List.mem_cons_of_mem _ (List.mem_append_left _ (List.mem_append_left _ (List.mem_append_right _ h)))) (by decide +kernel))) (goodIn_sub (fun _ h => List.mem_cons_of_mem _ (List.mem_append_left _ (List.mem_append_right _ h))) (by decide +kernel))) (goodIn_sub (fun _ h => List.mem_cons_of_mem _ (List.mem_append_right _ h)) (by decide +kernel))
set_option maxRecDepth 20000 in
theorem gL_drainPairs_X2_drainPairs : GoodIn wsL_drainPairs (wsV RL 53 RX2 yX2_drainPairs wsX2_drainPairs) := goodIn_app (goodIn_of _ (by decide +kernel)) ggL_drainPairs_X2_drainPairs
theorem dL_drainPairs_0 : decode cL_drainPairs 0 = .ok (.aload_n 1, 1) := by decide +kernel
theorem dL_drainPairs_1 : decode cL_drainPairs 1 = .ok (.iconst 0, 1) := by decide +kernel
theorem dL_drainPairs_2 : decode cL_drainPairs 2 = .ok (.aload_n 0, 1) := by decide +kernel
theorem dL_drainPairs_3 : decode cL_drainPairs 3 = .ok (.invokevirtual 53, 3) := by decide +kernel
theorem dL_drainPairs_6 : decode cL_drainPairs 6 = .ok (.i2l, 1) := by decide +kernel
theorem dL_drainPairs_7 : decode cL_drainPairs 7 = .ok (.lastore, 1) := by decide +kernel
theorem dL_drainPairs_8 : decode cL_drainPairs 8 = .ok (.goto 6, 3) := by decide +kernel
theorem dL_drainPairs_11 : decode cL_drainPairs 11 = .ok (.astore_n 2, 1) := by decide +kernel
theorem dL_drainPairs_12 : decode cL_drainPairs 12 = .ok (.iconst 1, 1) := by decide +kernel
theorem dL_drainPairs_13 : decode cL_drainPairs 13 = .ok (.ireturn, 1) := by decide +kernel
theorem dL_drainPairs_14 : decode cL_drainPairs 14 = .ok (.iconst 0, 1) := by decide +kernel
theorem dL_drainPairs_15 : decode cL_drainPairs 15 = .ok (.ireturn, 1) := by decide +kernel
set_option maxRecDepth 20000 in
theorem ggL_addFirst_X2_addFirst : GoodIn wsL_addFirst wsX2_addFirst := goodIn_ca (goodIn_r _ [6, 7, 8, 9, 10, 11, 12, 13, 14, 15, 16, 17, 18, 19, 20, 21] (by decide +kernel) (by decide +kernel)) (goodIn_sub (fun _ h => List.mem_cons_of_mem _ (List.mem_append_right _ h)) (by decide +kernel))
set_option maxRecDepth 20000 in
theorem gL_addFirst_X2_addFirst : GoodIn wsL_addFirst (wsV RL 56 RX2 yX2_addFirst wsX2_addFirst) := goodIn_app (goodIn_of _ (by decide +kernel)) ggL_addFirst_X2_addFirst
theorem dL_addFirst_0 : decode cL_addFirst 0 = .ok (.aload_n 2, 1) := by decide +kernel
theorem dL_addFirst_1 : decode cL_addFirst 1 = .ok (.iconst 0, 1) := by decide +kernel
theorem dL_addFirst_2 : decode cL_addFirst 2 = .ok (.aload_n 0, 1) := by decide +kernel
theorem dL_addFirst_3 : decode cL_addFirst 3 = .ok (.iload_n 1, 1) := by decide +kernel
theorem dL_addFirst_4 : decode cL_addFirst 4 = .ok (.invokevirtual 56, 3) := by decide +kernel
theorem dL_addFirst_7 : decode cL_addFirst 7 = .ok (.i2l, 1) := by decide +kernel
theorem dL_addFirst_8 : decode cL_addFirst 8 = .ok (.lastore, 1) := by decide +kernel
theorem dL_addFirst_9 : decode cL_addFirst 9 = .ok (.goto 6, 3) := by decide +kernel
theorem dL_addFirst_12 : decode cL_addFirst 12 = .ok (.astore_n 3, 1) := by decide +kernel
theorem dL_addFirst_13 : decode cL_addFirst 13 = .ok (.iconst 1, 1) := by decide +kernel
theorem dL_addFirst_14 : decode cL_addFirst 14 = .ok (.ireturn, 1) := by decide +kernel
theorem dL_addFirst_15 : decode cL_addFirst 15 = .ok (.iconst 0, 1) := by decide +kernel
theorem dL_addFirst_16 : decode cL_addFirst 16 = .ok (.ireturn, 1) := by decide +kernel
set_option maxRecDepth 20000 in
theorem ggL_addLast_X2_addLast : GoodIn wsL_addLast wsX2_addLast := goodIn_ca (goodIn_r _ [6, 7, 8, 9, 10, 11, 12, 13, 14, 15, 16, 17, 18, 19, 20, 21] (by decide +kernel) (by decide +kernel)) (goodIn_sub (fun _ h => List.mem_cons_of_mem _ (List.mem_append_right _ h)) (by decide +kernel))
set_option maxRecDepth 20000 in
theorem gL_addLast_X2_addLast : GoodIn wsL_addLast (wsV RL 59 RX2 yX2_addLast wsX2_addLast) := goodIn_app (goodIn_of _ (by decide +kernel)) ggL_addLast_X2_addLast
theorem dL_addLast_0 : decode cL_addLast 0 = .ok (.aload_n 2, 1) := by decide +kernel
theorem dL_addLast_1 : decode cL_addLast 1 = .ok (.iconst 0, 1) := by decide +kernel
theorem dL_addLast_2 : decode cL_addLast 2 = .ok (.aload_n 0, 1) := by decide +kernel
theorem dL_addLast_3 : decode cL_addLast 3 = .ok (.iload_n 1, 1) := by decide +kernel
theorem dL_addLast_4 : decode cL_addLast 4 = .ok (.invokevirtual 59, 3) := by decide +kernel
theorem dL_addLast_7 : decode cL_addLast 7 = .ok (.i2l, 1) := by decide +kernel
theorem dL_addLast_8 : decode cL_addLast 8 = .ok (.lastore, 1) := by decide +kernel
theorem dL_addLast_9 : decode cL_addLast 9 = .ok (.goto 6, 3) := by decide +kernel
theorem dL_addLast_12 : decode cL_addLast 12 = .ok (.astore_n 3, 1) := by decide +kernel
theorem dL_addLast_13 : decode cL_addLast 13 = .ok (.iconst 1, 1) := by decide +kernel
theorem dL_addLast_14 : decode cL_addLast 14 = .ok (.ireturn, 1) := by decide +kernel
theorem dL_addLast_15 : decode cL_addLast 15 = .ok (.iconst 0, 1) := by decide +kernel
theorem dL_addLast_16 : decode cL_addLast 16 = .ok (.ireturn, 1) := by decide +kernel
set_option maxRecDepth 20000 in
theorem ggL_getFirst_X2_getFirst : GoodIn wsL_getFirst wsX2_getFirst := goodIn_ca (goodIn_r _ [6, 7, 8, 9, 10, 11, 12, 13, 14, 15, 16, 17, 18, 19, 20, 21] (by decide +kernel) (by decide +kernel)) (goodIn_sub (fun _ h => List.mem_cons_of_mem _ (List.mem_append_right _ h)) (by decide +kernel))
set_option maxRecDepth 20000 in
theorem gL_getFirst_X2_getFirst : GoodIn wsL_getFirst (wsV RL 62 RX2 yX2_getFirst wsX2_getFirst) := goodIn_app (goodIn_of _ (by decide +kernel)) ggL_getFirst_X2_getFirst
theorem dL_getFirst_0 : decode cL_getFirst 0 = .ok (.aload_n 1, 1) := by decide +kernel
theorem dL_getFirst_1 : decode cL_getFirst 1 = .ok (.iconst 0, 1) := by decide +kernel
theorem dL_getFirst_2 : decode cL_getFirst 2 = .ok (.aload_n 0, 1) := by decide +kernel
theorem dL_getFirst_3 : decode cL_getFirst 3 = .ok (.invokevirtual 62, 3) := by decide +kernel
theorem dL_getFirst_6 : decode cL_getFirst 6 = .ok (.i2l, 1) := by decide +kernel
theorem dL_getFirst_7 : decode cL_getFirst 7 = .ok (.lastore, 1) := by decide +kernel
theorem dL_getFirst_8 : decode cL_getFirst 8 = .ok (.goto 6, 3) := by decide +kernel
theorem dL_getFirst_11 : decode cL_getFirst 11 = .ok (.astore_n 2, 1) := by decide +kernel
theorem dL_getFirst_12 : decode cL_getFirst 12 = .ok (.iconst 1, 1) := by decide +kernel
theorem dL_getFirst_13 : decode cL_getFirst 13 = .ok (.ireturn, 1) := by decide +kernel
theorem dL_getFirst_14 : decode cL_getFirst 14 = .ok (.iconst 0, 1) := by decide +kernel
theorem dL_getFirst_15 : decode cL_getFirst 15 = .ok (.ireturn, 1) := by decide +kernel
set_option maxRecDepth 20000 in
theorem ggL_getLast_X2_getLast : GoodIn wsL_getLast wsX2_getLast := goodIn_ca (goodIn_r _ [6, 7, 8, 9, 10, 11, 12, 13, 14, 15, 16, 17, 18, 19, 20, 21] (by decide +kernel) (by decide +kernel)) (goodIn_sub (fun _ h => List.mem_cons_of_mem _ (List.mem_append_right _ h)) (by decide +kernel))
set_option maxRecDepth 20000 in
theorem gL_getLast_X2_getLast : GoodIn wsL_getLast (wsV RL 65 RX2 yX2_getLast wsX2_getLast) := goodIn_app (goodIn_of _ (by decide +kernel)) ggL_getLast_X2_getLast
theorem dL_getLast_0 : decode cL_getLast 0 = .ok (.aload_n 1, 1) := by decide +kernel
theorem dL_getLast_1 : decode cL_getLast 1 = .ok (.iconst 0, 1) := by decide +kernel
theorem dL_getLast_2 : decode cL_getLast 2 = .ok (.aload_n 0, 1) := by decide +kernel
theorem dL_getLast_3 : decode cL_getLast 3 = .ok (.invokevirtual 65, 3) := by decide +kernel
theorem dL_getLast_6 : decode cL_getLast 6 = .ok (.i2l, 1) := by decide +kernel
theorem dL_getLast_7 : decode cL_getLast 7 = .ok (.lastore, 1) := by decide +kernel
theorem dL_getLast_8 : decode cL_getLast 8 = .ok (.goto 6, 3) := by decide +kernel
theorem dL_getLast_11 : decode cL_getLast 11 = .ok (.astore_n 2, 1) := by decide +kernel
theorem dL_getLast_12 : decode cL_getLast 12 = .ok (.iconst 1, 1) := by decide +kernel
theorem dL_getLast_13 : decode cL_getLast 13 = .ok (.ireturn, 1) := by decide +kernel
theorem dL_getLast_14 : decode cL_getLast 14 = .ok (.iconst 0, 1) := by decide +kernel
theorem dL_getLast_15 : decode cL_getLast 15 = .ok (.ireturn, 1) := by decide +kernel
set_option maxRecDepth 20000 in
theorem ggL_removeFirst_X2_removeFirst : GoodIn wsL_removeFirst wsX2_removeFirst := goodIn_ca (goodIn_r _ [6, 7, 8, 9, 10, 11, 12, 13, 14, 15, 16, 17, 18, 19, 20, 21, 22, 23, 24, 25, 26, 27, 28, 29] (by decide +kernel) (by decide +kernel)) (goodIn_sub (fun _ h => List.mem_cons_of_mem _ (List.mem_append_right _ h)) (by decide +kernel))
set_option maxRecDepth 20000 in
theorem gL_removeFirst_X2_removeFirst : GoodIn wsL_removeFirst (wsV RL 68 RX2 yX2_removeFirst wsX2_removeFirst) := goodIn_app (goodIn_of _ (by decide +kernel)) ggL_removeFirst_X2_removeFirst
theorem dL_removeFirst_0 : decode cL_removeFirst 0 = .ok (.aload_n 1, 1) := by decide +kernel
theorem dL_removeFirst_1 : decode cL_removeFirst 1 = .ok (.iconst 0, 1) := by decide +kernel
theorem dL_removeFirst_2 : decode cL_removeFirst 2 = .ok (.aload_n 0, 1) := by decide +kernel
theorem dL_removeFirst_3 : decode cL_removeFirst 3 = .ok (.invokevirtual 68, 3) := by decide +kernel
theorem dL_removeFirst_6 : decode cL_removeFirst 6 = .ok (.i2l, 1) := by decide +kernel
theorem dL_removeFirst_7 : decode cL_removeFirst 7 = .ok (.lastore, 1) := by decide +kernel
theorem dL_removeFirst_8 : decode cL_removeFirst 8 = .ok (.goto 6, 3) := by decide +kernel
theorem dL_removeFirst_11 : decode cL_removeFirst 11 = .ok (.astore_n 2, 1) := by decide +kernel
theorem dL_removeFirst_12 : decode cL_removeFirst 12 = .ok (.iconst 1, 1) := by decide +kernel
theorem dL_removeFirst_13 : decode cL_removeFirst 13 = .ok (.ireturn, 1) := by decide +kernel
theorem dL_removeFirst_14 : decode cL_removeFirst 14 = .ok (.iconst 0, 1) := by decide +kernel
theorem dL_removeFirst_15 : decode cL_removeFirst 15 = .ok (.ireturn, 1) := by decide +kernel
set_option maxRecDepth 20000 in
theorem ggL_removeLast_X2_removeLast : GoodIn wsL_removeLast wsX2_removeLast := goodIn_ca (goodIn_r _ [6, 7, 8, 9, 10, 11, 12, 13, 14, 15, 16, 17, 18, 19, 20, 21, 22, 23, 24, 25] (by decide +kernel) (by decide +kernel)) (goodIn_sub (fun _ h => List.mem_cons_of_mem _ (List.mem_append_right _ h)) (by decide +kernel))
set_option maxRecDepth 20000 in
theorem gL_removeLast_X2_removeLast : GoodIn wsL_removeLast (wsV RL 71 RX2 yX2_removeLast wsX2_removeLast) := goodIn_app (goodIn_of _ (by decide +kernel)) ggL_removeLast_X2_removeLast
theorem dL_removeLast_0 : decode cL_removeLast 0 = .ok (.aload_n 1, 1) := by decide +kernel
theorem dL_removeLast_1 : decode cL_removeLast 1 = .ok (.iconst 0, 1) := by decide +kernel
theorem dL_removeLast_2 : decode cL_removeLast 2 = .ok (.aload_n 0, 1) := by decide +kernel
theorem dL_removeLast_3 : decode cL_removeLast 3 = .ok (.invokevirtual 71, 3) := by decide +kernel
theorem dL_removeLast_6 : decode cL_removeLast 6 = .ok (.i2l, 1) := by decide +kernel
theorem dL_removeLast_7 : decode cL_removeLast 7 = .ok (.lastore, 1) := by decide +kernel
theorem dL_removeLast_8 : decode cL_removeLast 8 = .ok (.goto 6, 3) := by decide +kernel
theorem dL_removeLast_11 : decode cL_removeLast 11 = .ok (.astore_n 2, 1) := by decide +kernel
theorem dL_removeLast_12 : decode cL_removeLast 12 = .ok (.iconst 1, 1) := by decide +kernel
theorem dL_removeLast_13 : decode cL_removeLast 13 = .ok (.ireturn, 1) := by decide +kernel
theorem dL_removeLast_14 : decode cL_removeLast 14 = .ok (.iconst 0, 1) := by decide +kernel
theorem dL_removeLast_15 : decode cL_removeLast 15 = .ok (.ireturn, 1) := by decide +kernel
set_option maxRecDepth 20000 in
theorem ggL_push_X2_push : GoodIn wsL_push wsX2_push := goodIn_ca (goodIn_r _ [6, 7, 8, 9, 10, 11, 12, 13, 14, 15, 16, 17, 18, 19, 20, 21] (by decide +kernel) (by decide +kernel)) (goodIn_sub (fun _ h => List.mem_cons_of_mem _ (List.mem_append_right _ h)) (by decide +kernel))
set_option maxRecDepth 20000 in
theorem gL_push_X2_push : GoodIn wsL_push (wsV RL 74 RX2 yX2_push wsX2_push) := goodIn_app (goodIn_of _ (by decide +kernel)) ggL_push_X2_push
theorem dL_push_0 : decode cL_push 0 = .ok (.aload_n 2, 1) := by decide +kernel
theorem dL_push_1 : decode cL_push 1 = .ok (.iconst 0, 1) := by decide +kernel
theorem dL_push_2 : decode cL_push 2 = .ok (.aload_n 0, 1) := by decide +kernel
theorem dL_push_3 : decode cL_push 3 = .ok (.iload_n 1, 1) := by decide +kernel
theorem dL_push_4 : decode cL_push 4 = .ok (.invokevirtual 74, 3) := by decide +kernel
theorem dL_push_7 : decode cL_push 7 = .ok (.i2l, 1) := by decide +kernel
theorem dL_push_8 : decode cL_push 8 = .ok (.lastore, 1) := by decide +kernel
theorem dL_push_9 : decode cL_push 9 = .ok (.goto 6, 3) := by decide +kernel
theorem dL_push_12 : decode cL_push 12 = .ok (.astore_n 3, 1) := by decide +kernel
theorem dL_push_13 : decode cL_push 13 = .ok (.iconst 1, 1) := by decide +kernel
theorem dL_push_14 : decode cL_push 14 = .ok (.ireturn, 1) := by decide +kernel
theorem dL_push_15 : decode cL_push 15 = .ok (.iconst 0, 1) := by decide +kernel
theorem dL_push_16 : decode cL_push 16 = .ok (.ireturn, 1) := by decide +kernel
set_option maxRecDepth 20000 in
theorem ggL_pop_X2_pop : GoodIn wsL_pop wsX2_pop := goodIn_ca (goodIn_r _ [6, 7, 8, 9, 10, 11, 12, 13, 14, 15, 16, 17, 18, 19, 20, 21, 22, 23, 24, 25, 26, 27, 28, 29] (by decide +kernel) (by decide +kernel)) (goodIn_sub (fun _ h => List.mem_cons_of_mem _ (List.mem_append_right _ h)) (by decide +kernel))
set_option maxRecDepth 20000 in
theorem gL_pop_X2_pop : GoodIn wsL_pop (wsV RL 77 RX2 yX2_pop wsX2_pop) := goodIn_app (goodIn_of _ (by decide +kernel)) ggL_pop_X2_pop
theorem dL_pop_0 : decode cL_pop 0 = .ok (.aload_n 1, 1) := by decide +kernel
theorem dL_pop_1 : decode cL_pop 1 = .ok (.iconst 0, 1) := by decide +kernel
theorem dL_pop_2 : decode cL_pop 2 = .ok (.aload_n 0, 1) := by decide +kernel
theorem dL_pop_3 : decode cL_pop 3 = .ok (.invokevirtual 77, 3) := by decide +kernel
theorem dL_pop_6 : decode cL_pop 6 = .ok (.i2l, 1) := by decide +kernel
theorem dL_pop_7 : decode cL_pop 7 = .ok (.lastore, 1) := by decide +kernel
theorem dL_pop_8 : decode cL_pop 8 = .ok (.goto 6, 3) := by decide +kernel
theorem dL_pop_11 : decode cL_pop 11 = .ok (.astore_n 2, 1) := by decide +kernel
theorem dL_pop_12 : decode cL_pop 12 = .ok (.iconst 1, 1) := by decide +kernel
theorem dL_pop_13 : decode cL_pop 13 = .ok (.ireturn, 1) := by decide +kernel
theorem dL_pop_14 : decode cL_pop 14 = .ok (.iconst 0, 1) := by decide +kernel
theorem dL_pop_15 : decode cL_pop 15 = .ok (.ireturn, 1) := by decide +kernel
set_option maxRecDepth 20000 in
theorem ggL_at_X2_at : GoodIn wsL_at wsX2_at := goodIn_ca (goodIn_r _ [6, 7, 8, 9, 10, 11, 12, 13, 14, 15, 16, 17, 18, 19, 20, 21] (by decide +kernel) (by decide +kernel)) (goodIn_sub (fun _ h => List.mem_cons_of_mem _ (List.mem_append_right _ h)) (by decide +kernel))
set_option maxRecDepth 20000 in
theorem gL_at_X2_at : GoodIn wsL_at (wsV RL 80 RX2 yX2_at wsX2_at) := goodIn_app (goodIn_of _ (by decide +kernel)) ggL_at_X2_at
theorem dL_at_0 : decode cL_at 0 = .ok (.aload_n 2, 1) := by decide +kernel
theorem dL_at_1 : decode cL_at 1 = .ok (.iconst 0, 1) := by decide +kernel
theorem dL_at_2 : decode cL_at 2 = .ok (.aload_n 0, 1) := by decide +kernel
theorem dL_at_3 : decode cL_at 3 = .ok (.iload_n 1, 1) := by decide +kernel
theorem dL_at_4 : decode cL_at 4 = .ok (.invokevirtual 80, 3) := by decide +kernel
theorem dL_at_7 : decode cL_at 7 = .ok (.i2l, 1) := by decide +kernel
theorem dL_at_8 : decode cL_at 8 = .ok (.lastore, 1) := by decide +kernel
theorem dL_at_9 : decode cL_at 9 = .ok (.goto 6, 3) := by decide +kernel
theorem dL_at_12 : decode cL_at 12 = .ok (.astore_n 3, 1) := by decide +kernel
theorem dL_at_13 : decode cL_at 13 = .ok (.iconst 1, 1) := by decide +kernel
theorem dL_at_14 : decode cL_at 14 = .ok (.ireturn, 1) := by decide +kernel
theorem dL_at_15 : decode cL_at 15 = .ok (.iconst 0, 1) := by decide +kernel
theorem dL_at_16 : decode cL_at 16 = .ok (.ireturn, 1) := by decide +kernel
set_option maxRecDepth 20000 in
theorem ggL_back_X2_back : GoodIn wsL_back wsX2_back := goodIn_ca (goodIn_r _ [6, 7, 8, 9, 10, 11, 12, 13, 14, 15, 16, 17, 18, 19, 20, 21] (by decide +kernel) (by decide +kernel)) (goodIn_sub (fun _ h => List.mem_cons_of_mem _ (List.mem_append_right _ h)) (by decide +kernel))
set_option maxRecDepth 20000 in
theorem gL_back_X2_back : GoodIn wsL_back (wsV RL 85 RX2 yX2_back wsX2_back) := goodIn_app (goodIn_of _ (by decide +kernel)) ggL_back_X2_back
theorem dL_back_0 : decode cL_back 0 = .ok (.aload_n 2, 1) := by decide +kernel
theorem dL_back_1 : decode cL_back 1 = .ok (.iconst 0, 1) := by decide +kernel
theorem dL_back_2 : decode cL_back 2 = .ok (.aload_n 0, 1) := by decide +kernel
theorem dL_back_3 : decode cL_back 3 = .ok (.iload_n 1, 1) := by decide +kernel
theorem dL_back_4 : decode cL_back 4 = .ok (.invokevirtual 85, 3) := by decide +kernel
theorem dL_back_7 : decode cL_back 7 = .ok (.i2l, 1) := by decide +kernel
theorem dL_back_8 : decode cL_back 8 = .ok (.lastore, 1) := by decide +kernel
theorem dL_back_9 : decode cL_back 9 = .ok (.goto 6, 3) := by decide +kernel
theorem dL_back_12 : decode cL_back 12 = .ok (.astore_n 3, 1) := by decide +kernel
theorem dL_back_13 : decode cL_back 13 = .ok (.iconst 1, 1) := by decide +kernel
theorem dL_back_14 : decode cL_back 14 = .ok (.ireturn, 1) := by decide +kernel
theorem dL_back_15 : decode cL_back 15 = .ok (.iconst 0, 1) := by decide +kernel
theorem dL_back_16 : decode cL_back 16 = .ok (.ireturn, 1) := by decide +kernel
end
section
set_option maxRecDepth 20000 in
theorem ggL_law_X2_init : GoodIn wsL_law wsX2_init := goodIn_r _ [9, 10, 11, 12, 13, 14, 15, 16, 17, 18, 19, 20, 21, 22, 23, 24, 6, 25, 26, 27, 28, 29, 30, 31, 32, 601, 602, 590, 591, 592, 603, 604] (by decide +kernel) (by decide +kernel)
set_option maxRecDepth 20000 in
theorem gL_law_X2_init : GoodIn wsL_law (wsX2_init) := ggL_law_X2_init
set_option maxRecDepth 20000 in
theorem ggL_law_X3_init : GoodIn wsL_law wsX3_init := goodIn_r _ [35, 36, 11, 12, 30, 37, 38, 39, 40, 593, 594, 595, 596, 597, 598, 599, 600] (by decide +kernel) (by decide +kernel)
set_option maxRecDepth 20000 in
theorem gL_law_X3_init : GoodIn wsL_law (wsX3_init) := ggL_law_X3_init
set_option maxRecDepth 20000 in
theorem ggL_law_L_offer : GoodIn wsL_law wsL_offer := goodIn_ca (goodIn_r _ [44, 45, 46, 47, 48, 2, 49, 16, 50, 51, 52, 15, 53, 54, 55, 26, 25, 590, 591, 592, 601, 602] (by decide +kernel) (by decide +kernel)) (goodIn_sub (fun _ h => List.mem_append_left _ (List.mem_append_left _ (List.mem_append_left _ (List.mem_append_left _ (List.mem_append_left _ (List.mem_append_left _ (List.mem_append_right _ h))))))) (by decide +kernel))
set_option maxRecDepth 20000 in
theorem gL_law_L_offer : GoodIn wsL_law (va_wsS RL 92 yL_offer wsL_offer) := goodIn_app (goodIn_of _ (by decide +kernel)) ggL_law_L_offer
set_option maxRecDepth 20000 in
theorem ggL_law_X3_offer : GoodIn wsL_law wsX3_offer := goodIn_r _ [59, 60, 37, 61, 62, 63, 5, 64, 65, 593, 594, 595, 596, 597, 598, 599, 600] (by decide +kernel) (by decide +kernel)
set_option maxRecDepth 20000 in
theorem gL_law_X3_offer : GoodIn wsL_law (wsV RL 97 RX3 yX3_offer wsX3_offer) := goodIn_app (goodIn_of _ (by decide +kernel)) ggL_law_X3_offer
set_option maxRecDepth 20000 in
theorem ggL_law_X3_thrown : GoodIn wsL_law wsX3_thrown := goodIn_r _ [69, 65, 593, 594, 595, 596, 597, 598, 599, 600] (by decide +kernel) (by decide +kernel)
set_option maxRecDepth 20000 in
theorem gL_law_X3_thrown : GoodIn wsL_law (wsV RL 98 RX3 yX3_thrown wsX3_thrown) := goodIn_app (goodIn_of _ (by decide +kernel)) ggL_law_X3_thrown
set_option maxRecDepth 20000 in
theorem ggL_law_L_add : GoodIn wsL_law wsL_add := goodIn_ca (goodIn_r _ [72, 45, 73, 74, 75, 2, 76, 16, 50, 51, 52, 15, 53, 54, 55, 26, 25, 590, 591, 592, 601, 602] (by decide +kernel) (by decide +kernel)) (goodIn_sub (fun _ h => List.mem_append_left _ (List.mem_append_left _ (List.mem_append_left _ (List.mem_append_left _ (List.mem_append_left _ (List.mem_append_left _ (List.mem_append_right _ h))))))) (by decide +kernel))
set_option maxRecDepth 20000 in
theorem gL_law_L_add : GoodIn wsL_law (va_wsS RL 101 yL_add wsL_add) := goodIn_app (goodIn_of _ (by decide +kernel)) ggL_law_L_add
set_option maxRecDepth 20000 in
theorem ggL_law_X3_add : GoodIn wsL_law wsX3_add := goodIn_r _ [80, 81, 57, 58, 5, 59, 60, 37, 61, 62, 63, 64, 65, 593, 594, 595, 596, 597, 598, 599, 600] (by decide +kernel) (by decide +kernel)
set_option maxRecDepth 20000 in
theorem gL_law_X3_add : GoodIn wsL_law (wsV RL 103 RX3 yX3_add wsX3_add) := goodIn_app (goodIn_of _ (by decide +kernel)) ggL_law_X3_add
set_option maxRecDepth 20000 in
theorem ggL_law_L_peek : GoodIn wsL_law wsL_peek := goodIn_ca (goodIn_r _ [84, 85, 86, 87, 88, 2, 89, 16, 90, 91, 92, 15, 93, 94, 95, 26, 25, 590, 591, 592, 601, 602] (by decide +kernel) (by decide +kernel)) (goodIn_sub (fun _ h => List.mem_append_left _ (List.mem_append_left _ (List.mem_append_left _ (List.mem_append_left _ (List.mem_append_left _ (List.mem_append_right _ h)))))) (by decide +kernel))
set_option maxRecDepth 20000 in
theorem gL_law_L_peek : GoodIn wsL_law (va_wsS RL 104 yL_peek wsL_peek) := goodIn_app (goodIn_of _ (by decide +kernel)) ggL_law_L_peek
set_option maxRecDepth 20000 in
theorem ggL_law_X3_peek : GoodIn wsL_law wsX3_peek := goodIn_r _ [99, 60, 37, 61, 62, 63, 5, 64, 65, 100, 101, 102, 103, 593, 594, 595, 596, 597, 598, 599, 600] (by decide +kernel) (by decide +kernel)
set_option maxRecDepth 20000 in
theorem gL_law_X3_peek : GoodIn wsL_law (wsV RL 107 RX3 yX3_peek wsX3_peek) := goodIn_app (goodIn_of _ (by decide +kernel)) ggL_law_X3_peek
set_option maxRecDepth 20000 in
theorem ggL_law_L_poll : GoodIn wsL_law wsL_poll := goodIn_ca (goodIn_r _ [106, 85, 107, 108, 109, 2, 110, 16, 111, 112, 113, 15, 114, 26, 115, 91, 92, 93, 94, 95, 25, 590, 591, 592, 601, 602] (by decide +kernel) (by decide +kernel)) (goodIn_sub (fun _ h => List.mem_append_left _ (List.mem_append_left _ (List.mem_append_left _ (List.mem_append_left _ (List.mem_append_left _ (List.mem_append_right _ h)))))) (by decide +kernel))
set_option maxRecDepth 20000 in
theorem gL_law_L_poll : GoodIn wsL_law (va_wsS RL 108 yL_poll wsL_poll) := goodIn_app (goodIn_of _ (by decide +kernel)) ggL_law_L_poll
set_option maxRecDepth 20000 in
theorem ggL_law_X3_poll : GoodIn wsL_law wsX3_poll := goodIn_r _ [119, 60, 61, 62, 63, 5, 64, 65, 100, 101, 102, 103, 37, 120, 121, 122, 123, 593, 594, 595, 596, 597, 598, 599, 600] (by decide +kernel) (by decide +kernel)
set_option maxRecDepth 20000 in
theorem gL_law_X3_poll : GoodIn wsL_law (wsV RL 110 RX3 yX3_poll wsX3_poll) := goodIn_app (goodIn_of _ (by decide +kernel)) ggL_law_X3_poll
set_option maxRecDepth 20000 in
theorem ggL_law_X2_remove : GoodIn wsL_law wsX2_remove := goodIn_r _ [127, 16, 128, 129, 130, 15, 131, 26, 25, 132, 133, 134, 135, 590, 591, 592, 601, 602] (by decide +kernel) (by decide +kernel)
set_option maxRecDepth 20000 in
theorem gL_law_X2_remove : GoodIn wsL_law (wsV RL 111 RX2 yX2_remove wsX2_remove) := goodIn_app (goodIn_of _ (by decide +kernel)) ggL_law_X2_remove
set_option maxRecDepth 20000 in
theorem ggL_law_X3_remove : GoodIn wsL_law wsX3_remove := goodIn_r _ [139, 65, 140, 141, 142, 5, 143, 60, 37, 120, 121, 122, 123, 593, 594, 595, 596, 597, 598, 599, 600] (by decide +kernel) (by decide +kernel)
set_option maxRecDepth 20000 in
theorem gL_law_X3_remove : GoodIn wsL_law (wsV RL 115 RX3 yX3_remove wsX3_remove) := goodIn_app (goodIn_of _ (by decide +kernel)) ggL_law_X3_remove
set_option maxRecDepth 20000 in
theorem ggL_law_X2_contains : GoodIn wsL_law wsX2_contains := goodIn_r _ [147, 16, 148, 133, 134, 15, 135, 26, 25, 590, 591, 592, 601, 602] (by decide +kernel) (by decide +kernel)
set_option maxRecDepth 20000 in
theorem gL_law_X2_contains : GoodIn wsL_law (wsV RL 116 RX2 yX2_contains wsX2_contains) := goodIn_app (goodIn_of _ (by decide +kernel)) ggL_law_X2_contains
set_option maxRecDepth 20000 in
theorem ggL_law_X3_contains : GoodIn wsL_law wsX3_contains := goodIn_r _ [152, 65, 140, 141, 142, 5, 143, 60, 37, 593, 594, 595, 596, 597, 598, 599, 600] (by decide +kernel) (by decide +kernel)
set_option maxRecDepth 20000 in
theorem gL_law_X3_contains : GoodIn wsL_law (wsV RL 119 RX3 yX3_contains wsX3_contains) := goodIn_app (goodIn_of _ (by decide +kernel)) ggL_law_X3_contains
set_option maxRecDepth 20000 in
theorem ggL_law_X2_size : GoodIn wsL_law wsX2_size := goodIn_r _ [156, 16, 590, 591, 592, 601, 602] (by decide +kernel) (by decide +kernel)
set_option maxRecDepth 20000 in
theorem gL_law_X2_size : GoodIn wsL_law (wsV RL 120 RX2 yX2_size wsX2_size) := goodIn_app (goodIn_of _ (by decide +kernel)) ggL_law_X2_size
set_option maxRecDepth 20000 in
theorem ggL_law_X3_size : GoodIn wsL_law wsX3_size := goodIn_r _ [160, 65, 60, 593, 594, 595, 596, 597, 598, 599, 600] (by decide +kernel) (by decide +kernel)
set_option maxRecDepth 20000 in
theorem gL_law_X3_size : GoodIn wsL_law (wsV RL 123 RX3 yX3_size wsX3_size) := goodIn_app (goodIn_of _ (by decide +kernel)) ggL_law_X3_size
set_option maxRecDepth 20000 in
theorem ggL_law_X2_clear : GoodIn wsL_law wsX2_clear := goodIn_r _ [164, 16, 165, 166, 167, 15, 168, 26, 590, 591, 592, 601, 602] (by decide +kernel) (by decide +kernel)
set_option maxRecDepth 20000 in
theorem gL_law_X2_clear : GoodIn wsL_law (wsV RL 124 RX2 yX2_clear wsX2_clear) := goodIn_app (goodIn_of _ (by decide +kernel)) ggL_law_X2_clear
set_option maxRecDepth 20000 in
theorem ggL_law_X3_clear : GoodIn wsL_law wsX3_clear := goodIn_r _ [172, 65, 60, 593, 594, 595, 596, 597, 598, 599, 600] (by decide +kernel) (by decide +kernel)
set_option maxRecDepth 20000 in
theorem gL_law_X3_clear : GoodIn wsL_law (wsV RL 127 RX3 yX3_clear wsX3_clear) := goodIn_app (goodIn_of _ (by decide +kernel)) ggL_law_X3_clear
set_option maxRecDepth 20000 in
theorem ggL_law_L_addAll : GoodIn wsL_law wsL_addAll := goodIn_ca (goodIn_ca (goodIn_ca (goodIn_r _ [175, 45, 176, 177, 178, 2, 179, 180, 55, 16, 21, 181, 182, 183, 20, 184, 185, 186, 32, 31, 50, 51, 52, 15, 53, 54, 26, 25, 590, 591, 592, 601, 602, 603, 604] (by decide +kernel) (by decide +kernel)) (goodIn_sub (fun _ h => List.mem_append_left _ (List.mem_append_left _ (List.mem_append_left _ (List.mem_append_left _ (List.mem_append_right _ h))))) (by decide +kernel))) (goodIn_sub (fun _ h => List.mem_append_left _ (List.mem_append_left _ (List.mem_append_left _ (List.mem_append_right _ h)))) (by decide +kernel))) (goodIn_sub (fun _ h => List.mem_append_left _ (List.mem_append_left _ (List.mem_append_left _ (List.mem_append_left _ (List.mem_append_left _ (List.mem_append_left _ (List.mem_append_right _ h))))))) (by decide +kernel))
set_option maxRecDepth 20000 in
theorem gL_law_L_addAll : GoodIn wsL_law (va_wsS RL 128 yL_addAll wsL_addAll) := goodIn_app (goodIn_of _ (by decide +kernel)) ggL_law_L_addAll
set_option maxRecDepth 20000 in
theorem ggL_law_X3_addAll : GoodIn wsL_law wsX3_addAll := goodIn_r _ [190, 60, 191, 37, 38, 61, 62, 63, 5, 64, 65, 593, 594, 595, 596, 597, 598, 599, 600] (by decide +kernel) (by decide +kernel)
set_option maxRecDepth 20000 in
theorem gL_law_X3_addAll : GoodIn wsL_law (wsV RL 130 RX3 yX3_addAll wsX3_addAll) := goodIn_app (goodIn_of _ (by decide +kernel)) ggL_law_X3_addAll
set_option maxRecDepth 20000 in
theorem ggL_law_L_drain : GoodIn wsL_law wsL_drain := goodIn_ca (goodIn_ca (goodIn_ca (goodIn_r _ [194, 45, 195, 196, 197, 2, 198, 16, 21, 199, 200, 201, 202, 180, 55, 111, 112, 113, 15, 114, 26, 115, 91, 92, 93, 94, 95, 25, 203, 204, 205, 20, 206, 207, 32, 31, 590, 591, 592, 601, 602, 603, 604] (by decide +kernel) (by decide +kernel)) (goodIn_sub (fun _ h => List.mem_append_left _ (List.mem_append_left _ (List.mem_append_left _ (List.mem_append_left _ (List.mem_append_right _ h))))) (by decide +kernel))) (goodIn_sub (fun _ h => List.mem_append_left _ (List.mem_append_left _ (List.mem_append_left _ (List.mem_append_left _ (List.mem_append_left _ (List.mem_append_right _ h)))))) (by decide +kernel))) (goodIn_sub (fun _ h => List.mem_append_left _ (List.mem_append_left _ (List.mem_append_right _ h))) (by decide +kernel))
set_option maxRecDepth 20000 in
theorem gL_law_L_drain : GoodIn wsL_law (va_wsS RL 131 yL_drain wsL_drain) := goodIn_app (goodIn_of _ (by decide +kernel)) ggL_law_L_drain
set_option maxRecDepth 20000 in
theorem ggL_law_X3_drain : GoodIn wsL_law wsX3_drain := goodIn_r _ [211, 60, 191, 38, 61, 62, 63, 5, 64, 65, 100, 101, 102, 103, 37, 120, 121, 122, 123, 593, 594, 595, 596, 597, 598, 599, 600] (by decide +kernel) (by decide +kernel)
set_option maxRecDepth 20000 in
theorem gL_law_X3_drain : GoodIn wsL_law (wsV RL 133 RX3 yX3_drain wsX3_drain) := goodIn_app (goodIn_of _ (by decide +kernel)) ggL_law_X3_drain
set_option maxRecDepth 20000 in
theorem ggL_law_L_offerPair : GoodIn wsL_law wsL_offerPair := goodIn_ca (goodIn_ca (goodIn_r _ [214, 215, 45, 216, 217, 218, 2, 219, 17, 220, 221, 222, 223, 224, 225, 50, 51, 52, 15, 53, 54, 55, 26, 25, 590, 591, 592, 601, 602] (by decide +kernel) (by decide +kernel)) (goodIn_sub (fun _ h => List.mem_append_left _ (List.mem_append_right _ h)) (by decide +kernel))) (goodIn_sub (fun _ h => List.mem_append_left _ (List.mem_append_left _ (List.mem_append_left _ (List.mem_append_left _ (List.mem_append_left _ (List.mem_append_left _ (List.mem_append_right _ h))))))) (by decide +kernel))
set_option maxRecDepth 20000 in
theorem gL_law_L_offerPair : GoodIn wsL_law (va_wsS RL 134 yL_offerPair wsL_offerPair) := goodIn_app (goodIn_of _ (by decide +kernel)) ggL_law_L_offerPair
set_option maxRecDepth 20000 in
theorem ggL_law_X3_offerPair : GoodIn wsL_law wsX3_offerPair := goodIn_r _ [229, 230, 39, 40, 231, 232, 233, 5, 234, 61, 62, 63, 64, 65, 593, 594, 595, 596, 597, 598, 599, 600] (by decide +kernel) (by decide +kernel)
set_option maxRecDepth 20000 in
theorem gL_law_X3_offerPair : GoodIn wsL_law (wsV RL 137 RX3 yX3_offerPair wsX3_offerPair) := goodIn_app (goodIn_of _ (by decide +kernel)) ggL_law_X3_offerPair
set_option maxRecDepth 20000 in
theorem ggL_law_L_peekPair : GoodIn wsL_law wsL_peekPair := goodIn_ca (goodIn_r _ [237, 85, 238, 239, 240, 2, 241, 17, 90, 91, 92, 15, 93, 94, 95, 26, 25, 242, 243, 244, 245, 225, 246, 247, 248, 249, 250, 251, 252, 253, 254, 255, 590, 591, 592, 601, 602] (by decide +kernel) (by decide +kernel)) (goodIn_sub (fun _ h => List.mem_append_left _ (List.mem_append_left _ (List.mem_append_left _ (List.mem_append_left _ (List.mem_append_left _ (List.mem_append_right _ h)))))) (by decide +kernel))
set_option maxRecDepth 20000 in
theorem gL_law_L_peekPair : GoodIn wsL_law (va_wsS RL 138 yL_peekPair wsL_peekPair) := goodIn_app (goodIn_of _ (by decide +kernel)) ggL_law_L_peekPair
set_option maxRecDepth 20000 in
theorem ggL_law_X3_peekPair : GoodIn wsL_law wsX3_peekPair := goodIn_r _ [259, 230, 61, 62, 63, 5, 64, 65, 260, 261, 262, 263, 39, 40, 264, 265, 266, 267, 268, 593, 594, 595, 596, 597, 598, 599, 600] (by decide +kernel) (by decide +kernel)
set_option maxRecDepth 20000 in
theorem gL_law_X3_peekPair : GoodIn wsL_law (wsV RL 140 RX3 yX3_peekPair wsX3_peekPair) := goodIn_app (goodIn_of _ (by decide +kernel)) ggL_law_X3_peekPair
set_option maxRecDepth 20000 in
theorem ggL_law_L_pollPair : GoodIn wsL_law wsL_pollPair := goodIn_ca (goodIn_r _ [271, 85, 272, 273, 274, 2, 275, 17, 111, 112, 113, 15, 114, 26, 115, 91, 92, 93, 94, 95, 25, 242, 243, 244, 245, 225, 246, 247, 248, 249, 250, 251, 252, 253, 254, 255, 590, 591, 592, 601, 602] (by decide +kernel) (by decide +kernel)) (goodIn_sub (fun _ h => List.mem_append_left _ (List.mem_append_left _ (List.mem_append_left _ (List.mem_append_left _ (List.mem_append_left _ (List.mem_append_right _ h)))))) (by decide +kernel))
set_option maxRecDepth 20000 in
theorem gL_law_L_pollPair : GoodIn wsL_law (va_wsS RL 141 yL_pollPair wsL_pollPair) := goodIn_app (goodIn_of _ (by decide +kernel)) ggL_law_L_pollPair
set_option maxRecDepth 20000 in
theorem ggL_law_X3_pollPair : GoodIn wsL_law wsX3_pollPair := goodIn_r _ [279, 230, 61, 62, 63, 5, 64, 65, 260, 261, 262, 263, 39, 40, 264, 265, 266, 267, 268, 280, 281, 282, 283, 593, 594, 595, 596, 597, 598, 599, 600] (by decide +kernel) (by decide +kernel)
set_option maxRecDepth 20000 in
theorem gL_law_X3_pollPair : GoodIn wsL_law (wsV RL 143 RX3 yX3_pollPair wsX3_pollPair) := goodIn_app (goodIn_of _ (by decide +kernel)) ggL_law_X3_pollPair
set_option maxRecDepth 20000 in
theorem ggL_law_L_removePair : GoodIn wsL_law wsL_removePair := goodIn_ca (goodIn_r _ [286, 215, 287, 288, 289, 2, 290, 17, 220, 221, 222, 223, 224, 225, 128, 129, 130, 15, 131, 26, 25, 132, 133, 134, 135, 590, 591, 592, 601, 602] (by decide +kernel) (by decide +kernel)) (goodIn_sub (fun _ h => List.mem_append_left _ (List.mem_append_right _ h)) (by decide +kernel))
set_option maxRecDepth 20000 in
theorem gL_law_L_removePair : GoodIn wsL_law (va_wsS RL 144 yL_removePair wsL_removePair) := goodIn_app (goodIn_of _ (by decide +kernel)) ggL_law_L_removePair
set_option maxRecDepth 20000 in
theorem ggL_law_X3_removePair : GoodIn wsL_law wsX3_removePair := goodIn_r _ [294, 231, 232, 233, 5, 234, 61, 62, 63, 64, 65, 295, 296, 297, 298, 230, 39, 40, 280, 281, 282, 283, 593, 594, 595, 596, 597, 598, 599, 600] (by decide +kernel) (by decide +kernel)
set_option maxRecDepth 20000 in
theorem gL_law_X3_removePair : GoodIn wsL_law (wsV RL 146 RX3 yX3_removePair wsX3_removePair) := goodIn_app (goodIn_of _ (by decide +kernel)) ggL_law_X3_removePair
set_option maxRecDepth 20000 in
theorem ggL_law_L_containsPair : GoodIn wsL_law wsL_containsPair := goodIn_ca (goodIn_r _ [301, 215, 302, 303, 304, 2, 305, 17, 220, 221, 222, 223, 224, 225, 148, 133, 134, 15, 135, 26, 25, 590, 591, 592, 601, 602] (by decide +kernel) (by decide +kernel)) (goodIn_sub (fun _ h => List.mem_append_left _ (List.mem_append_right _ h)) (by decide +kernel))
set_option maxRecDepth 20000 in
theorem gL_law_L_containsPair : GoodIn wsL_law (va_wsS RL 147 yL_containsPair wsL_containsPair) := goodIn_app (goodIn_of _ (by decide +kernel)) ggL_law_L_containsPair
set_option maxRecDepth 20000 in
theorem ggL_law_X3_containsPair : GoodIn wsL_law wsX3_containsPair := goodIn_r _ [309, 231, 232, 233, 5, 234, 61, 62, 63, 64, 65, 295, 296, 297, 298, 230, 39, 40, 593, 594, 595, 596, 597, 598, 599, 600] (by decide +kernel) (by decide +kernel)
set_option maxRecDepth 20000 in
theorem gL_law_X3_containsPair : GoodIn wsL_law (wsV RL 149 RX3 yX3_containsPair wsX3_containsPair) := goodIn_app (goodIn_of _ (by decide +kernel)) ggL_law_X3_containsPair
set_option maxRecDepth 20000 in
theorem ggL_law_X2_sizePairs : GoodIn wsL_law wsX2_sizePairs := goodIn_r _ [313, 17, 590, 591, 592, 601, 602] (by decide +kernel) (by decide +kernel)
set_option maxRecDepth 20000 in
theorem gL_law_X2_sizePairs : GoodIn wsL_law (wsV RL 150 RX2 yX2_sizePairs wsX2_sizePairs) := goodIn_app (goodIn_of _ (by decide +kernel)) ggL_law_X2_sizePairs
set_option maxRecDepth 20000 in
theorem ggL_law_X3_sizePairs : GoodIn wsL_law wsX3_sizePairs := goodIn_r _ [317, 65, 230, 593, 594, 595, 596, 597, 598, 599, 600] (by decide +kernel) (by decide +kernel)
set_option maxRecDepth 20000 in
theorem gL_law_X3_sizePairs : GoodIn wsL_law (wsV RL 153 RX3 yX3_sizePairs wsX3_sizePairs) := goodIn_app (goodIn_of _ (by decide +kernel)) ggL_law_X3_sizePairs
set_option maxRecDepth 20000 in
theorem ggL_law_X2_clearPairs : GoodIn wsL_law wsX2_clearPairs := goodIn_r _ [321, 17, 165, 166, 167, 15, 168, 26, 590, 591, 592, 601, 602] (by decide +kernel) (by decide +kernel)
set_option maxRecDepth 20000 in
theorem gL_law_X2_clearPairs : GoodIn wsL_law (wsV RL 154 RX2 yX2_clearPairs wsX2_clearPairs) := goodIn_app (goodIn_of _ (by decide +kernel)) ggL_law_X2_clearPairs
set_option maxRecDepth 20000 in
theorem ggL_law_X3_clearPairs : GoodIn wsL_law wsX3_clearPairs := goodIn_r _ [325, 65, 230, 593, 594, 595, 596, 597, 598, 599, 600] (by decide +kernel) (by decide +kernel)
set_option maxRecDepth 20000 in
theorem gL_law_X3_clearPairs : GoodIn wsL_law (wsV RL 157 RX3 yX3_clearPairs wsX3_clearPairs) := goodIn_app (goodIn_of _ (by decide +kernel)) ggL_law_X3_clearPairs
set_option maxRecDepth 20000 in
theorem ggL_law_L_drainPairs : GoodIn wsL_law wsL_drainPairs := goodIn_ca (goodIn_ca (goodIn_ca (goodIn_r _ [328, 45, 329, 330, 331, 2, 332, 17, 21, 199, 200, 201, 202, 180, 55, 111, 112, 113, 15, 114, 26, 115, 91, 92, 93, 94, 95, 25, 250, 251, 252, 225, 253, 254, 248, 255, 203, 204, 205, 20, 206, 207, 32, 31, 590, 591, 592, 601, 602, 603, 604] (by decide +kernel) (by decide +kernel)) (goodIn_sub (fun _ h => List.mem_append_left _ (List.mem_append_left _ (List.mem_append_left _ (List.mem_append_left _ (List.mem_append_right _ h))))) (by decide +kernel))) (goodIn_sub (fun _ h => List.mem_append_left _ (List.mem_append_left _ (List.mem_append_left _ (List.mem_append_left _ (List.mem_append_left _ (List.mem_append_right _ h)))))) (by decide +kernel))) (goodIn_sub (fun _ h => List.mem_append_left _ (List.mem_append_left _ (List.mem_append_right _ h))) (by decide +kernel))
set_option maxRecDepth 20000 in
theorem gL_law_L_drainPairs : GoodIn wsL_law (va_wsS RL 158 yL_drainPairs wsL_drainPairs) := goodIn_app (goodIn_of _ (by decide +kernel)) ggL_law_L_drainPairs
set_option maxRecDepth 20000 in
theorem ggL_law_X3_drainPairs : GoodIn wsL_law wsX3_drainPairs := goodIn_r _ [336, 230, 191, 38, 39, 61, 62, 63, 5, 64, 65, 260, 261, 262, 263, 40, 280, 281, 282, 283, 593, 594, 595, 596, 597, 598, 599, 600] (by decide +kernel) (by decide +kernel)
set_option maxRecDepth 20000 in
theorem gL_law_X3_drainPairs : GoodIn wsL_law (wsV RL 160 RX3 yX3_drainPairs wsX3_drainPairs) := goodIn_app (goodIn_of _ (by decide +kernel)) ggL_law_X3_drainPairs
set_option maxRecDepth 20000 in
theorem ggL_law_L_addFirst : GoodIn wsL_law wsL_addFirst := goodIn_ca (goodIn_r _ [339, 45, 340, 341, 342, 2, 343, 21, 344, 345, 346, 20, 347, 207, 55, 32, 31, 590, 591, 592, 603, 604] (by decide +kernel) (by decide +kernel)) (goodIn_sub (fun _ h => List.mem_append_left _ (List.mem_append_left _ (List.mem_append_right _ h))) (by decide +kernel))
set_option maxRecDepth 20000 in
theorem gL_law_L_addFirst : GoodIn wsL_law (va_wsS RL 161 yL_addFirst wsL_addFirst) := goodIn_app (goodIn_of _ (by decide +kernel)) ggL_law_L_addFirst
set_option maxRecDepth 20000 in
theorem ggL_law_X3_addFirst : GoodIn wsL_law wsX3_addFirst := goodIn_r _ [351, 191, 38, 61, 62, 63, 5, 64, 65, 593, 594, 595, 596, 597, 598, 599, 600] (by decide +kernel) (by decide +kernel)
set_option maxRecDepth 20000 in
theorem gL_law_X3_addFirst : GoodIn wsL_law (wsV RL 163 RX3 yX3_addFirst wsX3_addFirst) := goodIn_app (goodIn_of _ (by decide +kernel)) ggL_law_X3_addFirst
set_option maxRecDepth 20000 in
theorem ggL_law_L_addLast : GoodIn wsL_law wsL_addLast := goodIn_ca (goodIn_r _ [354, 45, 355, 356, 357, 2, 358, 21, 203, 204, 205, 20, 206, 207, 55, 32, 31, 590, 591, 592, 603, 604] (by decide +kernel) (by decide +kernel)) (goodIn_sub (fun _ h => List.mem_append_left _ (List.mem_append_left _ (List.mem_append_right _ h))) (by decide +kernel))
set_option maxRecDepth 20000 in
theorem gL_law_L_addLast : GoodIn wsL_law (va_wsS RL 164 yL_addLast wsL_addLast) := goodIn_app (goodIn_of _ (by decide +kernel)) ggL_law_L_addLast
set_option maxRecDepth 20000 in
theorem ggL_law_X3_addLast : GoodIn wsL_law wsX3_addLast := goodIn_r _ [362, 191, 38, 61, 62, 63, 5, 64, 65, 593, 594, 595, 596, 597, 598, 599, 600] (by decide +kernel) (by decide +kernel)
set_option maxRecDepth 20000 in
theorem gL_law_X3_addLast : GoodIn wsL_law (wsV RL 166 RX3 yX3_addLast wsX3_addLast) := goodIn_app (goodIn_of _ (by decide +kernel)) ggL_law_X3_addLast
set_option maxRecDepth 20000 in
theorem ggL_law_L_getFirst : GoodIn wsL_law wsL_getFirst := goodIn_ca (goodIn_r _ [365, 85, 366, 367, 368, 2, 369, 21, 370, 371, 372, 20, 373, 374, 95, 32, 31, 590, 591, 592, 603, 604] (by decide +kernel) (by decide +kernel)) (goodIn_sub (fun _ h => List.mem_append_right _ h) (by decide +kernel))
set_option maxRecDepth 20000 in
theorem gL_law_L_getFirst : GoodIn wsL_law (va_wsS RL 167 yL_getFirst wsL_getFirst) := goodIn_app (goodIn_of _ (by decide +kernel)) ggL_law_L_getFirst
set_option maxRecDepth 20000 in
theorem ggL_law_X3_getFirst : GoodIn wsL_law wsX3_getFirst := goodIn_r _ [378, 38, 379, 380, 381, 5, 382, 191, 61, 62, 63, 64, 65, 593, 594, 595, 596, 597, 598, 599, 600] (by decide +kernel) (by decide +kernel)
set_option maxRecDepth 20000 in
theorem gL_law_X3_getFirst : GoodIn wsL_law (wsV RL 169 RX3 yX3_getFirst wsX3_getFirst) := goodIn_app (goodIn_of _ (by decide +kernel)) ggL_law_X3_getFirst
set_option maxRecDepth 20000 in
theorem ggL_law_L_getLast : GoodIn wsL_law wsL_getLast := goodIn_ca (goodIn_r _ [385, 85, 386, 387, 388, 2, 389, 21, 390, 391, 392, 20, 393, 374, 95, 32, 31, 590, 591, 592, 603, 604] (by decide +kernel) (by decide +kernel)) (goodIn_sub (fun _ h => List.mem_append_right _ h) (by decide +kernel))
set_option maxRecDepth 20000 in
theorem gL_law_L_getLast : GoodIn wsL_law (va_wsS RL 170 yL_getLast wsL_getLast) := goodIn_app (goodIn_of _ (by decide +kernel)) ggL_law_L_getLast
set_option maxRecDepth 20000 in
theorem ggL_law_X3_getLast : GoodIn wsL_law wsX3_getLast := goodIn_r _ [397, 38, 191, 379, 380, 381, 5, 382, 61, 62, 63, 64, 65, 593, 594, 595, 596, 597, 598, 599, 600] (by decide +kernel) (by decide +kernel)
set_option maxRecDepth 20000 in
theorem gL_law_X3_getLast : GoodIn wsL_law (wsV RL 172 RX3 yX3_getLast wsX3_getLast) := goodIn_app (goodIn_of _ (by decide +kernel)) ggL_law_X3_getLast
set_option maxRecDepth 20000 in
theorem ggL_law_L_removeFirst : GoodIn wsL_law wsL_removeFirst := goodIn_ca (goodIn_r _ [400, 85, 401, 402, 403, 2, 404, 21, 405, 406, 407, 20, 408, 409, 371, 372, 373, 374, 95, 32, 31, 410, 411, 412, 413, 590, 591, 592, 603, 604] (by decide +kernel) (by decide +kernel)) (goodIn_sub (fun _ h => List.mem_append_right _ h) (by decide +kernel))
set_option maxRecDepth 20000 in
theorem gL_law_L_removeFirst : GoodIn wsL_law (va_wsS RL 173 yL_removeFirst wsL_removeFirst) := goodIn_app (goodIn_of _ (by decide +kernel)) ggL_law_L_removeFirst
set_option maxRecDepth 20000 in
theorem ggL_law_X3_removeFirst : GoodIn wsL_law wsX3_removeFirst := goodIn_r _ [417, 379, 380, 381, 5, 382, 191, 61, 62, 63, 64, 65, 418, 419, 420, 421, 38, 593, 594, 595, 596, 597, 598, 599, 600] (by decide +kernel) (by decide +kernel)
set_option maxRecDepth 20000 in
theorem gL_law_X3_removeFirst : GoodIn wsL_law (wsV RL 175 RX3 yX3_removeFirst wsX3_removeFirst) := goodIn_app (goodIn_of _ (by decide +kernel)) ggL_law_X3_removeFirst
set_option maxRecDepth 20000 in
theorem ggL_law_L_removeLast : GoodIn wsL_law wsL_removeLast := goodIn_ca (goodIn_r _ [424, 85, 425, 426, 427, 2, 428, 21, 429, 430, 431, 20, 432, 32, 433, 391, 392, 393, 374, 95, 31, 590, 591, 592, 603, 604] (by decide +kernel) (by decide +kernel)) (goodIn_sub (fun _ h => List.mem_append_right _ h) (by decide +kernel))
set_option maxRecDepth 20000 in
theorem gL_law_L_removeLast : GoodIn wsL_law (va_wsS RL 176 yL_removeLast wsL_removeLast) := goodIn_app (goodIn_of _ (by decide +kernel)) ggL_law_L_removeLast
set_option maxRecDepth 20000 in
theorem ggL_law_X3_removeLast : GoodIn wsL_law wsX3_removeLast := goodIn_r _ [437, 191, 379, 380, 381, 5, 382, 61, 62, 63, 64, 65, 418, 419, 420, 421, 38, 593, 594, 595, 596, 597, 598, 599, 600] (by decide +kernel) (by decide +kernel)
set_option maxRecDepth 20000 in
theorem gL_law_X3_removeLast : GoodIn wsL_law (wsV RL 178 RX3 yX3_removeLast wsX3_removeLast) := goodIn_app (goodIn_of _ (by decide +kernel)) ggL_law_X3_removeLast
set_option maxRecDepth 20000 in
theorem ggL_law_L_push : GoodIn wsL_law wsL_push := goodIn_ca (goodIn_r _ [440, 45, 441, 442, 443, 2, 444, 21, 344, 345, 346, 20, 347, 207, 55, 32, 31, 590, 591, 592, 603, 604] (by decide +kernel) (by decide +kernel)) (goodIn_sub (fun _ h => List.mem_append_left _ (List.mem_append_left _ (List.mem_append_right _ h))) (by decide +kernel))
set_option maxRecDepth 20000 in
theorem gL_law_L_push : GoodIn wsL_law (va_wsS RL 179 yL_push wsL_push) := goodIn_app (goodIn_of _ (by decide +kernel)) ggL_law_L_push
set_option maxRecDepth 20000 in
theorem ggL_law_X3_push : GoodIn wsL_law wsX3_push := goodIn_r _ [448, 449, 349, 350, 5, 351, 191, 38, 61, 62, 63, 64, 65, 593, 594, 595, 596, 597, 598, 599, 600] (by decide +kernel) (by decide +kernel)
set_option maxRecDepth 20000 in
theorem gL_law_X3_push : GoodIn wsL_law (wsV RL 181 RX3 yX3_push wsX3_push) := goodIn_app (goodIn_of _ (by decide +kernel)) ggL_law_X3_push
set_option maxRecDepth 20000 in
theorem ggL_law_L_pop : GoodIn wsL_law wsL_pop := goodIn_ca (goodIn_r _ [452, 85, 453, 454, 455, 2, 456, 21, 405, 406, 407, 20, 408, 409, 371, 372, 373, 374, 95, 32, 31, 410, 411, 412, 413, 590, 591, 592, 603, 604] (by decide +kernel) (by decide +kernel)) (goodIn_sub (fun _ h => List.mem_append_right _ h) (by decide +kernel))
set_option maxRecDepth 20000 in
theorem gL_law_L_pop : GoodIn wsL_law (va_wsS RL 182 yL_pop wsL_pop) := goodIn_app (goodIn_of _ (by decide +kernel)) ggL_law_L_pop
set_option maxRecDepth 20000 in
theorem ggL_law_X3_pop : GoodIn wsL_law wsX3_pop := goodIn_r _ [460, 461, 415, 416, 5, 417, 379, 380, 381, 382, 191, 61, 62, 63, 64, 65, 418, 419, 420, 421, 38, 593, 594, 595, 596, 597, 598, 599, 600] (by decide +kernel) (by decide +kernel)
set_option maxRecDepth 20000 in
theorem gL_law_X3_pop : GoodIn wsL_law (wsV RL 184 RX3 yX3_pop wsX3_pop) := goodIn_app (goodIn_of _ (by decide +kernel)) ggL_law_X3_pop
set_option maxRecDepth 20000 in
theorem ggL_law_X2_removeFirstOccurrence : GoodIn wsL_law wsX2_removeFirstOccurrence := goodIn_r _ [465, 21, 466, 467, 468, 20, 469, 32, 31, 470, 411, 412, 413, 590, 591, 592, 603, 604] (by decide +kernel) (by decide +kernel)
set_option maxRecDepth 20000 in
theorem gL_law_X2_removeFirstOccurrence : GoodIn wsL_law (wsV RL 185 RX2 yX2_removeFirstOccurrence wsX2_removeFirstOccurrence) := goodIn_app (goodIn_of _ (by decide +kernel)) ggL_law_X2_removeFirstOccurrence
set_option maxRecDepth 20000 in
theorem ggL_law_X3_removeFirstOccurrence : GoodIn wsL_law wsX3_removeFirstOccurrence := goodIn_r _ [474, 65, 475, 476, 477, 5, 478, 191, 38, 418, 419, 420, 421, 593, 594, 595, 596, 597, 598, 599, 600] (by decide +kernel) (by decide +kernel)
set_option maxRecDepth 20000 in
theorem gL_law_X3_removeFirstOccurrence : GoodIn wsL_law (wsV RL 188 RX3 yX3_removeFirstOccurrence wsX3_removeFirstOccurrence) := goodIn_app (goodIn_of _ (by decide +kernel)) ggL_law_X3_removeFirstOccurrence
set_option maxRecDepth 20000 in
theorem ggL_law_X2_removeLastOccurrence : GoodIn wsL_law wsX2_removeLastOccurrence := goodIn_r _ [482, 21, 483, 484, 485, 20, 486, 32, 31, 470, 411, 412, 413, 590, 591, 592, 603, 604] (by decide +kernel) (by decide +kernel)
set_option maxRecDepth 20000 in
theorem gL_law_X2_removeLastOccurrence : GoodIn wsL_law (wsV RL 189 RX2 yX2_removeLastOccurrence wsX2_removeLastOccurrence) := goodIn_app (goodIn_of _ (by decide +kernel)) ggL_law_X2_removeLastOccurrence
set_option maxRecDepth 20000 in
theorem ggL_law_X3_removeLastOccurrence : GoodIn wsL_law wsX3_removeLastOccurrence := goodIn_r _ [490, 65, 191, 38, 418, 419, 420, 5, 421, 593, 594, 595, 596, 597, 598, 599, 600] (by decide +kernel) (by decide +kernel)
set_option maxRecDepth 20000 in
theorem gL_law_X3_removeLastOccurrence : GoodIn wsL_law (wsV RL 192 RX3 yX3_removeLastOccurrence wsX3_removeLastOccurrence) := goodIn_app (goodIn_of _ (by decide +kernel)) ggL_law_X3_removeLastOccurrence
set_option maxRecDepth 20000 in
theorem ggL_law_X2_has : GoodIn wsL_law wsX2_has := goodIn_r _ [494, 21, 466, 467, 468, 20, 469, 32, 31, 590, 591, 592, 603, 604] (by decide +kernel) (by decide +kernel)
set_option maxRecDepth 20000 in
theorem gL_law_X2_has : GoodIn wsL_law (wsV RL 193 RX2 yX2_has wsX2_has) := goodIn_app (goodIn_of _ (by decide +kernel)) ggL_law_X2_has
set_option maxRecDepth 20000 in
theorem ggL_law_X3_has : GoodIn wsL_law wsX3_has := goodIn_r _ [498, 65, 475, 476, 477, 5, 478, 191, 38, 593, 594, 595, 596, 597, 598, 599, 600] (by decide +kernel) (by decide +kernel)
set_option maxRecDepth 20000 in
theorem gL_law_X3_has : GoodIn wsL_law (wsV RL 196 RX3 yX3_has wsX3_has) := goodIn_app (goodIn_of _ (by decide +kernel)) ggL_law_X3_has
set_option maxRecDepth 20000 in
theorem ggL_law_X2_length : GoodIn wsL_law wsX2_length := goodIn_r _ [502, 21, 590, 591, 592, 603, 604] (by decide +kernel) (by decide +kernel)
set_option maxRecDepth 20000 in
theorem gL_law_X2_length : GoodIn wsL_law (wsV RL 197 RX2 yX2_length wsX2_length) := goodIn_app (goodIn_of _ (by decide +kernel)) ggL_law_X2_length
set_option maxRecDepth 20000 in
theorem ggL_law_X3_length : GoodIn wsL_law wsX3_length := goodIn_r _ [506, 65, 191, 593, 594, 595, 596, 597, 598, 599, 600] (by decide +kernel) (by decide +kernel)
set_option maxRecDepth 20000 in
theorem gL_law_X3_length : GoodIn wsL_law (wsV RL 200 RX3 yX3_length wsX3_length) := goodIn_app (goodIn_of _ (by decide +kernel)) ggL_law_X3_length
set_option maxRecDepth 20000 in
theorem ggL_law_X2_wipe : GoodIn wsL_law wsX2_wipe := goodIn_r _ [510, 21, 511, 512, 513, 20, 514, 32, 590, 591, 592, 603, 604] (by decide +kernel) (by decide +kernel)
set_option maxRecDepth 20000 in
theorem gL_law_X2_wipe : GoodIn wsL_law (wsV RL 201 RX2 yX2_wipe wsX2_wipe) := goodIn_app (goodIn_of _ (by decide +kernel)) ggL_law_X2_wipe
set_option maxRecDepth 20000 in
theorem ggL_law_X3_wipe : GoodIn wsL_law wsX3_wipe := goodIn_r _ [518, 65, 191, 593, 594, 595, 596, 597, 598, 599, 600] (by decide +kernel) (by decide +kernel)
set_option maxRecDepth 20000 in
theorem gL_law_X3_wipe : GoodIn wsL_law (wsV RL 204 RX3 yX3_wipe wsX3_wipe) := goodIn_app (goodIn_of _ (by decide +kernel)) ggL_law_X3_wipe
set_option maxRecDepth 20000 in
theorem ggL_law_L_at : GoodIn wsL_law wsL_at := goodIn_ca (goodIn_r _ [521, 522, 523, 524, 525, 2, 526, 21, 181, 182, 183, 20, 184, 185, 186, 32, 31, 590, 591, 592, 603, 604] (by decide +kernel) (by decide +kernel)) (goodIn_sub (fun _ h => List.mem_append_left _ (List.mem_append_left _ (List.mem_append_left _ (List.mem_append_right _ h)))) (by decide +kernel))
set_option maxRecDepth 20000 in
theorem gL_law_L_at : GoodIn wsL_law (va_wsS RL 205 yL_at wsL_at) := goodIn_app (goodIn_of _ (by decide +kernel)) ggL_law_L_at
set_option maxRecDepth 20000 in
theorem ggL_law_X3_at : GoodIn wsL_law wsX3_at := goodIn_r _ [530, 38, 531, 532, 533, 5, 534, 191, 61, 62, 63, 64, 65, 593, 594, 595, 596, 597, 598, 599, 600] (by decide +kernel) (by decide +kernel)
set_option maxRecDepth 20000 in
theorem gL_law_X3_at : GoodIn wsL_law (wsV RL 207 RX3 yX3_at wsX3_at) := goodIn_app (goodIn_of _ (by decide +kernel)) ggL_law_X3_at
set_option maxRecDepth 20000 in
theorem ggL_law_L_back : GoodIn wsL_law wsL_back := goodIn_ca (goodIn_r _ [537, 522, 538, 539, 540, 2, 541, 21, 542, 543, 544, 20, 545, 185, 186, 32, 31, 590, 591, 592, 603, 604] (by decide +kernel) (by decide +kernel)) (goodIn_sub (fun _ h => List.mem_append_left _ (List.mem_append_left _ (List.mem_append_left _ (List.mem_append_right _ h)))) (by decide +kernel))
set_option maxRecDepth 20000 in
theorem gL_law_L_back : GoodIn wsL_law (va_wsS RL 208 yL_back wsL_back) := goodIn_app (goodIn_of _ (by decide +kernel)) ggL_law_L_back
set_option maxRecDepth 20000 in
theorem ggL_law_X3_back : GoodIn wsL_law wsX3_back := goodIn_r _ [549, 38, 191, 531, 532, 533, 5, 534, 61, 62, 63, 64, 65, 593, 594, 595, 596, 597, 598, 599, 600] (by decide +kernel) (by decide +kernel)
set_option maxRecDepth 20000 in
theorem gL_law_X3_back : GoodIn wsL_law (wsV RL 210 RX3 yX3_back wsX3_back) := goodIn_app (goodIn_of _ (by decide +kernel)) ggL_law_X3_back
set_option maxRecDepth 20000 in
theorem ggL_law_X2_dropLike : GoodIn wsL_law wsX2_dropLike := goodIn_r _ [553, 21, 554, 555, 556, 20, 557, 32, 31, 590, 591, 592, 603, 604] (by decide +kernel) (by decide +kernel)
set_option maxRecDepth 20000 in
theorem gL_law_X2_dropLike : GoodIn wsL_law (wsV RL 211 RX2 yX2_dropLike wsX2_dropLike) := goodIn_app (goodIn_of _ (by decide +kernel)) ggL_law_X2_dropLike
set_option maxRecDepth 20000 in
theorem ggL_law_X3_dropLike : GoodIn wsL_law wsX3_dropLike := goodIn_r _ [561, 65, 191, 475, 476, 477, 5, 478, 38, 418, 419, 420, 421, 593, 594, 595, 596, 597, 598, 599, 600] (by decide +kernel) (by decide +kernel)
set_option maxRecDepth 20000 in
theorem gL_law_X3_dropLike : GoodIn wsL_law (wsV RL 214 RX3 yX3_dropLike wsX3_dropLike) := goodIn_app (goodIn_of _ (by decide +kernel)) ggL_law_X3_dropLike
set_option maxRecDepth 20000 in
theorem ggL_law_X2_walk : GoodIn wsL_law wsX2_walk := goodIn_r _ [565, 21, 566, 567, 568, 20, 569, 570, 32, 571, 31, 590, 591, 592, 603, 604] (by decide +kernel) (by decide +kernel)
set_option maxRecDepth 20000 in
theorem gL_law_X2_walk : GoodIn wsL_law (wsV RL 215 RX2 yX2_walk wsX2_walk) := goodIn_app (goodIn_of _ (by decide +kernel)) ggL_law_X2_walk
set_option maxRecDepth 20000 in
theorem ggL_law_X3_walk : GoodIn wsL_law wsX3_walk := goodIn_r _ [575, 65, 576, 191, 577, 38, 593, 594, 595, 596, 597, 598, 599, 600] (by decide +kernel) (by decide +kernel)
set_option maxRecDepth 20000 in
theorem gL_law_X3_walk : GoodIn wsL_law (wsV RL 218 RX3 yX3_walk wsX3_walk) := goodIn_app (goodIn_of _ (by decide +kernel)) ggL_law_X3_walk
set_option maxRecDepth 20000 in
theorem ggL_law_X2_walkBack : GoodIn wsL_law wsX2_walkBack := goodIn_r _ [581, 21, 582, 583, 584, 20, 585, 570, 32, 571, 31, 590, 591, 592, 603, 604] (by decide +kernel) (by decide +kernel)
set_option maxRecDepth 20000 in
theorem gL_law_X2_walkBack : GoodIn wsL_law (wsV RL 219 RX2 yX2_walkBack wsX2_walkBack) := goodIn_app (goodIn_of _ (by decide +kernel)) ggL_law_X2_walkBack
set_option maxRecDepth 20000 in
theorem ggL_law_X3_walkBack : GoodIn wsL_law wsX3_walkBack := goodIn_r _ [589, 65, 576, 191, 577, 38, 593, 594, 595, 596, 597, 598, 599, 600] (by decide +kernel) (by decide +kernel)
set_option maxRecDepth 20000 in
theorem gL_law_X3_walkBack : GoodIn wsL_law (wsV RL 222 RX3 yX3_walkBack wsX3_walkBack) := goodIn_app (goodIn_of _ (by decide +kernel)) ggL_law_X3_walkBack
theorem dL_law_0 : decode cL_law 0 = .ok (.new 8, 3) := by decide +kernel
theorem dL_law_3 : decode cL_law 3 = .ok (.dup, 1) := by decide +kernel
theorem dL_law_4 : decode cL_law 4 = .ok (.invokespecial 88, 3) := by decide +kernel
theorem dL_law_7 : decode cL_law 7 = .ok (.astore_n 1, 1) := by decide +kernel
theorem dL_law_8 : decode cL_law 8 = .ok (.new 89, 3) := by decide +kernel
theorem dL_law_11 : decode cL_law 11 = .ok (.dup, 1) := by decide +kernel
theorem dL_law_12 : decode cL_law 12 = .ok (.invokespecial 91, 3) := by decide +kernel
theorem dL_law_15 : decode cL_law 15 = .ok (.astore_n 2, 1) := by decide +kernel
theorem dL_law_16 : decode cL_law 16 = .ok (.iconst 1, 1) := by decide +kernel
theorem dL_law_17 : decode cL_law 17 = .ok (.newarray .long, 2) := by decide +kernel
theorem dL_law_19 : decode cL_law 19 = .ok (.astore_n 3, 1) := by decide +kernel
theorem dL_law_20 : decode cL_law 20 = .ok (.iconst 0, 1) := by decide +kernel
theorem dL_law_21 : decode cL_law 21 = .ok (.istore 4, 2) := by decide +kernel
theorem dL_law_23 : decode cL_law 23 = .ok (.iload 4, 2) := by decide +kernel
theorem dL_law_25 : decode cL_law 25 = .ok (.aload_n 0, 1) := by decide +kernel
theorem dL_law_26 : decode cL_law 26 = .ok (.arraylength, 1) := by decide +kernel
theorem dL_law_27 : decode cL_law 27 = .ok (.iconst 3, 1) := by decide +kernel
theorem dL_law_28 : decode cL_law 28 = .ok (.isub, 1) := by decide +kernel
theorem dL_law_29 : decode cL_law 29 = .ok (.if_icmp .gt 1565, 3) := by decide +kernel
theorem dL_law_32 : decode cL_law 32 = .ok (.aload_n 0, 1) := by decide +kernel
theorem dL_law_33 : decode cL_law 33 = .ok (.iload 4, 2) := by decide +kernel
theorem dL_law_35 : decode cL_law 35 = .ok (.iaload, 1) := by decide +kernel
theorem dL_law_36 : decode cL_law 36 = .ok (.bipush 63, 2) := by decide +kernel
theorem dL_law_38 : decode cL_law 38 = .ok (.iand, 1) := by decide +kernel
theorem dL_law_39 : decode cL_law 39 = .ok (.tableswitch 1549 0 35 #[157, 213, 269, 313, 357, 382, 407, 420, 433, 477, 521, 589, 632, 675, 750, 825, 838, 851, 895, 951, 1007, 1051, 1095, 1139, 1183, 1239, 1283, 1308, 1333, 1358, 1371, 1384, 1440, 1496, 1521, 1535], 157) := by decide +kernel
theorem dL_law_196 : decode cL_law 196 = .ok (.aload_n 1, 1) := by decide +kernel
theorem dL_law_197 : decode cL_law 197 = .ok (.aload_n 0, 1) := by decide +kernel
theorem dL_law_198 : decode cL_law 198 = .ok (.iload 4, 2) := by decide +kernel
theorem dL_law_200 : decode cL_law 200 = .ok (.iconst 1, 1) := by decide +kernel
theorem dL_law_201 : decode cL_law 201 = .ok (.iadd, 1) := by decide +kernel
theorem dL_law_202 : decode cL_law 202 = .ok (.iaload, 1) := by decide +kernel
theorem dL_law_203 : decode cL_law 203 = .ok (.aload_n 3, 1) := by decide +kernel
theorem dL_law_204 : decode cL_law 204 = .ok (.invokestatic 92, 3) := by decide +kernel
theorem dL_law_207 : decode cL_law 207 = .ok (.istore 5, 2) := by decide +kernel
theorem dL_law_209 : decode cL_law 209 = .ok (.aload_n 2, 1) := by decide +kernel
theorem dL_law_210 : decode cL_law 210 = .ok (.aload_n 0, 1) := by decide +kernel
theorem dL_law_211 : decode cL_law 211 = .ok (.iload 4, 2) := by decide +kernel
theorem dL_law_213 : decode cL_law 213 = .ok (.iconst 1, 1) := by decide +kernel
theorem dL_law_214 : decode cL_law 214 = .ok (.iadd, 1) := by decide +kernel
theorem dL_law_215 : decode cL_law 215 = .ok (.iaload, 1) := by decide +kernel
theorem dL_law_216 : decode cL_law 216 = .ok (.invokevirtual 97, 3) := by decide +kernel
theorem dL_law_219 : decode cL_law 219 = .ok (.istore 6, 2) := by decide +kernel
theorem dL_law_221 : decode cL_law 221 = .ok (.aload_n 2, 1) := by decide +kernel
theorem dL_law_222 : decode cL_law 222 = .ok (.invokevirtual 98, 3) := by decide +kernel
theorem dL_law_225 : decode cL_law 225 = .ok (.iload 5, 2) := by decide +kernel
theorem dL_law_227 : decode cL_law 227 = .ok (.if_icmp .eq 5, 3) := by decide +kernel
theorem dL_law_230 : decode cL_law 230 = .ok (.iconst 0, 1) := by decide +kernel
theorem dL_law_231 : decode cL_law 231 = .ok (.ireturn, 1) := by decide +kernel
theorem dL_law_232 : decode cL_law 232 = .ok (.iload 5, 2) := by decide +kernel
theorem dL_law_234 : decode cL_law 234 = .ok (.ifCond .ne 15, 3) := by decide +kernel
theorem dL_law_237 : decode cL_law 237 = .ok (.aload_n 3, 1) := by decide +kernel
theorem dL_law_238 : decode cL_law 238 = .ok (.iconst 0, 1) := by decide +kernel
theorem dL_law_239 : decode cL_law 239 = .ok (.laload, 1) := by decide +kernel
theorem dL_law_240 : decode cL_law 240 = .ok (.iload 6, 2) := by decide +kernel
theorem dL_law_242 : decode cL_law 242 = .ok (.i2l, 1) := by decide +kernel
theorem dL_law_243 : decode cL_law 243 = .ok (.lcmp, 1) := by decide +kernel
theorem dL_law_244 : decode cL_law 244 = .ok (.ifCond .eq 5, 3) := by decide +kernel
theorem dL_law_247 : decode cL_law 247 = .ok (.iconst 0, 1) := by decide +kernel
theorem dL_law_248 : decode cL_law 248 = .ok (.ireturn, 1) := by decide +kernel
theorem dL_law_249 : decode cL_law 249 = .ok (.goto 1339, 3) := by decide +kernel
theorem dL_law_252 : decode cL_law 252 = .ok (.aload_n 1, 1) := by decide +kernel
theorem dL_law_253 : decode cL_law 253 = .ok (.aload_n 0, 1) := by decide +kernel
theorem dL_law_254 : decode cL_law 254 = .ok (.iload 4, 2) := by decide +kernel
theorem dL_law_256 : decode cL_law 256 = .ok (.iconst 1, 1) := by decide +kernel
theorem dL_law_257 : decode cL_law 257 = .ok (.iadd, 1) := by decide +kernel
theorem dL_law_258 : decode cL_law 258 = .ok (.iaload, 1) := by decide +kernel
theorem dL_law_259 : decode cL_law 259 = .ok (.aload_n 3, 1) := by decide +kernel
theorem dL_law_260 : decode cL_law 260 = .ok (.invokestatic 101, 3) := by decide +kernel
theorem dL_law_263 : decode cL_law 263 = .ok (.istore 5, 2) := by decide +kernel
theorem dL_law_265 : decode cL_law 265 = .ok (.aload_n 2, 1) := by decide +kernel
theorem dL_law_266 : decode cL_law 266 = .ok (.aload_n 0, 1) := by decide +kernel
theorem dL_law_267 : decode cL_law 267 = .ok (.iload 4, 2) := by decide +kernel
theorem dL_law_269 : decode cL_law 269 = .ok (.iconst 1, 1) := by decide +kernel
theorem dL_law_270 : decode cL_law 270 = .ok (.iadd, 1) := by decide +kernel
theorem dL_law_271 : decode cL_law 271 = .ok (.iaload, 1) := by decide +kernel
theorem dL_law_272 : decode cL_law 272 = .ok (.invokevirtual 103, 3) := by decide +kernel
theorem dL_law_275 : decode cL_law 275 = .ok (.istore 6, 2) := by decide +kernel
theorem dL_law_277 : decode cL_law 277 = .ok (.aload_n 2, 1) := by decide +kernel
theorem dL_law_278 : decode cL_law 278 = .ok (.invokevirtual 98, 3) := by decide +kernel
theorem dL_law_281 : decode cL_law 281 = .ok (.iload 5, 2) := by decide +kernel
theorem dL_law_283 : decode cL_law 283 = .ok (.if_icmp .eq 5, 3) := by decide +kernel
theorem dL_law_286 : decode cL_law 286 = .ok (.iconst 0, 1) := by decide +kernel
theorem dL_law_287 : decode cL_law 287 = .ok (.ireturn, 1) := by decide +kernel
theorem dL_law_288 : decode cL_law 288 = .ok (.iload 5, 2) := by decide +kernel
theorem dL_law_290 : decode cL_law 290 = .ok (.ifCond .ne 15, 3) := by decide +kernel
theorem dL_law_293 : decode cL_law 293 = .ok (.aload_n 3, 1) := by decide +kernel
theorem dL_law_294 : decode cL_law 294 = .ok (.iconst 0, 1) := by decide +kernel
theorem dL_law_295 : decode cL_law 295 = .ok (.laload, 1) := by decide +kernel
theorem dL_law_296 : decode cL_law 296 = .ok (.iload 6, 2) := by decide +kernel
theorem dL_law_298 : decode cL_law 298 = .ok (.i2l, 1) := by decide +kernel
theorem dL_law_299 : decode cL_law 299 = .ok (.lcmp, 1) := by decide +kernel
theorem dL_law_300 : decode cL_law 300 = .ok (.ifCond .eq 5, 3) := by decide +kernel
theorem dL_law_303 : decode cL_law 303 = .ok (.iconst 0, 1) := by decide +kernel
theorem dL_law_304 : decode cL_law 304 = .ok (.ireturn, 1) := by decide +kernel
theorem dL_law_305 : decode cL_law 305 = .ok (.goto 1283, 3) := by decide +kernel
theorem dL_law_308 : decode cL_law 308 = .ok (.aload_n 1, 1) := by decide +kernel
theorem dL_law_309 : decode cL_law 309 = .ok (.aload_n 3, 1) := by decide +kernel
theorem dL_law_310 : decode cL_law 310 = .ok (.invokestatic 104, 3) := by decide +kernel
theorem dL_law_313 : decode cL_law 313 = .ok (.istore 5, 2) := by decide +kernel
theorem dL_law_315 : decode cL_law 315 = .ok (.aload_n 2, 1) := by decide +kernel
theorem dL_law_316 : decode cL_law 316 = .ok (.invokevirtual 107, 3) := by decide +kernel
theorem dL_law_319 : decode cL_law 319 = .ok (.istore 6, 2) := by decide +kernel
theorem dL_law_321 : decode cL_law 321 = .ok (.aload_n 2, 1) := by decide +kernel
theorem dL_law_322 : decode cL_law 322 = .ok (.invokevirtual 98, 3) := by decide +kernel
theorem dL_law_325 : decode cL_law 325 = .ok (.iload 5, 2) := by decide +kernel
theorem dL_law_327 : decode cL_law 327 = .ok (.if_icmp .eq 5, 3) := by decide +kernel
theorem dL_law_330 : decode cL_law 330 = .ok (.iconst 0, 1) := by decide +kernel
theorem dL_law_331 : decode cL_law 331 = .ok (.ireturn, 1) := by decide +kernel
theorem dL_law_332 : decode cL_law 332 = .ok (.iload 5, 2) := by decide +kernel
theorem dL_law_334 : decode cL_law 334 = .ok (.ifCond .ne 15, 3) := by decide +kernel
theorem dL_law_337 : decode cL_law 337 = .ok (.aload_n 3, 1) := by decide +kernel
theorem dL_law_338 : decode cL_law 338 = .ok (.iconst 0, 1) := by decide +kernel
theorem dL_law_339 : decode cL_law 339 = .ok (.laload, 1) := by decide +kernel
theorem dL_law_340 : decode cL_law 340 = .ok (.iload 6, 2) := by decide +kernel
theorem dL_law_342 : decode cL_law 342 = .ok (.i2l, 1) := by decide +kernel
theorem dL_law_343 : decode cL_law 343 = .ok (.lcmp, 1) := by decide +kernel
theorem dL_law_344 : decode cL_law 344 = .ok (.ifCond .eq 5, 3) := by decide +kernel
theorem dL_law_347 : decode cL_law 347 = .ok (.iconst 0, 1) := by decide +kernel
theorem dL_law_348 : decode cL_law 348 = .ok (.ireturn, 1) := by decide +kernel
theorem dL_law_349 : decode cL_law 349 = .ok (.goto 1239, 3) := by decide +kernel
theorem dL_law_352 : decode cL_law 352 = .ok (.aload_n 1, 1) := by decide +kernel
theorem dL_law_353 : decode cL_law 353 = .ok (.aload_n 3, 1) := by decide +kernel
theorem dL_law_354 : decode cL_law 354 = .ok (.invokestatic 108, 3) := by decide +kernel
theorem dL_law_357 : decode cL_law 357 = .ok (.istore 5, 2) := by decide +kernel
theorem dL_law_359 : decode cL_law 359 = .ok (.aload_n 2, 1) := by decide +kernel
theorem dL_law_360 : decode cL_law 360 = .ok (.invokevirtual 110, 3) := by decide +kernel
theorem dL_law_363 : decode cL_law 363 = .ok (.istore 6, 2) := by decide +kernel
theorem dL_law_365 : decode cL_law 365 = .ok (.aload_n 2, 1) := by decide +kernel
theorem dL_law_366 : decode cL_law 366 = .ok (.invokevirtual 98, 3) := by decide +kernel
theorem dL_law_369 : decode cL_law 369 = .ok (.iload 5, 2) := by decide +kernel
theorem dL_law_371 : decode cL_law 371 = .ok (.if_icmp .eq 5, 3) := by decide +kernel
theorem dL_law_374 : decode cL_law 374 = .ok (.iconst 0, 1) := by decide +kernel
theorem dL_law_375 : decode cL_law 375 = .ok (.ireturn, 1) := by decide +kernel
theorem dL_law_376 : decode cL_law 376 = .ok (.iload 5, 2) := by decide +kernel
theorem dL_law_378 : decode cL_law 378 = .ok (.ifCond .ne 15, 3) := by decide +kernel
theorem dL_law_381 : decode cL_law 381 = .ok (.aload_n 3, 1) := by decide +kernel
theorem dL_law_382 : decode cL_law 382 = .ok (.iconst 0, 1) := by decide +kernel
theorem dL_law_383 : decode cL_law 383 = .ok (.laload, 1) := by decide +kernel
theorem dL_law_384 : decode cL_law 384 = .ok (.iload 6, 2) := by decide +kernel
theorem dL_law_386 : decode cL_law 386 = .ok (.i2l, 1) := by decide +kernel
theorem dL_law_387 : decode cL_law 387 = .ok (.lcmp, 1) := by decide +kernel
theorem dL_law_388 : decode cL_law 388 = .ok (.ifCond .eq 5, 3) := by decide +kernel
theorem dL_law_391 : decode cL_law 391 = .ok (.iconst 0, 1) := by decide +kernel
theorem dL_law_392 : decode cL_law 392 = .ok (.ireturn, 1) := by decide +kernel
theorem dL_law_393 : decode cL_law 393 = .ok (.goto 1195, 3) := by decide +kernel
theorem dL_law_396 : decode cL_law 396 = .ok (.aload_n 1, 1) := by decide +kernel
theorem dL_law_397 : decode cL_law 397 = .ok (.aload_n 0, 1) := by decide +kernel
theorem dL_law_398 : decode cL_law 398 = .ok (.iload 4, 2) := by decide +kernel
theorem dL_law_400 : decode cL_law 400 = .ok (.iconst 1, 1) := by decide +kernel
theorem dL_law_401 : decode cL_law 401 = .ok (.iadd, 1) := by decide +kernel
theorem dL_law_402 : decode cL_law 402 = .ok (.iaload, 1) := by decide +kernel
theorem dL_law_403 : decode cL_law 403 = .ok (.invokevirtual 111, 3) := by decide +kernel
theorem dL_law_406 : decode cL_law 406 = .ok (.aload_n 2, 1) := by decide +kernel
theorem dL_law_407 : decode cL_law 407 = .ok (.aload_n 0, 1) := by decide +kernel
theorem dL_law_408 : decode cL_law 408 = .ok (.iload 4, 2) := by decide +kernel
theorem dL_law_410 : decode cL_law 410 = .ok (.iconst 1, 1) := by decide +kernel
theorem dL_law_411 : decode cL_law 411 = .ok (.iadd, 1) := by decide +kernel
theorem dL_law_412 : decode cL_law 412 = .ok (.iaload, 1) := by decide +kernel
theorem dL_law_413 : decode cL_law 413 = .ok (.invokevirtual 115, 3) := by decide +kernel
theorem dL_law_416 : decode cL_law 416 = .ok (.if_icmp .eq 1172, 3) := by decide +kernel
theorem dL_law_419 : decode cL_law 419 = .ok (.iconst 0, 1) := by decide +kernel
theorem dL_law_420 : decode cL_law 420 = .ok (.ireturn, 1) := by decide +kernel
theorem dL_law_421 : decode cL_law 421 = .ok (.aload_n 1, 1) := by decide +kernel
theorem dL_law_422 : decode cL_law 422 = .ok (.aload_n 0, 1) := by decide +kernel
theorem dL_law_423 : decode cL_law 423 = .ok (.iload 4, 2) := by decide +kernel
theorem dL_law_425 : decode cL_law 425 = .ok (.iconst 1, 1) := by decide +kernel
theorem dL_law_426 : decode cL_law 426 = .ok (.iadd, 1) := by decide +kernel
theorem dL_law_427 : decode cL_law 427 = .ok (.iaload, 1) := by decide +kernel
theorem dL_law_428 : decode cL_law 428 = .ok (.invokevirtual 116, 3) := by decide +kernel
theorem dL_law_431 : decode cL_law 431 = .ok (.aload_n 2, 1) := by decide +kernel
theorem dL_law_432 : decode cL_law 432 = .ok (.aload_n 0, 1) := by decide +kernel
theorem dL_law_433 : decode cL_law 433 = .ok (.iload 4, 2) := by decide +kernel
theorem dL_law_435 : decode cL_law 435 = .ok (.iconst 1, 1) := by decide +kernel
theorem dL_law_436 : decode cL_law 436 = .ok (.iadd, 1) := by decide +kernel
theorem dL_law_437 : decode cL_law 437 = .ok (.iaload, 1) := by decide +kernel
theorem dL_law_438 : decode cL_law 438 = .ok (.invokevirtual 119, 3) := by decide +kernel
theorem dL_law_441 : decode cL_law 441 = .ok (.if_icmp .eq 1147, 3) := by decide +kernel
theorem dL_law_444 : decode cL_law 444 = .ok (.iconst 0, 1) := by decide +kernel
theorem dL_law_445 : decode cL_law 445 = .ok (.ireturn, 1) := by decide +kernel
theorem dL_law_446 : decode cL_law 446 = .ok (.aload_n 1, 1) := by decide +kernel
theorem dL_law_447 : decode cL_law 447 = .ok (.invokevirtual 120, 3) := by decide +kernel
theorem dL_law_450 : decode cL_law 450 = .ok (.aload_n 2, 1) := by decide +kernel
theorem dL_law_451 : decode cL_law 451 = .ok (.invokevirtual 123, 3) := by decide +kernel
theorem dL_law_454 : decode cL_law 454 = .ok (.if_icmp .eq 1134, 3) := by decide +kernel
theorem dL_law_457 : decode cL_law 457 = .ok (.iconst 0, 1) := by decide +kernel
theorem dL_law_458 : decode cL_law 458 = .ok (.ireturn, 1) := by decide +kernel
theorem dL_law_459 : decode cL_law 459 = .ok (.aload_n 1, 1) := by decide +kernel
theorem dL_law_460 : decode cL_law 460 = .ok (.invokevirtual 124, 3) := by decide +kernel
theorem dL_law_463 : decode cL_law 463 = .ok (.aload_n 2, 1) := by decide +kernel
theorem dL_law_464 : decode cL_law 464 = .ok (.invokevirtual 127, 3) := by decide +kernel
theorem dL_law_467 : decode cL_law 467 = .ok (.if_icmp .eq 1121, 3) := by decide +kernel
theorem dL_law_470 : decode cL_law 470 = .ok (.iconst 0, 1) := by decide +kernel
theorem dL_law_471 : decode cL_law 471 = .ok (.ireturn, 1) := by decide +kernel
theorem dL_law_472 : decode cL_law 472 = .ok (.aload_n 1, 1) := by decide +kernel
theorem dL_law_473 : decode cL_law 473 = .ok (.aload_n 3, 1) := by decide +kernel
theorem dL_law_474 : decode cL_law 474 = .ok (.invokestatic 128, 3) := by decide +kernel
theorem dL_law_477 : decode cL_law 477 = .ok (.istore 5, 2) := by decide +kernel
theorem dL_law_479 : decode cL_law 479 = .ok (.aload_n 2, 1) := by decide +kernel
theorem dL_law_480 : decode cL_law 480 = .ok (.invokevirtual 130, 3) := by decide +kernel
theorem dL_law_483 : decode cL_law 483 = .ok (.istore 6, 2) := by decide +kernel
theorem dL_law_485 : decode cL_law 485 = .ok (.aload_n 2, 1) := by decide +kernel
theorem dL_law_486 : decode cL_law 486 = .ok (.invokevirtual 98, 3) := by decide +kernel
theorem dL_law_489 : decode cL_law 489 = .ok (.iload 5, 2) := by decide +kernel
theorem dL_law_491 : decode cL_law 491 = .ok (.if_icmp .eq 5, 3) := by decide +kernel
theorem dL_law_494 : decode cL_law 494 = .ok (.iconst 0, 1) := by decide +kernel
theorem dL_law_495 : decode cL_law 495 = .ok (.ireturn, 1) := by decide +kernel
theorem dL_law_496 : decode cL_law 496 = .ok (.iload 5, 2) := by decide +kernel
theorem dL_law_498 : decode cL_law 498 = .ok (.ifCond .ne 15, 3) := by decide +kernel
theorem dL_law_501 : decode cL_law 501 = .ok (.aload_n 3, 1) := by decide +kernel
theorem dL_law_502 : decode cL_law 502 = .ok (.iconst 0, 1) := by decide +kernel
theorem dL_law_503 : decode cL_law 503 = .ok (.laload, 1) := by decide +kernel
theorem dL_law_504 : decode cL_law 504 = .ok (.iload 6, 2) := by decide +kernel
theorem dL_law_506 : decode cL_law 506 = .ok (.i2l, 1) := by decide +kernel
theorem dL_law_507 : decode cL_law 507 = .ok (.lcmp, 1) := by decide +kernel
theorem dL_law_508 : decode cL_law 508 = .ok (.ifCond .eq 5, 3) := by decide +kernel
theorem dL_law_511 : decode cL_law 511 = .ok (.iconst 0, 1) := by decide +kernel
theorem dL_law_512 : decode cL_law 512 = .ok (.ireturn, 1) := by decide +kernel
theorem dL_law_513 : decode cL_law 513 = .ok (.goto 1075, 3) := by decide +kernel
theorem dL_law_516 : decode cL_law 516 = .ok (.aload_n 1, 1) := by decide +kernel
theorem dL_law_517 : decode cL_law 517 = .ok (.aload_n 3, 1) := by decide +kernel
theorem dL_law_518 : decode cL_law 518 = .ok (.invokestatic 131, 3) := by decide +kernel
theorem dL_law_521 : decode cL_law 521 = .ok (.istore 5, 2) := by decide +kernel
theorem dL_law_523 : decode cL_law 523 = .ok (.aload_n 2, 1) := by decide +kernel
theorem dL_law_524 : decode cL_law 524 = .ok (.invokevirtual 133, 3) := by decide +kernel
theorem dL_law_527 : decode cL_law 527 = .ok (.istore 6, 2) := by decide +kernel
theorem dL_law_529 : decode cL_law 529 = .ok (.aload_n 2, 1) := by decide +kernel
theorem dL_law_530 : decode cL_law 530 = .ok (.invokevirtual 98, 3) := by decide +kernel
theorem dL_law_533 : decode cL_law 533 = .ok (.iload 5, 2) := by decide +kernel
theorem dL_law_535 : decode cL_law 535 = .ok (.if_icmp .eq 5, 3) := by decide +kernel
theorem dL_law_538 : decode cL_law 538 = .ok (.iconst 0, 1) := by decide +kernel
theorem dL_law_539 : decode cL_law 539 = .ok (.ireturn, 1) := by decide +kernel
theorem dL_law_540 : decode cL_law 540 = .ok (.iload 5, 2) := by decide +kernel
theorem dL_law_542 : decode cL_law 542 = .ok (.ifCond .ne 15, 3) := by decide +kernel
theorem dL_law_545 : decode cL_law 545 = .ok (.aload_n 3, 1) := by decide +kernel
theorem dL_law_546 : decode cL_law 546 = .ok (.iconst 0, 1) := by decide +kernel
theorem dL_law_547 : decode cL_law 547 = .ok (.laload, 1) := by decide +kernel
theorem dL_law_548 : decode cL_law 548 = .ok (.iload 6, 2) := by decide +kernel
theorem dL_law_550 : decode cL_law 550 = .ok (.i2l, 1) := by decide +kernel
theorem dL_law_551 : decode cL_law 551 = .ok (.lcmp, 1) := by decide +kernel
theorem dL_law_552 : decode cL_law 552 = .ok (.ifCond .eq 5, 3) := by decide +kernel
theorem dL_law_555 : decode cL_law 555 = .ok (.iconst 0, 1) := by decide +kernel
theorem dL_law_556 : decode cL_law 556 = .ok (.ireturn, 1) := by decide +kernel
theorem dL_law_557 : decode cL_law 557 = .ok (.goto 1031, 3) := by decide +kernel
theorem dL_law_560 : decode cL_law 560 = .ok (.aload_n 1, 1) := by decide +kernel
theorem dL_law_561 : decode cL_law 561 = .ok (.aload_n 0, 1) := by decide +kernel
theorem dL_law_562 : decode cL_law 562 = .ok (.iload 4, 2) := by decide +kernel
theorem dL_law_564 : decode cL_law 564 = .ok (.iconst 1, 1) := by decide +kernel
theorem dL_law_565 : decode cL_law 565 = .ok (.iadd, 1) := by decide +kernel
theorem dL_law_566 : decode cL_law 566 = .ok (.iaload, 1) := by decide +kernel
theorem dL_law_567 : decode cL_law 567 = .ok (.aload_n 0, 1) := by decide +kernel
theorem dL_law_568 : decode cL_law 568 = .ok (.iload 4, 2) := by decide +kernel
theorem dL_law_570 : decode cL_law 570 = .ok (.iconst 2, 1) := by decide +kernel
theorem dL_law_571 : decode cL_law 571 = .ok (.iadd, 1) := by decide +kernel
theorem dL_law_572 : decode cL_law 572 = .ok (.iaload, 1) := by decide +kernel
theorem dL_law_573 : decode cL_law 573 = .ok (.aload_n 3, 1) := by decide +kernel
theorem dL_law_574 : decode cL_law 574 = .ok (.invokestatic 134, 3) := by decide +kernel
theorem dL_law_577 : decode cL_law 577 = .ok (.istore 5, 2) := by decide +kernel
theorem dL_law_579 : decode cL_law 579 = .ok (.aload_n 2, 1) := by decide +kernel
theorem dL_law_580 : decode cL_law 580 = .ok (.aload_n 0, 1) := by decide +kernel
theorem dL_law_581 : decode cL_law 581 = .ok (.iload 4, 2) := by decide +kernel
theorem dL_law_583 : decode cL_law 583 = .ok (.iconst 1, 1) := by decide +kernel
theorem dL_law_584 : decode cL_law 584 = .ok (.iadd, 1) := by decide +kernel
theorem dL_law_585 : decode cL_law 585 = .ok (.iaload, 1) := by decide +kernel
theorem dL_law_586 : decode cL_law 586 = .ok (.aload_n 0, 1) := by decide +kernel
theorem dL_law_587 : decode cL_law 587 = .ok (.iload 4, 2) := by decide +kernel
theorem dL_law_589 : decode cL_law 589 = .ok (.iconst 2, 1) := by decide +kernel
theorem dL_law_590 : decode cL_law 590 = .ok (.iadd, 1) := by decide +kernel
theorem dL_law_591 : decode cL_law 591 = .ok (.iaload, 1) := by decide +kernel
theorem dL_law_592 : decode cL_law 592 = .ok (.invokevirtual 137, 3) := by decide +kernel
theorem dL_law_595 : decode cL_law 595 = .ok (.istore 6, 2) := by decide +kernel
theorem dL_law_597 : decode cL_law 597 = .ok (.aload_n 2, 1) := by decide +kernel
theorem dL_law_598 : decode cL_law 598 = .ok (.invokevirtual 98, 3) := by decide +kernel
theorem dL_law_601 : decode cL_law 601 = .ok (.iload 5, 2) := by decide +kernel
theorem dL_law_603 : decode cL_law 603 = .ok (.if_icmp .eq 5, 3) := by decide +kernel
theorem dL_law_606 : decode cL_law 606 = .ok (.iconst 0, 1) := by decide +kernel
theorem dL_law_607 : decode cL_law 607 = .ok (.ireturn, 1) := by decide +kernel
theorem dL_law_608 : decode cL_law 608 = .ok (.iload 5, 2) := by decide +kernel
theorem dL_law_610 : decode cL_law 610 = .ok (.ifCond .ne 15, 3) := by decide +kernel
theorem dL_law_613 : decode cL_law 613 = .ok (.aload_n 3, 1) := by decide +kernel
theorem dL_law_614 : decode cL_law 614 = .ok (.iconst 0, 1) := by decide +kernel
theorem dL_law_615 : decode cL_law 615 = .ok (.laload, 1) := by decide +kernel
theorem dL_law_616 : decode cL_law 616 = .ok (.iload 6, 2) := by decide +kernel
theorem dL_law_618 : decode cL_law 618 = .ok (.i2l, 1) := by decide +kernel
theorem dL_law_619 : decode cL_law 619 = .ok (.lcmp, 1) := by decide +kernel
theorem dL_law_620 : decode cL_law 620 = .ok (.ifCond .eq 5, 3) := by decide +kernel
theorem dL_law_623 : decode cL_law 623 = .ok (.iconst 0, 1) := by decide +kernel
theorem dL_law_624 : decode cL_law 624 = .ok (.ireturn, 1) := by decide +kernel
theorem dL_law_625 : decode cL_law 625 = .ok (.goto 963, 3) := by decide +kernel
theorem dL_law_628 : decode cL_law 628 = .ok (.aload_n 1, 1) := by decide +kernel
theorem dL_law_629 : decode cL_law 629 = .ok (.aload_n 3, 1) := by decide +kernel
theorem dL_law_630 : decode cL_law 630 = .ok (.invokestatic 138, 3) := by decide +kernel
theorem dL_law_633 : decode cL_law 633 = .ok (.istore 5, 2) := by decide +kernel
theorem dL_law_635 : decode cL_law 635 = .ok (.aload_n 2, 1) := by decide +kernel
theorem dL_law_636 : decode cL_law 636 = .ok (.invokevirtual 140, 3) := by decide +kernel
theorem dL_law_639 : decode cL_law 639 = .ok (.lstore 6, 2) := by decide +kernel
theorem dL_law_641 : decode cL_law 641 = .ok (.aload_n 2, 1) := by decide +kernel
theorem dL_law_642 : decode cL_law 642 = .ok (.invokevirtual 98, 3) := by decide +kernel
theorem dL_law_645 : decode cL_law 645 = .ok (.iload 5, 2) := by decide +kernel
theorem dL_law_647 : decode cL_law 647 = .ok (.if_icmp .eq 5, 3) := by decide +kernel
theorem dL_law_650 : decode cL_law 650 = .ok (.iconst 0, 1) := by decide +kernel
theorem dL_law_651 : decode cL_law 651 = .ok (.ireturn, 1) := by decide +kernel
theorem dL_law_652 : decode cL_law 652 = .ok (.iload 5, 2) := by decide +kernel
theorem dL_law_654 : decode cL_law 654 = .ok (.ifCond .ne 14, 3) := by decide +kernel
theorem dL_law_657 : decode cL_law 657 = .ok (.aload_n 3, 1) := by decide +kernel
theorem dL_law_658 : decode cL_law 658 = .ok (.iconst 0, 1) := by decide +kernel
theorem dL_law_659 : decode cL_law 659 = .ok (.laload, 1) := by decide +kernel
theorem dL_law_660 : decode cL_law 660 = .ok (.lload 6, 2) := by decide +kernel
theorem dL_law_662 : decode cL_law 662 = .ok (.lcmp, 1) := by decide +kernel
theorem dL_law_663 : decode cL_law 663 = .ok (.ifCond .eq 5, 3) := by decide +kernel
theorem dL_law_666 : decode cL_law 666 = .ok (.iconst 0, 1) := by decide +kernel
theorem dL_law_667 : decode cL_law 667 = .ok (.ireturn, 1) := by decide +kernel
theorem dL_law_668 : decode cL_law 668 = .ok (.goto 920, 3) := by decide +kernel
theorem dL_law_671 : decode cL_law 671 = .ok (.aload_n 1, 1) := by decide +kernel
theorem dL_law_672 : decode cL_law 672 = .ok (.aload_n 3, 1) := by decide +kernel
theorem dL_law_673 : decode cL_law 673 = .ok (.invokestatic 141, 3) := by decide +kernel
theorem dL_law_676 : decode cL_law 676 = .ok (.istore 5, 2) := by decide +kernel
theorem dL_law_678 : decode cL_law 678 = .ok (.aload_n 2, 1) := by decide +kernel
theorem dL_law_679 : decode cL_law 679 = .ok (.invokevirtual 143, 3) := by decide +kernel
theorem dL_law_682 : decode cL_law 682 = .ok (.lstore 6, 2) := by decide +kernel
theorem dL_law_684 : decode cL_law 684 = .ok (.aload_n 2, 1) := by decide +kernel
theorem dL_law_685 : decode cL_law 685 = .ok (.invokevirtual 98, 3) := by decide +kernel
theorem dL_law_688 : decode cL_law 688 = .ok (.iload 5, 2) := by decide +kernel
theorem dL_law_690 : decode cL_law 690 = .ok (.if_icmp .eq 5, 3) := by decide +kernel
theorem dL_law_693 : decode cL_law 693 = .ok (.iconst 0, 1) := by decide +kernel
theorem dL_law_694 : decode cL_law 694 = .ok (.ireturn, 1) := by decide +kernel
theorem dL_law_695 : decode cL_law 695 = .ok (.iload 5, 2) := by decide +kernel
theorem dL_law_697 : decode cL_law 697 = .ok (.ifCond .ne 14, 3) := by decide +kernel
theorem dL_law_700 : decode cL_law 700 = .ok (.aload_n 3, 1) := by decide +kernel
theorem dL_law_701 : decode cL_law 701 = .ok (.iconst 0, 1) := by decide +kernel
theorem dL_law_702 : decode cL_law 702 = .ok (.laload, 1) := by decide +kernel
theorem dL_law_703 : decode cL_law 703 = .ok (.lload 6, 2) := by decide +kernel
theorem dL_law_705 : decode cL_law 705 = .ok (.lcmp, 1) := by decide +kernel
theorem dL_law_706 : decode cL_law 706 = .ok (.ifCond .eq 5, 3) := by decide +kernel
theorem dL_law_709 : decode cL_law 709 = .ok (.iconst 0, 1) := by decide +kernel
theorem dL_law_710 : decode cL_law 710 = .ok (.ireturn, 1) := by decide +kernel
theorem dL_law_711 : decode cL_law 711 = .ok (.goto 877, 3) := by decide +kernel
theorem dL_law_714 : decode cL_law 714 = .ok (.aload_n 1, 1) := by decide +kernel
theorem dL_law_715 : decode cL_law 715 = .ok (.aload_n 0, 1) := by decide +kernel
theorem dL_law_716 : decode cL_law 716 = .ok (.iload 4, 2) := by decide +kernel
theorem dL_law_718 : decode cL_law 718 = .ok (.iconst 1, 1) := by decide +kernel
theorem dL_law_719 : decode cL_law 719 = .ok (.iadd, 1) := by decide +kernel
theorem dL_law_720 : decode cL_law 720 = .ok (.iaload, 1) := by decide +kernel
theorem dL_law_721 : decode cL_law 721 = .ok (.aload_n 0, 1) := by decide +kernel
theorem dL_law_722 : decode cL_law 722 = .ok (.iload 4, 2) := by decide +kernel
theorem dL_law_724 : decode cL_law 724 = .ok (.iconst 2, 1) := by decide +kernel
theorem dL_law_725 : decode cL_law 725 = .ok (.iadd, 1) := by decide +kernel
theorem dL_law_726 : decode cL_law 726 = .ok (.iaload, 1) := by decide +kernel
theorem dL_law_727 : decode cL_law 727 = .ok (.aload_n 3, 1) := by decide +kernel
theorem dL_law_728 : decode cL_law 728 = .ok (.invokestatic 144, 3) := by decide +kernel
theorem dL_law_731 : decode cL_law 731 = .ok (.istore 5, 2) := by decide +kernel
theorem dL_law_733 : decode cL_law 733 = .ok (.aload_n 2, 1) := by decide +kernel
theorem dL_law_734 : decode cL_law 734 = .ok (.aload_n 0, 1) := by decide +kernel
theorem dL_law_735 : decode cL_law 735 = .ok (.iload 4, 2) := by decide +kernel
theorem dL_law_737 : decode cL_law 737 = .ok (.iconst 1, 1) := by decide +kernel
theorem dL_law_738 : decode cL_law 738 = .ok (.iadd, 1) := by decide +kernel
theorem dL_law_739 : decode cL_law 739 = .ok (.iaload, 1) := by decide +kernel
theorem dL_law_740 : decode cL_law 740 = .ok (.aload_n 0, 1) := by decide +kernel
theorem dL_law_741 : decode cL_law 741 = .ok (.iload 4, 2) := by decide +kernel
theorem dL_law_743 : decode cL_law 743 = .ok (.iconst 2, 1) := by decide +kernel
theorem dL_law_744 : decode cL_law 744 = .ok (.iadd, 1) := by decide +kernel
theorem dL_law_745 : decode cL_law 745 = .ok (.iaload, 1) := by decide +kernel
theorem dL_law_746 : decode cL_law 746 = .ok (.invokevirtual 146, 3) := by decide +kernel
theorem dL_law_749 : decode cL_law 749 = .ok (.istore 6, 2) := by decide +kernel
theorem dL_law_751 : decode cL_law 751 = .ok (.aload_n 2, 1) := by decide +kernel
theorem dL_law_752 : decode cL_law 752 = .ok (.invokevirtual 98, 3) := by decide +kernel
theorem dL_law_755 : decode cL_law 755 = .ok (.iload 5, 2) := by decide +kernel
theorem dL_law_757 : decode cL_law 757 = .ok (.if_icmp .eq 5, 3) := by decide +kernel
theorem dL_law_760 : decode cL_law 760 = .ok (.iconst 0, 1) := by decide +kernel
theorem dL_law_761 : decode cL_law 761 = .ok (.ireturn, 1) := by decide +kernel
theorem dL_law_762 : decode cL_law 762 = .ok (.iload 5, 2) := by decide +kernel
theorem dL_law_764 : decode cL_law 764 = .ok (.ifCond .ne 22, 3) := by decide +kernel
theorem dL_law_767 : decode cL_law 767 = .ok (.aload_n 3, 1) := by decide +kernel
theorem dL_law_768 : decode cL_law 768 = .ok (.iconst 0, 1) := by decide +kernel
theorem dL_law_769 : decode cL_law 769 = .ok (.laload, 1) := by decide +kernel
theorem dL_law_770 : decode cL_law 770 = .ok (.iload 6, 2) := by decide +kernel
theorem dL_law_772 : decode cL_law 772 = .ok (.ifCond .eq 7, 3) := by decide +kernel
theorem dL_law_775 : decode cL_law 775 = .ok (.lconst 1, 1) := by decide +kernel
theorem dL_law_776 : decode cL_law 776 = .ok (.goto 4, 3) := by decide +kernel
theorem dL_law_779 : decode cL_law 779 = .ok (.lconst 0, 1) := by decide +kernel
theorem dL_law_780 : decode cL_law 780 = .ok (.lcmp, 1) := by decide +kernel
theorem dL_law_781 : decode cL_law 781 = .ok (.ifCond .eq 5, 3) := by decide +kernel
theorem dL_law_784 : decode cL_law 784 = .ok (.iconst 0, 1) := by decide +kernel
theorem dL_law_785 : decode cL_law 785 = .ok (.ireturn, 1) := by decide +kernel
theorem dL_law_786 : decode cL_law 786 = .ok (.goto 802, 3) := by decide +kernel
theorem dL_law_789 : decode cL_law 789 = .ok (.aload_n 1, 1) := by decide +kernel
theorem dL_law_790 : decode cL_law 790 = .ok (.aload_n 0, 1) := by decide +kernel
theorem dL_law_791 : decode cL_law 791 = .ok (.iload 4, 2) := by decide +kernel
theorem dL_law_793 : decode cL_law 793 = .ok (.iconst 1, 1) := by decide +kernel
theorem dL_law_794 : decode cL_law 794 = .ok (.iadd, 1) := by decide +kernel
theorem dL_law_795 : decode cL_law 795 = .ok (.iaload, 1) := by decide +kernel
theorem dL_law_796 : decode cL_law 796 = .ok (.aload_n 0, 1) := by decide +kernel
theorem dL_law_797 : decode cL_law 797 = .ok (.iload 4, 2) := by decide +kernel
theorem dL_law_799 : decode cL_law 799 = .ok (.iconst 2, 1) := by decide +kernel
theorem dL_law_800 : decode cL_law 800 = .ok (.iadd, 1) := by decide +kernel
theorem dL_law_801 : decode cL_law 801 = .ok (.iaload, 1) := by decide +kernel
theorem dL_law_802 : decode cL_law 802 = .ok (.aload_n 3, 1) := by decide +kernel
theorem dL_law_803 : decode cL_law 803 = .ok (.invokestatic 147, 3) := by decide +kernel
theorem dL_law_806 : decode cL_law 806 = .ok (.istore 5, 2) := by decide +kernel
theorem dL_law_808 : decode cL_law 808 = .ok (.aload_n 2, 1) := by decide +kernel
theorem dL_law_809 : decode cL_law 809 = .ok (.aload_n 0, 1) := by decide +kernel
theorem dL_law_810 : decode cL_law 810 = .ok (.iload 4, 2) := by decide +kernel
theorem dL_law_812 : decode cL_law 812 = .ok (.iconst 1, 1) := by decide +kernel
theorem dL_law_813 : decode cL_law 813 = .ok (.iadd, 1) := by decide +kernel
theorem dL_law_814 : decode cL_law 814 = .ok (.iaload, 1) := by decide +kernel
theorem dL_law_815 : decode cL_law 815 = .ok (.aload_n 0, 1) := by decide +kernel
theorem dL_law_816 : decode cL_law 816 = .ok (.iload 4, 2) := by decide +kernel
theorem dL_law_818 : decode cL_law 818 = .ok (.iconst 2, 1) := by decide +kernel
theorem dL_law_819 : decode cL_law 819 = .ok (.iadd, 1) := by decide +kernel
theorem dL_law_820 : decode cL_law 820 = .ok (.iaload, 1) := by decide +kernel
theorem dL_law_821 : decode cL_law 821 = .ok (.invokevirtual 149, 3) := by decide +kernel
theorem dL_law_824 : decode cL_law 824 = .ok (.istore 6, 2) := by decide +kernel
theorem dL_law_826 : decode cL_law 826 = .ok (.aload_n 2, 1) := by decide +kernel
theorem dL_law_827 : decode cL_law 827 = .ok (.invokevirtual 98, 3) := by decide +kernel
theorem dL_law_830 : decode cL_law 830 = .ok (.iload 5, 2) := by decide +kernel
theorem dL_law_832 : decode cL_law 832 = .ok (.if_icmp .eq 5, 3) := by decide +kernel
theorem dL_law_835 : decode cL_law 835 = .ok (.iconst 0, 1) := by decide +kernel
theorem dL_law_836 : decode cL_law 836 = .ok (.ireturn, 1) := by decide +kernel
theorem dL_law_837 : decode cL_law 837 = .ok (.iload 5, 2) := by decide +kernel
theorem dL_law_839 : decode cL_law 839 = .ok (.ifCond .ne 22, 3) := by decide +kernel
theorem dL_law_842 : decode cL_law 842 = .ok (.aload_n 3, 1) := by decide +kernel
theorem dL_law_843 : decode cL_law 843 = .ok (.iconst 0, 1) := by decide +kernel
theorem dL_law_844 : decode cL_law 844 = .ok (.laload, 1) := by decide +kernel
theorem dL_law_845 : decode cL_law 845 = .ok (.iload 6, 2) := by decide +kernel
theorem dL_law_847 : decode cL_law 847 = .ok (.ifCond .eq 7, 3) := by decide +kernel
theorem dL_law_850 : decode cL_law 850 = .ok (.lconst 1, 1) := by decide +kernel
theorem dL_law_851 : decode cL_law 851 = .ok (.goto 4, 3) := by decide +kernel
theorem dL_law_854 : decode cL_law 854 = .ok (.lconst 0, 1) := by decide +kernel
theorem dL_law_855 : decode cL_law 855 = .ok (.lcmp, 1) := by decide +kernel
theorem dL_law_856 : decode cL_law 856 = .ok (.ifCond .eq 5, 3) := by decide +kernel
theorem dL_law_859 : decode cL_law 859 = .ok (.iconst 0, 1) := by decide +kernel
theorem dL_law_860 : decode cL_law 860 = .ok (.ireturn, 1) := by decide +kernel
theorem dL_law_861 : decode cL_law 861 = .ok (.goto 727, 3) := by decide +kernel
theorem dL_law_864 : decode cL_law 864 = .ok (.aload_n 1, 1) := by decide +kernel
theorem dL_law_865 : decode cL_law 865 = .ok (.invokevirtual 150, 3) := by decide +kernel
theorem dL_law_868 : decode cL_law 868 = .ok (.aload_n 2, 1) := by decide +kernel
theorem dL_law_869 : decode cL_law 869 = .ok (.invokevirtual 153, 3) := by decide +kernel
theorem dL_law_872 : decode cL_law 872 = .ok (.if_icmp .eq 716, 3) := by decide +kernel
theorem dL_law_875 : decode cL_law 875 = .ok (.iconst 0, 1) := by decide +kernel
theorem dL_law_876 : decode cL_law 876 = .ok (.ireturn, 1) := by decide +kernel
theorem dL_law_877 : decode cL_law 877 = .ok (.aload_n 1, 1) := by decide +kernel
theorem dL_law_878 : decode cL_law 878 = .ok (.invokevirtual 154, 3) := by decide +kernel
theorem dL_law_881 : decode cL_law 881 = .ok (.aload_n 2, 1) := by decide +kernel
theorem dL_law_882 : decode cL_law 882 = .ok (.invokevirtual 157, 3) := by decide +kernel
theorem dL_law_885 : decode cL_law 885 = .ok (.if_icmp .eq 703, 3) := by decide +kernel
theorem dL_law_888 : decode cL_law 888 = .ok (.iconst 0, 1) := by decide +kernel
theorem dL_law_889 : decode cL_law 889 = .ok (.ireturn, 1) := by decide +kernel
theorem dL_law_890 : decode cL_law 890 = .ok (.aload_n 1, 1) := by decide +kernel
theorem dL_law_891 : decode cL_law 891 = .ok (.aload_n 3, 1) := by decide +kernel
theorem dL_law_892 : decode cL_law 892 = .ok (.invokestatic 158, 3) := by decide +kernel
theorem dL_law_895 : decode cL_law 895 = .ok (.istore 5, 2) := by decide +kernel
theorem dL_law_897 : decode cL_law 897 = .ok (.aload_n 2, 1) := by decide +kernel
theorem dL_law_898 : decode cL_law 898 = .ok (.invokevirtual 160, 3) := by decide +kernel
theorem dL_law_901 : decode cL_law 901 = .ok (.istore 6, 2) := by decide +kernel
theorem dL_law_903 : decode cL_law 903 = .ok (.aload_n 2, 1) := by decide +kernel
theorem dL_law_904 : decode cL_law 904 = .ok (.invokevirtual 98, 3) := by decide +kernel
theorem dL_law_907 : decode cL_law 907 = .ok (.iload 5, 2) := by decide +kernel
theorem dL_law_909 : decode cL_law 909 = .ok (.if_icmp .eq 5, 3) := by decide +kernel
theorem dL_law_912 : decode cL_law 912 = .ok (.iconst 0, 1) := by decide +kernel
theorem dL_law_913 : decode cL_law 913 = .ok (.ireturn, 1) := by decide +kernel
theorem dL_law_914 : decode cL_law 914 = .ok (.iload 5, 2) := by decide +kernel
theorem dL_law_916 : decode cL_law 916 = .ok (.ifCond .ne 15, 3) := by decide +kernel
theorem dL_law_919 : decode cL_law 919 = .ok (.aload_n 3, 1) := by decide +kernel
theorem dL_law_920 : decode cL_law 920 = .ok (.iconst 0, 1) := by decide +kernel
theorem dL_law_921 : decode cL_law 921 = .ok (.laload, 1) := by decide +kernel
theorem dL_law_922 : decode cL_law 922 = .ok (.iload 6, 2) := by decide +kernel
theorem dL_law_924 : decode cL_law 924 = .ok (.i2l, 1) := by decide +kernel
theorem dL_law_925 : decode cL_law 925 = .ok (.lcmp, 1) := by decide +kernel
theorem dL_law_926 : decode cL_law 926 = .ok (.ifCond .eq 5, 3) := by decide +kernel
theorem dL_law_929 : decode cL_law 929 = .ok (.iconst 0, 1) := by decide +kernel
theorem dL_law_930 : decode cL_law 930 = .ok (.ireturn, 1) := by decide +kernel
theorem dL_law_931 : decode cL_law 931 = .ok (.goto 657, 3) := by decide +kernel
theorem dL_law_934 : decode cL_law 934 = .ok (.aload_n 1, 1) := by decide +kernel
theorem dL_law_935 : decode cL_law 935 = .ok (.aload_n 0, 1) := by decide +kernel
theorem dL_law_936 : decode cL_law 936 = .ok (.iload 4, 2) := by decide +kernel
theorem dL_law_938 : decode cL_law 938 = .ok (.iconst 1, 1) := by decide +kernel
theorem dL_law_939 : decode cL_law 939 = .ok (.iadd, 1) := by decide +kernel
theorem dL_law_940 : decode cL_law 940 = .ok (.iaload, 1) := by decide +kernel
theorem dL_law_941 : decode cL_law 941 = .ok (.aload_n 3, 1) := by decide +kernel
theorem dL_law_942 : decode cL_law 942 = .ok (.invokestatic 161, 3) := by decide +kernel
theorem dL_law_945 : decode cL_law 945 = .ok (.istore 5, 2) := by decide +kernel
theorem dL_law_947 : decode cL_law 947 = .ok (.aload_n 2, 1) := by decide +kernel
theorem dL_law_948 : decode cL_law 948 = .ok (.aload_n 0, 1) := by decide +kernel
theorem dL_law_949 : decode cL_law 949 = .ok (.iload 4, 2) := by decide +kernel
theorem dL_law_951 : decode cL_law 951 = .ok (.iconst 1, 1) := by decide +kernel
theorem dL_law_952 : decode cL_law 952 = .ok (.iadd, 1) := by decide +kernel
theorem dL_law_953 : decode cL_law 953 = .ok (.iaload, 1) := by decide +kernel
theorem dL_law_954 : decode cL_law 954 = .ok (.invokevirtual 163, 3) := by decide +kernel
theorem dL_law_957 : decode cL_law 957 = .ok (.istore 6, 2) := by decide +kernel
theorem dL_law_959 : decode cL_law 959 = .ok (.aload_n 2, 1) := by decide +kernel
theorem dL_law_960 : decode cL_law 960 = .ok (.invokevirtual 98, 3) := by decide +kernel
theorem dL_law_963 : decode cL_law 963 = .ok (.iload 5, 2) := by decide +kernel
theorem dL_law_965 : decode cL_law 965 = .ok (.if_icmp .eq 5, 3) := by decide +kernel
theorem dL_law_968 : decode cL_law 968 = .ok (.iconst 0, 1) := by decide +kernel
theorem dL_law_969 : decode cL_law 969 = .ok (.ireturn, 1) := by decide +kernel
theorem dL_law_970 : decode cL_law 970 = .ok (.iload 5, 2) := by decide +kernel
theorem dL_law_972 : decode cL_law 972 = .ok (.ifCond .ne 15, 3) := by decide +kernel
theorem dL_law_975 : decode cL_law 975 = .ok (.aload_n 3, 1) := by decide +kernel
theorem dL_law_976 : decode cL_law 976 = .ok (.iconst 0, 1) := by decide +kernel
theorem dL_law_977 : decode cL_law 977 = .ok (.laload, 1) := by decide +kernel
theorem dL_law_978 : decode cL_law 978 = .ok (.iload 6, 2) := by decide +kernel
theorem dL_law_980 : decode cL_law 980 = .ok (.i2l, 1) := by decide +kernel
theorem dL_law_981 : decode cL_law 981 = .ok (.lcmp, 1) := by decide +kernel
theorem dL_law_982 : decode cL_law 982 = .ok (.ifCond .eq 5, 3) := by decide +kernel
theorem dL_law_985 : decode cL_law 985 = .ok (.iconst 0, 1) := by decide +kernel
theorem dL_law_986 : decode cL_law 986 = .ok (.ireturn, 1) := by decide +kernel
theorem dL_law_987 : decode cL_law 987 = .ok (.goto 601, 3) := by decide +kernel
theorem dL_law_990 : decode cL_law 990 = .ok (.aload_n 1, 1) := by decide +kernel
theorem dL_law_991 : decode cL_law 991 = .ok (.aload_n 0, 1) := by decide +kernel
theorem dL_law_992 : decode cL_law 992 = .ok (.iload 4, 2) := by decide +kernel
theorem dL_law_994 : decode cL_law 994 = .ok (.iconst 1, 1) := by decide +kernel
theorem dL_law_995 : decode cL_law 995 = .ok (.iadd, 1) := by decide +kernel
theorem dL_law_996 : decode cL_law 996 = .ok (.iaload, 1) := by decide +kernel
theorem dL_law_997 : decode cL_law 997 = .ok (.aload_n 3, 1) := by decide +kernel
theorem dL_law_998 : decode cL_law 998 = .ok (.invokestatic 164, 3) := by decide +kernel
theorem dL_law_1001 : decode cL_law 1001 = .ok (.istore 5, 2) := by decide +kernel
theorem dL_law_1003 : decode cL_law 1003 = .ok (.aload_n 2, 1) := by decide +kernel
theorem dL_law_1004 : decode cL_law 1004 = .ok (.aload_n 0, 1) := by decide +kernel
theorem dL_law_1005 : decode cL_law 1005 = .ok (.iload 4, 2) := by decide +kernel
theorem dL_law_1007 : decode cL_law 1007 = .ok (.iconst 1, 1) := by decide +kernel
theorem dL_law_1008 : decode cL_law 1008 = .ok (.iadd, 1) := by decide +kernel
theorem dL_law_1009 : decode cL_law 1009 = .ok (.iaload, 1) := by decide +kernel
theorem dL_law_1010 : decode cL_law 1010 = .ok (.invokevirtual 166, 3) := by decide +kernel
theorem dL_law_1013 : decode cL_law 1013 = .ok (.istore 6, 2) := by decide +kernel
theorem dL_law_1015 : decode cL_law 1015 = .ok (.aload_n 2, 1) := by decide +kernel
theorem dL_law_1016 : decode cL_law 1016 = .ok (.invokevirtual 98, 3) := by decide +kernel
theorem dL_law_1019 : decode cL_law 1019 = .ok (.iload 5, 2) := by decide +kernel
theorem dL_law_1021 : decode cL_law 1021 = .ok (.if_icmp .eq 5, 3) := by decide +kernel
theorem dL_law_1024 : decode cL_law 1024 = .ok (.iconst 0, 1) := by decide +kernel
theorem dL_law_1025 : decode cL_law 1025 = .ok (.ireturn, 1) := by decide +kernel
theorem dL_law_1026 : decode cL_law 1026 = .ok (.iload 5, 2) := by decide +kernel
theorem dL_law_1028 : decode cL_law 1028 = .ok (.ifCond .ne 15, 3) := by decide +kernel
theorem dL_law_1031 : decode cL_law 1031 = .ok (.aload_n 3, 1) := by decide +kernel
theorem dL_law_1032 : decode cL_law 1032 = .ok (.iconst 0, 1) := by decide +kernel
theorem dL_law_1033 : decode cL_law 1033 = .ok (.laload, 1) := by decide +kernel
theorem dL_law_1034 : decode cL_law 1034 = .ok (.iload 6, 2) := by decide +kernel
theorem dL_law_1036 : decode cL_law 1036 = .ok (.i2l, 1) := by decide +kernel
theorem dL_law_1037 : decode cL_law 1037 = .ok (.lcmp, 1) := by decide +kernel
theorem dL_law_1038 : decode cL_law 1038 = .ok (.ifCond .eq 5, 3) := by decide +kernel
theorem dL_law_1041 : decode cL_law 1041 = .ok (.iconst 0, 1) := by decide +kernel
theorem dL_law_1042 : decode cL_law 1042 = .ok (.ireturn, 1) := by decide +kernel
theorem dL_law_1043 : decode cL_law 1043 = .ok (.goto 545, 3) := by decide +kernel
theorem dL_law_1046 : decode cL_law 1046 = .ok (.aload_n 1, 1) := by decide +kernel
theorem dL_law_1047 : decode cL_law 1047 = .ok (.aload_n 3, 1) := by decide +kernel
theorem dL_law_1048 : decode cL_law 1048 = .ok (.invokestatic 167, 3) := by decide +kernel
theorem dL_law_1051 : decode cL_law 1051 = .ok (.istore 5, 2) := by decide +kernel
theorem dL_law_1053 : decode cL_law 1053 = .ok (.aload_n 2, 1) := by decide +kernel
theorem dL_law_1054 : decode cL_law 1054 = .ok (.invokevirtual 169, 3) := by decide +kernel
theorem dL_law_1057 : decode cL_law 1057 = .ok (.istore 6, 2) := by decide +kernel
theorem dL_law_1059 : decode cL_law 1059 = .ok (.aload_n 2, 1) := by decide +kernel
theorem dL_law_1060 : decode cL_law 1060 = .ok (.invokevirtual 98, 3) := by decide +kernel
theorem dL_law_1063 : decode cL_law 1063 = .ok (.iload 5, 2) := by decide +kernel
theorem dL_law_1065 : decode cL_law 1065 = .ok (.if_icmp .eq 5, 3) := by decide +kernel
theorem dL_law_1068 : decode cL_law 1068 = .ok (.iconst 0, 1) := by decide +kernel
theorem dL_law_1069 : decode cL_law 1069 = .ok (.ireturn, 1) := by decide +kernel
theorem dL_law_1070 : decode cL_law 1070 = .ok (.iload 5, 2) := by decide +kernel
theorem dL_law_1072 : decode cL_law 1072 = .ok (.ifCond .ne 15, 3) := by decide +kernel
theorem dL_law_1075 : decode cL_law 1075 = .ok (.aload_n 3, 1) := by decide +kernel
theorem dL_law_1076 : decode cL_law 1076 = .ok (.iconst 0, 1) := by decide +kernel
theorem dL_law_1077 : decode cL_law 1077 = .ok (.laload, 1) := by decide +kernel
theorem dL_law_1078 : decode cL_law 1078 = .ok (.iload 6, 2) := by decide +kernel
theorem dL_law_1080 : decode cL_law 1080 = .ok (.i2l, 1) := by decide +kernel
theorem dL_law_1081 : decode cL_law 1081 = .ok (.lcmp, 1) := by decide +kernel
theorem dL_law_1082 : decode cL_law 1082 = .ok (.ifCond .eq 5, 3) := by decide +kernel
theorem dL_law_1085 : decode cL_law 1085 = .ok (.iconst 0, 1) := by decide +kernel
theorem dL_law_1086 : decode cL_law 1086 = .ok (.ireturn, 1) := by decide +kernel
theorem dL_law_1087 : decode cL_law 1087 = .ok (.goto 501, 3) := by decide +kernel
theorem dL_law_1090 : decode cL_law 1090 = .ok (.aload_n 1, 1) := by decide +kernel
theorem dL_law_1091 : decode cL_law 1091 = .ok (.aload_n 3, 1) := by decide +kernel
theorem dL_law_1092 : decode cL_law 1092 = .ok (.invokestatic 170, 3) := by decide +kernel
theorem dL_law_1095 : decode cL_law 1095 = .ok (.istore 5, 2) := by decide +kernel
theorem dL_law_1097 : decode cL_law 1097 = .ok (.aload_n 2, 1) := by decide +kernel
theorem dL_law_1098 : decode cL_law 1098 = .ok (.invokevirtual 172, 3) := by decide +kernel
theorem dL_law_1101 : decode cL_law 1101 = .ok (.istore 6, 2) := by decide +kernel
theorem dL_law_1103 : decode cL_law 1103 = .ok (.aload_n 2, 1) := by decide +kernel
theorem dL_law_1104 : decode cL_law 1104 = .ok (.invokevirtual 98, 3) := by decide +kernel
theorem dL_law_1107 : decode cL_law 1107 = .ok (.iload 5, 2) := by decide +kernel
theorem dL_law_1109 : decode cL_law 1109 = .ok (.if_icmp .eq 5, 3) := by decide +kernel
theorem dL_law_1112 : decode cL_law 1112 = .ok (.iconst 0, 1) := by decide +kernel
theorem dL_law_1113 : decode cL_law 1113 = .ok (.ireturn, 1) := by decide +kernel
theorem dL_law_1114 : decode cL_law 1114 = .ok (.iload 5, 2) := by decide +kernel
theorem dL_law_1116 : decode cL_law 1116 = .ok (.ifCond .ne 15, 3) := by decide +kernel
theorem dL_law_1119 : decode cL_law 1119 = .ok (.aload_n 3, 1) := by decide +kernel
theorem dL_law_1120 : decode cL_law 1120 = .ok (.iconst 0, 1) := by decide +kernel
theorem dL_law_1121 : decode cL_law 1121 = .ok (.laload, 1) := by decide +kernel
theorem dL_law_1122 : decode cL_law 1122 = .ok (.iload 6, 2) := by decide +kernel
theorem dL_law_1124 : decode cL_law 1124 = .ok (.i2l, 1) := by decide +kernel
theorem dL_law_1125 : decode cL_law 1125 = .ok (.lcmp, 1) := by decide +kernel
theorem dL_law_1126 : decode cL_law 1126 = .ok (.ifCond .eq 5, 3) := by decide +kernel
theorem dL_law_1129 : decode cL_law 1129 = .ok (.iconst 0, 1) := by decide +kernel
theorem dL_law_1130 : decode cL_law 1130 = .ok (.ireturn, 1) := by decide +kernel
theorem dL_law_1131 : decode cL_law 1131 = .ok (.goto 457, 3) := by decide +kernel
theorem dL_law_1134 : decode cL_law 1134 = .ok (.aload_n 1, 1) := by decide +kernel
theorem dL_law_1135 : decode cL_law 1135 = .ok (.aload_n 3, 1) := by decide +kernel
theorem dL_law_1136 : decode cL_law 1136 = .ok (.invokestatic 173, 3) := by decide +kernel
theorem dL_law_1139 : decode cL_law 1139 = .ok (.istore 5, 2) := by decide +kernel
theorem dL_law_1141 : decode cL_law 1141 = .ok (.aload_n 2, 1) := by decide +kernel
theorem dL_law_1142 : decode cL_law 1142 = .ok (.invokevirtual 175, 3) := by decide +kernel
theorem dL_law_1145 : decode cL_law 1145 = .ok (.istore 6, 2) := by decide +kernel
theorem dL_law_1147 : decode cL_law 1147 = .ok (.aload_n 2, 1) := by decide +kernel
theorem dL_law_1148 : decode cL_law 1148 = .ok (.invokevirtual 98, 3) := by decide +kernel
theorem dL_law_1151 : decode cL_law 1151 = .ok (.iload 5, 2) := by decide +kernel
theorem dL_law_1153 : decode cL_law 1153 = .ok (.if_icmp .eq 5, 3) := by decide +kernel
theorem dL_law_1156 : decode cL_law 1156 = .ok (.iconst 0, 1) := by decide +kernel
theorem dL_law_1157 : decode cL_law 1157 = .ok (.ireturn, 1) := by decide +kernel
theorem dL_law_1158 : decode cL_law 1158 = .ok (.iload 5, 2) := by decide +kernel
theorem dL_law_1160 : decode cL_law 1160 = .ok (.ifCond .ne 15, 3) := by decide +kernel
theorem dL_law_1163 : decode cL_law 1163 = .ok (.aload_n 3, 1) := by decide +kernel
theorem dL_law_1164 : decode cL_law 1164 = .ok (.iconst 0, 1) := by decide +kernel
theorem dL_law_1165 : decode cL_law 1165 = .ok (.laload, 1) := by decide +kernel
theorem dL_law_1166 : decode cL_law 1166 = .ok (.iload 6, 2) := by decide +kernel
theorem dL_law_1168 : decode cL_law 1168 = .ok (.i2l, 1) := by decide +kernel
theorem dL_law_1169 : decode cL_law 1169 = .ok (.lcmp, 1) := by decide +kernel
theorem dL_law_1170 : decode cL_law 1170 = .ok (.ifCond .eq 5, 3) := by decide +kernel
theorem dL_law_1173 : decode cL_law 1173 = .ok (.iconst 0, 1) := by decide +kernel
theorem dL_law_1174 : decode cL_law 1174 = .ok (.ireturn, 1) := by decide +kernel
theorem dL_law_1175 : decode cL_law 1175 = .ok (.goto 413, 3) := by decide +kernel
theorem dL_law_1178 : decode cL_law 1178 = .ok (.aload_n 1, 1) := by decide +kernel
theorem dL_law_1179 : decode cL_law 1179 = .ok (.aload_n 3, 1) := by decide +kernel
theorem dL_law_1180 : decode cL_law 1180 = .ok (.invokestatic 176, 3) := by decide +kernel
theorem dL_law_1183 : decode cL_law 1183 = .ok (.istore 5, 2) := by decide +kernel
theorem dL_law_1185 : decode cL_law 1185 = .ok (.aload_n 2, 1) := by decide +kernel
theorem dL_law_1186 : decode cL_law 1186 = .ok (.invokevirtual 178, 3) := by decide +kernel
theorem dL_law_1189 : decode cL_law 1189 = .ok (.istore 6, 2) := by decide +kernel
theorem dL_law_1191 : decode cL_law 1191 = .ok (.aload_n 2, 1) := by decide +kernel
theorem dL_law_1192 : decode cL_law 1192 = .ok (.invokevirtual 98, 3) := by decide +kernel
theorem dL_law_1195 : decode cL_law 1195 = .ok (.iload 5, 2) := by decide +kernel
theorem dL_law_1197 : decode cL_law 1197 = .ok (.if_icmp .eq 5, 3) := by decide +kernel
theorem dL_law_1200 : decode cL_law 1200 = .ok (.iconst 0, 1) := by decide +kernel
theorem dL_law_1201 : decode cL_law 1201 = .ok (.ireturn, 1) := by decide +kernel
theorem dL_law_1202 : decode cL_law 1202 = .ok (.iload 5, 2) := by decide +kernel
theorem dL_law_1204 : decode cL_law 1204 = .ok (.ifCond .ne 15, 3) := by decide +kernel
theorem dL_law_1207 : decode cL_law 1207 = .ok (.aload_n 3, 1) := by decide +kernel
theorem dL_law_1208 : decode cL_law 1208 = .ok (.iconst 0, 1) := by decide +kernel
theorem dL_law_1209 : decode cL_law 1209 = .ok (.laload, 1) := by decide +kernel
theorem dL_law_1210 : decode cL_law 1210 = .ok (.iload 6, 2) := by decide +kernel
theorem dL_law_1212 : decode cL_law 1212 = .ok (.i2l, 1) := by decide +kernel
theorem dL_law_1213 : decode cL_law 1213 = .ok (.lcmp, 1) := by decide +kernel
theorem dL_law_1214 : decode cL_law 1214 = .ok (.ifCond .eq 5, 3) := by decide +kernel
theorem dL_law_1217 : decode cL_law 1217 = .ok (.iconst 0, 1) := by decide +kernel
theorem dL_law_1218 : decode cL_law 1218 = .ok (.ireturn, 1) := by decide +kernel
theorem dL_law_1219 : decode cL_law 1219 = .ok (.goto 369, 3) := by decide +kernel
theorem dL_law_1222 : decode cL_law 1222 = .ok (.aload_n 1, 1) := by decide +kernel
theorem dL_law_1223 : decode cL_law 1223 = .ok (.aload_n 0, 1) := by decide +kernel
theorem dL_law_1224 : decode cL_law 1224 = .ok (.iload 4, 2) := by decide +kernel
theorem dL_law_1226 : decode cL_law 1226 = .ok (.iconst 1, 1) := by decide +kernel
theorem dL_law_1227 : decode cL_law 1227 = .ok (.iadd, 1) := by decide +kernel
theorem dL_law_1228 : decode cL_law 1228 = .ok (.iaload, 1) := by decide +kernel
theorem dL_law_1229 : decode cL_law 1229 = .ok (.aload_n 3, 1) := by decide +kernel
theorem dL_law_1230 : decode cL_law 1230 = .ok (.invokestatic 179, 3) := by decide +kernel
theorem dL_law_1233 : decode cL_law 1233 = .ok (.istore 5, 2) := by decide +kernel
theorem dL_law_1235 : decode cL_law 1235 = .ok (.aload_n 2, 1) := by decide +kernel
theorem dL_law_1236 : decode cL_law 1236 = .ok (.aload_n 0, 1) := by decide +kernel
theorem dL_law_1237 : decode cL_law 1237 = .ok (.iload 4, 2) := by decide +kernel
theorem dL_law_1239 : decode cL_law 1239 = .ok (.iconst 1, 1) := by decide +kernel
theorem dL_law_1240 : decode cL_law 1240 = .ok (.iadd, 1) := by decide +kernel
theorem dL_law_1241 : decode cL_law 1241 = .ok (.iaload, 1) := by decide +kernel
theorem dL_law_1242 : decode cL_law 1242 = .ok (.invokevirtual 181, 3) := by decide +kernel
theorem dL_law_1245 : decode cL_law 1245 = .ok (.istore 6, 2) := by decide +kernel
theorem dL_law_1247 : decode cL_law 1247 = .ok (.aload_n 2, 1) := by decide +kernel
theorem dL_law_1248 : decode cL_law 1248 = .ok (.invokevirtual 98, 3) := by decide +kernel
theorem dL_law_1251 : decode cL_law 1251 = .ok (.iload 5, 2) := by decide +kernel
theorem dL_law_1253 : decode cL_law 1253 = .ok (.if_icmp .eq 5, 3) := by decide +kernel
theorem dL_law_1256 : decode cL_law 1256 = .ok (.iconst 0, 1) := by decide +kernel
theorem dL_law_1257 : decode cL_law 1257 = .ok (.ireturn, 1) := by decide +kernel
theorem dL_law_1258 : decode cL_law 1258 = .ok (.iload 5, 2) := by decide +kernel
theorem dL_law_1260 : decode cL_law 1260 = .ok (.ifCond .ne 15, 3) := by decide +kernel
theorem dL_law_1263 : decode cL_law 1263 = .ok (.aload_n 3, 1) := by decide +kernel
theorem dL_law_1264 : decode cL_law 1264 = .ok (.iconst 0, 1) := by decide +kernel
theorem dL_law_1265 : decode cL_law 1265 = .ok (.laload, 1) := by decide +kernel
theorem dL_law_1266 : decode cL_law 1266 = .ok (.iload 6, 2) := by decide +kernel
theorem dL_law_1268 : decode cL_law 1268 = .ok (.i2l, 1) := by decide +kernel
theorem dL_law_1269 : decode cL_law 1269 = .ok (.lcmp, 1) := by decide +kernel
theorem dL_law_1270 : decode cL_law 1270 = .ok (.ifCond .eq 5, 3) := by decide +kernel
theorem dL_law_1273 : decode cL_law 1273 = .ok (.iconst 0, 1) := by decide +kernel
theorem dL_law_1274 : decode cL_law 1274 = .ok (.ireturn, 1) := by decide +kernel
theorem dL_law_1275 : decode cL_law 1275 = .ok (.goto 313, 3) := by decide +kernel
theorem dL_law_1278 : decode cL_law 1278 = .ok (.aload_n 1, 1) := by decide +kernel
theorem dL_law_1279 : decode cL_law 1279 = .ok (.aload_n 3, 1) := by decide +kernel
theorem dL_law_1280 : decode cL_law 1280 = .ok (.invokestatic 182, 3) := by decide +kernel
theorem dL_law_1283 : decode cL_law 1283 = .ok (.istore 5, 2) := by decide +kernel
theorem dL_law_1285 : decode cL_law 1285 = .ok (.aload_n 2, 1) := by decide +kernel
theorem dL_law_1286 : decode cL_law 1286 = .ok (.invokevirtual 184, 3) := by decide +kernel
theorem dL_law_1289 : decode cL_law 1289 = .ok (.istore 6, 2) := by decide +kernel
theorem dL_law_1291 : decode cL_law 1291 = .ok (.aload_n 2, 1) := by decide +kernel
theorem dL_law_1292 : decode cL_law 1292 = .ok (.invokevirtual 98, 3) := by decide +kernel
theorem dL_law_1295 : decode cL_law 1295 = .ok (.iload 5, 2) := by decide +kernel
theorem dL_law_1297 : decode cL_law 1297 = .ok (.if_icmp .eq 5, 3) := by decide +kernel
theorem dL_law_1300 : decode cL_law 1300 = .ok (.iconst 0, 1) := by decide +kernel
theorem dL_law_1301 : decode cL_law 1301 = .ok (.ireturn, 1) := by decide +kernel
theorem dL_law_1302 : decode cL_law 1302 = .ok (.iload 5, 2) := by decide +kernel
theorem dL_law_1304 : decode cL_law 1304 = .ok (.ifCond .ne 15, 3) := by decide +kernel
theorem dL_law_1307 : decode cL_law 1307 = .ok (.aload_n 3, 1) := by decide +kernel
theorem dL_law_1308 : decode cL_law 1308 = .ok (.iconst 0, 1) := by decide +kernel
theorem dL_law_1309 : decode cL_law 1309 = .ok (.laload, 1) := by decide +kernel
theorem dL_law_1310 : decode cL_law 1310 = .ok (.iload 6, 2) := by decide +kernel
theorem dL_law_1312 : decode cL_law 1312 = .ok (.i2l, 1) := by decide +kernel
theorem dL_law_1313 : decode cL_law 1313 = .ok (.lcmp, 1) := by decide +kernel
theorem dL_law_1314 : decode cL_law 1314 = .ok (.ifCond .eq 5, 3) := by decide +kernel
theorem dL_law_1317 : decode cL_law 1317 = .ok (.iconst 0, 1) := by decide +kernel
theorem dL_law_1318 : decode cL_law 1318 = .ok (.ireturn, 1) := by decide +kernel
theorem dL_law_1319 : decode cL_law 1319 = .ok (.goto 269, 3) := by decide +kernel
theorem dL_law_1322 : decode cL_law 1322 = .ok (.aload_n 1, 1) := by decide +kernel
theorem dL_law_1323 : decode cL_law 1323 = .ok (.aload_n 0, 1) := by decide +kernel
theorem dL_law_1324 : decode cL_law 1324 = .ok (.iload 4, 2) := by decide +kernel
theorem dL_law_1326 : decode cL_law 1326 = .ok (.iconst 1, 1) := by decide +kernel
theorem dL_law_1327 : decode cL_law 1327 = .ok (.iadd, 1) := by decide +kernel
theorem dL_law_1328 : decode cL_law 1328 = .ok (.iaload, 1) := by decide +kernel
theorem dL_law_1329 : decode cL_law 1329 = .ok (.invokevirtual 185, 3) := by decide +kernel
theorem dL_law_1332 : decode cL_law 1332 = .ok (.aload_n 2, 1) := by decide +kernel
theorem dL_law_1333 : decode cL_law 1333 = .ok (.aload_n 0, 1) := by decide +kernel
theorem dL_law_1334 : decode cL_law 1334 = .ok (.iload 4, 2) := by decide +kernel
theorem dL_law_1336 : decode cL_law 1336 = .ok (.iconst 1, 1) := by decide +kernel
theorem dL_law_1337 : decode cL_law 1337 = .ok (.iadd, 1) := by decide +kernel
theorem dL_law_1338 : decode cL_law 1338 = .ok (.iaload, 1) := by decide +kernel
theorem dL_law_1339 : decode cL_law 1339 = .ok (.invokevirtual 188, 3) := by decide +kernel
theorem dL_law_1342 : decode cL_law 1342 = .ok (.if_icmp .eq 246, 3) := by decide +kernel
theorem dL_law_1345 : decode cL_law 1345 = .ok (.iconst 0, 1) := by decide +kernel
theorem dL_law_1346 : decode cL_law 1346 = .ok (.ireturn, 1) := by decide +kernel
theorem dL_law_1347 : decode cL_law 1347 = .ok (.aload_n 1, 1) := by decide +kernel
theorem dL_law_1348 : decode cL_law 1348 = .ok (.aload_n 0, 1) := by decide +kernel
theorem dL_law_1349 : decode cL_law 1349 = .ok (.iload 4, 2) := by decide +kernel
theorem dL_law_1351 : decode cL_law 1351 = .ok (.iconst 1, 1) := by decide +kernel
theorem dL_law_1352 : decode cL_law 1352 = .ok (.iadd, 1) := by decide +kernel
theorem dL_law_1353 : decode cL_law 1353 = .ok (.iaload, 1) := by decide +kernel
theorem dL_law_1354 : decode cL_law 1354 = .ok (.invokevirtual 189, 3) := by decide +kernel
theorem dL_law_1357 : decode cL_law 1357 = .ok (.aload_n 2, 1) := by decide +kernel
theorem dL_law_1358 : decode cL_law 1358 = .ok (.aload_n 0, 1) := by decide +kernel
theorem dL_law_1359 : decode cL_law 1359 = .ok (.iload 4, 2) := by decide +kernel
theorem dL_law_1361 : decode cL_law 1361 = .ok (.iconst 1, 1) := by decide +kernel
theorem dL_law_1362 : decode cL_law 1362 = .ok (.iadd, 1) := by decide +kernel
theorem dL_law_1363 : decode cL_law 1363 = .ok (.iaload, 1) := by decide +kernel
theorem dL_law_1364 : decode cL_law 1364 = .ok (.invokevirtual 192, 3) := by decide +kernel
theorem dL_law_1367 : decode cL_law 1367 = .ok (.if_icmp .eq 221, 3) := by decide +kernel
theorem dL_law_1370 : decode cL_law 1370 = .ok (.iconst 0, 1) := by decide +kernel
theorem dL_law_1371 : decode cL_law 1371 = .ok (.ireturn, 1) := by decide +kernel
theorem dL_law_1372 : decode cL_law 1372 = .ok (.aload_n 1, 1) := by decide +kernel
theorem dL_law_1373 : decode cL_law 1373 = .ok (.aload_n 0, 1) := by decide +kernel
theorem dL_law_1374 : decode cL_law 1374 = .ok (.iload 4, 2) := by decide +kernel
theorem dL_law_1376 : decode cL_law 1376 = .ok (.iconst 1, 1) := by decide +kernel
theorem dL_law_1377 : decode cL_law 1377 = .ok (.iadd, 1) := by decide +kernel
theorem dL_law_1378 : decode cL_law 1378 = .ok (.iaload, 1) := by decide +kernel
theorem dL_law_1379 : decode cL_law 1379 = .ok (.invokevirtual 193, 3) := by decide +kernel
theorem dL_law_1382 : decode cL_law 1382 = .ok (.aload_n 2, 1) := by decide +kernel
theorem dL_law_1383 : decode cL_law 1383 = .ok (.aload_n 0, 1) := by decide +kernel
theorem dL_law_1384 : decode cL_law 1384 = .ok (.iload 4, 2) := by decide +kernel
theorem dL_law_1386 : decode cL_law 1386 = .ok (.iconst 1, 1) := by decide +kernel
theorem dL_law_1387 : decode cL_law 1387 = .ok (.iadd, 1) := by decide +kernel
theorem dL_law_1388 : decode cL_law 1388 = .ok (.iaload, 1) := by decide +kernel
theorem dL_law_1389 : decode cL_law 1389 = .ok (.invokevirtual 196, 3) := by decide +kernel
theorem dL_law_1392 : decode cL_law 1392 = .ok (.if_icmp .eq 196, 3) := by decide +kernel
theorem dL_law_1395 : decode cL_law 1395 = .ok (.iconst 0, 1) := by decide +kernel
theorem dL_law_1396 : decode cL_law 1396 = .ok (.ireturn, 1) := by decide +kernel
theorem dL_law_1397 : decode cL_law 1397 = .ok (.aload_n 1, 1) := by decide +kernel
theorem dL_law_1398 : decode cL_law 1398 = .ok (.invokevirtual 197, 3) := by decide +kernel
theorem dL_law_1401 : decode cL_law 1401 = .ok (.aload_n 2, 1) := by decide +kernel
theorem dL_law_1402 : decode cL_law 1402 = .ok (.invokevirtual 200, 3) := by decide +kernel
theorem dL_law_1405 : decode cL_law 1405 = .ok (.if_icmp .eq 183, 3) := by decide +kernel
theorem dL_law_1408 : decode cL_law 1408 = .ok (.iconst 0, 1) := by decide +kernel
theorem dL_law_1409 : decode cL_law 1409 = .ok (.ireturn, 1) := by decide +kernel
theorem dL_law_1410 : decode cL_law 1410 = .ok (.aload_n 1, 1) := by decide +kernel
theorem dL_law_1411 : decode cL_law 1411 = .ok (.invokevirtual 201, 3) := by decide +kernel
theorem dL_law_1414 : decode cL_law 1414 = .ok (.aload_n 2, 1) := by decide +kernel
theorem dL_law_1415 : decode cL_law 1415 = .ok (.invokevirtual 204, 3) := by decide +kernel
theorem dL_law_1418 : decode cL_law 1418 = .ok (.if_icmp .eq 170, 3) := by decide +kernel
theorem dL_law_1421 : decode cL_law 1421 = .ok (.iconst 0, 1) := by decide +kernel
theorem dL_law_1422 : decode cL_law 1422 = .ok (.ireturn, 1) := by decide +kernel
theorem dL_law_1423 : decode cL_law 1423 = .ok (.aload_n 1, 1) := by decide +kernel
theorem dL_law_1424 : decode cL_law 1424 = .ok (.aload_n 0, 1) := by decide +kernel
theorem dL_law_1425 : decode cL_law 1425 = .ok (.iload 4, 2) := by decide +kernel
theorem dL_law_1427 : decode cL_law 1427 = .ok (.iconst 1, 1) := by decide +kernel
theorem dL_law_1428 : decode cL_law 1428 = .ok (.iadd, 1) := by decide +kernel
theorem dL_law_1429 : decode cL_law 1429 = .ok (.iaload, 1) := by decide +kernel
theorem dL_law_1430 : decode cL_law 1430 = .ok (.aload_n 3, 1) := by decide +kernel
theorem dL_law_1431 : decode cL_law 1431 = .ok (.invokestatic 205, 3) := by decide +kernel
theorem dL_law_1434 : decode cL_law 1434 = .ok (.istore 5, 2) := by decide +kernel
theorem dL_law_1436 : decode cL_law 1436 = .ok (.aload_n 2, 1) := by decide +kernel
theorem dL_law_1437 : decode cL_law 1437 = .ok (.aload_n 0, 1) := by decide +kernel
theorem dL_law_1438 : decode cL_law 1438 = .ok (.iload 4, 2) := by decide +kernel
theorem dL_law_1440 : decode cL_law 1440 = .ok (.iconst 1, 1) := by decide +kernel
theorem dL_law_1441 : decode cL_law 1441 = .ok (.iadd, 1) := by decide +kernel
theorem dL_law_1442 : decode cL_law 1442 = .ok (.iaload, 1) := by decide +kernel
theorem dL_law_1443 : decode cL_law 1443 = .ok (.invokevirtual 207, 3) := by decide +kernel
theorem dL_law_1446 : decode cL_law 1446 = .ok (.istore 6, 2) := by decide +kernel
theorem dL_law_1448 : decode cL_law 1448 = .ok (.aload_n 2, 1) := by decide +kernel
theorem dL_law_1449 : decode cL_law 1449 = .ok (.invokevirtual 98, 3) := by decide +kernel
theorem dL_law_1452 : decode cL_law 1452 = .ok (.iload 5, 2) := by decide +kernel
theorem dL_law_1454 : decode cL_law 1454 = .ok (.if_icmp .eq 5, 3) := by decide +kernel
theorem dL_law_1457 : decode cL_law 1457 = .ok (.iconst 0, 1) := by decide +kernel
theorem dL_law_1458 : decode cL_law 1458 = .ok (.ireturn, 1) := by decide +kernel
theorem dL_law_1459 : decode cL_law 1459 = .ok (.iload 5, 2) := by decide +kernel
theorem dL_law_1461 : decode cL_law 1461 = .ok (.ifCond .ne 15, 3) := by decide +kernel
theorem dL_law_1464 : decode cL_law 1464 = .ok (.aload_n 3, 1) := by decide +kernel
theorem dL_law_1465 : decode cL_law 1465 = .ok (.iconst 0, 1) := by decide +kernel
theorem dL_law_1466 : decode cL_law 1466 = .ok (.laload, 1) := by decide +kernel
theorem dL_law_1467 : decode cL_law 1467 = .ok (.iload 6, 2) := by decide +kernel
theorem dL_law_1469 : decode cL_law 1469 = .ok (.i2l, 1) := by decide +kernel
theorem dL_law_1470 : decode cL_law 1470 = .ok (.lcmp, 1) := by decide +kernel
theorem dL_law_1471 : decode cL_law 1471 = .ok (.ifCond .eq 5, 3) := by decide +kernel
theorem dL_law_1474 : decode cL_law 1474 = .ok (.iconst 0, 1) := by decide +kernel
theorem dL_law_1475 : decode cL_law 1475 = .ok (.ireturn, 1) := by decide +kernel
theorem dL_law_1476 : decode cL_law 1476 = .ok (.goto 112, 3) := by decide +kernel
theorem dL_law_1479 : decode cL_law 1479 = .ok (.aload_n 1, 1) := by decide +kernel
theorem dL_law_1480 : decode cL_law 1480 = .ok (.aload_n 0, 1) := by decide +kernel
theorem dL_law_1481 : decode cL_law 1481 = .ok (.iload 4, 2) := by decide +kernel
theorem dL_law_1483 : decode cL_law 1483 = .ok (.iconst 1, 1) := by decide +kernel
theorem dL_law_1484 : decode cL_law 1484 = .ok (.iadd, 1) := by decide +kernel
theorem dL_law_1485 : decode cL_law 1485 = .ok (.iaload, 1) := by decide +kernel
theorem dL_law_1486 : decode cL_law 1486 = .ok (.aload_n 3, 1) := by decide +kernel
theorem dL_law_1487 : decode cL_law 1487 = .ok (.invokestatic 208, 3) := by decide +kernel
theorem dL_law_1490 : decode cL_law 1490 = .ok (.istore 5, 2) := by decide +kernel
theorem dL_law_1492 : decode cL_law 1492 = .ok (.aload_n 2, 1) := by decide +kernel
theorem dL_law_1493 : decode cL_law 1493 = .ok (.aload_n 0, 1) := by decide +kernel
theorem dL_law_1494 : decode cL_law 1494 = .ok (.iload 4, 2) := by decide +kernel
theorem dL_law_1496 : decode cL_law 1496 = .ok (.iconst 1, 1) := by decide +kernel
theorem dL_law_1497 : decode cL_law 1497 = .ok (.iadd, 1) := by decide +kernel
theorem dL_law_1498 : decode cL_law 1498 = .ok (.iaload, 1) := by decide +kernel
theorem dL_law_1499 : decode cL_law 1499 = .ok (.invokevirtual 210, 3) := by decide +kernel
theorem dL_law_1502 : decode cL_law 1502 = .ok (.istore 6, 2) := by decide +kernel
theorem dL_law_1504 : decode cL_law 1504 = .ok (.aload_n 2, 1) := by decide +kernel
theorem dL_law_1505 : decode cL_law 1505 = .ok (.invokevirtual 98, 3) := by decide +kernel
theorem dL_law_1508 : decode cL_law 1508 = .ok (.iload 5, 2) := by decide +kernel
theorem dL_law_1510 : decode cL_law 1510 = .ok (.if_icmp .eq 5, 3) := by decide +kernel
theorem dL_law_1513 : decode cL_law 1513 = .ok (.iconst 0, 1) := by decide +kernel
theorem dL_law_1514 : decode cL_law 1514 = .ok (.ireturn, 1) := by decide +kernel
theorem dL_law_1515 : decode cL_law 1515 = .ok (.iload 5, 2) := by decide +kernel
theorem dL_law_1517 : decode cL_law 1517 = .ok (.ifCond .ne 15, 3) := by decide +kernel
theorem dL_law_1520 : decode cL_law 1520 = .ok (.aload_n 3, 1) := by decide +kernel
theorem dL_law_1521 : decode cL_law 1521 = .ok (.iconst 0, 1) := by decide +kernel
theorem dL_law_1522 : decode cL_law 1522 = .ok (.laload, 1) := by decide +kernel
theorem dL_law_1523 : decode cL_law 1523 = .ok (.iload 6, 2) := by decide +kernel
theorem dL_law_1525 : decode cL_law 1525 = .ok (.i2l, 1) := by decide +kernel
theorem dL_law_1526 : decode cL_law 1526 = .ok (.lcmp, 1) := by decide +kernel
theorem dL_law_1527 : decode cL_law 1527 = .ok (.ifCond .eq 5, 3) := by decide +kernel
theorem dL_law_1530 : decode cL_law 1530 = .ok (.iconst 0, 1) := by decide +kernel
theorem dL_law_1531 : decode cL_law 1531 = .ok (.ireturn, 1) := by decide +kernel
theorem dL_law_1532 : decode cL_law 1532 = .ok (.goto 56, 3) := by decide +kernel
theorem dL_law_1535 : decode cL_law 1535 = .ok (.aload_n 1, 1) := by decide +kernel
theorem dL_law_1536 : decode cL_law 1536 = .ok (.aload_n 0, 1) := by decide +kernel
theorem dL_law_1537 : decode cL_law 1537 = .ok (.iload 4, 2) := by decide +kernel
theorem dL_law_1539 : decode cL_law 1539 = .ok (.iconst 1, 1) := by decide +kernel
theorem dL_law_1540 : decode cL_law 1540 = .ok (.iadd, 1) := by decide +kernel
theorem dL_law_1541 : decode cL_law 1541 = .ok (.iaload, 1) := by decide +kernel
theorem dL_law_1542 : decode cL_law 1542 = .ok (.invokevirtual 211, 3) := by decide +kernel
theorem dL_law_1545 : decode cL_law 1545 = .ok (.aload_n 2, 1) := by decide +kernel
theorem dL_law_1546 : decode cL_law 1546 = .ok (.aload_n 0, 1) := by decide +kernel
theorem dL_law_1547 : decode cL_law 1547 = .ok (.iload 4, 2) := by decide +kernel
theorem dL_law_1549 : decode cL_law 1549 = .ok (.iconst 1, 1) := by decide +kernel
theorem dL_law_1550 : decode cL_law 1550 = .ok (.iadd, 1) := by decide +kernel
theorem dL_law_1551 : decode cL_law 1551 = .ok (.iaload, 1) := by decide +kernel
theorem dL_law_1552 : decode cL_law 1552 = .ok (.invokevirtual 214, 3) := by decide +kernel
theorem dL_law_1555 : decode cL_law 1555 = .ok (.if_icmp .eq 33, 3) := by decide +kernel
theorem dL_law_1558 : decode cL_law 1558 = .ok (.iconst 0, 1) := by decide +kernel
theorem dL_law_1559 : decode cL_law 1559 = .ok (.ireturn, 1) := by decide +kernel
theorem dL_law_1560 : decode cL_law 1560 = .ok (.aload_n 1, 1) := by decide +kernel
theorem dL_law_1561 : decode cL_law 1561 = .ok (.invokevirtual 215, 3) := by decide +kernel
theorem dL_law_1564 : decode cL_law 1564 = .ok (.aload_n 2, 1) := by decide +kernel
theorem dL_law_1565 : decode cL_law 1565 = .ok (.invokevirtual 218, 3) := by decide +kernel
theorem dL_law_1568 : decode cL_law 1568 = .ok (.lcmp, 1) := by decide +kernel
theorem dL_law_1569 : decode cL_law 1569 = .ok (.ifCond .eq 19, 3) := by decide +kernel
theorem dL_law_1572 : decode cL_law 1572 = .ok (.iconst 0, 1) := by decide +kernel
theorem dL_law_1573 : decode cL_law 1573 = .ok (.ireturn, 1) := by decide +kernel
theorem dL_law_1574 : decode cL_law 1574 = .ok (.aload_n 1, 1) := by decide +kernel
theorem dL_law_1575 : decode cL_law 1575 = .ok (.invokevirtual 219, 3) := by decide +kernel
theorem dL_law_1578 : decode cL_law 1578 = .ok (.aload_n 2, 1) := by decide +kernel
theorem dL_law_1579 : decode cL_law 1579 = .ok (.invokevirtual 222, 3) := by decide +kernel
theorem dL_law_1582 : decode cL_law 1582 = .ok (.lcmp, 1) := by decide +kernel
theorem dL_law_1583 : decode cL_law 1583 = .ok (.ifCond .eq 5, 3) := by decide +kernel
theorem dL_law_1586 : decode cL_law 1586 = .ok (.iconst 0, 1) := by decide +kernel
theorem dL_law_1587 : decode cL_law 1587 = .ok (.ireturn, 1) := by decide +kernel
theorem dL_law_1588 : decode cL_law 1588 = .ok (.iinc 4 3, 3) := by decide +kernel
theorem dL_law_1591 : decode cL_law 1591 = .ok (.goto (-1568), 3) := by decide +kernel
theorem dL_law_1594 : decode cL_law 1594 = .ok (.iconst 1, 1) := by decide +kernel
theorem dL_law_1595 : decode cL_law 1595 = .ok (.ireturn, 1) := by decide +kernel
end
