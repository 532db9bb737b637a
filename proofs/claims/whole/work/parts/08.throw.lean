/-! The rules of what throws: a call of a method that always throws, its passing on, 'throw new E(text)', a helper of the law that catches. -/
section HX
variable {p : Program} {l : Launch} {e : Env} {R : Room} {s : State} {m : MethodId} {args : Array Value} {below : List Frame} {meth : Method} {c : Code} {H : Heap} {locs : List Loc} {cells slots : Nat} {Q : State → Prop}
variable {A : Nat → Prop} {H0 : Heap} {cc : ByteArray} {D : va_G} {tys tysC : List (ClassId × FieldType)} {w w0 w1 wc wr w' : va_W} {ls : Array Slot} {pc : Nat} {rest st0 : List Value}
variable {y : MethodName} {bytes : ByteArray} {maxL nL n index : Nat} {ret : Option FieldType} {ws : List Cond} {rm : Room} {Ts : List Cond} {own C : String} {b : Addr} {As av : List Value} {E : String}
theorem hx_call (hr : vx_Run p l e R s m args below meth c H locs cells slots 1 6 (F0 m pc ls st0) rest (fun _ _ _ => False) (hQX E H.size) (fun q => H.size ≤ q)) (hS : va_S A H0 H locs) (hA : ∀ q, H0.size ≤ q → A q)
    (kx : ∀ (ce : Cell) (q9 : Addr) (H1 : Heap) (locs1 : List Loc), H.size ≤ H1.size → (∀ q : Nat, q < H.size → H1[q]? = H[q]?) → va_S A H0 H1 locs1 → H1[q9]? = some ce → ce.vm = .none → s.vm.findClass E = some ce.cls → vx_W p l e R s m args below meth c H1 locs1 (cells + 1) (slots + 6) Q (F0 m pc ls rest) q9) : W p l e R s m args below meth c H locs cells slots Q (F0 m pc ls st0) := by
  intro T hT X
  rcases hr T hT X with ⟨v, st₀, t, T', L, h0, X', hL, e1, e2, hF, st⟩ | ⟨q, st₀, t, T', L, E', ce, h0, X', hL, e1, e2, ⟨u, hp, hb, hF⟩, hce, hcv, hcl, st⟩
  · exact hF.elim
  · obtain ⟨k1, k2, k3⟩ := vx_keep (A1 := fun q => H.size ≤ q) h0 e1 hS (fun q hq h => absurd hq (Nat.not_lt.mpr h)) (fun q h => hA q (Nat.le_trans hS.1 h)) hL hF
    have hb' : E' = E := hb
    subst hb'
    obtain ⟨t2, a1, b1⟩ := kx ce q T'.heap (locs ++ L) k1 (fun q hq => k2 q hq (Nat.not_le.mpr hq)) k3 (by rw [e1]; exact hce) hcv hcl T' rfl X'
    exact ⟨t2, st.trans a1, b1⟩
theorem h_preX {U : State} {isC isT : List Nat} (h1 : isC.map (fun i => w[i]?) = wc.map some) (n1 : va_nd isC = true) (h4 : isT.filterMap (fun i => tys[i]?) = tysC) (hP : va_P D vwCl w H) (hK : va_K D vwCl tys s) (hD : va_D A w) (hv : hV s) (hU : U.heap = H) (hW : s.WarmedH U.vm) : hPre D tysC wc H.size U :=
  ⟨by rw [hU], by rw [hU]; exact hP.sub isC (fm_of h1), va_K.moved hW.alike (hK.sub isT h4), (hD.sub isC n1 h1).weaken (fun _ _ _ _ => trivial), hV.warm hW hv⟩
/-- a method of this kind calls another one: what is thrown goes on to the caller -/
theorem hX_thruV (S : CallFix p m c cc nL s av.toArray Ts own) (hM : mX l y ws rm (.ref b :: As) D tysC wc E) (cw : CallW R s av.toArray own C index y bytes maxL ret ws rm 1 6 n)
    (hP : va_P D vwCl w H) (hK : va_K D vwCl tys s) (hD : va_D (fun _ => True) w) (hS : va_S (fun q => s.heap.size ≤ q) s.heap H locs) (hv : hV s) (hz : hZ s)
    (isC isT : List Nat) (h1 : isC.map (fun i => w[i]?) = wc.map some) (n1 : va_nd isC = true) (h4 : isT.filterMap (fun i => tys[i]?) = tysC) (q0 ci : Nat) {qc : vw_C} {fs : List Value} (he : w[q0]? = some (b, .inr (ci, fs))) (hci : vwCl[ci]? = some qc) (hC : qc.1 = C)
    (hn : As.length = n) (hsz : ls.size = nL) (hst : st0 = As.reverse ++ .ref b :: rest) (hcat : (rest.map fun v => v.category).sum ≤ 8) (hdg : decode cc pc = .ok (.invokevirtual index, 3)) (hroom : 0 + 1 ≤ R.cells ∧ 0 + 6 ≤ R.slots)
    (hnt : ∀ x ∈ c.exceptionTable.toList, False) (hlocks : meth.locks = false) : W p l e R s m av.toArray below meth c H locs 0 0 (hEX below E s av) (F0 m pc ls st0) := by
  subst hC
  refine hx_call (E := E) (rest := rest) (vx_runV (As := As) (rest := rest) S (hM H.size) cw ⟨h_blindX, va_recv hK hP hci he, fun U hU hW => ⟨rfl, h_preX h1 n1 h4 hP hK hD hv hU hW, hZ.move hW (by rw [hU]; exact hS.1) (fun q hq => by rw [hU]; exact hS.2.1 q hq (Nat.not_le.mpr hq)) hz⟩⟩ rfl hn hsz hst (lv_room hcat) hdg hroom) hS (fun q h => h) (fun ce q9 H1 locs1 hz1 hk hS1 hce hcv hcl => ?_)
  exact vx_out (fun x hx => (hnt x hx).elim) hlocks hce hcv hcl (fun t ht ha => ⟨(), trivial, rfl, hS1.F ht⟩) hS1.2.2 (Nat.le_refl _) (Nat.le_refl _)
theorem hX_thruS (S : CallFix p m c cc nL s av.toArray Ts own) (hM : mX l y ws rm As D [] [] E) (cw : CallB R s av.toArray own index y bytes maxL ret ws rm 1 6 n ∧ (Cond.static y).before av.toArray s = true)
    (hK : va_K D vwCl tys s) (hS : va_S (fun q => s.heap.size ≤ q) s.heap H locs) (hv : hV s) (hz : hZ s)
    (hn : As.length = n) (hsz : ls.size = nL) (hst : st0 = As.reverse ++ rest) (hcat : (rest.map fun v => v.category).sum ≤ 8) (hdg : decode cc pc = .ok (.invokestatic index, 3)) (hroom : 0 + 1 ≤ R.cells ∧ 0 + 6 ≤ R.slots)
    (hnt : ∀ x ∈ c.exceptionTable.toList, False) (hlocks : meth.locks = false) : W p l e R s m av.toArray below meth c H locs 0 0 (hEX below E s av) (F0 m pc ls st0) := by
  refine hx_call (E := E) (rest := rest) (vx_runS (As := As) (rest := rest) S (hM H.size) cw ⟨h_blindX, fun U hU hW => ⟨rfl, ⟨by rw [hU], fun k q h => by simp at h, va_K.moved hW.alike (hK.sub (tys' := []) [] rfl), ⟨fun i j p q h => by simp at h, fun k q h => by simp at h⟩, hV.warm hW hv⟩, hZ.move hW (by rw [hU]; exact hS.1) (fun q hq => by rw [hU]; exact hS.2.1 q hq (Nat.not_le.mpr hq)) hz⟩⟩ rfl hn hsz hst (lv_room hcat) hdg hroom) hS (fun q h => h) (fun ce q9 H1 locs1 hz1 hk hS1 hce hcv hcl => ?_)
  exact vx_out (fun x hx => (hnt x hx).elim) hlocks hce hcv hcl (fun t ht ha => ⟨(), trivial, rfl, hS1.F ht⟩) hS1.2.2 (Nat.le_refl _) (Nat.le_refl _)
theorem hX_throw {text : String} {names : List String} {ik is ic : Nat} (hx : p.tables.exec = Jvm.exec) (hb : c.code = cc) (hl : l.stackTraces = false) (hown : s.vm.findClass own = some m.cls) (hcls : Bundle.fit E = true) (hnames : ∀ n ∈ names, Bundle.fit n = true)
    (hts : ∀ w ∈ Ts, w.before av.toArray s = true) (hin : ∀ w ∈ Cond.classLink own ik E :: Cond.initialized E :: (vx_atS own ic E names).filter goodWord, w ∈ Ts) (hcast : va_Nw (.castable E E) s) (hbad : ∀ w ∈ (vx_atS own ic E names).filter (fun w => !goodWord w), w ∈ hBad E) (hv : hV s)
    (hgood : ∀ w ∈ Cond.classLink own ik E :: Cond.initialized E :: vx_atS own ic E names, vx_ot w = true) (hstr : ∃ sa, vk_R own is text sa s) (hz : hZ s) (hS : va_S (fun q => s.heap.size ≤ q) s.heap H locs) (hsize : ls.size = c.maxLocals)
    (d0 : decode cc pc = .ok (.new ik, 3)) (d3 : decode cc (pc + 3) = .ok (.dup, 1)) (d4 : decode cc (pc + 4) = .ok (.ldc is, 2)) (d6 : decode cc (pc + 6) = .ok (.invokespecial ic, 3)) (d9 : decode cc (pc + 9) = .ok (.athrow, 1))
    (hnt : ∀ x ∈ c.exceptionTable.toList, False) (hR : names.length + 3 < R.frames ∧ (rest.map fun v => v.category).sum + (13 * (names.length + 1) + 43) ≤ R.locals ∧ 0 + 1 ≤ R.cells ∧ 0 + 6 ≤ R.slots) (hlocks : meth.locks = false) :
    W p l e R s m av.toArray below meth c H locs 0 0 (hEX below E s av) (F0 m pc ls rest) := by
  obtain ⟨sa, hstr⟩ := hstr
  have hat : ∀ w ∈ vx_atS own ic E names, w.before av.toArray s = true := vx_hat (B := hBad E) (fun w hw => hts w (hin w (List.mem_cons_of_mem _ (List.mem_cons_of_mem _ hw)))) hbad (hBad_ok hcast hv)
  exact vx_throwS (A := fun q => s.heap.size ≤ q) hx hb hl hown hcls hnames (hts _ (hin _ List.mem_cons_self)) (hts _ (hin _ (List.mem_cons_of_mem _ List.mem_cons_self))) hstr hat hgood hz.1 hz.2.1 hS hsize d0 d3 d4 d6 d9
    (fun x hx => (hnt x hx).elim) hR.1 hR.2.1 hR.2.2.1 hR.2.2.2 hlocks (fun t ha hz1 hk => ⟨(), trivial, rfl, Nat.le_trans hS.1 hz1, fun q hq hn => by rw [hk q (Nat.lt_of_lt_of_le hq hS.1)]; exact hS.2.1 q hq hn⟩) hS.2.2 (Nat.le_refl _) (Nat.le_refl _)
/-- a helper of the law: it calls, and answers a number whether the callee returns or throws; one new cell at most -/
def mH (l : Launch) (y : MethodName) (ws : List Cond) (rm : Room) (av : List Value) (D : va_G) (tys : List (ClassId × FieldType)) (w0 w1 : va_W) (r : Int32) : Prop := ∀ sz : Nat, Met l y ws rm (va_Pc av (fun U => hPre D tys w0 sz U ∧ hZ U)) (hQI D w1 r (va_A w0 sz)) 1 6 (va_A w0 sz)
theorem hH_body {ws' : List Cond} {hh : List (Nat × Nat × Nat × Nat)} {r : Int32} (hy : plainName y.cls = true) (hw : ws = .codeWith y cc maxL ret hh :: ws') (hn : (lg_sl av).length ≤ maxL)
    (body : ∀ (p : Program) (e : Env) (s : State) (m : MethodId) (below : List Frame) (meth : Method) (c : Code) (A : Nat → Prop) (ls : Array Slot), hAt p s m meth c av cc maxL ret ws y.cls → c.exceptionTable.toList = tableOf hh → hZ s →
      (∀ q, s.heap.size ≤ q → A q) → va_P D vwCl w0 s.heap → va_K D vwCl tys s → va_D A w0 → va_S A s.heap s.heap [] → lv_has ls maxL (lv_args 0 av) →
      W p l e rm s m av.toArray below meth c s.heap [] 0 0 (MQ below (hQI D w1 r A) av.toArray s 1 6 A) (F0 m 0 ls [])) : mH l y ws rm av D tys w0 w1 r := by
  intro sz
  refine va_MetW (cc := cc) (maxL := maxL) (ret := ret) (hh := hh) hy hw ?_
  intro p e s m args below meth c s₁ B hml hv
  obtain ⟨rfl, ⟨hsz, hP, hK, hD0, hV0⟩, hZ0⟩ := hv
  subst hsz
  rw [lg_entry_eq]
  have hts := atoms_spec (ws := ws) B.pre
  exact body p e s m below meth c (va_A w0 s.heap.size) _ ⟨⟨B.exec, B.bytes, hml, findClass_of_methodNamed B.named, hts⟩, B.returns, B.notSynchronized, hV0⟩ (vx_table (x := y) B (hts _ (by rw [hw]; exact List.mem_cons_self))) hZ0 (fun q h => Or.inr h) hP hK (hD0.self (sz := s.heap.size)) va_S.rf (lv_entry av (n := maxL) hn)
theorem hH_iret {ty : FieldType} {v r : Int32} (hx : p.tables.exec = Jvm.exec) (hb : c.code = cc) (hr : meth.sig.returnType = some ty) (hlocks : meth.locks = false) (hn : narrow ty (.int v) = .int v) (hP : va_P D vwCl w1 H) (hD : va_D A w1) (hS : va_S A s.heap H locs) (hv : v = r) (hdg : decode cc pc = .ok (.ireturn, 1)) (h1 : cells ≤ 1) (h2 : slots ≤ 6) :
    W p l e R s m args below meth c H locs cells slots (MQ below (hQI D w1 r A) args s 1 6 A) (F0 m pc ls [.int v]) :=
  W.widen h1 h2 (W.zret hx hb hr hn (fun t ht hW => ⟨⟨v, (), rfl, hv, by rw [ht]; exact hP, hD⟩, hS.F ht⟩) hS.2.2 hdg hlocks)
/-- a call that throws, in a body whose first world stands (heap as at the start) -/
theorem hx_callV (S : CallFix p m c cc nL s args Ts own) (hM : mX l y ws rm (.ref b :: As) D tysC wc E) (cw : CallW R s args own C index y bytes maxL ret ws rm 1 6 n)
    (hP : va_P D vwCl w H) (hK : va_K D vwCl tys s) (hD : va_D A w) (hS : va_S A H0 H locs) (hA : ∀ q, H0.size ≤ q → A q) (hv : hV s) (hz : ∀ U : State, U.heap = H → s.WarmedH U.vm → hZ U)
    (isC isT : List Nat) (h1 : isC.map (fun i => w[i]?) = wc.map some) (n1 : va_nd isC = true) (h4 : isT.filterMap (fun i => tys[i]?) = tysC) (q0 ci : Nat) {qc : vw_C} {fs : List Value} (he : w[q0]? = some (b, .inr (ci, fs))) (hci : vwCl[ci]? = some qc) (hC : qc.1 = C)
    (hn : As.length = n) (hsz : ls.size = nL) (hst : st0 = As.reverse ++ .ref b :: rest) (hcat : (rest.map fun v => v.category).sum ≤ 8) (hdg : decode cc pc = .ok (.invokevirtual index, 3)) (hroom : cells + 1 ≤ R.cells ∧ slots + 6 ≤ R.slots)
    (kx : ∀ (ce : Cell) (q9 : Addr) (H1 : Heap) (locs1 : List Loc), va_P D vwCl w H1 → va_S A H0 H1 locs1 → H1[q9]? = some ce → ce.vm = .none → s.vm.findClass E = some ce.cls → vx_W p l e R s m args below meth c H1 locs1 (cells + 1) (slots + 6) Q (F0 m pc ls rest) q9) : W p l e R s m args below meth c H locs cells slots Q (F0 m pc ls st0) := by
  subst hC
  refine hx_call (E := E) (rest := rest) (vx_runV (As := As) (rest := rest) S (hM H.size) cw ⟨h_blindX, va_recv hK hP hci he, fun U hU hW => ⟨rfl, h_preX h1 n1 h4 hP hK hD hv hU hW, hz U hU hW⟩⟩ rfl hn hsz hst (lv_room hcat) hdg hroom) hS hA (fun ce q9 H1 locs1 hz1 hk hS1 hce hcv hcl => ?_)
  exact kx ce q9 H1 locs1 (hP.kept (fun k q hq => hk _ (vx_lt hP hq))) hS1 hce hcv hcl
/-- a call of a helper -/
theorem hc_H {hh : List (Nat × Nat × Nat × Nat)} {r : Int32} (S : CallFix p m c cc nL s args Ts own) (hM : mH l y ws rm As D tysC wc w1 r) (cw : vx_CSW R s args own index y bytes maxL ret hh ws rm 1 6 n)
    (hP : va_P D vwCl w H) (hK : va_K D vwCl tys s) (hD : va_D A w) (hS : va_S A H0 H locs) (hA : ∀ q, H0.size ≤ q → A q) (hv : hV s) (hz : ∀ U : State, U.heap = H → s.WarmedH U.vm → hZ U)
    (isC isR isJ isT : List Nat) (hc : hCut w wc wr w1 w' tys tysC isC isR isJ isT)
    (hn : As.length = n) (hsz : ls.size = nL) (hst : st0 = As.reverse ++ rest) (hcat : (rest.map fun v => v.category).sum ≤ 8) (hdg : decode cc pc = .ok (.invokestatic index, 3)) (hroom : cells + 1 ≤ R.cells ∧ slots + 6 ≤ R.slots)
    (kk : ∀ (H1 : Heap) (locs1 : List Loc), va_P D vwCl w' H1 → va_D A w' → va_S A H0 H1 locs1 → W p l e R s m args below meth c H1 locs1 (cells + 1) (slots + 6) Q (F0 m (pc + 3) ls (.int r :: rest))) : W p l e R s m args below meth c H locs cells slots Q (F0 m pc ls st0) := by
  have hFc := va_free (wc := wc) hD hS hA isC hc.1
  refine va_calli (vx_runSW (As := As) (rest := rest) S (hM H.size) cw ⟨h_blindX, fun U hU hW => ⟨rfl, h_pre hc hP hK hD hv hU hW, hz U hU hW⟩⟩ rfl hn hsz hst (lv_room hcat) hdg hroom) hS (fun q _ h => hFc q h) hFc (fun r1 u t H1 locs1 ht hvm hw hB hz1 hk1 hS1 => ?_)
  obtain ⟨hP1, hD1⟩ := hB
  rw [ht] at hP1
  obtain ⟨hP2, hD2⟩ := h_back hc hP hD hS hA hk1 hP1 hD1
  rw [hw]
  exact kk H1 locs1 hP2 hD2 hS1
end HX
