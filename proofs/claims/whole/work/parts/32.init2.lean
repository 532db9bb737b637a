/-! the constructors of HeapAndDeque and of its model -/
section HC2
abbrev wX (x h1 a1 h2 a2 h3 a3 : Nat) (cL cI : ClassId) (fq : Nat → Int64) (n1 : Nat) (fp : Nat → Int64) (n2 : Nat) (fr : Nat → Int32) (n3 : Nat) : va_W :=
  [(x, .inr (2, [.ref h1, .ref h2, .ref h3])), (h1, .inr (0, [.ref a1, .int (nI n1)])), (a1, .inl (cL, 200, .inr (.inl fq))), (h2, .inr (0, [.ref a2, .int (nI n2)])), (a2, .inl (cL, 200, .inr (.inl fp))), (h3, .inr (1, [.ref a3, .int (nI n3)])), (a3, .inl (cI, 200, .inl fr))]
abbrev wM (mo b1 b2 b3 b4 : Nat) (cI : ClassId) (fh fo fk ft : Nat → Int32) (nh no np : Nat) (th : Int32) : va_W :=
  [(mo, .inr (3, [.ref b1, .ref b2, .ref b3, .ref b4, .int (nI nh), .int (nI no), .int (nI np), .int th])), (b1, .inl (cI, 200, .inl fh)), (b2, .inl (cI, 200, .inl fo)), (b3, .inl (cI, 200, .inl fk)), (b4, .inl (cI, 200, .inl ft))]
set_option maxHeartbeats 4000000 in
set_option maxRecDepth 100000 in
theorem c_X2_init (l : Launch) (D : va_G) (x : Nat) (sz : Nat) : Met l yX2_init wsX2_init ({ frames := 2, cells := 6, slots := 606, locals := 52 }) (va_Pc [.ref x] (hPre D [] [(x, .inr (2, [.null, .null, .null]))] sz))
    (va_Qv (fun (_ : Nat × Nat × Nat × Nat × Nat × Nat × ClassId × ClassId) => True) (fun u t => va_P D vwCl (wX x u.1 u.2.1 u.2.2.1 u.2.2.2.1 u.2.2.2.2.1 u.2.2.2.2.2.1 u.2.2.2.2.2.2.1 u.2.2.2.2.2.2.2 hz64 0 hz64 0 hz32 0) t.heap ∧ va_K D vwCl [(u.2.2.2.2.2.2.1, .long), (u.2.2.2.2.2.2.2, .int)] t ∧ va_D (va_A [(x, .inr (2, [.null, .null, .null]))] sz) (wX x u.1 u.2.1 u.2.2.1 u.2.2.2.1 u.2.2.2.2.1 u.2.2.2.2.2.1 u.2.2.2.2.2.2.1 u.2.2.2.2.2.2.2 hz64 0 hz64 0 hz32 0)) (va_A [(x, .inr (2, [.null, .null, .null]))] sz)) 6 606 (va_A [(x, .inr (2, [.null, .null, .null]))] sz) := by
  refine Met.ofW (cc := cX2_init) (maxL := 1) (ret := none) (by decide) rfl ?_
  intro p e s m args below meth c s₁ B hml hv
  obtain ⟨rfl, hsz, hP, hK, hD0, hV0⟩ := hv
  have hx := B.exec
  have hb := B.bytes
  have hr := B.returns
  have hts := atoms_spec (ws := wsX2_init) B.pre
  have hown : s.vm.findClass RX2 = some m.cls := findClass_of_methodNamed B.named
  have hlocks := B.notSynchronized
  have hin : meth.name = "<init>" := (name_of_methodNamed B.named B.method).1
  subst hsz
  have hD := hD0.self (sz := s.heap.size)
  generalize hAe : va_A [(x, .inr (2, [.null, .null, .null]))] s.heap.size = A at hD ⊢
  have hA : ∀ q : Nat, s.heap.size ≤ q → A q := fun q h => by rw [← hAe]; exact Or.inr h
  have hS : va_S A s.heap s.heap [] := va_S.rf
  have hl := lv_entry ([.ref x]) (n := 1) (Nat.le_of_ble_eq_true rfl)
  rw [lg_entry_eq]
  generalize (lg_sl ([.ref x]) ++ List.replicate (1 - (lg_sl ([.ref x])).length) Slot.unset).toArray = ls at hl ⊢
  have hl : lv_has ls 1 [(0, .ref x)] := hl
  have iX0 : ∀ w ∈ wsX00, w ∈ wsX2_init := by decide +kernel
  have iX1 : ∀ w ∈ wsX10, w ∈ wsX2_init := by decide +kernel
  have iX2 : ∀ w ∈ wsX20, w ∈ wsX2_init := by decide +kernel
  refine lv_aload_n hx hb dX2_init_0 rfl (lv_at hl 0 rfl) ?_
  refine W.objInit hx hb hown (hts (.methodLink RX2 1 objectInit) (by decide +kernel)) (hts (.instanceMethod objectInit) (by decide +kernel)) (hts _ (List.mem_cons_of_mem _ (List.mem_append_left _ (List.mem_of_getElem? (i := 2) rfl)))) rfl (by rw [hml]; exact hl.1) rfl dX2_init_1 (Nat.le_of_ble_eq_true rfl) (Nat.le_of_ble_eq_true rfl) ?_
  refine W.eq (g2 := F0 m 4 ls []) rfl ?_
  refine lv_aload_n hx hb dX2_init_4 rfl (lv_at hl 0 rfl) ?_
  refine va_new (ci := 0) (fs := [.null, .int 0]) (C := RX0) (T := TX0) (N := 2) hx hb hts iX0 tyX0 tyX0_ok hown (hts (.classLink RX2 7 RX0) (by decide +kernel)) (hts (.instantiable RX0 2) (by decide +kernel)) (hts (.initialized RX0) (by decide +kernel)) hK hP hD hS hA rfl (fun j hj => by rcases (show j = 0 ∨ j = 1 by omega) with rfl | rfl <;> rfl) (Nat.le_of_ble_eq_true rfl) (Nat.le_of_ble_eq_true rfl) dX2_init_5 (fun h1 H hP hD hS => ?_)
  have hP : va_P D vwCl [(x, .inr (2, [.null, .null, .null])), (h1, .inr (0, [.null, .int 0]))] H := hP
  have hD : va_D A [(x, .inr (2, [.null, .null, .null])), (h1, .inr (0, [.null, .int 0]))] := hD
  refine W.widen (k := 1) (n := 2) (Nat.le_of_ble_eq_true rfl) (Nat.le_of_ble_eq_true rfl) ?_
  refine lv_dup hx hb dX2_init_8 rfl ?_
  have hPc := hP.sub (ws' := [(h1, .inr (0, [.null, .int 0]))]) [1] rfl
  have hDc := hD.sub (ws' := [(h1, .inr (0, [.null, .int 0]))]) [1] (by decide) rfl
  have hKc := hK.sub (tys' := []) [] rfl
  have hFc := va_free (wc := [(h1, .inr (0, [.null, .int 0]))]) hD hS hA [1] rfl
  refine va_callv (va_runIN (As := []) (rest := [.ref h1, .ref x]) ⟨hx, hb, hml, hown, hts⟩ (c_X0_init l D h1 0 H.size) ⟨va_cnB (own := RX2) (index := 9) (host := RX2) 0 hts gX2_init_X0_init_n9 rfl rfl rfl hV0.2.2.2.2.2.2.1 (hts (.initialized RX0) (by decide +kernel)) (by decide +kernel) ⟨Nat.le_of_ble_eq_true rfl, Nat.le_of_ble_eq_true rfl⟩, rfl, hts (.instanceMethod yX0_init) (by decide +kernel)⟩ ⟨h_blind, fun U hU hW => ⟨rfl, by rw [hU], by rw [hU]; exact hPc, va_K.moved hW.alike hKc, hDc.weaken (fun _ _ _ _ => trivial), hV.warm hW hV0⟩⟩ rfl rfl hl.1 rfl (lv_room (Nat.le_of_ble_eq_true rfl)) dX2_init_9 ⟨Nat.le_of_ble_eq_true rfl, Nat.le_of_ble_eq_true rfl⟩) hS (fun q _ h => hFc q h) hFc (fun u t H1 locs ht hvm hw hB hz1 hk1 hS => ?_)
  obtain ⟨a1, cL1⟩ := u
  obtain ⟨hP1, hK1, hD1⟩ := hB
  rw [ht] at hP1
  have hK1 := va_K.moved hvm.symm hK1
  obtain ⟨hP, hD⟩ := va_join (wr := [(x, .inr (2, [.null, .null, .null]))]) (w1 := (wQ h1 a1 cL1 hz64 0)) hP hD [1] [0] rfl rfl (by decide) (by decide) hk1 hFc hP1 hD1
  have hK := hK.app hK1
  generalize H1 = H at hP hS ⊢
  have hP : va_P D vwCl [(x, .inr (2, [.null, .null, .null])), (h1, .inr (0, [.ref a1, .int (nI 0)])), (a1, .inl (cL1, 200, .inr (.inl hz64)))] H := hP
  have hD : va_D A [(x, .inr (2, [.null, .null, .null])), (h1, .inr (0, [.ref a1, .int (nI 0)])), (a1, .inl (cL1, 200, .inr (.inl hz64)))] := hD
  have hK : va_K D vwCl [(cL1, .long)] s := hK
  refine W.widen (k := 2) (n := 202) (Nat.le_of_ble_eq_true rfl) (Nat.le_of_ble_eq_true rfl) ?_
  refine va_putF (D := D) (ci := 2) (v := .ref h1) (ty := .object "HeapAndDeque$LeastFirst") (C := RX2) (T := TX2) (N := 3) hx hb hts iX2 tyX2 tyX2_ok nmX2 hown hK hP hD hS 0 rfl rfl 0 (by decide) (hts (.fieldLink RX2 10 "HeapAndDeque" "numbers" "LHeapAndDeque$LeastFirst;") (by decide +kernel)) (fun _ h9 => h9) rfl hin rfl (by decide +kernel) rfl rfl (Nat.le_of_ble_eq_true rfl) dX2_init_12 (fun H locs hP hD hS => ?_)
  have hP : va_P D vwCl [(x, .inr (2, [.ref h1, .null, .null])), (h1, .inr (0, [.ref a1, .int (nI 0)])), (a1, .inl (cL1, 200, .inr (.inl hz64)))] H := hP
  have hD : va_D A [(x, .inr (2, [.ref h1, .null, .null])), (h1, .inr (0, [.ref a1, .int (nI 0)])), (a1, .inl (cL1, 200, .inr (.inl hz64)))] := hD
  refine lv_aload_n hx hb dX2_init_15 rfl (lv_at hl 0 rfl) ?_
  refine va_new (ci := 0) (fs := [.null, .int 0]) (C := RX0) (T := TX0) (N := 2) hx hb hts iX0 tyX0 tyX0_ok hown (hts (.classLink RX2 7 RX0) (by decide +kernel)) (hts (.instantiable RX0 2) (by decide +kernel)) (hts (.initialized RX0) (by decide +kernel)) hK hP hD hS hA rfl (fun j hj => by rcases (show j = 0 ∨ j = 1 by omega) with rfl | rfl <;> rfl) (Nat.le_of_ble_eq_true rfl) (Nat.le_of_ble_eq_true rfl) dX2_init_16 (fun h2 H hP hD hS => ?_)
  have hP : va_P D vwCl [(x, .inr (2, [.ref h1, .null, .null])), (h1, .inr (0, [.ref a1, .int (nI 0)])), (a1, .inl (cL1, 200, .inr (.inl hz64))), (h2, .inr (0, [.null, .int 0]))] H := hP
  have hD : va_D A [(x, .inr (2, [.ref h1, .null, .null])), (h1, .inr (0, [.ref a1, .int (nI 0)])), (a1, .inl (cL1, 200, .inr (.inl hz64))), (h2, .inr (0, [.null, .int 0]))] := hD
  refine W.widen (k := 3) (n := 204) (Nat.le_of_ble_eq_true rfl) (Nat.le_of_ble_eq_true rfl) ?_
  refine lv_dup hx hb dX2_init_19 rfl ?_
  have hPc := hP.sub (ws' := [(h2, .inr (0, [.null, .int 0]))]) [3] rfl
  have hDc := hD.sub (ws' := [(h2, .inr (0, [.null, .int 0]))]) [3] (by decide) rfl
  have hKc := hK.sub (tys' := []) [] rfl
  have hFc := va_free (wc := [(h2, .inr (0, [.null, .int 0]))]) hD hS hA [3] rfl
  refine va_callv (va_runIN (As := []) (rest := [.ref h2, .ref x]) ⟨hx, hb, hml, hown, hts⟩ (c_X0_init l D h2 0 H.size) ⟨va_cnB (own := RX2) (index := 9) (host := RX2) 0 hts gX2_init_X0_init_n9 rfl rfl rfl hV0.2.2.2.2.2.2.1 (hts (.initialized RX0) (by decide +kernel)) (by decide +kernel) ⟨Nat.le_of_ble_eq_true rfl, Nat.le_of_ble_eq_true rfl⟩, rfl, hts (.instanceMethod yX0_init) (by decide +kernel)⟩ ⟨h_blind, fun U hU hW => ⟨rfl, by rw [hU], by rw [hU]; exact hPc, va_K.moved hW.alike hKc, hDc.weaken (fun _ _ _ _ => trivial), hV.warm hW hV0⟩⟩ rfl rfl hl.1 rfl (lv_room (Nat.le_of_ble_eq_true rfl)) dX2_init_20 ⟨Nat.le_of_ble_eq_true rfl, Nat.le_of_ble_eq_true rfl⟩) hS (fun q _ h => hFc q h) hFc (fun u t H1 locs ht hvm hw hB hz1 hk1 hS => ?_)
  obtain ⟨a2, cL2⟩ := u
  obtain ⟨hP1, hK1, hD1⟩ := hB
  rw [ht] at hP1
  have hK1 := va_K.moved hvm.symm hK1
  obtain ⟨hP, hD⟩ := va_join (wr := [(x, .inr (2, [.ref h1, .null, .null])), (h1, .inr (0, [.ref a1, .int (nI 0)])), (a1, .inl (cL1, 200, .inr (.inl hz64)))]) (w1 := (wQ h2 a2 cL2 hz64 0)) hP hD [3] [0, 1, 2] rfl rfl (by decide) (by decide) hk1 hFc hP1 hD1
  have hK := hK.app hK1
  generalize H1 = H at hP hS ⊢
  have hP : va_P D vwCl [(x, .inr (2, [.ref h1, .null, .null])), (h1, .inr (0, [.ref a1, .int (nI 0)])), (a1, .inl (cL1, 200, .inr (.inl hz64))), (h2, .inr (0, [.ref a2, .int (nI 0)])), (a2, .inl (cL2, 200, .inr (.inl hz64)))] H := hP
  have hD : va_D A [(x, .inr (2, [.ref h1, .null, .null])), (h1, .inr (0, [.ref a1, .int (nI 0)])), (a1, .inl (cL1, 200, .inr (.inl hz64))), (h2, .inr (0, [.ref a2, .int (nI 0)])), (a2, .inl (cL2, 200, .inr (.inl hz64)))] := hD
  have hK : va_K D vwCl [(cL1, .long), (cL2, .long)] s := hK
  refine W.widen (k := 4) (n := 404) (Nat.le_of_ble_eq_true rfl) (Nat.le_of_ble_eq_true rfl) ?_
  refine va_putF (D := D) (ci := 2) (v := .ref h2) (ty := .object "HeapAndDeque$LeastFirst") (C := RX2) (T := TX2) (N := 3) hx hb hts iX2 tyX2 tyX2_ok nmX2 hown hK hP hD hS 0 rfl rfl 1 (by decide) (hts (.fieldLink RX2 16 "HeapAndDeque" "pairs" "LHeapAndDeque$LeastFirst;") (by decide +kernel)) (fun _ h9 => h9) rfl hin rfl (by decide +kernel) rfl rfl (Nat.le_of_ble_eq_true rfl) dX2_init_23 (fun H locs hP hD hS => ?_)
  have hP : va_P D vwCl [(x, .inr (2, [.ref h1, .ref h2, .null])), (h1, .inr (0, [.ref a1, .int (nI 0)])), (a1, .inl (cL1, 200, .inr (.inl hz64))), (h2, .inr (0, [.ref a2, .int (nI 0)])), (a2, .inl (cL2, 200, .inr (.inl hz64)))] H := hP
  have hD : va_D A [(x, .inr (2, [.ref h1, .ref h2, .null])), (h1, .inr (0, [.ref a1, .int (nI 0)])), (a1, .inl (cL1, 200, .inr (.inl hz64))), (h2, .inr (0, [.ref a2, .int (nI 0)])), (a2, .inl (cL2, 200, .inr (.inl hz64)))] := hD
  refine lv_aload_n hx hb dX2_init_26 rfl (lv_at hl 0 rfl) ?_
  refine va_new (ci := 1) (fs := [.null, .int 0]) (C := RX1) (T := TX1) (N := 2) hx hb hts iX1 tyX1 tyX1_ok hown (hts (.classLink RX2 19 RX1) (by decide +kernel)) (hts (.instantiable RX1 2) (by decide +kernel)) (hts (.initialized RX1) (by decide +kernel)) hK hP hD hS hA rfl (fun j hj => by rcases (show j = 0 ∨ j = 1 by omega) with rfl | rfl <;> rfl) (Nat.le_of_ble_eq_true rfl) (Nat.le_of_ble_eq_true rfl) dX2_init_27 (fun h3 H hP hD hS => ?_)
  have hP : va_P D vwCl [(x, .inr (2, [.ref h1, .ref h2, .null])), (h1, .inr (0, [.ref a1, .int (nI 0)])), (a1, .inl (cL1, 200, .inr (.inl hz64))), (h2, .inr (0, [.ref a2, .int (nI 0)])), (a2, .inl (cL2, 200, .inr (.inl hz64))), (h3, .inr (1, [.null, .int 0]))] H := hP
  have hD : va_D A [(x, .inr (2, [.ref h1, .ref h2, .null])), (h1, .inr (0, [.ref a1, .int (nI 0)])), (a1, .inl (cL1, 200, .inr (.inl hz64))), (h2, .inr (0, [.ref a2, .int (nI 0)])), (a2, .inl (cL2, 200, .inr (.inl hz64))), (h3, .inr (1, [.null, .int 0]))] := hD
  refine W.widen (k := 5) (n := 406) (Nat.le_of_ble_eq_true rfl) (Nat.le_of_ble_eq_true rfl) ?_
  refine lv_dup hx hb dX2_init_30 rfl ?_
  have hPc := hP.sub (ws' := [(h3, .inr (1, [.null, .int 0]))]) [5] rfl
  have hDc := hD.sub (ws' := [(h3, .inr (1, [.null, .int 0]))]) [5] (by decide) rfl
  have hKc := hK.sub (tys' := []) [] rfl
  have hFc := va_free (wc := [(h3, .inr (1, [.null, .int 0]))]) hD hS hA [5] rfl
  refine va_callv (va_runIN (As := []) (rest := [.ref h3, .ref x]) ⟨hx, hb, hml, hown, hts⟩ (c_X1_init l D h3 0 H.size) ⟨va_cnB (own := RX2) (index := 21) (host := RX2) 0 hts gX2_init_X1_init_n21 rfl rfl rfl hV0.2.2.2.2.2.2.2.1 (hts (.initialized RX1) (by decide +kernel)) (by decide +kernel) ⟨Nat.le_of_ble_eq_true rfl, Nat.le_of_ble_eq_true rfl⟩, rfl, hts (.instanceMethod yX1_init) (by decide +kernel)⟩ ⟨h_blind, fun U hU hW => ⟨rfl, by rw [hU], by rw [hU]; exact hPc, va_K.moved hW.alike hKc, hDc.weaken (fun _ _ _ _ => trivial), hV.warm hW hV0⟩⟩ rfl rfl hl.1 rfl (lv_room (Nat.le_of_ble_eq_true rfl)) dX2_init_31 ⟨Nat.le_of_ble_eq_true rfl, Nat.le_of_ble_eq_true rfl⟩) hS (fun q _ h => hFc q h) hFc (fun u t H1 locs ht hvm hw hB hz1 hk1 hS => ?_)
  obtain ⟨a3, cI⟩ := u
  obtain ⟨hP1, hK1, hD1⟩ := hB
  rw [ht] at hP1
  have hK1 := va_K.moved hvm.symm hK1
  obtain ⟨hP, hD⟩ := va_join (wr := [(x, .inr (2, [.ref h1, .ref h2, .null])), (h1, .inr (0, [.ref a1, .int (nI 0)])), (a1, .inl (cL1, 200, .inr (.inl hz64))), (h2, .inr (0, [.ref a2, .int (nI 0)])), (a2, .inl (cL2, 200, .inr (.inl hz64)))]) (w1 := (wR h3 a3 cI hz32 0)) hP hD [5] [0, 1, 2, 3, 4] rfl rfl (by decide) (by decide) hk1 hFc hP1 hD1
  have hK := hK.app hK1
  generalize H1 = H at hP hS ⊢
  have hP : va_P D vwCl [(x, .inr (2, [.ref h1, .ref h2, .null])), (h1, .inr (0, [.ref a1, .int (nI 0)])), (a1, .inl (cL1, 200, .inr (.inl hz64))), (h2, .inr (0, [.ref a2, .int (nI 0)])), (a2, .inl (cL2, 200, .inr (.inl hz64))), (h3, .inr (1, [.ref a3, .int (nI 0)])), (a3, .inl (cI, 200, .inl hz32))] H := hP
  have hD : va_D A [(x, .inr (2, [.ref h1, .ref h2, .null])), (h1, .inr (0, [.ref a1, .int (nI 0)])), (a1, .inl (cL1, 200, .inr (.inl hz64))), (h2, .inr (0, [.ref a2, .int (nI 0)])), (a2, .inl (cL2, 200, .inr (.inl hz64))), (h3, .inr (1, [.ref a3, .int (nI 0)])), (a3, .inl (cI, 200, .inl hz32))] := hD
  have hK : va_K D vwCl [(cL1, .long), (cL2, .long), (cI, .int)] s := hK
  refine W.widen (k := 6) (n := 606) (Nat.le_of_ble_eq_true rfl) (Nat.le_of_ble_eq_true rfl) ?_
  refine va_putF (D := D) (ci := 2) (v := .ref h3) (ty := .object "HeapAndDeque$Row") (C := RX2) (T := TX2) (N := 3) hx hb hts iX2 tyX2 tyX2_ok nmX2 hown hK hP hD hS 0 rfl rfl 2 (by decide) (hts (.fieldLink RX2 22 "HeapAndDeque" "row" "LHeapAndDeque$Row;") (by decide +kernel)) (fun _ h9 => h9) rfl hin rfl (by decide +kernel) rfl rfl (Nat.le_of_ble_eq_true rfl) dX2_init_34 (fun H locs hP hD hS => ?_)
  have hP : va_P D vwCl [(x, .inr (2, [.ref h1, .ref h2, .ref h3])), (h1, .inr (0, [.ref a1, .int (nI 0)])), (a1, .inl (cL1, 200, .inr (.inl hz64))), (h2, .inr (0, [.ref a2, .int (nI 0)])), (a2, .inl (cL2, 200, .inr (.inl hz64))), (h3, .inr (1, [.ref a3, .int (nI 0)])), (a3, .inl (cI, 200, .inl hz32))] H := hP
  have hD : va_D A [(x, .inr (2, [.ref h1, .ref h2, .ref h3])), (h1, .inr (0, [.ref a1, .int (nI 0)])), (a1, .inl (cL1, 200, .inr (.inl hz64))), (h2, .inr (0, [.ref a2, .int (nI 0)])), (a2, .inl (cL2, 200, .inr (.inl hz64))), (h3, .inr (1, [.ref a3, .int (nI 0)])), (a3, .inl (cI, 200, .inl hz32))] := hD
  have e1 : cL1 = cL2 := h_Keq hK 0 1 rfl rfl (Or.inl rfl)
  subst e1
  have hK : va_K D vwCl [(cL1, .long), (cI, .int)] s := hK.sub [0, 2] rfl
  exact W.vret hx hb hr (fun t ht hW => ⟨⟨(h1, a1, h2, a2, h3, a3, cL1, cI), rfl, trivial, by rw [ht]; exact hP, va_K.moved hW.alike hK, hD⟩, hS.F ht⟩) hS.2.2 dX2_init_37
set_option maxHeartbeats 4000000 in
set_option maxRecDepth 100000 in
theorem c_X3_init (l : Launch) (D : va_G) (mo : Nat) (sz : Nat) : Met l yX3_init wsX3_init ({ frames := 1, cells := 4, slots := 800, locals := 32 }) (va_Pc [.ref mo] (hPre D [] [(mo, .inr (3, [.null, .null, .null, .null, .int 0, .int 0, .int 0, .int 0]))] sz))
    (va_Qv (fun (_ : Nat × Nat × Nat × Nat × ClassId) => True) (fun u t => va_P D vwCl (wM mo u.1 u.2.1 u.2.2.1 u.2.2.2.1 u.2.2.2.2 hz32 hz32 hz32 hz32 0 0 0 0) t.heap ∧ va_K D vwCl [(u.2.2.2.2, .int)] t ∧ va_D (va_A [(mo, .inr (3, [.null, .null, .null, .null, .int 0, .int 0, .int 0, .int 0]))] sz) (wM mo u.1 u.2.1 u.2.2.1 u.2.2.2.1 u.2.2.2.2 hz32 hz32 hz32 hz32 0 0 0 0)) (va_A [(mo, .inr (3, [.null, .null, .null, .null, .int 0, .int 0, .int 0, .int 0]))] sz)) 4 800 (va_A [(mo, .inr (3, [.null, .null, .null, .null, .int 0, .int 0, .int 0, .int 0]))] sz) := by
  refine Met.ofW (cc := cX3_init) (maxL := 1) (ret := none) (by decide) rfl ?_
  intro p e s m args below meth c s₁ B hml hv
  obtain ⟨rfl, hsz, hP, hK, hD0, hV0⟩ := hv
  have hx := B.exec
  have hb := B.bytes
  have hr := B.returns
  have hts := atoms_spec (ws := wsX3_init) B.pre
  have hown : s.vm.findClass RX3 = some m.cls := findClass_of_methodNamed B.named
  have hlocks := B.notSynchronized
  have hin : meth.name = "<init>" := (name_of_methodNamed B.named B.method).1
  subst hsz
  have hD := hD0.self (sz := s.heap.size)
  generalize hAe : va_A [(mo, .inr (3, [.null, .null, .null, .null, .int 0, .int 0, .int 0, .int 0]))] s.heap.size = A at hD ⊢
  have hA : ∀ q : Nat, s.heap.size ≤ q → A q := fun q h => by rw [← hAe]; exact Or.inr h
  have hS : va_S A s.heap s.heap [] := va_S.rf
  have hl := lv_entry ([.ref mo]) (n := 1) (Nat.le_of_ble_eq_true rfl)
  rw [lg_entry_eq]
  generalize (lg_sl ([.ref mo]) ++ List.replicate (1 - (lg_sl ([.ref mo])).length) Slot.unset).toArray = ls at hl ⊢
  have hl : lv_has ls 1 [(0, .ref mo)] := hl
  have iX3 : ∀ w ∈ wsX30, w ∈ wsX3_init := by decide +kernel
  refine lv_aload_n hx hb dX3_init_0 rfl (lv_at hl 0 rfl) ?_
  refine W.objInit hx hb hown (hts (.methodLink RX3 1 objectInit) (by decide +kernel)) (hts (.instanceMethod objectInit) (by decide +kernel)) (hts _ (List.mem_cons_of_mem _ (List.mem_append_left _ (List.mem_of_getElem? (i := 2) rfl)))) rfl (by rw [hml]; exact hl.1) rfl dX3_init_1 (Nat.le_of_ble_eq_true rfl) (Nat.le_of_ble_eq_true rfl) ?_
  refine W.eq (g2 := F0 m 4 ls []) rfl ?_
  refine lv_aload_n hx hb dX3_init_4 rfl (lv_at hl 0 rfl) ?_
  refine lv_sipush (v := nI 200) hx hb dX3_init_5 (by decide +kernel) ?_
  refine va_newa (atype := .int) (ty := .int) (N' := 200) (a0 := (200, .inl hz32)) hx hb (hts (.arrayClass .int) (by decide +kernel)) rfl hK hP hD hS hA (fun _ => rfl) (by decide +kernel) (by decide +kernel) (Nat.le_of_ble_eq_true rfl) (Nat.le_of_ble_eq_true rfl) (Nat.le_of_ble_eq_true rfl) dX3_init_8 (fun b1 cI0 H hK hP hD hS => ?_)
  have hP : va_P D vwCl [(mo, .inr (3, [.null, .null, .null, .null, .int 0, .int 0, .int 0, .int 0])), (b1, .inl (cI0, 200, .inl hz32))] H := hP
  have hD : va_D A [(mo, .inr (3, [.null, .null, .null, .null, .int 0, .int 0, .int 0, .int 0])), (b1, .inl (cI0, 200, .inl hz32))] := hD
  have hK : va_K D vwCl [(cI0, .int)] s := hK
  refine W.widen (k := 1) (n := 200) (Nat.le_of_ble_eq_true rfl) (Nat.le_of_ble_eq_true rfl) ?_
  refine va_putF (D := D) (ci := 3) (v := .ref b1) (ty := .array .int) (C := RX3) (T := TX3) (N := 8) hx hb hts iX3 tyX3 tyX3_ok nmX3 hown hK hP hD hS 0 rfl rfl 0 (by decide) (hts (.fieldLink RX3 7 "HeapAndDequeModel" "heap" "[I") (by decide +kernel)) (fun _ h9 => h9) rfl hin rfl (by decide +kernel) rfl rfl (Nat.le_of_ble_eq_true rfl) dX3_init_10 (fun H locs hP hD hS => ?_)
  have hP : va_P D vwCl [(mo, .inr (3, [.ref b1, .null, .null, .null, .int 0, .int 0, .int 0, .int 0])), (b1, .inl (cI0, 200, .inl hz32))] H := hP
  have hD : va_D A [(mo, .inr (3, [.ref b1, .null, .null, .null, .int 0, .int 0, .int 0, .int 0])), (b1, .inl (cI0, 200, .inl hz32))] := hD
  refine lv_aload_n hx hb dX3_init_13 rfl (lv_at hl 0 rfl) ?_
  refine lv_sipush (v := nI 200) hx hb dX3_init_14 (by decide +kernel) ?_
  refine va_newa (atype := .int) (ty := .int) (N' := 200) (a0 := (200, .inl hz32)) hx hb (hts (.arrayClass .int) (by decide +kernel)) rfl hK hP hD hS hA (fun _ => rfl) (by decide +kernel) (by decide +kernel) (Nat.le_of_ble_eq_true rfl) (Nat.le_of_ble_eq_true rfl) (Nat.le_of_ble_eq_true rfl) dX3_init_17 (fun b2 cI1 H hK hP hD hS => ?_)
  have hP : va_P D vwCl [(mo, .inr (3, [.ref b1, .null, .null, .null, .int 0, .int 0, .int 0, .int 0])), (b1, .inl (cI0, 200, .inl hz32)), (b2, .inl (cI1, 200, .inl hz32))] H := hP
  have hD : va_D A [(mo, .inr (3, [.ref b1, .null, .null, .null, .int 0, .int 0, .int 0, .int 0])), (b1, .inl (cI0, 200, .inl hz32)), (b2, .inl (cI1, 200, .inl hz32))] := hD
  have hK : va_K D vwCl [(cI0, .int), (cI1, .int)] s := hK
  refine W.widen (k := 2) (n := 400) (Nat.le_of_ble_eq_true rfl) (Nat.le_of_ble_eq_true rfl) ?_
  refine va_putF (D := D) (ci := 3) (v := .ref b2) (ty := .array .int) (C := RX3) (T := TX3) (N := 8) hx hb hts iX3 tyX3 tyX3_ok nmX3 hown hK hP hD hS 0 rfl rfl 1 (by decide) (hts (.fieldLink RX3 13 "HeapAndDequeModel" "row" "[I") (by decide +kernel)) (fun _ h9 => h9) rfl hin rfl (by decide +kernel) rfl rfl (Nat.le_of_ble_eq_true rfl) dX3_init_19 (fun H locs hP hD hS => ?_)
  have hP : va_P D vwCl [(mo, .inr (3, [.ref b1, .ref b2, .null, .null, .int 0, .int 0, .int 0, .int 0])), (b1, .inl (cI0, 200, .inl hz32)), (b2, .inl (cI1, 200, .inl hz32))] H := hP
  have hD : va_D A [(mo, .inr (3, [.ref b1, .ref b2, .null, .null, .int 0, .int 0, .int 0, .int 0])), (b1, .inl (cI0, 200, .inl hz32)), (b2, .inl (cI1, 200, .inl hz32))] := hD
  refine lv_aload_n hx hb dX3_init_22 rfl (lv_at hl 0 rfl) ?_
  refine lv_sipush (v := nI 200) hx hb dX3_init_23 (by decide +kernel) ?_
  refine va_newa (atype := .int) (ty := .int) (N' := 200) (a0 := (200, .inl hz32)) hx hb (hts (.arrayClass .int) (by decide +kernel)) rfl hK hP hD hS hA (fun _ => rfl) (by decide +kernel) (by decide +kernel) (Nat.le_of_ble_eq_true rfl) (Nat.le_of_ble_eq_true rfl) (Nat.le_of_ble_eq_true rfl) dX3_init_26 (fun b3 cI2 H hK hP hD hS => ?_)
  have hP : va_P D vwCl [(mo, .inr (3, [.ref b1, .ref b2, .null, .null, .int 0, .int 0, .int 0, .int 0])), (b1, .inl (cI0, 200, .inl hz32)), (b2, .inl (cI1, 200, .inl hz32)), (b3, .inl (cI2, 200, .inl hz32))] H := hP
  have hD : va_D A [(mo, .inr (3, [.ref b1, .ref b2, .null, .null, .int 0, .int 0, .int 0, .int 0])), (b1, .inl (cI0, 200, .inl hz32)), (b2, .inl (cI1, 200, .inl hz32)), (b3, .inl (cI2, 200, .inl hz32))] := hD
  have hK : va_K D vwCl [(cI0, .int), (cI1, .int), (cI2, .int)] s := hK
  refine W.widen (k := 3) (n := 600) (Nat.le_of_ble_eq_true rfl) (Nat.le_of_ble_eq_true rfl) ?_
  refine va_putF (D := D) (ci := 3) (v := .ref b3) (ty := .array .int) (C := RX3) (T := TX3) (N := 8) hx hb hts iX3 tyX3 tyX3_ok nmX3 hown hK hP hD hS 0 rfl rfl 2 (by decide) (hts (.fieldLink RX3 16 "HeapAndDequeModel" "keys" "[I") (by decide +kernel)) (fun _ h9 => h9) rfl hin rfl (by decide +kernel) rfl rfl (Nat.le_of_ble_eq_true rfl) dX3_init_28 (fun H locs hP hD hS => ?_)
  have hP : va_P D vwCl [(mo, .inr (3, [.ref b1, .ref b2, .ref b3, .null, .int 0, .int 0, .int 0, .int 0])), (b1, .inl (cI0, 200, .inl hz32)), (b2, .inl (cI1, 200, .inl hz32)), (b3, .inl (cI2, 200, .inl hz32))] H := hP
  have hD : va_D A [(mo, .inr (3, [.ref b1, .ref b2, .ref b3, .null, .int 0, .int 0, .int 0, .int 0])), (b1, .inl (cI0, 200, .inl hz32)), (b2, .inl (cI1, 200, .inl hz32)), (b3, .inl (cI2, 200, .inl hz32))] := hD
  refine lv_aload_n hx hb dX3_init_31 rfl (lv_at hl 0 rfl) ?_
  refine lv_sipush (v := nI 200) hx hb dX3_init_32 (by decide +kernel) ?_
  refine va_newa (atype := .int) (ty := .int) (N' := 200) (a0 := (200, .inl hz32)) hx hb (hts (.arrayClass .int) (by decide +kernel)) rfl hK hP hD hS hA (fun _ => rfl) (by decide +kernel) (by decide +kernel) (Nat.le_of_ble_eq_true rfl) (Nat.le_of_ble_eq_true rfl) (Nat.le_of_ble_eq_true rfl) dX3_init_35 (fun b4 cI3 H hK hP hD hS => ?_)
  have hP : va_P D vwCl [(mo, .inr (3, [.ref b1, .ref b2, .ref b3, .null, .int 0, .int 0, .int 0, .int 0])), (b1, .inl (cI0, 200, .inl hz32)), (b2, .inl (cI1, 200, .inl hz32)), (b3, .inl (cI2, 200, .inl hz32)), (b4, .inl (cI3, 200, .inl hz32))] H := hP
  have hD : va_D A [(mo, .inr (3, [.ref b1, .ref b2, .ref b3, .null, .int 0, .int 0, .int 0, .int 0])), (b1, .inl (cI0, 200, .inl hz32)), (b2, .inl (cI1, 200, .inl hz32)), (b3, .inl (cI2, 200, .inl hz32)), (b4, .inl (cI3, 200, .inl hz32))] := hD
  have hK : va_K D vwCl [(cI0, .int), (cI1, .int), (cI2, .int), (cI3, .int)] s := hK
  refine W.widen (k := 4) (n := 800) (Nat.le_of_ble_eq_true rfl) (Nat.le_of_ble_eq_true rfl) ?_
  refine va_putF (D := D) (ci := 3) (v := .ref b4) (ty := .array .int) (C := RX3) (T := TX3) (N := 8) hx hb hts iX3 tyX3 tyX3_ok nmX3 hown hK hP hD hS 0 rfl rfl 3 (by decide) (hts (.fieldLink RX3 19 "HeapAndDequeModel" "tags" "[I") (by decide +kernel)) (fun _ h9 => h9) rfl hin rfl (by decide +kernel) rfl rfl (Nat.le_of_ble_eq_true rfl) dX3_init_37 (fun H locs hP hD hS => ?_)
  have hP : va_P D vwCl [(mo, .inr (3, [.ref b1, .ref b2, .ref b3, .ref b4, .int 0, .int 0, .int 0, .int 0])), (b1, .inl (cI0, 200, .inl hz32)), (b2, .inl (cI1, 200, .inl hz32)), (b3, .inl (cI2, 200, .inl hz32)), (b4, .inl (cI3, 200, .inl hz32))] H := hP
  have hD : va_D A [(mo, .inr (3, [.ref b1, .ref b2, .ref b3, .ref b4, .int 0, .int 0, .int 0, .int 0])), (b1, .inl (cI0, 200, .inl hz32)), (b2, .inl (cI1, 200, .inl hz32)), (b3, .inl (cI2, 200, .inl hz32)), (b4, .inl (cI3, 200, .inl hz32))] := hD
  have e1 : cI0 = cI1 := h_Keq hK 0 1 rfl rfl (Or.inr rfl)
  have e2 : cI0 = cI2 := h_Keq hK 0 2 rfl rfl (Or.inr rfl)
  have e3 : cI0 = cI3 := h_Keq hK 0 3 rfl rfl (Or.inr rfl)
  subst e1
  subst e2
  subst e3
  have hK : va_K D vwCl [(cI0, .int)] s := hK.sub [0] rfl
  exact W.vret hx hb hr (fun t ht hW => ⟨⟨(b1, b2, b3, b4, cI0), rfl, trivial, by rw [ht]; exact hP, va_K.moved hW.alike hK, hD⟩, hS.F ht⟩) hS.2.2 dX3_init_40
end HC2
