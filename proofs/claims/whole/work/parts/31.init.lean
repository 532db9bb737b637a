/-! the constructors -/
section HC
theorem h_Keq {U : State} {D : va_G} {cl : List vw_C} {tys : List (ClassId × FieldType)} (hK : va_K D cl tys U) (i j : Nat) {c1 c2 : ClassId} {ty : FieldType} (h1 : tys[i]? = some (c1, ty)) (h2 : tys[j]? = some (c2, ty)) (ht : ty = .long ∨ ty = .int) : c1 = c2 := by
  have a1 := (hK.2 i _ h1).2
  have a2 := (hK.2 j _ h2).2
  rcases ht with rfl | rfl
  · exact Option.some.inj ((show U.vm.findClass _ = some c1 from a1).symm.trans (show U.vm.findClass _ = some c2 from a2))
  · exact Option.some.inj ((show U.vm.findClass _ = some c1 from a1).symm.trans (show U.vm.findClass _ = some c2 from a2))
abbrev hz64 : Nat → Int64 := fun _ => 0
abbrev hz32 : Nat → Int32 := fun _ => 0
/-- LeastFirst(): one new row of 200 longs -/
theorem c_X0_init (l : Launch) (D : va_G) (h : Nat) (n0 : Int32) (sz : Nat) : Met l yX0_init wsX0_init ({ frames := 1, cells := 1, slots := 200, locals := 32 }) (va_Pc [.ref h] (hPre D [] [(h, .inr (0, [.null, .int n0]))] sz))
    (va_Qv (fun (_ : Nat × ClassId) => True) (fun u t => va_P D vwCl (wQ h u.1 u.2 hz64 0) t.heap ∧ va_K D vwCl [(u.2, .long)] t ∧ va_D (va_A [(h, .inr (0, [.null, .int n0]))] sz) (wQ h u.1 u.2 hz64 0)) (va_A [(h, .inr (0, [.null, .int n0]))] sz)) 1 200 (va_A [(h, .inr (0, [.null, .int n0]))] sz) := by
  refine Met.ofW (cc := cX0_init) (maxL := 1) (ret := none) (by decide) rfl ?_
  intro p e s m args below meth c s₁ B hml hv
  obtain ⟨rfl, hsz, hP, hK, hD0, hV0⟩ := hv
  have hx := B.exec
  have hb := B.bytes
  have hr := B.returns
  have hts := atoms_spec (ws := wsX0_init) B.pre
  have hown : s.vm.findClass RX0 = some m.cls := findClass_of_methodNamed B.named
  have hlocks := B.notSynchronized
  have hin : meth.name = "<init>" := (name_of_methodNamed B.named B.method).1
  subst hsz
  have hD := hD0.self (sz := s.heap.size)
  generalize hAe : va_A [(h, .inr (0, [.null, .int n0]))] s.heap.size = A at hD ⊢
  have hA : ∀ q : Nat, s.heap.size ≤ q → A q := fun q h => by rw [← hAe]; exact Or.inr h
  have hS : va_S A s.heap s.heap [] := va_S.rf
  have hl := lv_entry ([.ref h]) (n := 1) (Nat.le_of_ble_eq_true rfl)
  rw [lg_entry_eq]
  generalize (lg_sl ([.ref h]) ++ List.replicate (1 - (lg_sl ([.ref h])).length) Slot.unset).toArray = ls at hl ⊢
  have hl : lv_has ls 1 [(0, .ref h)] := hl
  have iX0 : ∀ w ∈ wsX00, w ∈ wsX0_init := by decide +kernel
  refine lv_aload_n hx hb dX0_init_0 rfl (lv_at hl 0 rfl) ?_
  refine W.objInit hx hb hown (hts (.methodLink RX0 3 objectInit) (by decide +kernel)) (hts (.instanceMethod objectInit) (by decide +kernel)) (hts _ (List.mem_cons_of_mem _ (List.mem_append_left _ (List.mem_of_getElem? (i := 2) rfl)))) rfl (by rw [hml]; exact hl.1) rfl dX0_init_1 (Nat.le_of_ble_eq_true rfl) (Nat.le_of_ble_eq_true rfl) ?_
  refine W.eq (g2 := F0 m 4 ls []) rfl ?_
  refine lv_aload_n hx hb dX0_init_4 rfl (lv_at hl 0 rfl) ?_
  refine lv_sipush (v := nI 200) hx hb dX0_init_5 (by decide +kernel) ?_
  refine va_newa (atype := .long) (ty := .long) (N' := 200) (a0 := (200, .inr (.inl hz64))) hx hb (hts (.arrayClass .long) (by decide +kernel)) rfl hK hP hD hS hA (fun _ => rfl) (by decide +kernel) (by decide +kernel) (Nat.le_of_ble_eq_true rfl) (Nat.le_of_ble_eq_true rfl) (Nat.le_of_ble_eq_true rfl) dX0_init_8 (fun q cL H hK hP hD hS => ?_)
  have hP : va_P D vwCl [(h, .inr (0, [.null, .int n0])), (q, .inl (cL, 200, .inr (.inl hz64)))] H := hP
  have hD : va_D A [(h, .inr (0, [.null, .int n0])), (q, .inl (cL, 200, .inr (.inl hz64)))] := hD
  refine va_putF (D := D) (ci := 0) (v := .ref q) (ty := .array .long) (C := RX0) (T := TX0) (N := 2) hx hb hts iX0 tyX0 tyX0_ok nmX0 hown hK hP hD hS 0 rfl rfl 0 (by decide) (hts (.fieldLink RX0 9 "HeapAndDeque$LeastFirst" "values" "[J") (by decide +kernel)) (fun _ h9 => h9) rfl hin rfl (by decide +kernel) rfl rfl (Nat.le_of_ble_eq_true rfl) dX0_init_10 (fun H locs hP hD hS => ?_)
  have hP : va_P D vwCl [(h, .inr (0, [.ref q, .int n0])), (q, .inl (cL, 200, .inr (.inl hz64)))] H := hP
  have hD : va_D A [(h, .inr (0, [.ref q, .int n0])), (q, .inl (cL, 200, .inr (.inl hz64)))] := hD
  refine lv_aload_n hx hb dX0_init_13 rfl (lv_at hl 0 rfl) ?_
  refine lv_iconst (v := nI 0) hx hb dX0_init_14 (by decide +kernel) ?_
  refine va_put (D := D) (ci := 0) (v := .int (nI 0)) (ty := .int) (C := RX0) (T := TX0) (N := 2) hx hb hts iX0 tyX0 tyX0_ok nmX0 hown hK hP hD hS 0 rfl rfl 1 (by decide) (hts (.fieldLink RX0 15 "HeapAndDeque$LeastFirst" "count" "I") (by decide +kernel)) (fun _ h9 => h9) rfl (by decide +kernel) rfl rfl (Nat.le_of_ble_eq_true rfl) dX0_init_15 (fun H locs hP hD hS => ?_)
  have hP : va_P D vwCl (wQ h q cL hz64 0) H := hP
  have hD : va_D A (wQ h q cL hz64 0) := hD
  exact W.vret hx hb hr (fun t ht hW => ⟨⟨(q, cL), rfl, trivial, by rw [ht]; exact hP, va_K.moved hW.alike hK, hD⟩, hS.F ht⟩) hS.2.2 dX0_init_18
/-- Row(): one new row of 200 ints -/
theorem c_X1_init (l : Launch) (D : va_G) (h : Nat) (n0 : Int32) (sz : Nat) : Met l yX1_init wsX1_init ({ frames := 1, cells := 1, slots := 200, locals := 32 }) (va_Pc [.ref h] (hPre D [] [(h, .inr (1, [.null, .int n0]))] sz))
    (va_Qv (fun (_ : Nat × ClassId) => True) (fun u t => va_P D vwCl (wR h u.1 u.2 hz32 0) t.heap ∧ va_K D vwCl [(u.2, .int)] t ∧ va_D (va_A [(h, .inr (1, [.null, .int n0]))] sz) (wR h u.1 u.2 hz32 0)) (va_A [(h, .inr (1, [.null, .int n0]))] sz)) 1 200 (va_A [(h, .inr (1, [.null, .int n0]))] sz) := by
  refine Met.ofW (cc := cX1_init) (maxL := 1) (ret := none) (by decide) rfl ?_
  intro p e s m args below meth c s₁ B hml hv
  obtain ⟨rfl, hsz, hP, hK, hD0, hV0⟩ := hv
  have hx := B.exec
  have hb := B.bytes
  have hr := B.returns
  have hts := atoms_spec (ws := wsX1_init) B.pre
  have hown : s.vm.findClass RX1 = some m.cls := findClass_of_methodNamed B.named
  have hlocks := B.notSynchronized
  have hin : meth.name = "<init>" := (name_of_methodNamed B.named B.method).1
  subst hsz
  have hD := hD0.self (sz := s.heap.size)
  generalize hAe : va_A [(h, .inr (1, [.null, .int n0]))] s.heap.size = A at hD ⊢
  have hA : ∀ q : Nat, s.heap.size ≤ q → A q := fun q h => by rw [← hAe]; exact Or.inr h
  have hS : va_S A s.heap s.heap [] := va_S.rf
  have hl := lv_entry ([.ref h]) (n := 1) (Nat.le_of_ble_eq_true rfl)
  rw [lg_entry_eq]
  generalize (lg_sl ([.ref h]) ++ List.replicate (1 - (lg_sl ([.ref h])).length) Slot.unset).toArray = ls at hl ⊢
  have hl : lv_has ls 1 [(0, .ref h)] := hl
  have iX1 : ∀ w ∈ wsX10, w ∈ wsX1_init := by decide +kernel
  refine lv_aload_n hx hb dX1_init_0 rfl (lv_at hl 0 rfl) ?_
  refine W.objInit hx hb hown (hts (.methodLink RX1 3 objectInit) (by decide +kernel)) (hts (.instanceMethod objectInit) (by decide +kernel)) (hts _ (List.mem_cons_of_mem _ (List.mem_append_left _ (List.mem_of_getElem? (i := 2) rfl)))) rfl (by rw [hml]; exact hl.1) rfl dX1_init_1 (Nat.le_of_ble_eq_true rfl) (Nat.le_of_ble_eq_true rfl) ?_
  refine W.eq (g2 := F0 m 4 ls []) rfl ?_
  refine lv_aload_n hx hb dX1_init_4 rfl (lv_at hl 0 rfl) ?_
  refine lv_sipush (v := nI 200) hx hb dX1_init_5 (by decide +kernel) ?_
  refine va_newa (atype := .int) (ty := .int) (N' := 200) (a0 := (200, .inl hz32)) hx hb (hts (.arrayClass .int) (by decide +kernel)) rfl hK hP hD hS hA (fun _ => rfl) (by decide +kernel) (by decide +kernel) (Nat.le_of_ble_eq_true rfl) (Nat.le_of_ble_eq_true rfl) (Nat.le_of_ble_eq_true rfl) dX1_init_8 (fun q cI H hK hP hD hS => ?_)
  have hP : va_P D vwCl [(h, .inr (1, [.null, .int n0])), (q, .inl (cI, 200, .inl hz32))] H := hP
  have hD : va_D A [(h, .inr (1, [.null, .int n0])), (q, .inl (cI, 200, .inl hz32))] := hD
  refine va_putF (D := D) (ci := 1) (v := .ref q) (ty := .array .int) (C := RX1) (T := TX1) (N := 2) hx hb hts iX1 tyX1 tyX1_ok nmX1 hown hK hP hD hS 0 rfl rfl 0 (by decide) (hts (.fieldLink RX1 9 "HeapAndDeque$Row" "values" "[I") (by decide +kernel)) (fun _ h9 => h9) rfl hin rfl (by decide +kernel) rfl rfl (Nat.le_of_ble_eq_true rfl) dX1_init_10 (fun H locs hP hD hS => ?_)
  have hP : va_P D vwCl [(h, .inr (1, [.ref q, .int n0])), (q, .inl (cI, 200, .inl hz32))] H := hP
  have hD : va_D A [(h, .inr (1, [.ref q, .int n0])), (q, .inl (cI, 200, .inl hz32))] := hD
  refine lv_aload_n hx hb dX1_init_13 rfl (lv_at hl 0 rfl) ?_
  refine lv_iconst (v := nI 0) hx hb dX1_init_14 (by decide +kernel) ?_
  refine va_put (D := D) (ci := 1) (v := .int (nI 0)) (ty := .int) (C := RX1) (T := TX1) (N := 2) hx hb hts iX1 tyX1 tyX1_ok nmX1 hown hK hP hD hS 0 rfl rfl 1 (by decide) (hts (.fieldLink RX1 15 "HeapAndDeque$Row" "count" "I") (by decide +kernel)) (fun _ h9 => h9) rfl (by decide +kernel) rfl rfl (Nat.le_of_ble_eq_true rfl) dX1_init_15 (fun H locs hP hD hS => ?_)
  have hP : va_P D vwCl (wR h q cI hz32 0) H := hP
  have hD : va_D A (wR h q cI hz32 0) := hD
  exact W.vret hx hb hr (fun t ht hW => ⟨⟨(q, cI), rfl, trivial, by rw [ht]; exact hP, va_K.moved hW.alike hK, hD⟩, hS.F ht⟩) hS.2.2 dX1_init_18
end HC
