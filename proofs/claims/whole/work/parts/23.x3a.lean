/-! HeapAndDequeModel, the first half -/
set_option maxHeartbeats 4000000 in
set_option maxRecDepth 100000 in
theorem c_X3_thrown (l : Launch) (D : va_G) (mo b1 b2 b3 b4 : Nat) (cI : ClassId) (fh fo fk ft : Nat → Int32) (nh no np : Nat) (th : Int32) : mI l yX3_thrown wsX3_thrown ({ frames := 0, cells := 0, slots := 0, locals := 0 }) [.ref mo] D [(cI, .int)] [(mo, .inr (3, [.ref b1, .ref b2, .ref b3, .ref b4, .int (nI nh), .int (nI no), .int (nI np), .int th])), (b1, .inl (cI, 200, .inl fh)), (b2, .inl (cI, 200, .inl fo)), (b3, .inl (cI, 200, .inl fk)), (b4, .inl (cI, 200, .inl ft))] [(mo, .inr (3, [.ref b1, .ref b2, .ref b3, .ref b4, .int (nI nh), .int (nI no), .int (nI np), .int th])), (b1, .inl (cI, 200, .inl fh)), (b2, .inl (cI, 200, .inl fo)), (b3, .inl (cI, 200, .inl fk)), (b4, .inl (cI, 200, .inl ft))] (th) := by
  refine hI_body (cc := cX3_thrown) (maxL := 1) (by decide) rfl (Nat.le_of_ble_eq_true rfl) (rfl) ?_
  intro p e s m below meth cd A ls Q hat hA hP hK hD hS hl hend
  obtain ⟨hF, hr, hlocks, hv⟩ := id hat
  obtain ⟨hx, hb, hml, hown, hts⟩ := id hF
  have hown : s.vm.findClass RX3 = some m.cls := hown
  have hl : lv_has ls 1 [(0, .ref mo)] := hl
  have hP : va_P D vwCl [(mo, .inr (3, [.ref b1, .ref b2, .ref b3, .ref b4, .int (nI nh), .int (nI no), .int (nI np), .int th])), (b1, .inl (cI, 200, .inl fh)), (b2, .inl (cI, 200, .inl fo)), (b3, .inl (cI, 200, .inl fk)), (b4, .inl (cI, 200, .inl ft))] s.heap := hP
  have hD : va_D A [(mo, .inr (3, [.ref b1, .ref b2, .ref b3, .ref b4, .int (nI nh), .int (nI no), .int (nI np), .int th])), (b1, .inl (cI, 200, .inl fh)), (b2, .inl (cI, 200, .inl fo)), (b3, .inl (cI, 200, .inl fk)), (b4, .inl (cI, 200, .inl ft))] := hD
  have iX3 : ∀ w ∈ wsX30, w ∈ wsX3_thrown := by decide +kernel
  have k22 := hts (.fieldLink RX3 22 "HeapAndDequeModel" "thrown" "I") (by decide +kernel)
  refine lv_aload_n hx hb dX3_thrown_0 rfl (lv_at hl 0 rfl) ?_
  refine va_get (D := D) (ci := 3) (v := .int th) (C := RX3) (T := TX3) (N := 8) hx hb hts iX3 hown hK hP 0 rfl rfl 7 (by decide) k22 (fun _ h9 => h9) rfl dX3_thrown_1 ?_
  exact hend _ _ _ _ _ hP hD hS (rfl) dX3_thrown_4
set_option maxHeartbeats 4000000 in
set_option maxRecDepth 100000 in
theorem c_X3_isWrong_z (l : Launch) (D : va_G) (mo b1 b2 b3 b4 : Nat) (cI : ClassId) (fh fo fk ft : Nat → Int32) (nh no np : Nat) (th : Int32) : mI l yX3_isWrong wsX3_isWrong ({ frames := 0, cells := 0, slots := 0, locals := 0 }) [.ref mo, .int (nI 0)] D [(cI, .int)] [(mo, .inr (3, [.ref b1, .ref b2, .ref b3, .ref b4, .int (nI nh), .int (nI no), .int (nI np), .int th])), (b1, .inl (cI, 200, .inl fh)), (b2, .inl (cI, 200, .inl fo)), (b3, .inl (cI, 200, .inl fk)), (b4, .inl (cI, 200, .inl ft))] [(mo, .inr (3, [.ref b1, .ref b2, .ref b3, .ref b4, .int (nI nh), .int (nI no), .int (nI np), .int (nI 0)])), (b1, .inl (cI, 200, .inl fh)), (b2, .inl (cI, 200, .inl fo)), (b3, .inl (cI, 200, .inl fk)), (b4, .inl (cI, 200, .inl ft))] (0) := by
  refine hI_body (cc := cX3_isWrong) (maxL := 2) (by decide) rfl (Nat.le_of_ble_eq_true rfl) (by decide +kernel) ?_
  intro p e s m below meth cd A ls Q hat hA hP hK hD hS hl hend
  obtain ⟨hF, hr, hlocks, hv⟩ := id hat
  obtain ⟨hx, hb, hml, hown, hts⟩ := id hF
  have hown : s.vm.findClass RX3 = some m.cls := hown
  have hl : lv_has ls 2 [(0, .ref mo), (1, .int (nI 0))] := hl
  have hP : va_P D vwCl [(mo, .inr (3, [.ref b1, .ref b2, .ref b3, .ref b4, .int (nI nh), .int (nI no), .int (nI np), .int th])), (b1, .inl (cI, 200, .inl fh)), (b2, .inl (cI, 200, .inl fo)), (b3, .inl (cI, 200, .inl fk)), (b4, .inl (cI, 200, .inl ft))] s.heap := hP
  have hD : va_D A [(mo, .inr (3, [.ref b1, .ref b2, .ref b3, .ref b4, .int (nI nh), .int (nI no), .int (nI np), .int th])), (b1, .inl (cI, 200, .inl fh)), (b2, .inl (cI, 200, .inl fo)), (b3, .inl (cI, 200, .inl fk)), (b4, .inl (cI, 200, .inl ft))] := hD
  have iX3 : ∀ w ∈ wsX30, w ∈ wsX3_isWrong := by decide +kernel
  have k22 := hts (.fieldLink RX3 22 "HeapAndDequeModel" "thrown" "I") (by decide +kernel)
  refine lv_aload_n hx hb dX3_isWrong_0 rfl (lv_at hl 0 rfl) ?_
  refine lv_iload_n hx hb dX3_isWrong_1 rfl (lv_at hl 1 rfl) ?_
  refine va_put (D := D) (ci := 3) (v := .int (nI 0)) (ty := .int) (C := RX3) (T := TX3) (N := 8) hx hb hts iX3 tyX3 tyX3_ok nmX3 hown hK hP hD hS 0 rfl rfl 7 (by decide) k22 (fun _ h9 => h9) rfl (by decide +kernel) rfl rfl (Nat.le_of_ble_eq_true rfl) dX3_isWrong_2 (fun H locs hP hD hS => ?_)
  have hP : va_P D vwCl [(mo, .inr (3, [.ref b1, .ref b2, .ref b3, .ref b4, .int (nI nh), .int (nI no), .int (nI np), .int (nI 0)])), (b1, .inl (cI, 200, .inl fh)), (b2, .inl (cI, 200, .inl fo)), (b3, .inl (cI, 200, .inl fk)), (b4, .inl (cI, 200, .inl ft))] H := hP
  have hD : va_D A [(mo, .inr (3, [.ref b1, .ref b2, .ref b3, .ref b4, .int (nI nh), .int (nI no), .int (nI np), .int (nI 0)])), (b1, .inl (cI, 200, .inl fh)), (b2, .inl (cI, 200, .inl fo)), (b3, .inl (cI, 200, .inl fk)), (b4, .inl (cI, 200, .inl ft))] := hD
  refine lv_iload_n hx hb dX3_isWrong_5 rfl (lv_at hl 1 rfl) ?_
  refine lv_if_eq (tgt := 13) hx hb dX3_isWrong_6 (by decide) (fun _ => ?_) (fun hn => absurd (nI_0) hn)
  refine lv_iconst (v := 0) hx hb dX3_isWrong_13 (by decide) ?_
  exact hend _ _ _ _ _ hP hD hS (rfl) dX3_isWrong_14
set_option maxHeartbeats 4000000 in
set_option maxRecDepth 100000 in
theorem c_X3_isWrong_k (l : Launch) (D : va_G) (mo b1 b2 b3 b4 : Nat) (cI : ClassId) (fh fo fk ft : Nat → Int32) (nh no np : Nat) (th : Int32) (k : Int32) (hk : ¬ k = 0) : mI l yX3_isWrong wsX3_isWrong ({ frames := 0, cells := 0, slots := 0, locals := 0 }) [.ref mo, .int k] D [(cI, .int)] [(mo, .inr (3, [.ref b1, .ref b2, .ref b3, .ref b4, .int (nI nh), .int (nI no), .int (nI np), .int th])), (b1, .inl (cI, 200, .inl fh)), (b2, .inl (cI, 200, .inl fo)), (b3, .inl (cI, 200, .inl fk)), (b4, .inl (cI, 200, .inl ft))] [(mo, .inr (3, [.ref b1, .ref b2, .ref b3, .ref b4, .int (nI nh), .int (nI no), .int (nI np), .int k])), (b1, .inl (cI, 200, .inl fh)), (b2, .inl (cI, 200, .inl fo)), (b3, .inl (cI, 200, .inl fk)), (b4, .inl (cI, 200, .inl ft))] (1) := by
  refine hI_body (cc := cX3_isWrong) (maxL := 2) (by decide) rfl (Nat.le_of_ble_eq_true rfl) (by decide +kernel) ?_
  intro p e s m below meth cd A ls Q hat hA hP hK hD hS hl hend
  obtain ⟨hF, hr, hlocks, hv⟩ := id hat
  obtain ⟨hx, hb, hml, hown, hts⟩ := id hF
  have hown : s.vm.findClass RX3 = some m.cls := hown
  have hl : lv_has ls 2 [(0, .ref mo), (1, .int k)] := hl
  have hP : va_P D vwCl [(mo, .inr (3, [.ref b1, .ref b2, .ref b3, .ref b4, .int (nI nh), .int (nI no), .int (nI np), .int th])), (b1, .inl (cI, 200, .inl fh)), (b2, .inl (cI, 200, .inl fo)), (b3, .inl (cI, 200, .inl fk)), (b4, .inl (cI, 200, .inl ft))] s.heap := hP
  have hD : va_D A [(mo, .inr (3, [.ref b1, .ref b2, .ref b3, .ref b4, .int (nI nh), .int (nI no), .int (nI np), .int th])), (b1, .inl (cI, 200, .inl fh)), (b2, .inl (cI, 200, .inl fo)), (b3, .inl (cI, 200, .inl fk)), (b4, .inl (cI, 200, .inl ft))] := hD
  have iX3 : ∀ w ∈ wsX30, w ∈ wsX3_isWrong := by decide +kernel
  have k22 := hts (.fieldLink RX3 22 "HeapAndDequeModel" "thrown" "I") (by decide +kernel)
  refine lv_aload_n hx hb dX3_isWrong_0 rfl (lv_at hl 0 rfl) ?_
  refine lv_iload_n hx hb dX3_isWrong_1 rfl (lv_at hl 1 rfl) ?_
  refine va_put (D := D) (ci := 3) (v := .int k) (ty := .int) (C := RX3) (T := TX3) (N := 8) hx hb hts iX3 tyX3 tyX3_ok nmX3 hown hK hP hD hS 0 rfl rfl 7 (by decide) k22 (fun _ h9 => h9) rfl (by decide +kernel) rfl rfl (Nat.le_of_ble_eq_true rfl) dX3_isWrong_2 (fun H locs hP hD hS => ?_)
  have hP : va_P D vwCl [(mo, .inr (3, [.ref b1, .ref b2, .ref b3, .ref b4, .int (nI nh), .int (nI no), .int (nI np), .int k])), (b1, .inl (cI, 200, .inl fh)), (b2, .inl (cI, 200, .inl fo)), (b3, .inl (cI, 200, .inl fk)), (b4, .inl (cI, 200, .inl ft))] H := hP
  have hD : va_D A [(mo, .inr (3, [.ref b1, .ref b2, .ref b3, .ref b4, .int (nI nh), .int (nI no), .int (nI np), .int k])), (b1, .inl (cI, 200, .inl fh)), (b2, .inl (cI, 200, .inl fo)), (b3, .inl (cI, 200, .inl fk)), (b4, .inl (cI, 200, .inl ft))] := hD
  refine lv_iload_n hx hb dX3_isWrong_5 rfl (lv_at hl 1 rfl) ?_
  refine lv_if_eq (tgt := 13) hx hb dX3_isWrong_6 (by decide) (fun ht_ => absurd ht_ (hk)) (fun _ => ?_)
  refine lv_iconst (v := 1) hx hb dX3_isWrong_9 (by decide) ?_
  refine lv_goto (tgt := 14) hx hb dX3_isWrong_10 (by decide) ?_
  exact hend _ _ _ _ _ hP hD hS (rfl) dX3_isWrong_14
set_option maxHeartbeats 4000000 in
set_option maxRecDepth 100000 in
theorem c_X3_leastPlace (l : Launch) (D : va_G) (mo b1 b2 b3 b4 : Nat) (cI : ClassId) (fh fo fk ft : Nat → Int32) (nh no np : Nat) (th : Int32) (hn9 : nh ≤ 200) : mI l yX3_leastPlace wsX3_leastPlace ({ frames := 0, cells := 0, slots := 0, locals := 0 }) [.ref mo] D [(cI, .int)] [(mo, .inr (3, [.ref b1, .ref b2, .ref b3, .ref b4, .int (nI nh), .int (nI no), .int (nI np), .int th])), (b1, .inl (cI, 200, .inl fh)), (b2, .inl (cI, 200, .inl fo)), (b3, .inl (cI, 200, .inl fk)), (b4, .inl (cI, 200, .inl ft))] [(mo, .inr (3, [.ref b1, .ref b2, .ref b3, .ref b4, .int (nI nh), .int (nI no), .int (nI np), .int th])), (b1, .inl (cI, 200, .inl fh)), (b2, .inl (cI, 200, .inl fo)), (b3, .inl (cI, 200, .inl fk)), (b4, .inl (cI, 200, .inl ft))] (nI (s_lp fh (nh - 1))) := by
  refine hI_body (cc := cX3_leastPlace) (maxL := 3) (by decide) rfl (Nat.le_of_ble_eq_true rfl) (rfl) ?_
  intro p e s m below meth cd A ls Q hat hA hP hK hD hS hl hend
  obtain ⟨hF, hr, hlocks, hv⟩ := id hat
  obtain ⟨hx, hb, hml, hown, hts⟩ := id hF
  have hown : s.vm.findClass RX3 = some m.cls := hown
  have hl : lv_has ls 3 [(0, .ref mo)] := hl
  have hP : va_P D vwCl [(mo, .inr (3, [.ref b1, .ref b2, .ref b3, .ref b4, .int (nI nh), .int (nI no), .int (nI np), .int th])), (b1, .inl (cI, 200, .inl fh)), (b2, .inl (cI, 200, .inl fo)), (b3, .inl (cI, 200, .inl fk)), (b4, .inl (cI, 200, .inl ft))] s.heap := hP
  have hD : va_D A [(mo, .inr (3, [.ref b1, .ref b2, .ref b3, .ref b4, .int (nI nh), .int (nI no), .int (nI np), .int th])), (b1, .inl (cI, 200, .inl fh)), (b2, .inl (cI, 200, .inl fo)), (b3, .inl (cI, 200, .inl fk)), (b4, .inl (cI, 200, .inl ft))] := hD
  have iX3 : ∀ w ∈ wsX30, w ∈ wsX3_leastPlace := by decide +kernel
  have k7 := hts (.fieldLink RX3 7 "HeapAndDequeModel" "heap" "[I") (by decide +kernel)
  have k26 := hts (.fieldLink RX3 26 "HeapAndDequeModel" "held" "I") (by decide +kernel)
  refine lv_iconst (v := nI 0) hx hb dX3_leastPlace_0 (by decide +kernel) ?_
  refine lv_istore_n (lv' := [(1, .int (nI 0)), (0, .ref mo)]) hx hb dX3_leastPlace_1 rfl hl (by decide) rfl (fun ls hl => ?_)
  refine lv_iconst (v := nI 1) hx hb dX3_leastPlace_2 (by decide +kernel) ?_
  refine lv_istore_n (lv' := [(2, .int (nI 1)), (1, .int (nI 0)), (0, .ref mo)]) hx hb dX3_leastPlace_3 rfl hl (by decide) rfl (fun ls hl => ?_)
  have loop : ∀ (n i : Nat), i + n = nh - 1 → ∀ (H : Heap) (locs : List Loc) (ls : Array Slot), va_P D vwCl [(mo, .inr (3, [.ref b1, .ref b2, .ref b3, .ref b4, .int (nI nh), .int (nI no), .int (nI np), .int th])), (b1, .inl (cI, 200, .inl fh)), (b2, .inl (cI, 200, .inl fo)), (b3, .inl (cI, 200, .inl fk)), (b4, .inl (cI, 200, .inl ft))] H → va_D A [(mo, .inr (3, [.ref b1, .ref b2, .ref b3, .ref b4, .int (nI nh), .int (nI no), .int (nI np), .int th])), (b1, .inl (cI, 200, .inl fh)), (b2, .inl (cI, 200, .inl fo)), (b3, .inl (cI, 200, .inl fk)), (b4, .inl (cI, 200, .inl ft))] → va_S A s.heap H locs → lv_has ls 3 [(2, .int (nI (i + 1))), (1, .int (nI (s_lp fh i))), (0, .ref mo)] → W p l e ({ frames := 0, cells := 0, slots := 0, locals := 0 }) s m ([.ref mo] : List Value).toArray below meth cd H locs 0 0 Q (F0 m 4 ls []) := by
    intro n
    induction n with
    | zero =>
      intro i hn H locs ls hP hD hS hl
      refine lv_iload_n hx hb dX3_leastPlace_4 rfl (lv_at hl 0 rfl) ?_
      refine lv_aload_n hx hb dX3_leastPlace_5 rfl (lv_at hl 2 rfl) ?_
      refine va_get (D := D) (ci := 3) (v := .int (nI nh)) (C := RX3) (T := TX3) (N := 8) hx hb hts iX3 hown hK hP 0 rfl rfl 4 (by decide) k26 (fun _ h9 => h9) rfl dX3_leastPlace_6 ?_
      refine lv_icmp_ge (tgt := 35) hx hb dX3_leastPlace_9 (by decide) (fun _ => ?_) (fun hn => absurd (nI_le (by omega) (by omega)) hn)
      refine lv_iload_n hx hb dX3_leastPlace_35 rfl (lv_at hl 1 rfl) ?_
      exact hend _ _ _ _ _ hP hD hS (by rw [show i = nh - 1 by omega]) dX3_leastPlace_36
    | succ n ih =>
      intro i hn H locs ls hP hD hS hl
      have hle := s_lp_le fh i
      refine lv_iload_n hx hb dX3_leastPlace_4 rfl (lv_at hl 0 rfl) ?_
      refine lv_aload_n hx hb dX3_leastPlace_5 rfl (lv_at hl 2 rfl) ?_
      refine va_get (D := D) (ci := 3) (v := .int (nI nh)) (C := RX3) (T := TX3) (N := 8) hx hb hts iX3 hown hK hP 0 rfl rfl 4 (by decide) k26 (fun _ h9 => h9) rfl dX3_leastPlace_6 ?_
      refine lv_icmp_ge (tgt := 35) hx hb dX3_leastPlace_9 (by decide) (fun ht_ => absurd ht_ (nI_ge (by omega) (by omega))) (fun _ => ?_)
      refine lv_aload_n hx hb dX3_leastPlace_12 rfl (lv_at hl 2 rfl) ?_
      refine va_get (D := D) (ci := 3) (v := .ref b1) (C := RX3) (T := TX3) (N := 8) hx hb hts iX3 hown hK hP 0 rfl rfl 0 (by decide) k7 (fun _ h9 => h9) rfl dX3_leastPlace_13 ?_
      refine lv_iload_n hx hb dX3_leastPlace_16 rfl (lv_at hl 0 rfl) ?_
      refine h_iald hx hb hK hP 1 0 rfl rfl (by decide) (by omega) dX3_leastPlace_17 ?_
      refine lv_aload_n hx hb dX3_leastPlace_18 rfl (lv_at hl 2 rfl) ?_
      refine va_get (D := D) (ci := 3) (v := .ref b1) (C := RX3) (T := TX3) (N := 8) hx hb hts iX3 hown hK hP 0 rfl rfl 0 (by decide) k7 (fun _ h9 => h9) rfl dX3_leastPlace_19 ?_
      refine lv_iload_n hx hb dX3_leastPlace_22 rfl (lv_at hl 1 rfl) ?_
      refine h_iald hx hb hK hP 1 0 rfl rfl (by decide) (by omega) dX3_leastPlace_23 ?_
      refine lv_icmp_ge (tgt := 29) hx hb dX3_leastPlace_24 (by decide) (fun c9 => ?_) (fun c9 => ?_)
      · refine lv_iinc (v := nI (i + 1 + 1)) (lv' := [(2, .int (nI (i + 1 + 1))), (1, .int (nI (s_lp fh i))), (0, .ref mo)]) hx hb dX3_leastPlace_29 hl (k := 0) rfl (nI_1 _) (by decide) rfl (fun ls hl => ?_)
        refine lv_goto (tgt := 4) hx hb dX3_leastPlace_32 (by decide) ?_
        have e8 : s_lp fh (i + 1) = s_lp fh i := by rw [s_lp, if_neg (Int32.not_lt.mpr c9)]
        exact ih (i + 1) (by omega) _ _ _ hP hD hS (by rw [e8]; exact (lv_sub hl [0, 1, 2] rfl))
      · refine lv_iload_n hx hb dX3_leastPlace_27 rfl (lv_at hl 0 rfl) ?_
        refine lv_istore_n (lv' := [(1, .int (nI (i + 1))), (2, .int (nI (i + 1))), (0, .ref mo)]) hx hb dX3_leastPlace_28 rfl hl (by decide) rfl (fun ls hl => ?_)
        refine lv_iinc (v := nI (i + 1 + 1)) (lv' := [(2, .int (nI (i + 1 + 1))), (1, .int (nI (i + 1))), (0, .ref mo)]) hx hb dX3_leastPlace_29 hl (k := 1) rfl (nI_1 _) (by decide) rfl (fun ls hl => ?_)
        refine lv_goto (tgt := 4) hx hb dX3_leastPlace_32 (by decide) ?_
        have e8 : s_lp fh (i + 1) = i + 1 := by rw [s_lp, if_pos (Int32.not_le.mp c9)]
        exact ih (i + 1) (by omega) _ _ _ hP hD hS (by rw [e8]; exact (lv_sub hl [0, 1, 2] rfl))
  exact loop (nh - 1) 0 (by omega) _ _ _ hP hD hS hl
set_option maxHeartbeats 4000000 in
set_option maxRecDepth 100000 in
theorem c_X3_heldPlace (l : Launch) (D : va_G) (mo b1 b2 b3 b4 : Nat) (cI : ClassId) (fh fo fk ft : Nat → Int32) (nh no np : Nat) (th : Int32) (x : Int32) (hn9 : nh ≤ 200) : mI l yX3_heldPlace wsX3_heldPlace ({ frames := 0, cells := 0, slots := 0, locals := 0 }) [.ref mo, .int x] D [(cI, .int)] [(mo, .inr (3, [.ref b1, .ref b2, .ref b3, .ref b4, .int (nI nh), .int (nI no), .int (nI np), .int th])), (b1, .inl (cI, 200, .inl fh)), (b2, .inl (cI, 200, .inl fo)), (b3, .inl (cI, 200, .inl fk)), (b4, .inl (cI, 200, .inl ft))] [(mo, .inr (3, [.ref b1, .ref b2, .ref b3, .ref b4, .int (nI nh), .int (nI no), .int (nI np), .int th])), (b1, .inl (cI, 200, .inl fh)), (b2, .inl (cI, 200, .inl fo)), (b3, .inl (cI, 200, .inl fk)), (b4, .inl (cI, 200, .inl ft))] (s_o (s_fI fh x nh 0)) := by
  refine hI_body (cc := cX3_heldPlace) (maxL := 3) (by decide) rfl (Nat.le_of_ble_eq_true rfl) (rfl) ?_
  intro p e s m below meth cd A ls Q hat hA hP hK hD hS hl hend
  obtain ⟨hF, hr, hlocks, hv⟩ := id hat
  obtain ⟨hx, hb, hml, hown, hts⟩ := id hF
  have hown : s.vm.findClass RX3 = some m.cls := hown
  have hl : lv_has ls 3 [(0, .ref mo), (1, .int x)] := hl
  have hP : va_P D vwCl [(mo, .inr (3, [.ref b1, .ref b2, .ref b3, .ref b4, .int (nI nh), .int (nI no), .int (nI np), .int th])), (b1, .inl (cI, 200, .inl fh)), (b2, .inl (cI, 200, .inl fo)), (b3, .inl (cI, 200, .inl fk)), (b4, .inl (cI, 200, .inl ft))] s.heap := hP
  have hD : va_D A [(mo, .inr (3, [.ref b1, .ref b2, .ref b3, .ref b4, .int (nI nh), .int (nI no), .int (nI np), .int th])), (b1, .inl (cI, 200, .inl fh)), (b2, .inl (cI, 200, .inl fo)), (b3, .inl (cI, 200, .inl fk)), (b4, .inl (cI, 200, .inl ft))] := hD
  have iX3 : ∀ w ∈ wsX30, w ∈ wsX3_heldPlace := by decide +kernel
  have k7 := hts (.fieldLink RX3 7 "HeapAndDequeModel" "heap" "[I") (by decide +kernel)
  have k26 := hts (.fieldLink RX3 26 "HeapAndDequeModel" "held" "I") (by decide +kernel)
  refine lv_iconst (v := nI 0) hx hb dX3_heldPlace_0 (by decide +kernel) ?_
  refine lv_istore_n (lv' := [(2, .int (nI 0)), (0, .ref mo), (1, .int x)]) hx hb dX3_heldPlace_1 rfl hl (by decide) rfl (fun ls hl => ?_)
  have loop : ∀ (n i : Nat), i + n = nh → s_fI fh x n i = s_fI fh x nh 0 → ∀ (H : Heap) (locs : List Loc) (ls : Array Slot), va_P D vwCl [(mo, .inr (3, [.ref b1, .ref b2, .ref b3, .ref b4, .int (nI nh), .int (nI no), .int (nI np), .int th])), (b1, .inl (cI, 200, .inl fh)), (b2, .inl (cI, 200, .inl fo)), (b3, .inl (cI, 200, .inl fk)), (b4, .inl (cI, 200, .inl ft))] H → va_D A [(mo, .inr (3, [.ref b1, .ref b2, .ref b3, .ref b4, .int (nI nh), .int (nI no), .int (nI np), .int th])), (b1, .inl (cI, 200, .inl fh)), (b2, .inl (cI, 200, .inl fo)), (b3, .inl (cI, 200, .inl fk)), (b4, .inl (cI, 200, .inl ft))] → va_S A s.heap H locs → lv_has ls 3 [(2, .int (nI i)), (0, .ref mo), (1, .int x)] → W p l e ({ frames := 0, cells := 0, slots := 0, locals := 0 }) s m ([.ref mo, .int x] : List Value).toArray below meth cd H locs 0 0 Q (F0 m 2 ls []) := by
    intro n
    induction n with
    | zero =>
      intro i hn e9 H locs ls hP hD hS hl
      refine lv_iload_n hx hb dX3_heldPlace_2 rfl (lv_at hl 0 rfl) ?_
      refine lv_aload_n hx hb dX3_heldPlace_3 rfl (lv_at hl 1 rfl) ?_
      refine va_get (D := D) (ci := 3) (v := .int (nI nh)) (C := RX3) (T := TX3) (N := 8) hx hb hts iX3 hown hK hP 0 rfl rfl 4 (by decide) k26 (fun _ h9 => h9) rfl dX3_heldPlace_4 ?_
      refine lv_icmp_ge (tgt := 28) hx hb dX3_heldPlace_7 (by decide) (fun _ => ?_) (fun hn => absurd (nI_le (by omega) (by omega)) hn)
      refine lv_iconst (v := (-1)) hx hb dX3_heldPlace_28 (by decide) ?_
      exact hend _ _ _ _ _ hP hD hS (by rw [← e9]; rfl) dX3_heldPlace_29
    | succ n ih =>
      intro i hn e9 H locs ls hP hD hS hl
      refine lv_iload_n hx hb dX3_heldPlace_2 rfl (lv_at hl 0 rfl) ?_
      refine lv_aload_n hx hb dX3_heldPlace_3 rfl (lv_at hl 1 rfl) ?_
      refine va_get (D := D) (ci := 3) (v := .int (nI nh)) (C := RX3) (T := TX3) (N := 8) hx hb hts iX3 hown hK hP 0 rfl rfl 4 (by decide) k26 (fun _ h9 => h9) rfl dX3_heldPlace_4 ?_
      refine lv_icmp_ge (tgt := 28) hx hb dX3_heldPlace_7 (by decide) (fun ht_ => absurd ht_ (nI_ge (by omega) (by omega))) (fun _ => ?_)
      refine lv_aload_n hx hb dX3_heldPlace_10 rfl (lv_at hl 1 rfl) ?_
      refine va_get (D := D) (ci := 3) (v := .ref b1) (C := RX3) (T := TX3) (N := 8) hx hb hts iX3 hown hK hP 0 rfl rfl 0 (by decide) k7 (fun _ h9 => h9) rfl dX3_heldPlace_11 ?_
      refine lv_iload_n hx hb dX3_heldPlace_14 rfl (lv_at hl 0 rfl) ?_
      refine h_iald hx hb hK hP 1 0 rfl rfl (by decide) (by omega) dX3_heldPlace_15 ?_
      refine lv_iload_n hx hb dX3_heldPlace_16 rfl (lv_at hl 2 rfl) ?_
      refine lv_icmp_ne (tgt := 22) hx hb dX3_heldPlace_17 (by decide) (fun c9 => ?_) (fun c9 => ?_)
      · refine lv_iinc (v := nI (i + 1)) (lv' := [(2, .int (nI (i + 1))), (0, .ref mo), (1, .int x)]) hx hb dX3_heldPlace_22 hl (k := 0) rfl (nI_1 _) (by decide) rfl (fun ls hl => ?_)
        refine lv_goto (tgt := 2) hx hb dX3_heldPlace_25 (by decide) ?_
        exact ih _ (by omega) (by rw [← e9, s_fI, if_neg c9]) _ _ _ hP hD hS (lv_sub hl [0, 1, 2] rfl)
      · have heq : fh i = x := c9
        refine lv_iload_n hx hb dX3_heldPlace_20 rfl (lv_at hl 0 rfl) ?_
        exact hend _ _ _ _ _ hP hD hS (by rw [← e9, s_fI, if_pos heq]; rfl) dX3_heldPlace_21
  exact loop nh 0 (by omega) rfl _ _ _ hP hD hS hl
set_option maxHeartbeats 4000000 in
set_option maxRecDepth 100000 in
theorem c_X3_firstPlace (l : Launch) (D : va_G) (mo b1 b2 b3 b4 : Nat) (cI : ClassId) (fh fo fk ft : Nat → Int32) (nh no np : Nat) (th : Int32) (x : Int32) (hn9 : no ≤ 200) : mI l yX3_firstPlace wsX3_firstPlace ({ frames := 0, cells := 0, slots := 0, locals := 0 }) [.ref mo, .int x] D [(cI, .int)] [(mo, .inr (3, [.ref b1, .ref b2, .ref b3, .ref b4, .int (nI nh), .int (nI no), .int (nI np), .int th])), (b1, .inl (cI, 200, .inl fh)), (b2, .inl (cI, 200, .inl fo)), (b3, .inl (cI, 200, .inl fk)), (b4, .inl (cI, 200, .inl ft))] [(mo, .inr (3, [.ref b1, .ref b2, .ref b3, .ref b4, .int (nI nh), .int (nI no), .int (nI np), .int th])), (b1, .inl (cI, 200, .inl fh)), (b2, .inl (cI, 200, .inl fo)), (b3, .inl (cI, 200, .inl fk)), (b4, .inl (cI, 200, .inl ft))] (s_o (s_fI fo x no 0)) := by
  refine hI_body (cc := cX3_firstPlace) (maxL := 3) (by decide) rfl (Nat.le_of_ble_eq_true rfl) (rfl) ?_
  intro p e s m below meth cd A ls Q hat hA hP hK hD hS hl hend
  obtain ⟨hF, hr, hlocks, hv⟩ := id hat
  obtain ⟨hx, hb, hml, hown, hts⟩ := id hF
  have hown : s.vm.findClass RX3 = some m.cls := hown
  have hl : lv_has ls 3 [(0, .ref mo), (1, .int x)] := hl
  have hP : va_P D vwCl [(mo, .inr (3, [.ref b1, .ref b2, .ref b3, .ref b4, .int (nI nh), .int (nI no), .int (nI np), .int th])), (b1, .inl (cI, 200, .inl fh)), (b2, .inl (cI, 200, .inl fo)), (b3, .inl (cI, 200, .inl fk)), (b4, .inl (cI, 200, .inl ft))] s.heap := hP
  have hD : va_D A [(mo, .inr (3, [.ref b1, .ref b2, .ref b3, .ref b4, .int (nI nh), .int (nI no), .int (nI np), .int th])), (b1, .inl (cI, 200, .inl fh)), (b2, .inl (cI, 200, .inl fo)), (b3, .inl (cI, 200, .inl fk)), (b4, .inl (cI, 200, .inl ft))] := hD
  have iX3 : ∀ w ∈ wsX30, w ∈ wsX3_firstPlace := by decide +kernel
  have k13 := hts (.fieldLink RX3 13 "HeapAndDequeModel" "row" "[I") (by decide +kernel)
  have k47 := hts (.fieldLink RX3 47 "HeapAndDequeModel" "many" "I") (by decide +kernel)
  refine lv_iconst (v := nI 0) hx hb dX3_firstPlace_0 (by decide +kernel) ?_
  refine lv_istore_n (lv' := [(2, .int (nI 0)), (0, .ref mo), (1, .int x)]) hx hb dX3_firstPlace_1 rfl hl (by decide) rfl (fun ls hl => ?_)
  have loop : ∀ (n i : Nat), i + n = no → s_fI fo x n i = s_fI fo x no 0 → ∀ (H : Heap) (locs : List Loc) (ls : Array Slot), va_P D vwCl [(mo, .inr (3, [.ref b1, .ref b2, .ref b3, .ref b4, .int (nI nh), .int (nI no), .int (nI np), .int th])), (b1, .inl (cI, 200, .inl fh)), (b2, .inl (cI, 200, .inl fo)), (b3, .inl (cI, 200, .inl fk)), (b4, .inl (cI, 200, .inl ft))] H → va_D A [(mo, .inr (3, [.ref b1, .ref b2, .ref b3, .ref b4, .int (nI nh), .int (nI no), .int (nI np), .int th])), (b1, .inl (cI, 200, .inl fh)), (b2, .inl (cI, 200, .inl fo)), (b3, .inl (cI, 200, .inl fk)), (b4, .inl (cI, 200, .inl ft))] → va_S A s.heap H locs → lv_has ls 3 [(2, .int (nI i)), (0, .ref mo), (1, .int x)] → W p l e ({ frames := 0, cells := 0, slots := 0, locals := 0 }) s m ([.ref mo, .int x] : List Value).toArray below meth cd H locs 0 0 Q (F0 m 2 ls []) := by
    intro n
    induction n with
    | zero =>
      intro i hn e9 H locs ls hP hD hS hl
      refine lv_iload_n hx hb dX3_firstPlace_2 rfl (lv_at hl 0 rfl) ?_
      refine lv_aload_n hx hb dX3_firstPlace_3 rfl (lv_at hl 1 rfl) ?_
      refine va_get (D := D) (ci := 3) (v := .int (nI no)) (C := RX3) (T := TX3) (N := 8) hx hb hts iX3 hown hK hP 0 rfl rfl 5 (by decide) k47 (fun _ h9 => h9) rfl dX3_firstPlace_4 ?_
      refine lv_icmp_ge (tgt := 28) hx hb dX3_firstPlace_7 (by decide) (fun _ => ?_) (fun hn => absurd (nI_le (by omega) (by omega)) hn)
      refine lv_iconst (v := (-1)) hx hb dX3_firstPlace_28 (by decide) ?_
      exact hend _ _ _ _ _ hP hD hS (by rw [← e9]; rfl) dX3_firstPlace_29
    | succ n ih =>
      intro i hn e9 H locs ls hP hD hS hl
      refine lv_iload_n hx hb dX3_firstPlace_2 rfl (lv_at hl 0 rfl) ?_
      refine lv_aload_n hx hb dX3_firstPlace_3 rfl (lv_at hl 1 rfl) ?_
      refine va_get (D := D) (ci := 3) (v := .int (nI no)) (C := RX3) (T := TX3) (N := 8) hx hb hts iX3 hown hK hP 0 rfl rfl 5 (by decide) k47 (fun _ h9 => h9) rfl dX3_firstPlace_4 ?_
      refine lv_icmp_ge (tgt := 28) hx hb dX3_firstPlace_7 (by decide) (fun ht_ => absurd ht_ (nI_ge (by omega) (by omega))) (fun _ => ?_)
      refine lv_aload_n hx hb dX3_firstPlace_10 rfl (lv_at hl 1 rfl) ?_
      refine va_get (D := D) (ci := 3) (v := .ref b2) (C := RX3) (T := TX3) (N := 8) hx hb hts iX3 hown hK hP 0 rfl rfl 1 (by decide) k13 (fun _ h9 => h9) rfl dX3_firstPlace_11 ?_
      refine lv_iload_n hx hb dX3_firstPlace_14 rfl (lv_at hl 0 rfl) ?_
      refine h_iald hx hb hK hP 2 0 rfl rfl (by decide) (by omega) dX3_firstPlace_15 ?_
      refine lv_iload_n hx hb dX3_firstPlace_16 rfl (lv_at hl 2 rfl) ?_
      refine lv_icmp_ne (tgt := 22) hx hb dX3_firstPlace_17 (by decide) (fun c9 => ?_) (fun c9 => ?_)
      · refine lv_iinc (v := nI (i + 1)) (lv' := [(2, .int (nI (i + 1))), (0, .ref mo), (1, .int x)]) hx hb dX3_firstPlace_22 hl (k := 0) rfl (nI_1 _) (by decide) rfl (fun ls hl => ?_)
        refine lv_goto (tgt := 2) hx hb dX3_firstPlace_25 (by decide) ?_
        exact ih _ (by omega) (by rw [← e9, s_fI, if_neg c9]) _ _ _ hP hD hS (lv_sub hl [0, 1, 2] rfl)
      · have heq : fo i = x := c9
        refine lv_iload_n hx hb dX3_firstPlace_20 rfl (lv_at hl 0 rfl) ?_
        exact hend _ _ _ _ _ hP hD hS (by rw [← e9, s_fI, if_pos heq]; rfl) dX3_firstPlace_21
  exact loop no 0 (by omega) rfl _ _ _ hP hD hS hl
set_option maxHeartbeats 4000000 in
set_option maxRecDepth 100000 in
theorem c_X3_takeHeld (l : Launch) (D : va_G) (mo b1 b2 b3 b4 : Nat) (cI : ClassId) (fh fo fk ft : Nat → Int32) (nh no np : Nat) (th : Int32) (q9 : Nat) (hq : q9 < nh) (hn9 : nh ≤ 200) : mI l yX3_takeHeld wsX3_takeHeld ({ frames := 0, cells := 0, slots := 0, locals := 0 }) [.ref mo, .int (nI q9)] D [(cI, .int)] [(mo, .inr (3, [.ref b1, .ref b2, .ref b3, .ref b4, .int (nI nh), .int (nI no), .int (nI np), .int th])), (b1, .inl (cI, 200, .inl fh)), (b2, .inl (cI, 200, .inl fo)), (b3, .inl (cI, 200, .inl fk)), (b4, .inl (cI, 200, .inl ft))] [(mo, .inr (3, [.ref b1, .ref b2, .ref b3, .ref b4, .int (nI (nh - 1)), .int (nI no), .int (nI np), .int th])), (b1, .inl (cI, 200, .inl (s_rm fh q9 nh))), (b2, .inl (cI, 200, .inl fo)), (b3, .inl (cI, 200, .inl fk)), (b4, .inl (cI, 200, .inl ft))] (fh q9) := by
  refine hI_body (cc := cX3_takeHeld) (maxL := 4) (by decide) rfl (Nat.le_of_ble_eq_true rfl) (rfl) ?_
  intro p e s m below meth cd A ls Q hat hA hP hK hD hS hl hend
  obtain ⟨hF, hr, hlocks, hv⟩ := id hat
  obtain ⟨hx, hb, hml, hown, hts⟩ := id hF
  have hown : s.vm.findClass RX3 = some m.cls := hown
  have hl : lv_has ls 4 [(0, .ref mo), (1, .int (nI q9))] := hl
  have hP : va_P D vwCl [(mo, .inr (3, [.ref b1, .ref b2, .ref b3, .ref b4, .int (nI nh), .int (nI no), .int (nI np), .int th])), (b1, .inl (cI, 200, .inl fh)), (b2, .inl (cI, 200, .inl fo)), (b3, .inl (cI, 200, .inl fk)), (b4, .inl (cI, 200, .inl ft))] s.heap := hP
  have hD : va_D A [(mo, .inr (3, [.ref b1, .ref b2, .ref b3, .ref b4, .int (nI nh), .int (nI no), .int (nI np), .int th])), (b1, .inl (cI, 200, .inl fh)), (b2, .inl (cI, 200, .inl fo)), (b3, .inl (cI, 200, .inl fk)), (b4, .inl (cI, 200, .inl ft))] := hD
  have iX3 : ∀ w ∈ wsX30, w ∈ wsX3_takeHeld := by decide +kernel
  have k7 := hts (.fieldLink RX3 7 "HeapAndDequeModel" "heap" "[I") (by decide +kernel)
  have k26 := hts (.fieldLink RX3 26 "HeapAndDequeModel" "held" "I") (by decide +kernel)
  refine lv_aload_n hx hb dX3_takeHeld_0 rfl (lv_at hl 0 rfl) ?_
  refine va_get (D := D) (ci := 3) (v := .ref b1) (C := RX3) (T := TX3) (N := 8) hx hb hts iX3 hown hK hP 0 rfl rfl 0 (by decide) k7 (fun _ h9 => h9) rfl dX3_takeHeld_1 ?_
  refine lv_iload_n hx hb dX3_takeHeld_4 rfl (lv_at hl 1 rfl) ?_
  refine h_iald hx hb hK hP 1 0 rfl rfl (by decide) (by omega) dX3_takeHeld_5 ?_
  refine lv_istore_n (lv' := [(2, .int (fh q9)), (0, .ref mo), (1, .int (nI q9))]) hx hb dX3_takeHeld_6 rfl hl (by decide) rfl (fun ls hl => ?_)
  refine lv_aload_n hx hb dX3_takeHeld_7 rfl (lv_at hl 1 rfl) ?_
  refine lv_dup hx hb dX3_takeHeld_8 rfl ?_
  refine va_get (D := D) (ci := 3) (v := .int (nI nh)) (C := RX3) (T := TX3) (N := 8) hx hb hts iX3 hown hK hP 0 rfl rfl 4 (by decide) k26 (fun _ h9 => h9) rfl dX3_takeHeld_9 ?_
  refine lv_iconst (v := 1) hx hb dX3_takeHeld_12 (by decide) ?_
  refine lv_isub hx hb dX3_takeHeld_13 ?_
  refine hw_i (y := nI (nh - 1)) (h_sub1 (by omega)) ?_
  refine va_put (D := D) (ci := 3) (v := .int (nI (nh - 1))) (ty := .int) (C := RX3) (T := TX3) (N := 8) hx hb hts iX3 tyX3 tyX3_ok nmX3 hown hK hP hD hS 0 rfl rfl 4 (by decide) k26 (fun _ h9 => h9) rfl (by decide +kernel) rfl rfl (Nat.le_of_ble_eq_true rfl) dX3_takeHeld_14 (fun H locs hP hD hS => ?_)
  have hP : va_P D vwCl [(mo, .inr (3, [.ref b1, .ref b2, .ref b3, .ref b4, .int (nI (nh - 1)), .int (nI no), .int (nI np), .int th])), (b1, .inl (cI, 200, .inl fh)), (b2, .inl (cI, 200, .inl fo)), (b3, .inl (cI, 200, .inl fk)), (b4, .inl (cI, 200, .inl ft))] H := hP
  have hD : va_D A [(mo, .inr (3, [.ref b1, .ref b2, .ref b3, .ref b4, .int (nI (nh - 1)), .int (nI no), .int (nI np), .int th])), (b1, .inl (cI, 200, .inl fh)), (b2, .inl (cI, 200, .inl fo)), (b3, .inl (cI, 200, .inl fk)), (b4, .inl (cI, 200, .inl ft))] := hD
  refine lv_iload_n hx hb dX3_takeHeld_17 rfl (lv_at hl 2 rfl) ?_
  refine lv_istore_n (lv' := [(3, .int (nI q9)), (2, .int (fh q9)), (0, .ref mo), (1, .int (nI q9))]) hx hb dX3_takeHeld_18 rfl hl (by decide) rfl (fun ls hl => ?_)
  have loop : ∀ (n i : Nat), i + n + 1 = nh → q9 ≤ i → ∀ (H : Heap) (locs : List Loc) (ls : Array Slot), va_P D vwCl [(mo, .inr (3, [.ref b1, .ref b2, .ref b3, .ref b4, .int (nI (nh - 1)), .int (nI no), .int (nI np), .int th])), (b1, .inl (cI, 200, .inl (s_rm fh q9 (i + 1)))), (b2, .inl (cI, 200, .inl fo)), (b3, .inl (cI, 200, .inl fk)), (b4, .inl (cI, 200, .inl ft))] H → va_D A [(mo, .inr (3, [.ref b1, .ref b2, .ref b3, .ref b4, .int (nI (nh - 1)), .int (nI no), .int (nI np), .int th])), (b1, .inl (cI, 200, .inl (s_rm fh q9 (i + 1)))), (b2, .inl (cI, 200, .inl fo)), (b3, .inl (cI, 200, .inl fk)), (b4, .inl (cI, 200, .inl ft))] → va_S A s.heap H locs → lv_has ls 4 [(3, .int (nI i)), (2, .int (fh q9)), (0, .ref mo), (1, .int (nI q9))] → W p l e ({ frames := 0, cells := 0, slots := 0, locals := 0 }) s m ([.ref mo, .int (nI q9)] : List Value).toArray below meth cd H locs 0 0 Q (F0 m 19 ls []) := by
    intro n
    induction n with
    | zero =>
      intro i hn hi H locs ls hP hD hS hl
      refine lv_iload_n hx hb dX3_takeHeld_19 rfl (lv_at hl 0 rfl) ?_
      refine lv_aload_n hx hb dX3_takeHeld_20 rfl (lv_at hl 2 rfl) ?_
      refine va_get (D := D) (ci := 3) (v := .int (nI (nh - 1))) (C := RX3) (T := TX3) (N := 8) hx hb hts iX3 hown hK hP 0 rfl rfl 4 (by decide) k26 (fun _ h9 => h9) rfl dX3_takeHeld_21 ?_
      refine lv_icmp_ge (tgt := 47) hx hb dX3_takeHeld_24 (by decide) (fun _ => ?_) (fun hn => absurd (nI_le (by omega) (by omega)) hn)
      refine lv_iload_n hx hb dX3_takeHeld_47 rfl (lv_at hl 1 rfl) ?_
      have e8 : s_rm fh q9 (i + 1) = s_rm fh q9 nh := by rw [show i + 1 = nh by omega]
      exact hend _ _ _ _ _ (by rw [← e8]; exact hP) (by rw [← e8]; exact hD) hS (rfl) dX3_takeHeld_48
    | succ n ih =>
      intro i hn hi H locs ls hP hD hS hl
      refine lv_iload_n hx hb dX3_takeHeld_19 rfl (lv_at hl 0 rfl) ?_
      refine lv_aload_n hx hb dX3_takeHeld_20 rfl (lv_at hl 2 rfl) ?_
      refine va_get (D := D) (ci := 3) (v := .int (nI (nh - 1))) (C := RX3) (T := TX3) (N := 8) hx hb hts iX3 hown hK hP 0 rfl rfl 4 (by decide) k26 (fun _ h9 => h9) rfl dX3_takeHeld_21 ?_
      refine lv_icmp_ge (tgt := 47) hx hb dX3_takeHeld_24 (by decide) (fun ht_ => absurd ht_ (nI_ge (by omega) (by omega))) (fun _ => ?_)
      refine lv_aload_n hx hb dX3_takeHeld_27 rfl (lv_at hl 2 rfl) ?_
      refine va_get (D := D) (ci := 3) (v := .ref b1) (C := RX3) (T := TX3) (N := 8) hx hb hts iX3 hown hK hP 0 rfl rfl 0 (by decide) k7 (fun _ h9 => h9) rfl dX3_takeHeld_28 ?_
      refine lv_iload_n hx hb dX3_takeHeld_31 rfl (lv_at hl 0 rfl) ?_
      refine lv_aload_n hx hb dX3_takeHeld_32 rfl (lv_at hl 2 rfl) ?_
      refine va_get (D := D) (ci := 3) (v := .ref b1) (C := RX3) (T := TX3) (N := 8) hx hb hts iX3 hown hK hP 0 rfl rfl 0 (by decide) k7 (fun _ h9 => h9) rfl dX3_takeHeld_33 ?_
      refine lv_iload_n hx hb dX3_takeHeld_36 rfl (lv_at hl 0 rfl) ?_
      refine lv_iconst (v := 1) hx hb dX3_takeHeld_37 (by decide) ?_
      refine lv_iadd hx hb dX3_takeHeld_38 ?_
      refine hw_i (y := nI (i + 1)) (nI_1 _) ?_
      refine h_iald hx hb hK hP 1 0 rfl rfl (by decide) (by omega) dX3_takeHeld_39 ?_
      refine h_iast hx hb hK hP hD hS 1 0 rfl rfl (by decide) (by omega) dX3_takeHeld_40 (fun H locs hP hD hS => ?_)
      have hP : va_P D vwCl [(mo, .inr (3, [.ref b1, .ref b2, .ref b3, .ref b4, .int (nI (nh - 1)), .int (nI no), .int (nI np), .int th])), (b1, .inl (cI, 200, .inl (upd (s_rm fh q9 (i + 1)) i ((s_rm fh q9 (i + 1)) (i + 1))))), (b2, .inl (cI, 200, .inl fo)), (b3, .inl (cI, 200, .inl fk)), (b4, .inl (cI, 200, .inl ft))] H := hP
      have hD : va_D A [(mo, .inr (3, [.ref b1, .ref b2, .ref b3, .ref b4, .int (nI (nh - 1)), .int (nI no), .int (nI np), .int th])), (b1, .inl (cI, 200, .inl (upd (s_rm fh q9 (i + 1)) i ((s_rm fh q9 (i + 1)) (i + 1))))), (b2, .inl (cI, 200, .inl fo)), (b3, .inl (cI, 200, .inl fk)), (b4, .inl (cI, 200, .inl ft))] := hD
      have hP : va_P D vwCl [(mo, .inr (3, [.ref b1, .ref b2, .ref b3, .ref b4, .int (nI (nh - 1)), .int (nI no), .int (nI np), .int th])), (b1, .inl (cI, 200, .inl (s_rm fh q9 (i + 1 + 1)))), (b2, .inl (cI, 200, .inl fo)), (b3, .inl (cI, 200, .inl fk)), (b4, .inl (cI, 200, .inl ft))] H := by rw [← s_rm_s fh (show q9 < i + 1 by omega)]; exact hP
      have hD : va_D A [(mo, .inr (3, [.ref b1, .ref b2, .ref b3, .ref b4, .int (nI (nh - 1)), .int (nI no), .int (nI np), .int th])), (b1, .inl (cI, 200, .inl (s_rm fh q9 (i + 1 + 1)))), (b2, .inl (cI, 200, .inl fo)), (b3, .inl (cI, 200, .inl fk)), (b4, .inl (cI, 200, .inl ft))] := by rw [← s_rm_s fh (show q9 < i + 1 by omega)]; exact hD
      refine lv_iinc (v := nI (i + 1)) (lv' := [(3, .int (nI (i + 1))), (2, .int (fh q9)), (0, .ref mo), (1, .int (nI q9))]) hx hb dX3_takeHeld_41 hl (k := 0) rfl (nI_1 _) (by decide) rfl (fun ls hl => ?_)
      refine lv_goto (tgt := 19) hx hb dX3_takeHeld_44 (by decide) ?_
      exact ih (i + 1) (by omega) (by omega) _ _ _ hP hD hS (lv_sub hl [0, 1, 2, 3] rfl)
  exact loop (nh - 1 - q9) q9 (by omega) (Nat.le_refl _) _ _ _ (by rw [s_rm_0]; exact hP) (by rw [s_rm_0]; exact hD) hS hl
set_option maxHeartbeats 4000000 in
set_option maxRecDepth 100000 in
theorem c_X3_takeRow (l : Launch) (D : va_G) (mo b1 b2 b3 b4 : Nat) (cI : ClassId) (fh fo fk ft : Nat → Int32) (nh no np : Nat) (th : Int32) (q9 : Nat) (hq : q9 < no) (hn9 : no ≤ 200) : mI l yX3_takeRow wsX3_takeRow ({ frames := 0, cells := 0, slots := 0, locals := 0 }) [.ref mo, .int (nI q9)] D [(cI, .int)] [(mo, .inr (3, [.ref b1, .ref b2, .ref b3, .ref b4, .int (nI nh), .int (nI no), .int (nI np), .int th])), (b1, .inl (cI, 200, .inl fh)), (b2, .inl (cI, 200, .inl fo)), (b3, .inl (cI, 200, .inl fk)), (b4, .inl (cI, 200, .inl ft))] [(mo, .inr (3, [.ref b1, .ref b2, .ref b3, .ref b4, .int (nI nh), .int (nI (no - 1)), .int (nI np), .int th])), (b1, .inl (cI, 200, .inl fh)), (b2, .inl (cI, 200, .inl (s_rm fo q9 no))), (b3, .inl (cI, 200, .inl fk)), (b4, .inl (cI, 200, .inl ft))] (fo q9) := by
  refine hI_body (cc := cX3_takeRow) (maxL := 4) (by decide) rfl (Nat.le_of_ble_eq_true rfl) (rfl) ?_
  intro p e s m below meth cd A ls Q hat hA hP hK hD hS hl hend
  obtain ⟨hF, hr, hlocks, hv⟩ := id hat
  obtain ⟨hx, hb, hml, hown, hts⟩ := id hF
  have hown : s.vm.findClass RX3 = some m.cls := hown
  have hl : lv_has ls 4 [(0, .ref mo), (1, .int (nI q9))] := hl
  have hP : va_P D vwCl [(mo, .inr (3, [.ref b1, .ref b2, .ref b3, .ref b4, .int (nI nh), .int (nI no), .int (nI np), .int th])), (b1, .inl (cI, 200, .inl fh)), (b2, .inl (cI, 200, .inl fo)), (b3, .inl (cI, 200, .inl fk)), (b4, .inl (cI, 200, .inl ft))] s.heap := hP
  have hD : va_D A [(mo, .inr (3, [.ref b1, .ref b2, .ref b3, .ref b4, .int (nI nh), .int (nI no), .int (nI np), .int th])), (b1, .inl (cI, 200, .inl fh)), (b2, .inl (cI, 200, .inl fo)), (b3, .inl (cI, 200, .inl fk)), (b4, .inl (cI, 200, .inl ft))] := hD
  have iX3 : ∀ w ∈ wsX30, w ∈ wsX3_takeRow := by decide +kernel
  have k13 := hts (.fieldLink RX3 13 "HeapAndDequeModel" "row" "[I") (by decide +kernel)
  have k47 := hts (.fieldLink RX3 47 "HeapAndDequeModel" "many" "I") (by decide +kernel)
  refine lv_aload_n hx hb dX3_takeRow_0 rfl (lv_at hl 0 rfl) ?_
  refine va_get (D := D) (ci := 3) (v := .ref b2) (C := RX3) (T := TX3) (N := 8) hx hb hts iX3 hown hK hP 0 rfl rfl 1 (by decide) k13 (fun _ h9 => h9) rfl dX3_takeRow_1 ?_
  refine lv_iload_n hx hb dX3_takeRow_4 rfl (lv_at hl 1 rfl) ?_
  refine h_iald hx hb hK hP 2 0 rfl rfl (by decide) (by omega) dX3_takeRow_5 ?_
  refine lv_istore_n (lv' := [(2, .int (fo q9)), (0, .ref mo), (1, .int (nI q9))]) hx hb dX3_takeRow_6 rfl hl (by decide) rfl (fun ls hl => ?_)
  refine lv_aload_n hx hb dX3_takeRow_7 rfl (lv_at hl 1 rfl) ?_
  refine lv_dup hx hb dX3_takeRow_8 rfl ?_
  refine va_get (D := D) (ci := 3) (v := .int (nI no)) (C := RX3) (T := TX3) (N := 8) hx hb hts iX3 hown hK hP 0 rfl rfl 5 (by decide) k47 (fun _ h9 => h9) rfl dX3_takeRow_9 ?_
  refine lv_iconst (v := 1) hx hb dX3_takeRow_12 (by decide) ?_
  refine lv_isub hx hb dX3_takeRow_13 ?_
  refine hw_i (y := nI (no - 1)) (h_sub1 (by omega)) ?_
  refine va_put (D := D) (ci := 3) (v := .int (nI (no - 1))) (ty := .int) (C := RX3) (T := TX3) (N := 8) hx hb hts iX3 tyX3 tyX3_ok nmX3 hown hK hP hD hS 0 rfl rfl 5 (by decide) k47 (fun _ h9 => h9) rfl (by decide +kernel) rfl rfl (Nat.le_of_ble_eq_true rfl) dX3_takeRow_14 (fun H locs hP hD hS => ?_)
  have hP : va_P D vwCl [(mo, .inr (3, [.ref b1, .ref b2, .ref b3, .ref b4, .int (nI nh), .int (nI (no - 1)), .int (nI np), .int th])), (b1, .inl (cI, 200, .inl fh)), (b2, .inl (cI, 200, .inl fo)), (b3, .inl (cI, 200, .inl fk)), (b4, .inl (cI, 200, .inl ft))] H := hP
  have hD : va_D A [(mo, .inr (3, [.ref b1, .ref b2, .ref b3, .ref b4, .int (nI nh), .int (nI (no - 1)), .int (nI np), .int th])), (b1, .inl (cI, 200, .inl fh)), (b2, .inl (cI, 200, .inl fo)), (b3, .inl (cI, 200, .inl fk)), (b4, .inl (cI, 200, .inl ft))] := hD
  refine lv_iload_n hx hb dX3_takeRow_17 rfl (lv_at hl 2 rfl) ?_
  refine lv_istore_n (lv' := [(3, .int (nI q9)), (2, .int (fo q9)), (0, .ref mo), (1, .int (nI q9))]) hx hb dX3_takeRow_18 rfl hl (by decide) rfl (fun ls hl => ?_)
  have loop : ∀ (n i : Nat), i + n + 1 = no → q9 ≤ i → ∀ (H : Heap) (locs : List Loc) (ls : Array Slot), va_P D vwCl [(mo, .inr (3, [.ref b1, .ref b2, .ref b3, .ref b4, .int (nI nh), .int (nI (no - 1)), .int (nI np), .int th])), (b1, .inl (cI, 200, .inl fh)), (b2, .inl (cI, 200, .inl (s_rm fo q9 (i + 1)))), (b3, .inl (cI, 200, .inl fk)), (b4, .inl (cI, 200, .inl ft))] H → va_D A [(mo, .inr (3, [.ref b1, .ref b2, .ref b3, .ref b4, .int (nI nh), .int (nI (no - 1)), .int (nI np), .int th])), (b1, .inl (cI, 200, .inl fh)), (b2, .inl (cI, 200, .inl (s_rm fo q9 (i + 1)))), (b3, .inl (cI, 200, .inl fk)), (b4, .inl (cI, 200, .inl ft))] → va_S A s.heap H locs → lv_has ls 4 [(3, .int (nI i)), (2, .int (fo q9)), (0, .ref mo), (1, .int (nI q9))] → W p l e ({ frames := 0, cells := 0, slots := 0, locals := 0 }) s m ([.ref mo, .int (nI q9)] : List Value).toArray below meth cd H locs 0 0 Q (F0 m 19 ls []) := by
    intro n
    induction n with
    | zero =>
      intro i hn hi H locs ls hP hD hS hl
      refine lv_iload_n hx hb dX3_takeRow_19 rfl (lv_at hl 0 rfl) ?_
      refine lv_aload_n hx hb dX3_takeRow_20 rfl (lv_at hl 2 rfl) ?_
      refine va_get (D := D) (ci := 3) (v := .int (nI (no - 1))) (C := RX3) (T := TX3) (N := 8) hx hb hts iX3 hown hK hP 0 rfl rfl 5 (by decide) k47 (fun _ h9 => h9) rfl dX3_takeRow_21 ?_
      refine lv_icmp_ge (tgt := 47) hx hb dX3_takeRow_24 (by decide) (fun _ => ?_) (fun hn => absurd (nI_le (by omega) (by omega)) hn)
      refine lv_iload_n hx hb dX3_takeRow_47 rfl (lv_at hl 1 rfl) ?_
      have e8 : s_rm fo q9 (i + 1) = s_rm fo q9 no := by rw [show i + 1 = no by omega]
      exact hend _ _ _ _ _ (by rw [← e8]; exact hP) (by rw [← e8]; exact hD) hS (rfl) dX3_takeRow_48
    | succ n ih =>
      intro i hn hi H locs ls hP hD hS hl
      refine lv_iload_n hx hb dX3_takeRow_19 rfl (lv_at hl 0 rfl) ?_
      refine lv_aload_n hx hb dX3_takeRow_20 rfl (lv_at hl 2 rfl) ?_
      refine va_get (D := D) (ci := 3) (v := .int (nI (no - 1))) (C := RX3) (T := TX3) (N := 8) hx hb hts iX3 hown hK hP 0 rfl rfl 5 (by decide) k47 (fun _ h9 => h9) rfl dX3_takeRow_21 ?_
      refine lv_icmp_ge (tgt := 47) hx hb dX3_takeRow_24 (by decide) (fun ht_ => absurd ht_ (nI_ge (by omega) (by omega))) (fun _ => ?_)
      refine lv_aload_n hx hb dX3_takeRow_27 rfl (lv_at hl 2 rfl) ?_
      refine va_get (D := D) (ci := 3) (v := .ref b2) (C := RX3) (T := TX3) (N := 8) hx hb hts iX3 hown hK hP 0 rfl rfl 1 (by decide) k13 (fun _ h9 => h9) rfl dX3_takeRow_28 ?_
      refine lv_iload_n hx hb dX3_takeRow_31 rfl (lv_at hl 0 rfl) ?_
      refine lv_aload_n hx hb dX3_takeRow_32 rfl (lv_at hl 2 rfl) ?_
      refine va_get (D := D) (ci := 3) (v := .ref b2) (C := RX3) (T := TX3) (N := 8) hx hb hts iX3 hown hK hP 0 rfl rfl 1 (by decide) k13 (fun _ h9 => h9) rfl dX3_takeRow_33 ?_
      refine lv_iload_n hx hb dX3_takeRow_36 rfl (lv_at hl 0 rfl) ?_
      refine lv_iconst (v := 1) hx hb dX3_takeRow_37 (by decide) ?_
      refine lv_iadd hx hb dX3_takeRow_38 ?_
      refine hw_i (y := nI (i + 1)) (nI_1 _) ?_
      refine h_iald hx hb hK hP 2 0 rfl rfl (by decide) (by omega) dX3_takeRow_39 ?_
      refine h_iast hx hb hK hP hD hS 2 0 rfl rfl (by decide) (by omega) dX3_takeRow_40 (fun H locs hP hD hS => ?_)
      have hP : va_P D vwCl [(mo, .inr (3, [.ref b1, .ref b2, .ref b3, .ref b4, .int (nI nh), .int (nI (no - 1)), .int (nI np), .int th])), (b1, .inl (cI, 200, .inl fh)), (b2, .inl (cI, 200, .inl (upd (s_rm fo q9 (i + 1)) i ((s_rm fo q9 (i + 1)) (i + 1))))), (b3, .inl (cI, 200, .inl fk)), (b4, .inl (cI, 200, .inl ft))] H := hP
      have hD : va_D A [(mo, .inr (3, [.ref b1, .ref b2, .ref b3, .ref b4, .int (nI nh), .int (nI (no - 1)), .int (nI np), .int th])), (b1, .inl (cI, 200, .inl fh)), (b2, .inl (cI, 200, .inl (upd (s_rm fo q9 (i + 1)) i ((s_rm fo q9 (i + 1)) (i + 1))))), (b3, .inl (cI, 200, .inl fk)), (b4, .inl (cI, 200, .inl ft))] := hD
      have hP : va_P D vwCl [(mo, .inr (3, [.ref b1, .ref b2, .ref b3, .ref b4, .int (nI nh), .int (nI (no - 1)), .int (nI np), .int th])), (b1, .inl (cI, 200, .inl fh)), (b2, .inl (cI, 200, .inl (s_rm fo q9 (i + 1 + 1)))), (b3, .inl (cI, 200, .inl fk)), (b4, .inl (cI, 200, .inl ft))] H := by rw [← s_rm_s fo (show q9 < i + 1 by omega)]; exact hP
      have hD : va_D A [(mo, .inr (3, [.ref b1, .ref b2, .ref b3, .ref b4, .int (nI nh), .int (nI (no - 1)), .int (nI np), .int th])), (b1, .inl (cI, 200, .inl fh)), (b2, .inl (cI, 200, .inl (s_rm fo q9 (i + 1 + 1)))), (b3, .inl (cI, 200, .inl fk)), (b4, .inl (cI, 200, .inl ft))] := by rw [← s_rm_s fo (show q9 < i + 1 by omega)]; exact hD
      refine lv_iinc (v := nI (i + 1)) (lv' := [(3, .int (nI (i + 1))), (2, .int (fo q9)), (0, .ref mo), (1, .int (nI q9))]) hx hb dX3_takeRow_41 hl (k := 0) rfl (nI_1 _) (by decide) rfl (fun ls hl => ?_)
      refine lv_goto (tgt := 19) hx hb dX3_takeRow_44 (by decide) ?_
      exact ih (i + 1) (by omega) (by omega) _ _ _ hP hD hS (lv_sub hl [0, 1, 2, 3] rfl)
  exact loop (no - 1 - q9) q9 (by omega) (Nat.le_refl _) _ _ _ (by rw [s_rm_0]; exact hP) (by rw [s_rm_0]; exact hD) hS hl
set_option maxHeartbeats 4000000 in
set_option maxRecDepth 100000 in
theorem c_X3_leastPair (l : Launch) (D : va_G) (mo b1 b2 b3 b4 : Nat) (cI : ClassId) (fh fo fk ft : Nat → Int32) (nh no np : Nat) (th : Int32) (hn9 : np ≤ 200) : mI l yX3_leastPair wsX3_leastPair ({ frames := 0, cells := 0, slots := 0, locals := 0 }) [.ref mo] D [(cI, .int)] [(mo, .inr (3, [.ref b1, .ref b2, .ref b3, .ref b4, .int (nI nh), .int (nI no), .int (nI np), .int th])), (b1, .inl (cI, 200, .inl fh)), (b2, .inl (cI, 200, .inl fo)), (b3, .inl (cI, 200, .inl fk)), (b4, .inl (cI, 200, .inl ft))] [(mo, .inr (3, [.ref b1, .ref b2, .ref b3, .ref b4, .int (nI nh), .int (nI no), .int (nI np), .int th])), (b1, .inl (cI, 200, .inl fh)), (b2, .inl (cI, 200, .inl fo)), (b3, .inl (cI, 200, .inl fk)), (b4, .inl (cI, 200, .inl ft))] (nI (s_lq fk ft (np - 1))) := by
  refine hI_body (cc := cX3_leastPair) (maxL := 3) (by decide) rfl (Nat.le_of_ble_eq_true rfl) (rfl) ?_
  intro p e s m below meth cd A ls Q hat hA hP hK hD hS hl hend
  obtain ⟨hF, hr, hlocks, hv⟩ := id hat
  obtain ⟨hx, hb, hml, hown, hts⟩ := id hF
  have hown : s.vm.findClass RX3 = some m.cls := hown
  have hl : lv_has ls 3 [(0, .ref mo)] := hl
  have hP : va_P D vwCl [(mo, .inr (3, [.ref b1, .ref b2, .ref b3, .ref b4, .int (nI nh), .int (nI no), .int (nI np), .int th])), (b1, .inl (cI, 200, .inl fh)), (b2, .inl (cI, 200, .inl fo)), (b3, .inl (cI, 200, .inl fk)), (b4, .inl (cI, 200, .inl ft))] s.heap := hP
  have hD : va_D A [(mo, .inr (3, [.ref b1, .ref b2, .ref b3, .ref b4, .int (nI nh), .int (nI no), .int (nI np), .int th])), (b1, .inl (cI, 200, .inl fh)), (b2, .inl (cI, 200, .inl fo)), (b3, .inl (cI, 200, .inl fk)), (b4, .inl (cI, 200, .inl ft))] := hD
  have iX3 : ∀ w ∈ wsX30, w ∈ wsX3_leastPair := by decide +kernel
  have k16 := hts (.fieldLink RX3 16 "HeapAndDequeModel" "keys" "[I") (by decide +kernel)
  have k19 := hts (.fieldLink RX3 19 "HeapAndDequeModel" "tags" "[I") (by decide +kernel)
  have k50 := hts (.fieldLink RX3 50 "HeapAndDequeModel" "pairs" "I") (by decide +kernel)
  refine lv_iconst (v := nI 0) hx hb dX3_leastPair_0 (by decide +kernel) ?_
  refine lv_istore_n (lv' := [(1, .int (nI 0)), (0, .ref mo)]) hx hb dX3_leastPair_1 rfl hl (by decide) rfl (fun ls hl => ?_)
  refine lv_iconst (v := nI 1) hx hb dX3_leastPair_2 (by decide +kernel) ?_
  refine lv_istore_n (lv' := [(2, .int (nI 1)), (1, .int (nI 0)), (0, .ref mo)]) hx hb dX3_leastPair_3 rfl hl (by decide) rfl (fun ls hl => ?_)
  have loop : ∀ (n i : Nat), i + n = np - 1 → ∀ (H : Heap) (locs : List Loc) (ls : Array Slot), va_P D vwCl [(mo, .inr (3, [.ref b1, .ref b2, .ref b3, .ref b4, .int (nI nh), .int (nI no), .int (nI np), .int th])), (b1, .inl (cI, 200, .inl fh)), (b2, .inl (cI, 200, .inl fo)), (b3, .inl (cI, 200, .inl fk)), (b4, .inl (cI, 200, .inl ft))] H → va_D A [(mo, .inr (3, [.ref b1, .ref b2, .ref b3, .ref b4, .int (nI nh), .int (nI no), .int (nI np), .int th])), (b1, .inl (cI, 200, .inl fh)), (b2, .inl (cI, 200, .inl fo)), (b3, .inl (cI, 200, .inl fk)), (b4, .inl (cI, 200, .inl ft))] → va_S A s.heap H locs → lv_has ls 3 [(2, .int (nI (i + 1))), (1, .int (nI (s_lq fk ft i))), (0, .ref mo)] → W p l e ({ frames := 0, cells := 0, slots := 0, locals := 0 }) s m ([.ref mo] : List Value).toArray below meth cd H locs 0 0 Q (F0 m 4 ls []) := by
    intro n
    induction n with
    | zero =>
      intro i hn H locs ls hP hD hS hl
      refine lv_iload_n hx hb dX3_leastPair_4 rfl (lv_at hl 0 rfl) ?_
      refine lv_aload_n hx hb dX3_leastPair_5 rfl (lv_at hl 2 rfl) ?_
      refine va_get (D := D) (ci := 3) (v := .int (nI np)) (C := RX3) (T := TX3) (N := 8) hx hb hts iX3 hown hK hP 0 rfl rfl 6 (by decide) k50 (fun _ h9 => h9) rfl dX3_leastPair_6 ?_
      refine lv_icmp_ge (tgt := 65) hx hb dX3_leastPair_9 (by decide) (fun _ => ?_) (fun hn => absurd (nI_le (by omega) (by omega)) hn)
      refine lv_iload_n hx hb dX3_leastPair_65 rfl (lv_at hl 1 rfl) ?_
      exact hend _ _ _ _ _ hP hD hS (by rw [show i = np - 1 by omega]) dX3_leastPair_66
    | succ n ih =>
      intro i hn H locs ls hP hD hS hl
      have hle := s_lq_le fk ft i
      refine lv_iload_n hx hb dX3_leastPair_4 rfl (lv_at hl 0 rfl) ?_
      refine lv_aload_n hx hb dX3_leastPair_5 rfl (lv_at hl 2 rfl) ?_
      refine va_get (D := D) (ci := 3) (v := .int (nI np)) (C := RX3) (T := TX3) (N := 8) hx hb hts iX3 hown hK hP 0 rfl rfl 6 (by decide) k50 (fun _ h9 => h9) rfl dX3_leastPair_6 ?_
      refine lv_icmp_ge (tgt := 65) hx hb dX3_leastPair_9 (by decide) (fun ht_ => absurd ht_ (nI_ge (by omega) (by omega))) (fun _ => ?_)
      refine lv_aload_n hx hb dX3_leastPair_12 rfl (lv_at hl 2 rfl) ?_
      refine va_get (D := D) (ci := 3) (v := .ref b3) (C := RX3) (T := TX3) (N := 8) hx hb hts iX3 hown hK hP 0 rfl rfl 2 (by decide) k16 (fun _ h9 => h9) rfl dX3_leastPair_13 ?_
      refine lv_iload_n hx hb dX3_leastPair_16 rfl (lv_at hl 0 rfl) ?_
      refine h_iald hx hb hK hP 3 0 rfl rfl (by decide) (by omega) dX3_leastPair_17 ?_
      refine lv_aload_n hx hb dX3_leastPair_18 rfl (lv_at hl 2 rfl) ?_
      refine va_get (D := D) (ci := 3) (v := .ref b3) (C := RX3) (T := TX3) (N := 8) hx hb hts iX3 hown hK hP 0 rfl rfl 2 (by decide) k16 (fun _ h9 => h9) rfl dX3_leastPair_19 ?_
      refine lv_iload_n hx hb dX3_leastPair_22 rfl (lv_at hl 1 rfl) ?_
      refine h_iald hx hb hK hP 3 0 rfl rfl (by decide) (by omega) dX3_leastPair_23 ?_
      refine lv_icmp_lt (tgt := 57) hx hb dX3_leastPair_24 (by decide) (fun c9 => ?_) (fun c9 => ?_)
      · refine lv_iload_n hx hb dX3_leastPair_57 rfl (lv_at hl 0 rfl) ?_
        refine lv_istore_n (lv' := [(1, .int (nI (i + 1))), (2, .int (nI (i + 1))), (0, .ref mo)]) hx hb dX3_leastPair_58 rfl hl (by decide) rfl (fun ls hl => ?_)
        refine lv_iinc (v := nI (i + 1 + 1)) (lv' := [(2, .int (nI (i + 1 + 1))), (1, .int (nI (i + 1))), (0, .ref mo)]) hx hb dX3_leastPair_59 hl (k := 1) rfl (nI_1 _) (by decide) rfl (fun ls hl => ?_)
        refine lv_goto (tgt := 4) hx hb dX3_leastPair_62 (by decide) ?_
        have e8 : s_lq fk ft (i + 1) = i + 1 := by rw [s_lq, if_pos (Or.inl c9)]
        exact ih (i + 1) (by omega) _ _ _ hP hD hS (by rw [e8]; exact (lv_sub hl [0, 1, 2] rfl))
      · refine lv_aload_n hx hb dX3_leastPair_27 rfl (lv_at hl 2 rfl) ?_
        refine va_get (D := D) (ci := 3) (v := .ref b3) (C := RX3) (T := TX3) (N := 8) hx hb hts iX3 hown hK hP 0 rfl rfl 2 (by decide) k16 (fun _ h9 => h9) rfl dX3_leastPair_28 ?_
        refine lv_iload_n hx hb dX3_leastPair_31 rfl (lv_at hl 0 rfl) ?_
        refine h_iald hx hb hK hP 3 0 rfl rfl (by decide) (by omega) dX3_leastPair_32 ?_
        refine lv_aload_n hx hb dX3_leastPair_33 rfl (lv_at hl 2 rfl) ?_
        refine va_get (D := D) (ci := 3) (v := .ref b3) (C := RX3) (T := TX3) (N := 8) hx hb hts iX3 hown hK hP 0 rfl rfl 2 (by decide) k16 (fun _ h9 => h9) rfl dX3_leastPair_34 ?_
        refine lv_iload_n hx hb dX3_leastPair_37 rfl (lv_at hl 1 rfl) ?_
        refine h_iald hx hb hK hP 3 0 rfl rfl (by decide) (by omega) dX3_leastPair_38 ?_
        refine lv_icmp_ne (tgt := 59) hx hb dX3_leastPair_39 (by decide) (fun c8 => ?_) (fun c8 => ?_)
        · refine lv_iinc (v := nI (i + 1 + 1)) (lv' := [(2, .int (nI (i + 1 + 1))), (1, .int (nI (s_lq fk ft i))), (0, .ref mo)]) hx hb dX3_leastPair_59 hl (k := 0) rfl (nI_1 _) (by decide) rfl (fun ls hl => ?_)
          refine lv_goto (tgt := 4) hx hb dX3_leastPair_62 (by decide) ?_
          have e8 : s_lq fk ft (i + 1) = s_lq fk ft i := by rw [s_lq, if_neg (fun h => h.elim c9 (fun h2 => c8 h2.1))]
          exact ih (i + 1) (by omega) _ _ _ hP hD hS (by rw [e8]; exact (lv_sub hl [0, 1, 2] rfl))
        · refine lv_aload_n hx hb dX3_leastPair_42 rfl (lv_at hl 2 rfl) ?_
          refine va_get (D := D) (ci := 3) (v := .ref b4) (C := RX3) (T := TX3) (N := 8) hx hb hts iX3 hown hK hP 0 rfl rfl 3 (by decide) k19 (fun _ h9 => h9) rfl dX3_leastPair_43 ?_
          refine lv_iload_n hx hb dX3_leastPair_46 rfl (lv_at hl 0 rfl) ?_
          refine h_iald hx hb hK hP 4 0 rfl rfl (by decide) (by omega) dX3_leastPair_47 ?_
          refine lv_aload_n hx hb dX3_leastPair_48 rfl (lv_at hl 2 rfl) ?_
          refine va_get (D := D) (ci := 3) (v := .ref b4) (C := RX3) (T := TX3) (N := 8) hx hb hts iX3 hown hK hP 0 rfl rfl 3 (by decide) k19 (fun _ h9 => h9) rfl dX3_leastPair_49 ?_
          refine lv_iload_n hx hb dX3_leastPair_52 rfl (lv_at hl 1 rfl) ?_
          refine h_iald hx hb hK hP 4 0 rfl rfl (by decide) (by omega) dX3_leastPair_53 ?_
          refine lv_icmp_le (tgt := 59) hx hb dX3_leastPair_54 (by decide) (fun c7 => ?_) (fun c7 => ?_)
          · refine lv_iinc (v := nI (i + 1 + 1)) (lv' := [(2, .int (nI (i + 1 + 1))), (1, .int (nI (s_lq fk ft i))), (0, .ref mo)]) hx hb dX3_leastPair_59 hl (k := 0) rfl (nI_1 _) (by decide) rfl (fun ls hl => ?_)
            refine lv_goto (tgt := 4) hx hb dX3_leastPair_62 (by decide) ?_
            have e8 : s_lq fk ft (i + 1) = s_lq fk ft i := by rw [s_lq, if_neg (fun h => h.elim c9 (fun h2 => absurd h2.2 (Int32.not_lt.mpr c7)))]
            exact ih (i + 1) (by omega) _ _ _ hP hD hS (by rw [e8]; exact (lv_sub hl [0, 1, 2] rfl))
          · refine lv_iload_n hx hb dX3_leastPair_57 rfl (lv_at hl 0 rfl) ?_
            refine lv_istore_n (lv' := [(1, .int (nI (i + 1))), (2, .int (nI (i + 1))), (0, .ref mo)]) hx hb dX3_leastPair_58 rfl hl (by decide) rfl (fun ls hl => ?_)
            refine lv_iinc (v := nI (i + 1 + 1)) (lv' := [(2, .int (nI (i + 1 + 1))), (1, .int (nI (i + 1))), (0, .ref mo)]) hx hb dX3_leastPair_59 hl (k := 1) rfl (nI_1 _) (by decide) rfl (fun ls hl => ?_)
            refine lv_goto (tgt := 4) hx hb dX3_leastPair_62 (by decide) ?_
            have e8 : s_lq fk ft (i + 1) = i + 1 := by rw [s_lq, if_pos (Or.inr ⟨c8, Int32.not_le.mp c7⟩)]
            exact ih (i + 1) (by omega) _ _ _ hP hD hS (by rw [e8]; exact (lv_sub hl [0, 1, 2] rfl))
  exact loop (np - 1) 0 (by omega) _ _ _ hP hD hS hl
set_option maxHeartbeats 4000000 in
set_option maxRecDepth 100000 in
theorem c_X3_pairPlace (l : Launch) (D : va_G) (mo b1 b2 b3 b4 : Nat) (cI : ClassId) (fh fo fk ft : Nat → Int32) (nh no np : Nat) (th : Int32) (k t : Int32) (hn9 : np ≤ 200) : mI l yX3_pairPlace wsX3_pairPlace ({ frames := 0, cells := 0, slots := 0, locals := 0 }) [.ref mo, .int k, .int t] D [(cI, .int)] [(mo, .inr (3, [.ref b1, .ref b2, .ref b3, .ref b4, .int (nI nh), .int (nI no), .int (nI np), .int th])), (b1, .inl (cI, 200, .inl fh)), (b2, .inl (cI, 200, .inl fo)), (b3, .inl (cI, 200, .inl fk)), (b4, .inl (cI, 200, .inl ft))] [(mo, .inr (3, [.ref b1, .ref b2, .ref b3, .ref b4, .int (nI nh), .int (nI no), .int (nI np), .int th])), (b1, .inl (cI, 200, .inl fh)), (b2, .inl (cI, 200, .inl fo)), (b3, .inl (cI, 200, .inl fk)), (b4, .inl (cI, 200, .inl ft))] (s_o (s_fP fk ft k t np 0)) := by
  refine hI_body (cc := cX3_pairPlace) (maxL := 4) (by decide) rfl (Nat.le_of_ble_eq_true rfl) (rfl) ?_
  intro p e s m below meth cd A ls Q hat hA hP hK hD hS hl hend
  obtain ⟨hF, hr, hlocks, hv⟩ := id hat
  obtain ⟨hx, hb, hml, hown, hts⟩ := id hF
  have hown : s.vm.findClass RX3 = some m.cls := hown
  have hl : lv_has ls 4 [(0, .ref mo), (1, .int k), (2, .int t)] := hl
  have hP : va_P D vwCl [(mo, .inr (3, [.ref b1, .ref b2, .ref b3, .ref b4, .int (nI nh), .int (nI no), .int (nI np), .int th])), (b1, .inl (cI, 200, .inl fh)), (b2, .inl (cI, 200, .inl fo)), (b3, .inl (cI, 200, .inl fk)), (b4, .inl (cI, 200, .inl ft))] s.heap := hP
  have hD : va_D A [(mo, .inr (3, [.ref b1, .ref b2, .ref b3, .ref b4, .int (nI nh), .int (nI no), .int (nI np), .int th])), (b1, .inl (cI, 200, .inl fh)), (b2, .inl (cI, 200, .inl fo)), (b3, .inl (cI, 200, .inl fk)), (b4, .inl (cI, 200, .inl ft))] := hD
  have iX3 : ∀ w ∈ wsX30, w ∈ wsX3_pairPlace := by decide +kernel
  have k16 := hts (.fieldLink RX3 16 "HeapAndDequeModel" "keys" "[I") (by decide +kernel)
  have k19 := hts (.fieldLink RX3 19 "HeapAndDequeModel" "tags" "[I") (by decide +kernel)
  have k50 := hts (.fieldLink RX3 50 "HeapAndDequeModel" "pairs" "I") (by decide +kernel)
  refine lv_iconst (v := nI 0) hx hb dX3_pairPlace_0 (by decide +kernel) ?_
  refine lv_istore_n (lv' := [(3, .int (nI 0)), (0, .ref mo), (1, .int k), (2, .int t)]) hx hb dX3_pairPlace_1 rfl hl (by decide) rfl (fun ls hl => ?_)
  have loop : ∀ (n i : Nat), i + n = np → s_fP fk ft k t n i = s_fP fk ft k t np 0 → ∀ (H : Heap) (locs : List Loc) (ls : Array Slot), va_P D vwCl [(mo, .inr (3, [.ref b1, .ref b2, .ref b3, .ref b4, .int (nI nh), .int (nI no), .int (nI np), .int th])), (b1, .inl (cI, 200, .inl fh)), (b2, .inl (cI, 200, .inl fo)), (b3, .inl (cI, 200, .inl fk)), (b4, .inl (cI, 200, .inl ft))] H → va_D A [(mo, .inr (3, [.ref b1, .ref b2, .ref b3, .ref b4, .int (nI nh), .int (nI no), .int (nI np), .int th])), (b1, .inl (cI, 200, .inl fh)), (b2, .inl (cI, 200, .inl fo)), (b3, .inl (cI, 200, .inl fk)), (b4, .inl (cI, 200, .inl ft))] → va_S A s.heap H locs → lv_has ls 4 [(3, .int (nI i)), (0, .ref mo), (1, .int k), (2, .int t)] → W p l e ({ frames := 0, cells := 0, slots := 0, locals := 0 }) s m ([.ref mo, .int k, .int t] : List Value).toArray below meth cd H locs 0 0 Q (F0 m 2 ls []) := by
    intro n
    induction n with
    | zero =>
      intro i hn e9 H locs ls hP hD hS hl
      refine lv_iload_n hx hb dX3_pairPlace_2 rfl (lv_at hl 0 rfl) ?_
      refine lv_aload_n hx hb dX3_pairPlace_3 rfl (lv_at hl 1 rfl) ?_
      refine va_get (D := D) (ci := 3) (v := .int (nI np)) (C := RX3) (T := TX3) (N := 8) hx hb hts iX3 hown hK hP 0 rfl rfl 6 (by decide) k50 (fun _ h9 => h9) rfl dX3_pairPlace_4 ?_
      refine lv_icmp_ge (tgt := 38) hx hb dX3_pairPlace_7 (by decide) (fun _ => ?_) (fun hn => absurd (nI_le (by omega) (by omega)) hn)
      refine lv_iconst (v := (-1)) hx hb dX3_pairPlace_38 (by decide) ?_
      exact hend _ _ _ _ _ hP hD hS (by rw [← e9]; rfl) dX3_pairPlace_39
    | succ n ih =>
      intro i hn e9 H locs ls hP hD hS hl
      refine lv_iload_n hx hb dX3_pairPlace_2 rfl (lv_at hl 0 rfl) ?_
      refine lv_aload_n hx hb dX3_pairPlace_3 rfl (lv_at hl 1 rfl) ?_
      refine va_get (D := D) (ci := 3) (v := .int (nI np)) (C := RX3) (T := TX3) (N := 8) hx hb hts iX3 hown hK hP 0 rfl rfl 6 (by decide) k50 (fun _ h9 => h9) rfl dX3_pairPlace_4 ?_
      refine lv_icmp_ge (tgt := 38) hx hb dX3_pairPlace_7 (by decide) (fun ht_ => absurd ht_ (nI_ge (by omega) (by omega))) (fun _ => ?_)
      refine lv_aload_n hx hb dX3_pairPlace_10 rfl (lv_at hl 1 rfl) ?_
      refine va_get (D := D) (ci := 3) (v := .ref b3) (C := RX3) (T := TX3) (N := 8) hx hb hts iX3 hown hK hP 0 rfl rfl 2 (by decide) k16 (fun _ h9 => h9) rfl dX3_pairPlace_11 ?_
      refine lv_iload_n hx hb dX3_pairPlace_14 rfl (lv_at hl 0 rfl) ?_
      refine h_iald hx hb hK hP 3 0 rfl rfl (by decide) (by omega) dX3_pairPlace_15 ?_
      refine lv_iload_n hx hb dX3_pairPlace_16 rfl (lv_at hl 2 rfl) ?_
      refine lv_icmp_ne (tgt := 32) hx hb dX3_pairPlace_17 (by decide) (fun c9 => ?_) (fun c9 => ?_)
      · refine lv_iinc (v := nI (i + 1)) (lv' := [(3, .int (nI (i + 1))), (0, .ref mo), (1, .int k), (2, .int t)]) hx hb dX3_pairPlace_32 hl (k := 0) rfl (nI_1 _) (by decide) rfl (fun ls hl => ?_)
        refine lv_goto (tgt := 2) hx hb dX3_pairPlace_35 (by decide) ?_
        exact ih _ (by omega) (by rw [← e9, s_fP, if_neg (fun h => c9 h.1)]) _ _ _ hP hD hS (lv_sub hl [0, 1, 2, 3] rfl)
      · refine lv_aload_n hx hb dX3_pairPlace_20 rfl (lv_at hl 1 rfl) ?_
        refine va_get (D := D) (ci := 3) (v := .ref b4) (C := RX3) (T := TX3) (N := 8) hx hb hts iX3 hown hK hP 0 rfl rfl 3 (by decide) k19 (fun _ h9 => h9) rfl dX3_pairPlace_21 ?_
        refine lv_iload_n hx hb dX3_pairPlace_24 rfl (lv_at hl 0 rfl) ?_
        refine h_iald hx hb hK hP 4 0 rfl rfl (by decide) (by omega) dX3_pairPlace_25 ?_
        refine lv_iload_n hx hb dX3_pairPlace_26 rfl (lv_at hl 3 rfl) ?_
        refine lv_icmp_ne (tgt := 32) hx hb dX3_pairPlace_27 (by decide) (fun c8 => ?_) (fun c8 => ?_)
        · refine lv_iinc (v := nI (i + 1)) (lv' := [(3, .int (nI (i + 1))), (0, .ref mo), (1, .int k), (2, .int t)]) hx hb dX3_pairPlace_32 hl (k := 0) rfl (nI_1 _) (by decide) rfl (fun ls hl => ?_)
          refine lv_goto (tgt := 2) hx hb dX3_pairPlace_35 (by decide) ?_
          exact ih _ (by omega) (by rw [← e9, s_fP, if_neg (fun h => c8 h.2)]) _ _ _ hP hD hS (lv_sub hl [0, 1, 2, 3] rfl)
        · refine lv_iload_n hx hb dX3_pairPlace_30 rfl (lv_at hl 0 rfl) ?_
          exact hend _ _ _ _ _ hP hD hS (by rw [← e9, s_fP, if_pos ⟨c9, c8⟩]; rfl) dX3_pairPlace_31
  exact loop np 0 (by omega) rfl _ _ _ hP hD hS hl
set_option maxHeartbeats 4000000 in
set_option maxRecDepth 100000 in
theorem c_X3_takePair (l : Launch) (D : va_G) (mo b1 b2 b3 b4 : Nat) (cI : ClassId) (fh fo fk ft : Nat → Int32) (nh no np : Nat) (th : Int32) (q9 : Nat) (hq : q9 < np) (hn9 : np ≤ 200) : mV l yX3_takePair wsX3_takePair ({ frames := 0, cells := 0, slots := 0, locals := 0 }) [.ref mo, .int (nI q9)] D [(cI, .int)] [(mo, .inr (3, [.ref b1, .ref b2, .ref b3, .ref b4, .int (nI nh), .int (nI no), .int (nI np), .int th])), (b1, .inl (cI, 200, .inl fh)), (b2, .inl (cI, 200, .inl fo)), (b3, .inl (cI, 200, .inl fk)), (b4, .inl (cI, 200, .inl ft))] [(mo, .inr (3, [.ref b1, .ref b2, .ref b3, .ref b4, .int (nI nh), .int (nI no), .int (nI (np - 1)), .int th])), (b1, .inl (cI, 200, .inl fh)), (b2, .inl (cI, 200, .inl fo)), (b3, .inl (cI, 200, .inl (s_rm fk q9 np))), (b4, .inl (cI, 200, .inl (s_rm ft q9 np)))] := by
  refine hV_body (cc := cX3_takePair) (maxL := 3) (by decide) rfl (Nat.le_of_ble_eq_true rfl) ?_
  intro p e s m below meth cd A ls Q hat hA hP hK hD hS hl hend
  obtain ⟨hF, hr, hlocks, hv⟩ := id hat
  obtain ⟨hx, hb, hml, hown, hts⟩ := id hF
  have hown : s.vm.findClass RX3 = some m.cls := hown
  have hl : lv_has ls 3 [(0, .ref mo), (1, .int (nI q9))] := hl
  have hP : va_P D vwCl [(mo, .inr (3, [.ref b1, .ref b2, .ref b3, .ref b4, .int (nI nh), .int (nI no), .int (nI np), .int th])), (b1, .inl (cI, 200, .inl fh)), (b2, .inl (cI, 200, .inl fo)), (b3, .inl (cI, 200, .inl fk)), (b4, .inl (cI, 200, .inl ft))] s.heap := hP
  have hD : va_D A [(mo, .inr (3, [.ref b1, .ref b2, .ref b3, .ref b4, .int (nI nh), .int (nI no), .int (nI np), .int th])), (b1, .inl (cI, 200, .inl fh)), (b2, .inl (cI, 200, .inl fo)), (b3, .inl (cI, 200, .inl fk)), (b4, .inl (cI, 200, .inl ft))] := hD
  have iX3 : ∀ w ∈ wsX30, w ∈ wsX3_takePair := by decide +kernel
  have k16 := hts (.fieldLink RX3 16 "HeapAndDequeModel" "keys" "[I") (by decide +kernel)
  have k19 := hts (.fieldLink RX3 19 "HeapAndDequeModel" "tags" "[I") (by decide +kernel)
  have k50 := hts (.fieldLink RX3 50 "HeapAndDequeModel" "pairs" "I") (by decide +kernel)
  refine lv_aload_n hx hb dX3_takePair_0 rfl (lv_at hl 0 rfl) ?_
  refine lv_dup hx hb dX3_takePair_1 rfl ?_
  refine va_get (D := D) (ci := 3) (v := .int (nI np)) (C := RX3) (T := TX3) (N := 8) hx hb hts iX3 hown hK hP 0 rfl rfl 6 (by decide) k50 (fun _ h9 => h9) rfl dX3_takePair_2 ?_
  refine lv_iconst (v := 1) hx hb dX3_takePair_5 (by decide) ?_
  refine lv_isub hx hb dX3_takePair_6 ?_
  refine hw_i (y := nI (np - 1)) (h_sub1 (by omega)) ?_
  refine va_put (D := D) (ci := 3) (v := .int (nI (np - 1))) (ty := .int) (C := RX3) (T := TX3) (N := 8) hx hb hts iX3 tyX3 tyX3_ok nmX3 hown hK hP hD hS 0 rfl rfl 6 (by decide) k50 (fun _ h9 => h9) rfl (by decide +kernel) rfl rfl (Nat.le_of_ble_eq_true rfl) dX3_takePair_7 (fun H locs hP hD hS => ?_)
  have hP : va_P D vwCl [(mo, .inr (3, [.ref b1, .ref b2, .ref b3, .ref b4, .int (nI nh), .int (nI no), .int (nI (np - 1)), .int th])), (b1, .inl (cI, 200, .inl fh)), (b2, .inl (cI, 200, .inl fo)), (b3, .inl (cI, 200, .inl fk)), (b4, .inl (cI, 200, .inl ft))] H := hP
  have hD : va_D A [(mo, .inr (3, [.ref b1, .ref b2, .ref b3, .ref b4, .int (nI nh), .int (nI no), .int (nI (np - 1)), .int th])), (b1, .inl (cI, 200, .inl fh)), (b2, .inl (cI, 200, .inl fo)), (b3, .inl (cI, 200, .inl fk)), (b4, .inl (cI, 200, .inl ft))] := hD
  refine lv_iload_n hx hb dX3_takePair_10 rfl (lv_at hl 1 rfl) ?_
  refine lv_istore_n (lv' := [(2, .int (nI q9)), (0, .ref mo), (1, .int (nI q9))]) hx hb dX3_takePair_11 rfl hl (by decide) rfl (fun ls hl => ?_)
  have loop : ∀ (n i : Nat), i + n + 1 = np → q9 ≤ i → ∀ (H : Heap) (locs : List Loc) (ls : Array Slot), va_P D vwCl [(mo, .inr (3, [.ref b1, .ref b2, .ref b3, .ref b4, .int (nI nh), .int (nI no), .int (nI (np - 1)), .int th])), (b1, .inl (cI, 200, .inl fh)), (b2, .inl (cI, 200, .inl fo)), (b3, .inl (cI, 200, .inl (s_rm fk q9 (i + 1)))), (b4, .inl (cI, 200, .inl (s_rm ft q9 (i + 1))))] H → va_D A [(mo, .inr (3, [.ref b1, .ref b2, .ref b3, .ref b4, .int (nI nh), .int (nI no), .int (nI (np - 1)), .int th])), (b1, .inl (cI, 200, .inl fh)), (b2, .inl (cI, 200, .inl fo)), (b3, .inl (cI, 200, .inl (s_rm fk q9 (i + 1)))), (b4, .inl (cI, 200, .inl (s_rm ft q9 (i + 1))))] → va_S A s.heap H locs → lv_has ls 3 [(2, .int (nI i)), (0, .ref mo), (1, .int (nI q9))] → W p l e ({ frames := 0, cells := 0, slots := 0, locals := 0 }) s m ([.ref mo, .int (nI q9)] : List Value).toArray below meth cd H locs 0 0 Q (F0 m 12 ls []) := by
    intro n
    induction n with
    | zero =>
      intro i hn hi H locs ls hP hD hS hl
      refine lv_iload_n hx hb dX3_takePair_12 rfl (lv_at hl 0 rfl) ?_
      refine lv_aload_n hx hb dX3_takePair_13 rfl (lv_at hl 1 rfl) ?_
      refine va_get (D := D) (ci := 3) (v := .int (nI (np - 1))) (C := RX3) (T := TX3) (N := 8) hx hb hts iX3 hown hK hP 0 rfl rfl 6 (by decide) k50 (fun _ h9 => h9) rfl dX3_takePair_14 ?_
      refine lv_icmp_ge (tgt := 54) hx hb dX3_takePair_17 (by decide) (fun _ => ?_) (fun hn => absurd (nI_le (by omega) (by omega)) hn)
      have e8 : s_rm fk q9 (i + 1) = s_rm fk q9 np := by rw [show i + 1 = np by omega]
      have e7 : s_rm ft q9 (i + 1) = s_rm ft q9 np := by rw [show i + 1 = np by omega]
      exact hend _ _ _ _ (by rw [← e8, ← e7]; exact hP) (by rw [← e8, ← e7]; exact hD) hS dX3_takePair_54
    | succ n ih =>
      intro i hn hi H locs ls hP hD hS hl
      refine lv_iload_n hx hb dX3_takePair_12 rfl (lv_at hl 0 rfl) ?_
      refine lv_aload_n hx hb dX3_takePair_13 rfl (lv_at hl 1 rfl) ?_
      refine va_get (D := D) (ci := 3) (v := .int (nI (np - 1))) (C := RX3) (T := TX3) (N := 8) hx hb hts iX3 hown hK hP 0 rfl rfl 6 (by decide) k50 (fun _ h9 => h9) rfl dX3_takePair_14 ?_
      refine lv_icmp_ge (tgt := 54) hx hb dX3_takePair_17 (by decide) (fun ht_ => absurd ht_ (nI_ge (by omega) (by omega))) (fun _ => ?_)
      refine lv_aload_n hx hb dX3_takePair_20 rfl (lv_at hl 1 rfl) ?_
      refine va_get (D := D) (ci := 3) (v := .ref b3) (C := RX3) (T := TX3) (N := 8) hx hb hts iX3 hown hK hP 0 rfl rfl 2 (by decide) k16 (fun _ h9 => h9) rfl dX3_takePair_21 ?_
      refine lv_iload_n hx hb dX3_takePair_24 rfl (lv_at hl 0 rfl) ?_
      refine lv_aload_n hx hb dX3_takePair_25 rfl (lv_at hl 1 rfl) ?_
      refine va_get (D := D) (ci := 3) (v := .ref b3) (C := RX3) (T := TX3) (N := 8) hx hb hts iX3 hown hK hP 0 rfl rfl 2 (by decide) k16 (fun _ h9 => h9) rfl dX3_takePair_26 ?_
      refine lv_iload_n hx hb dX3_takePair_29 rfl (lv_at hl 0 rfl) ?_
      refine lv_iconst (v := 1) hx hb dX3_takePair_30 (by decide) ?_
      refine lv_iadd hx hb dX3_takePair_31 ?_
      refine hw_i (y := nI (i + 1)) (nI_1 _) ?_
      refine h_iald hx hb hK hP 3 0 rfl rfl (by decide) (by omega) dX3_takePair_32 ?_
      refine h_iast hx hb hK hP hD hS 3 0 rfl rfl (by decide) (by omega) dX3_takePair_33 (fun H locs hP hD hS => ?_)
      have hP : va_P D vwCl [(mo, .inr (3, [.ref b1, .ref b2, .ref b3, .ref b4, .int (nI nh), .int (nI no), .int (nI (np - 1)), .int th])), (b1, .inl (cI, 200, .inl fh)), (b2, .inl (cI, 200, .inl fo)), (b3, .inl (cI, 200, .inl (upd (s_rm fk q9 (i + 1)) i ((s_rm fk q9 (i + 1)) (i + 1))))), (b4, .inl (cI, 200, .inl (s_rm ft q9 (i + 1))))] H := hP
      have hD : va_D A [(mo, .inr (3, [.ref b1, .ref b2, .ref b3, .ref b4, .int (nI nh), .int (nI no), .int (nI (np - 1)), .int th])), (b1, .inl (cI, 200, .inl fh)), (b2, .inl (cI, 200, .inl fo)), (b3, .inl (cI, 200, .inl (upd (s_rm fk q9 (i + 1)) i ((s_rm fk q9 (i + 1)) (i + 1))))), (b4, .inl (cI, 200, .inl (s_rm ft q9 (i + 1))))] := hD
      refine lv_aload_n hx hb dX3_takePair_34 rfl (lv_at hl 1 rfl) ?_
      refine va_get (D := D) (ci := 3) (v := .ref b4) (C := RX3) (T := TX3) (N := 8) hx hb hts iX3 hown hK hP 0 rfl rfl 3 (by decide) k19 (fun _ h9 => h9) rfl dX3_takePair_35 ?_
      refine lv_iload_n hx hb dX3_takePair_38 rfl (lv_at hl 0 rfl) ?_
      refine lv_aload_n hx hb dX3_takePair_39 rfl (lv_at hl 1 rfl) ?_
      refine va_get (D := D) (ci := 3) (v := .ref b4) (C := RX3) (T := TX3) (N := 8) hx hb hts iX3 hown hK hP 0 rfl rfl 3 (by decide) k19 (fun _ h9 => h9) rfl dX3_takePair_40 ?_
      refine lv_iload_n hx hb dX3_takePair_43 rfl (lv_at hl 0 rfl) ?_
      refine lv_iconst (v := 1) hx hb dX3_takePair_44 (by decide) ?_
      refine lv_iadd hx hb dX3_takePair_45 ?_
      refine hw_i (y := nI (i + 1)) (nI_1 _) ?_
      refine h_iald hx hb hK hP 4 0 rfl rfl (by decide) (by omega) dX3_takePair_46 ?_
      refine h_iast hx hb hK hP hD hS 4 0 rfl rfl (by decide) (by omega) dX3_takePair_47 (fun H locs hP hD hS => ?_)
      have hP : va_P D vwCl [(mo, .inr (3, [.ref b1, .ref b2, .ref b3, .ref b4, .int (nI nh), .int (nI no), .int (nI (np - 1)), .int th])), (b1, .inl (cI, 200, .inl fh)), (b2, .inl (cI, 200, .inl fo)), (b3, .inl (cI, 200, .inl (upd (s_rm fk q9 (i + 1)) i ((s_rm fk q9 (i + 1)) (i + 1))))), (b4, .inl (cI, 200, .inl (upd (s_rm ft q9 (i + 1)) i ((s_rm ft q9 (i + 1)) (i + 1)))))] H := hP
      have hD : va_D A [(mo, .inr (3, [.ref b1, .ref b2, .ref b3, .ref b4, .int (nI nh), .int (nI no), .int (nI (np - 1)), .int th])), (b1, .inl (cI, 200, .inl fh)), (b2, .inl (cI, 200, .inl fo)), (b3, .inl (cI, 200, .inl (upd (s_rm fk q9 (i + 1)) i ((s_rm fk q9 (i + 1)) (i + 1))))), (b4, .inl (cI, 200, .inl (upd (s_rm ft q9 (i + 1)) i ((s_rm ft q9 (i + 1)) (i + 1)))))] := hD
      have hP : va_P D vwCl [(mo, .inr (3, [.ref b1, .ref b2, .ref b3, .ref b4, .int (nI nh), .int (nI no), .int (nI (np - 1)), .int th])), (b1, .inl (cI, 200, .inl fh)), (b2, .inl (cI, 200, .inl fo)), (b3, .inl (cI, 200, .inl (s_rm fk q9 (i + 1 + 1)))), (b4, .inl (cI, 200, .inl (s_rm ft q9 (i + 1 + 1))))] H := by rw [← s_rm_s fk (show q9 < i + 1 by omega), ← s_rm_s ft (show q9 < i + 1 by omega)]; exact hP
      have hD : va_D A [(mo, .inr (3, [.ref b1, .ref b2, .ref b3, .ref b4, .int (nI nh), .int (nI no), .int (nI (np - 1)), .int th])), (b1, .inl (cI, 200, .inl fh)), (b2, .inl (cI, 200, .inl fo)), (b3, .inl (cI, 200, .inl (s_rm fk q9 (i + 1 + 1)))), (b4, .inl (cI, 200, .inl (s_rm ft q9 (i + 1 + 1))))] := by rw [← s_rm_s fk (show q9 < i + 1 by omega), ← s_rm_s ft (show q9 < i + 1 by omega)]; exact hD
      refine lv_iinc (v := nI (i + 1)) (lv' := [(2, .int (nI (i + 1))), (0, .ref mo), (1, .int (nI q9))]) hx hb dX3_takePair_48 hl (k := 0) rfl (nI_1 _) (by decide) rfl (fun ls hl => ?_)
      refine lv_goto (tgt := 12) hx hb dX3_takePair_51 (by decide) ?_
      exact ih (i + 1) (by omega) (by omega) _ _ _ hP hD hS (lv_sub hl [0, 1, 2] rfl)
  exact loop (np - 1 - q9) q9 (by omega) (Nat.le_refl _) _ _ _ (by rw [s_rm_0, s_rm_0]; exact hP) (by rw [s_rm_0, s_rm_0]; exact hD) hS hl
set_option maxHeartbeats 4000000 in
set_option maxRecDepth 100000 in
theorem c_X3_told (l : Launch) (D : va_G) (mo b1 b2 b3 b4 : Nat) (cI : ClassId) (fh fo fk ft : Nat → Int32) (nh no np : Nat) (th : Int32) (q9 : Nat) (hq : q9 < 200) : mL l yX3_told wsX3_told ({ frames := 0, cells := 0, slots := 0, locals := 0 }) [.ref mo, .int (nI q9)] D [(cI, .int)] [(mo, .inr (3, [.ref b1, .ref b2, .ref b3, .ref b4, .int (nI nh), .int (nI no), .int (nI np), .int th])), (b1, .inl (cI, 200, .inl fh)), (b2, .inl (cI, 200, .inl fo)), (b3, .inl (cI, 200, .inl fk)), (b4, .inl (cI, 200, .inl ft))] [(mo, .inr (3, [.ref b1, .ref b2, .ref b3, .ref b4, .int (nI nh), .int (nI no), .int (nI np), .int th])), (b1, .inl (cI, 200, .inl fh)), (b2, .inl (cI, 200, .inl fo)), (b3, .inl (cI, 200, .inl fk)), (b4, .inl (cI, 200, .inl ft))] (s_told fk ft q9) := by
  refine hL_body (cc := cX3_told) (maxL := 2) (by decide) rfl (Nat.le_of_ble_eq_true rfl) ?_
  intro p e s m below meth cd A ls Q hat hA hP hK hD hS hl hend
  obtain ⟨hF, hr, hlocks, hv⟩ := id hat
  obtain ⟨hx, hb, hml, hown, hts⟩ := id hF
  have hown : s.vm.findClass RX3 = some m.cls := hown
  have hl : lv_has ls 2 [(0, .ref mo), (1, .int (nI q9))] := hl
  have hP : va_P D vwCl [(mo, .inr (3, [.ref b1, .ref b2, .ref b3, .ref b4, .int (nI nh), .int (nI no), .int (nI np), .int th])), (b1, .inl (cI, 200, .inl fh)), (b2, .inl (cI, 200, .inl fo)), (b3, .inl (cI, 200, .inl fk)), (b4, .inl (cI, 200, .inl ft))] s.heap := hP
  have hD : va_D A [(mo, .inr (3, [.ref b1, .ref b2, .ref b3, .ref b4, .int (nI nh), .int (nI no), .int (nI np), .int th])), (b1, .inl (cI, 200, .inl fh)), (b2, .inl (cI, 200, .inl fo)), (b3, .inl (cI, 200, .inl fk)), (b4, .inl (cI, 200, .inl ft))] := hD
  have iX3 : ∀ w ∈ wsX30, w ∈ wsX3_told := by decide +kernel
  have k16 := hts (.fieldLink RX3 16 "HeapAndDequeModel" "keys" "[I") (by decide +kernel)
  have k19 := hts (.fieldLink RX3 19 "HeapAndDequeModel" "tags" "[I") (by decide +kernel)
  refine lv_ldc2 hx hb hown (hts (.constantLong RX3 56 (1000)) (by decide +kernel)) dX3_told_0 ?_
  refine lv_aload_n hx hb dX3_told_3 rfl (lv_at hl 0 rfl) ?_
  refine va_get (D := D) (ci := 3) (v := .ref b3) (C := RX3) (T := TX3) (N := 8) hx hb hts iX3 hown hK hP 0 rfl rfl 2 (by decide) k16 (fun _ h9 => h9) rfl dX3_told_4 ?_
  refine lv_iload_n hx hb dX3_told_7 rfl (lv_at hl 1 rfl) ?_
  refine h_iald hx hb hK hP 3 0 rfl rfl (by decide) (by omega) dX3_told_8 ?_
  refine lv_i2l hx hb dX3_told_9 rfl ?_
  refine lv_lmul hx hb dX3_told_10 ?_
  refine lv_aload_n hx hb dX3_told_11 rfl (lv_at hl 0 rfl) ?_
  refine va_get (D := D) (ci := 3) (v := .ref b4) (C := RX3) (T := TX3) (N := 8) hx hb hts iX3 hown hK hP 0 rfl rfl 3 (by decide) k19 (fun _ h9 => h9) rfl dX3_told_12 ?_
  refine lv_iload_n hx hb dX3_told_15 rfl (lv_at hl 1 rfl) ?_
  refine h_iald hx hb hK hP 4 0 rfl rfl (by decide) (by omega) dX3_told_16 ?_
  refine lv_i2l hx hb dX3_told_17 rfl ?_
  refine lv_ladd hx hb dX3_told_18 ?_
  exact hend _ _ _ _ _ hP hD hS (rfl) dX3_told_19
set_option maxHeartbeats 4000000 in
set_option maxRecDepth 100000 in
theorem c_X3_isNoTag (l : Launch) (D : va_G) (mo b1 b2 b3 b4 : Nat) (cI : ClassId) (fh fo fk ft : Nat → Int32) (nh no np : Nat) (th : Int32) (t : Int32) (ht0 : ¬ t < 0) (ht1 : t ≤ nI 999) : mI l yX3_isNoTag wsX3_isNoTag ({ frames := 1, cells := 0, slots := 0, locals := 21 }) [.ref mo, .int t] D [(cI, .int)] [(mo, .inr (3, [.ref b1, .ref b2, .ref b3, .ref b4, .int (nI nh), .int (nI no), .int (nI np), .int th])), (b1, .inl (cI, 200, .inl fh)), (b2, .inl (cI, 200, .inl fo)), (b3, .inl (cI, 200, .inl fk)), (b4, .inl (cI, 200, .inl ft))] [(mo, .inr (3, [.ref b1, .ref b2, .ref b3, .ref b4, .int (nI nh), .int (nI no), .int (nI np), .int (nI 0)])), (b1, .inl (cI, 200, .inl fh)), (b2, .inl (cI, 200, .inl fo)), (b3, .inl (cI, 200, .inl fk)), (b4, .inl (cI, 200, .inl ft))] (0) := by
  refine hI_body (cc := cX3_isNoTag) (maxL := 2) (by decide) rfl (Nat.le_of_ble_eq_true rfl) (by decide +kernel) ?_
  intro p e s m below meth cd A ls Q hat hA hP hK hD hS hl hend
  obtain ⟨hF, hr, hlocks, hv⟩ := id hat
  obtain ⟨hx, hb, hml, hown, hts⟩ := id hF
  have hown : s.vm.findClass RX3 = some m.cls := hown
  have hl : lv_has ls 2 [(0, .ref mo), (1, .int t)] := hl
  have hP : va_P D vwCl [(mo, .inr (3, [.ref b1, .ref b2, .ref b3, .ref b4, .int (nI nh), .int (nI no), .int (nI np), .int th])), (b1, .inl (cI, 200, .inl fh)), (b2, .inl (cI, 200, .inl fo)), (b3, .inl (cI, 200, .inl fk)), (b4, .inl (cI, 200, .inl ft))] s.heap := hP
  have hD : va_D A [(mo, .inr (3, [.ref b1, .ref b2, .ref b3, .ref b4, .int (nI nh), .int (nI no), .int (nI np), .int th])), (b1, .inl (cI, 200, .inl fh)), (b2, .inl (cI, 200, .inl fo)), (b3, .inl (cI, 200, .inl fk)), (b4, .inl (cI, 200, .inl ft))] := hD
  refine lv_aload_n hx hb dX3_isNoTag_0 rfl (lv_at hl 0 rfl) ?_
  refine lv_iload_n hx hb dX3_isNoTag_1 rfl (lv_at hl 1 rfl) ?_
  refine lv_if_lt (tgt := 12) hx hb dX3_isNoTag_2 (by decide) (fun ht_ => absurd ht_ (ht0)) (fun _ => ?_)
  refine lv_iload_n hx hb dX3_isNoTag_5 rfl (lv_at hl 1 rfl) ?_
  refine lv_sipush (v := nI 999) hx hb dX3_isNoTag_6 (by decide +kernel) ?_
  refine lv_icmp_le (tgt := 16) hx hb dX3_isNoTag_9 (by decide) (fun _ => ?_) (fun hn => absurd (ht1) hn)
  refine lv_iconst (v := nI 0) hx hb dX3_isNoTag_16 (by decide +kernel) ?_
  refine hc_iV (As := [.int (nI 0)]) (rest := []) (wc := [(mo, .inr (3, [.ref b1, .ref b2, .ref b3, .ref b4, .int (nI nh), .int (nI no), .int (nI np), .int th])), (b1, .inl (cI, 200, .inl fh)), (b2, .inl (cI, 200, .inl fo)), (b3, .inl (cI, 200, .inl fk)), (b4, .inl (cI, 200, .inl ft))]) (wr := []) (w1 := [(mo, .inr (3, [.ref b1, .ref b2, .ref b3, .ref b4, .int (nI nh), .int (nI no), .int (nI np), .int (nI 0)])), (b1, .inl (cI, 200, .inl fh)), (b2, .inl (cI, 200, .inl fo)), (b3, .inl (cI, 200, .inl fk)), (b4, .inl (cI, 200, .inl ft))]) (w' := [(mo, .inr (3, [.ref b1, .ref b2, .ref b3, .ref b4, .int (nI nh), .int (nI no), .int (nI np), .int (nI 0)])), (b1, .inl (cI, 200, .inl fh)), (b2, .inl (cI, 200, .inl fo)), (b3, .inl (cI, 200, .inl fk)), (b4, .inl (cI, 200, .inl ft))]) hF (c_X3_isWrong_z l D mo b1 b2 b3 b4 cI fh fo fk ft nh no np th ) (cwV 1 hts gX3_isNoTag_X3_isWrong rfl rfl rfl (by decide +kernel) ⟨Nat.le_of_ble_eq_true rfl, Nat.le_of_ble_eq_true rfl⟩) hP hK hD hS hA hv [0, 1, 2, 3, 4] [] [0, 1, 2, 3, 4] [0] ⟨rfl, rfl, rfl, rfl, ⟨by decide, by decide, by decide⟩, by decide⟩ 0 3 rfl rfl rfl rfl hl.1 rfl (Nat.le_of_ble_eq_true rfl) dX3_isNoTag_17 ⟨Nat.zero_le _, Nat.zero_le _⟩ (fun H locs hP hD hS => ?_)
  exact hend _ _ _ _ _ hP hD hS (rfl) dX3_isNoTag_20
set_option maxHeartbeats 4000000 in
set_option maxRecDepth 100000 in
theorem c_X3_isNoTag_x (l : Launch) (D : va_G) (mo b1 b2 b3 b4 : Nat) (cI : ClassId) (fh fo fk ft : Nat → Int32) (nh no np : Nat) (th : Int32) (t : Int32) (ht : t < 0 ∨ ¬ t ≤ nI 999) : mI l yX3_isNoTag wsX3_isNoTag ({ frames := 1, cells := 0, slots := 0, locals := 21 }) [.ref mo, .int t] D [(cI, .int)] [(mo, .inr (3, [.ref b1, .ref b2, .ref b3, .ref b4, .int (nI nh), .int (nI no), .int (nI np), .int th])), (b1, .inl (cI, 200, .inl fh)), (b2, .inl (cI, 200, .inl fo)), (b3, .inl (cI, 200, .inl fk)), (b4, .inl (cI, 200, .inl ft))] [(mo, .inr (3, [.ref b1, .ref b2, .ref b3, .ref b4, .int (nI nh), .int (nI no), .int (nI np), .int 1])), (b1, .inl (cI, 200, .inl fh)), (b2, .inl (cI, 200, .inl fo)), (b3, .inl (cI, 200, .inl fk)), (b4, .inl (cI, 200, .inl ft))] (1) := by
  refine hI_body (cc := cX3_isNoTag) (maxL := 2) (by decide) rfl (Nat.le_of_ble_eq_true rfl) (by decide +kernel) ?_
  intro p e s m below meth cd A ls Q hat hA hP hK hD hS hl hend
  obtain ⟨hF, hr, hlocks, hv⟩ := id hat
  obtain ⟨hx, hb, hml, hown, hts⟩ := id hF
  have hown : s.vm.findClass RX3 = some m.cls := hown
  have hl : lv_has ls 2 [(0, .ref mo), (1, .int t)] := hl
  have hP : va_P D vwCl [(mo, .inr (3, [.ref b1, .ref b2, .ref b3, .ref b4, .int (nI nh), .int (nI no), .int (nI np), .int th])), (b1, .inl (cI, 200, .inl fh)), (b2, .inl (cI, 200, .inl fo)), (b3, .inl (cI, 200, .inl fk)), (b4, .inl (cI, 200, .inl ft))] s.heap := hP
  have hD : va_D A [(mo, .inr (3, [.ref b1, .ref b2, .ref b3, .ref b4, .int (nI nh), .int (nI no), .int (nI np), .int th])), (b1, .inl (cI, 200, .inl fh)), (b2, .inl (cI, 200, .inl fo)), (b3, .inl (cI, 200, .inl fk)), (b4, .inl (cI, 200, .inl ft))] := hD
  refine lv_aload_n hx hb dX3_isNoTag_0 rfl (lv_at hl 0 rfl) ?_
  refine lv_iload_n hx hb dX3_isNoTag_1 rfl (lv_at hl 1 rfl) ?_
  refine lv_if_lt (tgt := 12) hx hb dX3_isNoTag_2 (by decide) (fun c9 => ?_) (fun c9 => ?_)
  · refine lv_iconst (v := 1) hx hb dX3_isNoTag_12 (by decide) ?_
    refine lv_goto (tgt := 17) hx hb dX3_isNoTag_13 (by decide) ?_
    refine hc_iV (As := [.int 1]) (rest := []) (wc := [(mo, .inr (3, [.ref b1, .ref b2, .ref b3, .ref b4, .int (nI nh), .int (nI no), .int (nI np), .int th])), (b1, .inl (cI, 200, .inl fh)), (b2, .inl (cI, 200, .inl fo)), (b3, .inl (cI, 200, .inl fk)), (b4, .inl (cI, 200, .inl ft))]) (wr := []) (w1 := [(mo, .inr (3, [.ref b1, .ref b2, .ref b3, .ref b4, .int (nI nh), .int (nI no), .int (nI np), .int 1])), (b1, .inl (cI, 200, .inl fh)), (b2, .inl (cI, 200, .inl fo)), (b3, .inl (cI, 200, .inl fk)), (b4, .inl (cI, 200, .inl ft))]) (w' := [(mo, .inr (3, [.ref b1, .ref b2, .ref b3, .ref b4, .int (nI nh), .int (nI no), .int (nI np), .int 1])), (b1, .inl (cI, 200, .inl fh)), (b2, .inl (cI, 200, .inl fo)), (b3, .inl (cI, 200, .inl fk)), (b4, .inl (cI, 200, .inl ft))]) hF (c_X3_isWrong_k l D mo b1 b2 b3 b4 cI fh fo fk ft nh no np th 1 (by decide)) (cwV 1 hts gX3_isNoTag_X3_isWrong rfl rfl rfl (by decide +kernel) ⟨Nat.le_of_ble_eq_true rfl, Nat.le_of_ble_eq_true rfl⟩) hP hK hD hS hA hv [0, 1, 2, 3, 4] [] [0, 1, 2, 3, 4] [0] ⟨rfl, rfl, rfl, rfl, ⟨by decide, by decide, by decide⟩, by decide⟩ 0 3 rfl rfl rfl rfl hl.1 rfl (Nat.le_of_ble_eq_true rfl) dX3_isNoTag_17 ⟨Nat.zero_le _, Nat.zero_le _⟩ (fun H locs hP hD hS => ?_)
    exact hend _ _ _ _ _ hP hD hS (rfl) dX3_isNoTag_20
  · refine lv_iload_n hx hb dX3_isNoTag_5 rfl (lv_at hl 1 rfl) ?_
    refine lv_sipush (v := nI 999) hx hb dX3_isNoTag_6 (by decide +kernel) ?_
    refine lv_icmp_le (tgt := 16) hx hb dX3_isNoTag_9 (by decide) (fun ht_ => absurd ht_ (ht.resolve_left c9)) (fun _ => ?_)
    refine lv_iconst (v := 1) hx hb dX3_isNoTag_12 (by decide) ?_
    refine lv_goto (tgt := 17) hx hb dX3_isNoTag_13 (by decide) ?_
    refine hc_iV (As := [.int 1]) (rest := []) (wc := [(mo, .inr (3, [.ref b1, .ref b2, .ref b3, .ref b4, .int (nI nh), .int (nI no), .int (nI np), .int th])), (b1, .inl (cI, 200, .inl fh)), (b2, .inl (cI, 200, .inl fo)), (b3, .inl (cI, 200, .inl fk)), (b4, .inl (cI, 200, .inl ft))]) (wr := []) (w1 := [(mo, .inr (3, [.ref b1, .ref b2, .ref b3, .ref b4, .int (nI nh), .int (nI no), .int (nI np), .int 1])), (b1, .inl (cI, 200, .inl fh)), (b2, .inl (cI, 200, .inl fo)), (b3, .inl (cI, 200, .inl fk)), (b4, .inl (cI, 200, .inl ft))]) (w' := [(mo, .inr (3, [.ref b1, .ref b2, .ref b3, .ref b4, .int (nI nh), .int (nI no), .int (nI np), .int 1])), (b1, .inl (cI, 200, .inl fh)), (b2, .inl (cI, 200, .inl fo)), (b3, .inl (cI, 200, .inl fk)), (b4, .inl (cI, 200, .inl ft))]) hF (c_X3_isWrong_k l D mo b1 b2 b3 b4 cI fh fo fk ft nh no np th 1 (by decide)) (cwV 1 hts gX3_isNoTag_X3_isWrong rfl rfl rfl (by decide +kernel) ⟨Nat.le_of_ble_eq_true rfl, Nat.le_of_ble_eq_true rfl⟩) hP hK hD hS hA hv [0, 1, 2, 3, 4] [] [0, 1, 2, 3, 4] [0] ⟨rfl, rfl, rfl, rfl, ⟨by decide, by decide, by decide⟩, by decide⟩ 0 3 rfl rfl rfl rfl hl.1 rfl (Nat.le_of_ble_eq_true rfl) dX3_isNoTag_17 ⟨Nat.zero_le _, Nat.zero_le _⟩ (fun H locs hP hD hS => ?_)
    exact hend _ _ _ _ _ hP hD hS (rfl) dX3_isNoTag_20
set_option maxHeartbeats 4000000 in
set_option maxRecDepth 100000 in
theorem c_X3_isNone (l : Launch) (D : va_G) (mo b1 b2 b3 b4 : Nat) (cI : ClassId) (fh fo fk ft : Nat → Int32) (nh no np : Nat) (th : Int32) (h1c : 1 ≤ no) (hn9 : no ≤ 200) : mI l yX3_isNone wsX3_isNone ({ frames := 1, cells := 0, slots := 0, locals := 21 }) [.ref mo] D [(cI, .int)] [(mo, .inr (3, [.ref b1, .ref b2, .ref b3, .ref b4, .int (nI nh), .int (nI no), .int (nI np), .int th])), (b1, .inl (cI, 200, .inl fh)), (b2, .inl (cI, 200, .inl fo)), (b3, .inl (cI, 200, .inl fk)), (b4, .inl (cI, 200, .inl ft))] [(mo, .inr (3, [.ref b1, .ref b2, .ref b3, .ref b4, .int (nI nh), .int (nI no), .int (nI np), .int (nI 0)])), (b1, .inl (cI, 200, .inl fh)), (b2, .inl (cI, 200, .inl fo)), (b3, .inl (cI, 200, .inl fk)), (b4, .inl (cI, 200, .inl ft))] (0) := by
  refine hI_body (cc := cX3_isNone) (maxL := 1) (by decide) rfl (Nat.le_of_ble_eq_true rfl) (by decide +kernel) ?_
  intro p e s m below meth cd A ls Q hat hA hP hK hD hS hl hend
  obtain ⟨hF, hr, hlocks, hv⟩ := id hat
  obtain ⟨hx, hb, hml, hown, hts⟩ := id hF
  have hown : s.vm.findClass RX3 = some m.cls := hown
  have hl : lv_has ls 1 [(0, .ref mo)] := hl
  have hP : va_P D vwCl [(mo, .inr (3, [.ref b1, .ref b2, .ref b3, .ref b4, .int (nI nh), .int (nI no), .int (nI np), .int th])), (b1, .inl (cI, 200, .inl fh)), (b2, .inl (cI, 200, .inl fo)), (b3, .inl (cI, 200, .inl fk)), (b4, .inl (cI, 200, .inl ft))] s.heap := hP
  have hD : va_D A [(mo, .inr (3, [.ref b1, .ref b2, .ref b3, .ref b4, .int (nI nh), .int (nI no), .int (nI np), .int th])), (b1, .inl (cI, 200, .inl fh)), (b2, .inl (cI, 200, .inl fo)), (b3, .inl (cI, 200, .inl fk)), (b4, .inl (cI, 200, .inl ft))] := hD
  have iX3 : ∀ w ∈ wsX30, w ∈ wsX3_isNone := by decide +kernel
  have k47 := hts (.fieldLink RX3 47 "HeapAndDequeModel" "many" "I") (by decide +kernel)
  refine lv_aload_n hx hb dX3_isNone_0 rfl (lv_at hl 0 rfl) ?_
  refine lv_aload_n hx hb dX3_isNone_1 rfl (lv_at hl 0 rfl) ?_
  refine va_get (D := D) (ci := 3) (v := .int (nI no)) (C := RX3) (T := TX3) (N := 8) hx hb hts iX3 hown hK hP 0 rfl rfl 5 (by decide) k47 (fun _ h9 => h9) rfl dX3_isNone_2 ?_
  refine lv_if_ne (tgt := 12) hx hb dX3_isNone_5 (by decide) (fun _ => ?_) (fun hn => absurd hn (nI_ne0 (by omega) (by omega)))
  refine lv_iconst (v := nI 0) hx hb dX3_isNone_12 (by decide +kernel) ?_
  refine hc_iV (As := [.int (nI 0)]) (rest := []) (wc := [(mo, .inr (3, [.ref b1, .ref b2, .ref b3, .ref b4, .int (nI nh), .int (nI no), .int (nI np), .int th])), (b1, .inl (cI, 200, .inl fh)), (b2, .inl (cI, 200, .inl fo)), (b3, .inl (cI, 200, .inl fk)), (b4, .inl (cI, 200, .inl ft))]) (wr := []) (w1 := [(mo, .inr (3, [.ref b1, .ref b2, .ref b3, .ref b4, .int (nI nh), .int (nI no), .int (nI np), .int (nI 0)])), (b1, .inl (cI, 200, .inl fh)), (b2, .inl (cI, 200, .inl fo)), (b3, .inl (cI, 200, .inl fk)), (b4, .inl (cI, 200, .inl ft))]) (w' := [(mo, .inr (3, [.ref b1, .ref b2, .ref b3, .ref b4, .int (nI nh), .int (nI no), .int (nI np), .int (nI 0)])), (b1, .inl (cI, 200, .inl fh)), (b2, .inl (cI, 200, .inl fo)), (b3, .inl (cI, 200, .inl fk)), (b4, .inl (cI, 200, .inl ft))]) hF (c_X3_isWrong_z l D mo b1 b2 b3 b4 cI fh fo fk ft nh no np th ) (cwV 1 hts gX3_isNone_X3_isWrong rfl rfl rfl (by decide +kernel) ⟨Nat.le_of_ble_eq_true rfl, Nat.le_of_ble_eq_true rfl⟩) hP hK hD hS hA hv [0, 1, 2, 3, 4] [] [0, 1, 2, 3, 4] [0] ⟨rfl, rfl, rfl, rfl, ⟨by decide, by decide, by decide⟩, by decide⟩ 0 3 rfl rfl rfl rfl hl.1 rfl (Nat.le_of_ble_eq_true rfl) dX3_isNone_13 ⟨Nat.zero_le _, Nat.zero_le _⟩ (fun H locs hP hD hS => ?_)
  exact hend _ _ _ _ _ hP hD hS (rfl) dX3_isNone_16
set_option maxHeartbeats 4000000 in
set_option maxRecDepth 100000 in
theorem c_X3_isNone_x (l : Launch) (D : va_G) (mo b1 b2 b3 b4 : Nat) (cI : ClassId) (fh fo fk ft : Nat → Int32) (nh np : Nat) (th : Int32) : mI l yX3_isNone wsX3_isNone ({ frames := 1, cells := 0, slots := 0, locals := 21 }) [.ref mo] D [(cI, .int)] [(mo, .inr (3, [.ref b1, .ref b2, .ref b3, .ref b4, .int (nI nh), .int (nI 0), .int (nI np), .int th])), (b1, .inl (cI, 200, .inl fh)), (b2, .inl (cI, 200, .inl fo)), (b3, .inl (cI, 200, .inl fk)), (b4, .inl (cI, 200, .inl ft))] [(mo, .inr (3, [.ref b1, .ref b2, .ref b3, .ref b4, .int (nI nh), .int (nI 0), .int (nI np), .int 1])), (b1, .inl (cI, 200, .inl fh)), (b2, .inl (cI, 200, .inl fo)), (b3, .inl (cI, 200, .inl fk)), (b4, .inl (cI, 200, .inl ft))] (1) := by
  refine hI_body (cc := cX3_isNone) (maxL := 1) (by decide) rfl (Nat.le_of_ble_eq_true rfl) (by decide +kernel) ?_
  intro p e s m below meth cd A ls Q hat hA hP hK hD hS hl hend
  obtain ⟨hF, hr, hlocks, hv⟩ := id hat
  obtain ⟨hx, hb, hml, hown, hts⟩ := id hF
  have hown : s.vm.findClass RX3 = some m.cls := hown
  have hl : lv_has ls 1 [(0, .ref mo)] := hl
  have hP : va_P D vwCl [(mo, .inr (3, [.ref b1, .ref b2, .ref b3, .ref b4, .int (nI nh), .int (nI 0), .int (nI np), .int th])), (b1, .inl (cI, 200, .inl fh)), (b2, .inl (cI, 200, .inl fo)), (b3, .inl (cI, 200, .inl fk)), (b4, .inl (cI, 200, .inl ft))] s.heap := hP
  have hD : va_D A [(mo, .inr (3, [.ref b1, .ref b2, .ref b3, .ref b4, .int (nI nh), .int (nI 0), .int (nI np), .int th])), (b1, .inl (cI, 200, .inl fh)), (b2, .inl (cI, 200, .inl fo)), (b3, .inl (cI, 200, .inl fk)), (b4, .inl (cI, 200, .inl ft))] := hD
  have iX3 : ∀ w ∈ wsX30, w ∈ wsX3_isNone := by decide +kernel
  have k47 := hts (.fieldLink RX3 47 "HeapAndDequeModel" "many" "I") (by decide +kernel)
  refine lv_aload_n hx hb dX3_isNone_0 rfl (lv_at hl 0 rfl) ?_
  refine lv_aload_n hx hb dX3_isNone_1 rfl (lv_at hl 0 rfl) ?_
  refine va_get (D := D) (ci := 3) (v := .int (nI 0)) (C := RX3) (T := TX3) (N := 8) hx hb hts iX3 hown hK hP 0 rfl rfl 5 (by decide) k47 (fun _ h9 => h9) rfl dX3_isNone_2 ?_
  refine lv_if_ne (tgt := 12) hx hb dX3_isNone_5 (by decide) (fun ht_ => absurd (nI_0) ht_) (fun _ => ?_)
  refine lv_iconst (v := 1) hx hb dX3_isNone_8 (by decide) ?_
  refine lv_goto (tgt := 13) hx hb dX3_isNone_9 (by decide) ?_
  refine hc_iV (As := [.int 1]) (rest := []) (wc := [(mo, .inr (3, [.ref b1, .ref b2, .ref b3, .ref b4, .int (nI nh), .int (nI 0), .int (nI np), .int th])), (b1, .inl (cI, 200, .inl fh)), (b2, .inl (cI, 200, .inl fo)), (b3, .inl (cI, 200, .inl fk)), (b4, .inl (cI, 200, .inl ft))]) (wr := []) (w1 := [(mo, .inr (3, [.ref b1, .ref b2, .ref b3, .ref b4, .int (nI nh), .int (nI 0), .int (nI np), .int 1])), (b1, .inl (cI, 200, .inl fh)), (b2, .inl (cI, 200, .inl fo)), (b3, .inl (cI, 200, .inl fk)), (b4, .inl (cI, 200, .inl ft))]) (w' := [(mo, .inr (3, [.ref b1, .ref b2, .ref b3, .ref b4, .int (nI nh), .int (nI 0), .int (nI np), .int 1])), (b1, .inl (cI, 200, .inl fh)), (b2, .inl (cI, 200, .inl fo)), (b3, .inl (cI, 200, .inl fk)), (b4, .inl (cI, 200, .inl ft))]) hF (c_X3_isWrong_k l D mo b1 b2 b3 b4 cI fh fo fk ft nh 0 np th 1 (by decide)) (cwV 1 hts gX3_isNone_X3_isWrong rfl rfl rfl (by decide +kernel) ⟨Nat.le_of_ble_eq_true rfl, Nat.le_of_ble_eq_true rfl⟩) hP hK hD hS hA hv [0, 1, 2, 3, 4] [] [0, 1, 2, 3, 4] [0] ⟨rfl, rfl, rfl, rfl, ⟨by decide, by decide, by decide⟩, by decide⟩ 0 3 rfl rfl rfl rfl hl.1 rfl (Nat.le_of_ble_eq_true rfl) dX3_isNone_13 ⟨Nat.zero_le _, Nat.zero_le _⟩ (fun H locs hP hD hS => ?_)
  exact hend _ _ _ _ _ hP hD hS (rfl) dX3_isNone_16
set_option maxHeartbeats 4000000 in
set_option maxRecDepth 100000 in
theorem c_X3_isNoPlace (l : Launch) (D : va_G) (mo b1 b2 b3 b4 : Nat) (cI : ClassId) (fh fo fk ft : Nat → Int32) (nh no np : Nat) (th : Int32) (q9 : Nat) (hq : q9 < no) (hn9 : no ≤ 200) : mI l yX3_isNoPlace wsX3_isNoPlace ({ frames := 1, cells := 0, slots := 0, locals := 21 }) [.ref mo, .int (nI q9)] D [(cI, .int)] [(mo, .inr (3, [.ref b1, .ref b2, .ref b3, .ref b4, .int (nI nh), .int (nI no), .int (nI np), .int th])), (b1, .inl (cI, 200, .inl fh)), (b2, .inl (cI, 200, .inl fo)), (b3, .inl (cI, 200, .inl fk)), (b4, .inl (cI, 200, .inl ft))] [(mo, .inr (3, [.ref b1, .ref b2, .ref b3, .ref b4, .int (nI nh), .int (nI no), .int (nI np), .int (nI 0)])), (b1, .inl (cI, 200, .inl fh)), (b2, .inl (cI, 200, .inl fo)), (b3, .inl (cI, 200, .inl fk)), (b4, .inl (cI, 200, .inl ft))] (0) := by
  refine hI_body (cc := cX3_isNoPlace) (maxL := 2) (by decide) rfl (Nat.le_of_ble_eq_true rfl) (by decide +kernel) ?_
  intro p e s m below meth cd A ls Q hat hA hP hK hD hS hl hend
  obtain ⟨hF, hr, hlocks, hv⟩ := id hat
  obtain ⟨hx, hb, hml, hown, hts⟩ := id hF
  have hown : s.vm.findClass RX3 = some m.cls := hown
  have hl : lv_has ls 2 [(0, .ref mo), (1, .int (nI q9))] := hl
  have hP : va_P D vwCl [(mo, .inr (3, [.ref b1, .ref b2, .ref b3, .ref b4, .int (nI nh), .int (nI no), .int (nI np), .int th])), (b1, .inl (cI, 200, .inl fh)), (b2, .inl (cI, 200, .inl fo)), (b3, .inl (cI, 200, .inl fk)), (b4, .inl (cI, 200, .inl ft))] s.heap := hP
  have hD : va_D A [(mo, .inr (3, [.ref b1, .ref b2, .ref b3, .ref b4, .int (nI nh), .int (nI no), .int (nI np), .int th])), (b1, .inl (cI, 200, .inl fh)), (b2, .inl (cI, 200, .inl fo)), (b3, .inl (cI, 200, .inl fk)), (b4, .inl (cI, 200, .inl ft))] := hD
  have iX3 : ∀ w ∈ wsX30, w ∈ wsX3_isNoPlace := by decide +kernel
  have k47 := hts (.fieldLink RX3 47 "HeapAndDequeModel" "many" "I") (by decide +kernel)
  refine lv_aload_n hx hb dX3_isNoPlace_0 rfl (lv_at hl 0 rfl) ?_
  refine lv_iload_n hx hb dX3_isNoPlace_1 rfl (lv_at hl 1 rfl) ?_
  refine lv_if_lt (tgt := 17) hx hb dX3_isNoPlace_2 (by decide) (fun ht_ => absurd ht_ (nI_pos (by omega))) (fun _ => ?_)
  refine lv_iload_n hx hb dX3_isNoPlace_5 rfl (lv_at hl 1 rfl) ?_
  refine lv_aload_n hx hb dX3_isNoPlace_6 rfl (lv_at hl 0 rfl) ?_
  refine va_get (D := D) (ci := 3) (v := .int (nI no)) (C := RX3) (T := TX3) (N := 8) hx hb hts iX3 hown hK hP 0 rfl rfl 5 (by decide) k47 (fun _ h9 => h9) rfl dX3_isNoPlace_7 ?_
  refine lv_icmp_ge (tgt := 17) hx hb dX3_isNoPlace_10 (by decide) (fun ht_ => absurd ht_ (nI_ge hq (by omega))) (fun _ => ?_)
  refine lv_iconst (v := 0) hx hb dX3_isNoPlace_13 (by decide) ?_
  refine lv_goto (tgt := 18) hx hb dX3_isNoPlace_14 (by decide) ?_
  refine hc_iV (As := [.int 0]) (rest := []) (wc := [(mo, .inr (3, [.ref b1, .ref b2, .ref b3, .ref b4, .int (nI nh), .int (nI no), .int (nI np), .int th])), (b1, .inl (cI, 200, .inl fh)), (b2, .inl (cI, 200, .inl fo)), (b3, .inl (cI, 200, .inl fk)), (b4, .inl (cI, 200, .inl ft))]) (wr := []) (w1 := [(mo, .inr (3, [.ref b1, .ref b2, .ref b3, .ref b4, .int (nI nh), .int (nI no), .int (nI np), .int (nI 0)])), (b1, .inl (cI, 200, .inl fh)), (b2, .inl (cI, 200, .inl fo)), (b3, .inl (cI, 200, .inl fk)), (b4, .inl (cI, 200, .inl ft))]) (w' := [(mo, .inr (3, [.ref b1, .ref b2, .ref b3, .ref b4, .int (nI nh), .int (nI no), .int (nI np), .int (nI 0)])), (b1, .inl (cI, 200, .inl fh)), (b2, .inl (cI, 200, .inl fo)), (b3, .inl (cI, 200, .inl fk)), (b4, .inl (cI, 200, .inl ft))]) hF (c_X3_isWrong_z l D mo b1 b2 b3 b4 cI fh fo fk ft nh no np th ) (cwV 1 hts gX3_isNoPlace_X3_isWrong rfl rfl rfl (by decide +kernel) ⟨Nat.le_of_ble_eq_true rfl, Nat.le_of_ble_eq_true rfl⟩) hP hK hD hS hA hv [0, 1, 2, 3, 4] [] [0, 1, 2, 3, 4] [0] ⟨rfl, rfl, rfl, rfl, ⟨by decide, by decide, by decide⟩, by decide⟩ 0 3 rfl rfl rfl rfl hl.1 rfl (Nat.le_of_ble_eq_true rfl) dX3_isNoPlace_18 ⟨Nat.zero_le _, Nat.zero_le _⟩ (fun H locs hP hD hS => ?_)
  exact hend _ _ _ _ _ hP hD hS (rfl) dX3_isNoPlace_21
set_option maxHeartbeats 4000000 in
set_option maxRecDepth 100000 in
theorem c_X3_isNoPlace_x (l : Launch) (D : va_G) (mo b1 b2 b3 b4 : Nat) (cI : ClassId) (fh fo fk ft : Nat → Int32) (nh no np : Nat) (th : Int32) (x : Int32) (hq : x < 0 ∨ nI no ≤ x) : mI l yX3_isNoPlace wsX3_isNoPlace ({ frames := 1, cells := 0, slots := 0, locals := 21 }) [.ref mo, .int x] D [(cI, .int)] [(mo, .inr (3, [.ref b1, .ref b2, .ref b3, .ref b4, .int (nI nh), .int (nI no), .int (nI np), .int th])), (b1, .inl (cI, 200, .inl fh)), (b2, .inl (cI, 200, .inl fo)), (b3, .inl (cI, 200, .inl fk)), (b4, .inl (cI, 200, .inl ft))] [(mo, .inr (3, [.ref b1, .ref b2, .ref b3, .ref b4, .int (nI nh), .int (nI no), .int (nI np), .int 1])), (b1, .inl (cI, 200, .inl fh)), (b2, .inl (cI, 200, .inl fo)), (b3, .inl (cI, 200, .inl fk)), (b4, .inl (cI, 200, .inl ft))] (1) := by
  refine hI_body (cc := cX3_isNoPlace) (maxL := 2) (by decide) rfl (Nat.le_of_ble_eq_true rfl) (by decide +kernel) ?_
  intro p e s m below meth cd A ls Q hat hA hP hK hD hS hl hend
  obtain ⟨hF, hr, hlocks, hv⟩ := id hat
  obtain ⟨hx, hb, hml, hown, hts⟩ := id hF
  have hown : s.vm.findClass RX3 = some m.cls := hown
  have hl : lv_has ls 2 [(0, .ref mo), (1, .int x)] := hl
  have hP : va_P D vwCl [(mo, .inr (3, [.ref b1, .ref b2, .ref b3, .ref b4, .int (nI nh), .int (nI no), .int (nI np), .int th])), (b1, .inl (cI, 200, .inl fh)), (b2, .inl (cI, 200, .inl fo)), (b3, .inl (cI, 200, .inl fk)), (b4, .inl (cI, 200, .inl ft))] s.heap := hP
  have hD : va_D A [(mo, .inr (3, [.ref b1, .ref b2, .ref b3, .ref b4, .int (nI nh), .int (nI no), .int (nI np), .int th])), (b1, .inl (cI, 200, .inl fh)), (b2, .inl (cI, 200, .inl fo)), (b3, .inl (cI, 200, .inl fk)), (b4, .inl (cI, 200, .inl ft))] := hD
  have iX3 : ∀ w ∈ wsX30, w ∈ wsX3_isNoPlace := by decide +kernel
  have k47 := hts (.fieldLink RX3 47 "HeapAndDequeModel" "many" "I") (by decide +kernel)
  refine lv_aload_n hx hb dX3_isNoPlace_0 rfl (lv_at hl 0 rfl) ?_
  refine lv_iload_n hx hb dX3_isNoPlace_1 rfl (lv_at hl 1 rfl) ?_
  refine lv_if_lt (tgt := 17) hx hb dX3_isNoPlace_2 (by decide) (fun c9 => ?_) (fun c9 => ?_)
  · refine lv_iconst (v := 1) hx hb dX3_isNoPlace_17 (by decide) ?_
    refine hc_iV (As := [.int 1]) (rest := []) (wc := [(mo, .inr (3, [.ref b1, .ref b2, .ref b3, .ref b4, .int (nI nh), .int (nI no), .int (nI np), .int th])), (b1, .inl (cI, 200, .inl fh)), (b2, .inl (cI, 200, .inl fo)), (b3, .inl (cI, 200, .inl fk)), (b4, .inl (cI, 200, .inl ft))]) (wr := []) (w1 := [(mo, .inr (3, [.ref b1, .ref b2, .ref b3, .ref b4, .int (nI nh), .int (nI no), .int (nI np), .int 1])), (b1, .inl (cI, 200, .inl fh)), (b2, .inl (cI, 200, .inl fo)), (b3, .inl (cI, 200, .inl fk)), (b4, .inl (cI, 200, .inl ft))]) (w' := [(mo, .inr (3, [.ref b1, .ref b2, .ref b3, .ref b4, .int (nI nh), .int (nI no), .int (nI np), .int 1])), (b1, .inl (cI, 200, .inl fh)), (b2, .inl (cI, 200, .inl fo)), (b3, .inl (cI, 200, .inl fk)), (b4, .inl (cI, 200, .inl ft))]) hF (c_X3_isWrong_k l D mo b1 b2 b3 b4 cI fh fo fk ft nh no np th 1 (by decide)) (cwV 1 hts gX3_isNoPlace_X3_isWrong rfl rfl rfl (by decide +kernel) ⟨Nat.le_of_ble_eq_true rfl, Nat.le_of_ble_eq_true rfl⟩) hP hK hD hS hA hv [0, 1, 2, 3, 4] [] [0, 1, 2, 3, 4] [0] ⟨rfl, rfl, rfl, rfl, ⟨by decide, by decide, by decide⟩, by decide⟩ 0 3 rfl rfl rfl rfl hl.1 rfl (Nat.le_of_ble_eq_true rfl) dX3_isNoPlace_18 ⟨Nat.zero_le _, Nat.zero_le _⟩ (fun H locs hP hD hS => ?_)
    exact hend _ _ _ _ _ hP hD hS (rfl) dX3_isNoPlace_21
  · refine lv_iload_n hx hb dX3_isNoPlace_5 rfl (lv_at hl 1 rfl) ?_
    refine lv_aload_n hx hb dX3_isNoPlace_6 rfl (lv_at hl 0 rfl) ?_
    refine va_get (D := D) (ci := 3) (v := .int (nI no)) (C := RX3) (T := TX3) (N := 8) hx hb hts iX3 hown hK hP 0 rfl rfl 5 (by decide) k47 (fun _ h9 => h9) rfl dX3_isNoPlace_7 ?_
    refine lv_icmp_ge (tgt := 17) hx hb dX3_isNoPlace_10 (by decide) (fun _ => ?_) (fun hn => absurd (hq.resolve_left c9) hn)
    refine lv_iconst (v := 1) hx hb dX3_isNoPlace_17 (by decide) ?_
    refine hc_iV (As := [.int 1]) (rest := []) (wc := [(mo, .inr (3, [.ref b1, .ref b2, .ref b3, .ref b4, .int (nI nh), .int (nI no), .int (nI np), .int th])), (b1, .inl (cI, 200, .inl fh)), (b2, .inl (cI, 200, .inl fo)), (b3, .inl (cI, 200, .inl fk)), (b4, .inl (cI, 200, .inl ft))]) (wr := []) (w1 := [(mo, .inr (3, [.ref b1, .ref b2, .ref b3, .ref b4, .int (nI nh), .int (nI no), .int (nI np), .int 1])), (b1, .inl (cI, 200, .inl fh)), (b2, .inl (cI, 200, .inl fo)), (b3, .inl (cI, 200, .inl fk)), (b4, .inl (cI, 200, .inl ft))]) (w' := [(mo, .inr (3, [.ref b1, .ref b2, .ref b3, .ref b4, .int (nI nh), .int (nI no), .int (nI np), .int 1])), (b1, .inl (cI, 200, .inl fh)), (b2, .inl (cI, 200, .inl fo)), (b3, .inl (cI, 200, .inl fk)), (b4, .inl (cI, 200, .inl ft))]) hF (c_X3_isWrong_k l D mo b1 b2 b3 b4 cI fh fo fk ft nh no np th 1 (by decide)) (cwV 1 hts gX3_isNoPlace_X3_isWrong rfl rfl rfl (by decide +kernel) ⟨Nat.le_of_ble_eq_true rfl, Nat.le_of_ble_eq_true rfl⟩) hP hK hD hS hA hv [0, 1, 2, 3, 4] [] [0, 1, 2, 3, 4] [0] ⟨rfl, rfl, rfl, rfl, ⟨by decide, by decide, by decide⟩, by decide⟩ 0 3 rfl rfl rfl rfl hl.1 rfl (Nat.le_of_ble_eq_true rfl) dX3_isNoPlace_18 ⟨Nat.zero_le _, Nat.zero_le _⟩ (fun H locs hP hD hS => ?_)
    exact hend _ _ _ _ _ hP hD hS (rfl) dX3_isNoPlace_21
set_option maxHeartbeats 4000000 in
set_option maxRecDepth 100000 in
theorem c_X3_offer (l : Launch) (D : va_G) (mo b1 b2 b3 b4 : Nat) (cI : ClassId) (fh fo fk ft : Nat → Int32) (nh no np : Nat) (th : Int32) (x : Int32) (hc : nh < 200) : mI l yX3_offer wsX3_offer ({ frames := 1, cells := 0, slots := 0, locals := 21 }) [.ref mo, .int x] D [(cI, .int)] [(mo, .inr (3, [.ref b1, .ref b2, .ref b3, .ref b4, .int (nI nh), .int (nI no), .int (nI np), .int th])), (b1, .inl (cI, 200, .inl fh)), (b2, .inl (cI, 200, .inl fo)), (b3, .inl (cI, 200, .inl fk)), (b4, .inl (cI, 200, .inl ft))] [(mo, .inr (3, [.ref b1, .ref b2, .ref b3, .ref b4, .int (nI (nh + 1)), .int (nI no), .int (nI np), .int (nI 0)])), (b1, .inl (cI, 200, .inl (upd fh nh x))), (b2, .inl (cI, 200, .inl fo)), (b3, .inl (cI, 200, .inl fk)), (b4, .inl (cI, 200, .inl ft))] (nI (nh + 1)) := by
  refine hI_body (cc := cX3_offer) (maxL := 2) (by decide) rfl (Nat.le_of_ble_eq_true rfl) (rfl) ?_
  intro p e s m below meth cd A ls Q hat hA hP hK hD hS hl hend
  obtain ⟨hF, hr, hlocks, hv⟩ := id hat
  obtain ⟨hx, hb, hml, hown, hts⟩ := id hF
  have hown : s.vm.findClass RX3 = some m.cls := hown
  have hl : lv_has ls 2 [(0, .ref mo), (1, .int x)] := hl
  have hP : va_P D vwCl [(mo, .inr (3, [.ref b1, .ref b2, .ref b3, .ref b4, .int (nI nh), .int (nI no), .int (nI np), .int th])), (b1, .inl (cI, 200, .inl fh)), (b2, .inl (cI, 200, .inl fo)), (b3, .inl (cI, 200, .inl fk)), (b4, .inl (cI, 200, .inl ft))] s.heap := hP
  have hD : va_D A [(mo, .inr (3, [.ref b1, .ref b2, .ref b3, .ref b4, .int (nI nh), .int (nI no), .int (nI np), .int th])), (b1, .inl (cI, 200, .inl fh)), (b2, .inl (cI, 200, .inl fo)), (b3, .inl (cI, 200, .inl fk)), (b4, .inl (cI, 200, .inl ft))] := hD
  have iX3 : ∀ w ∈ wsX30, w ∈ wsX3_offer := by decide +kernel
  have k7 := hts (.fieldLink RX3 7 "HeapAndDequeModel" "heap" "[I") (by decide +kernel)
  have k26 := hts (.fieldLink RX3 26 "HeapAndDequeModel" "held" "I") (by decide +kernel)
  refine lv_aload_n hx hb dX3_offer_0 rfl (lv_at hl 0 rfl) ?_
  refine lv_aload_n hx hb dX3_offer_1 rfl (lv_at hl 0 rfl) ?_
  refine va_get (D := D) (ci := 3) (v := .int (nI nh)) (C := RX3) (T := TX3) (N := 8) hx hb hts iX3 hown hK hP 0 rfl rfl 4 (by decide) k26 (fun _ h9 => h9) rfl dX3_offer_2 ?_
  refine lv_sipush (v := nI 200) hx hb dX3_offer_5 (by decide +kernel) ?_
  refine lv_icmp_ne (tgt := 15) hx hb dX3_offer_8 (by decide) (fun _ => ?_) (fun hn => absurd hn (fun h => absurd ((nI_eq (by omega) (by decide)).mp h) (by omega)))
  refine lv_iconst (v := nI 0) hx hb dX3_offer_15 (by decide +kernel) ?_
  refine hc_iV (As := [.int (nI 0)]) (rest := []) (wc := [(mo, .inr (3, [.ref b1, .ref b2, .ref b3, .ref b4, .int (nI nh), .int (nI no), .int (nI np), .int th])), (b1, .inl (cI, 200, .inl fh)), (b2, .inl (cI, 200, .inl fo)), (b3, .inl (cI, 200, .inl fk)), (b4, .inl (cI, 200, .inl ft))]) (wr := []) (w1 := [(mo, .inr (3, [.ref b1, .ref b2, .ref b3, .ref b4, .int (nI nh), .int (nI no), .int (nI np), .int (nI 0)])), (b1, .inl (cI, 200, .inl fh)), (b2, .inl (cI, 200, .inl fo)), (b3, .inl (cI, 200, .inl fk)), (b4, .inl (cI, 200, .inl ft))]) (w' := [(mo, .inr (3, [.ref b1, .ref b2, .ref b3, .ref b4, .int (nI nh), .int (nI no), .int (nI np), .int (nI 0)])), (b1, .inl (cI, 200, .inl fh)), (b2, .inl (cI, 200, .inl fo)), (b3, .inl (cI, 200, .inl fk)), (b4, .inl (cI, 200, .inl ft))]) hF (c_X3_isWrong_z l D mo b1 b2 b3 b4 cI fh fo fk ft nh no np th ) (cwV 1 hts gX3_offer_X3_isWrong rfl rfl rfl (by decide +kernel) ⟨Nat.le_of_ble_eq_true rfl, Nat.le_of_ble_eq_true rfl⟩) hP hK hD hS hA hv [0, 1, 2, 3, 4] [] [0, 1, 2, 3, 4] [0] ⟨rfl, rfl, rfl, rfl, ⟨by decide, by decide, by decide⟩, by decide⟩ 0 3 rfl rfl rfl rfl hl.1 rfl (Nat.le_of_ble_eq_true rfl) dX3_offer_16 ⟨Nat.zero_le _, Nat.zero_le _⟩ (fun H locs hP hD hS => ?_)
  refine lv_if_eq (tgt := 24) hx hb dX3_offer_19 (by decide) (fun _ => ?_) (fun hn => absurd (rfl) hn)
  refine lv_aload_n hx hb dX3_offer_24 rfl (lv_at hl 0 rfl) ?_
  refine va_get (D := D) (ci := 3) (v := .ref b1) (C := RX3) (T := TX3) (N := 8) hx hb hts iX3 hown hK hP 0 rfl rfl 0 (by decide) k7 (fun _ h9 => h9) rfl dX3_offer_25 ?_
  refine lv_aload_n hx hb dX3_offer_28 rfl (lv_at hl 0 rfl) ?_
  refine va_get (D := D) (ci := 3) (v := .int (nI nh)) (C := RX3) (T := TX3) (N := 8) hx hb hts iX3 hown hK hP 0 rfl rfl 4 (by decide) k26 (fun _ h9 => h9) rfl dX3_offer_29 ?_
  refine lv_iload_n hx hb dX3_offer_32 rfl (lv_at hl 1 rfl) ?_
  refine h_iast hx hb hK hP hD hS 1 0 rfl rfl (by decide) (by omega) dX3_offer_33 (fun H locs hP hD hS => ?_)
  have hP : va_P D vwCl [(mo, .inr (3, [.ref b1, .ref b2, .ref b3, .ref b4, .int (nI nh), .int (nI no), .int (nI np), .int (nI 0)])), (b1, .inl (cI, 200, .inl (upd fh nh x))), (b2, .inl (cI, 200, .inl fo)), (b3, .inl (cI, 200, .inl fk)), (b4, .inl (cI, 200, .inl ft))] H := hP
  have hD : va_D A [(mo, .inr (3, [.ref b1, .ref b2, .ref b3, .ref b4, .int (nI nh), .int (nI no), .int (nI np), .int (nI 0)])), (b1, .inl (cI, 200, .inl (upd fh nh x))), (b2, .inl (cI, 200, .inl fo)), (b3, .inl (cI, 200, .inl fk)), (b4, .inl (cI, 200, .inl ft))] := hD
  refine lv_aload_n hx hb dX3_offer_34 rfl (lv_at hl 0 rfl) ?_
  refine lv_dup hx hb dX3_offer_35 rfl ?_
  refine va_get (D := D) (ci := 3) (v := .int (nI nh)) (C := RX3) (T := TX3) (N := 8) hx hb hts iX3 hown hK hP 0 rfl rfl 4 (by decide) k26 (fun _ h9 => h9) rfl dX3_offer_36 ?_
  refine lv_iconst (v := 1) hx hb dX3_offer_39 (by decide) ?_
  refine lv_iadd hx hb dX3_offer_40 ?_
  refine hw_i (y := nI (nh + 1)) (nI_1 _) ?_
  refine va_put (D := D) (ci := 3) (v := .int (nI (nh + 1))) (ty := .int) (C := RX3) (T := TX3) (N := 8) hx hb hts iX3 tyX3 tyX3_ok nmX3 hown hK hP hD hS 0 rfl rfl 4 (by decide) k26 (fun _ h9 => h9) rfl (by decide +kernel) rfl rfl (Nat.le_of_ble_eq_true rfl) dX3_offer_41 (fun H locs hP hD hS => ?_)
  have hP : va_P D vwCl [(mo, .inr (3, [.ref b1, .ref b2, .ref b3, .ref b4, .int (nI (nh + 1)), .int (nI no), .int (nI np), .int (nI 0)])), (b1, .inl (cI, 200, .inl (upd fh nh x))), (b2, .inl (cI, 200, .inl fo)), (b3, .inl (cI, 200, .inl fk)), (b4, .inl (cI, 200, .inl ft))] H := hP
  have hD : va_D A [(mo, .inr (3, [.ref b1, .ref b2, .ref b3, .ref b4, .int (nI (nh + 1)), .int (nI no), .int (nI np), .int (nI 0)])), (b1, .inl (cI, 200, .inl (upd fh nh x))), (b2, .inl (cI, 200, .inl fo)), (b3, .inl (cI, 200, .inl fk)), (b4, .inl (cI, 200, .inl ft))] := hD
  refine lv_aload_n hx hb dX3_offer_44 rfl (lv_at hl 0 rfl) ?_
  refine va_get (D := D) (ci := 3) (v := .int (nI (nh + 1))) (C := RX3) (T := TX3) (N := 8) hx hb hts iX3 hown hK hP 0 rfl rfl 4 (by decide) k26 (fun _ h9 => h9) rfl dX3_offer_45 ?_
  exact hend _ _ _ _ _ hP hD hS (rfl) dX3_offer_48
set_option maxHeartbeats 4000000 in
set_option maxRecDepth 100000 in
theorem c_X3_offer_x (l : Launch) (D : va_G) (mo b1 b2 b3 b4 : Nat) (cI : ClassId) (fh fo fk ft : Nat → Int32) (no np : Nat) (th : Int32) (x : Int32) : mI l yX3_offer wsX3_offer ({ frames := 1, cells := 0, slots := 0, locals := 21 }) [.ref mo, .int x] D [(cI, .int)] [(mo, .inr (3, [.ref b1, .ref b2, .ref b3, .ref b4, .int (nI 200), .int (nI no), .int (nI np), .int th])), (b1, .inl (cI, 200, .inl fh)), (b2, .inl (cI, 200, .inl fo)), (b3, .inl (cI, 200, .inl fk)), (b4, .inl (cI, 200, .inl ft))] [(mo, .inr (3, [.ref b1, .ref b2, .ref b3, .ref b4, .int (nI 200), .int (nI no), .int (nI np), .int 1])), (b1, .inl (cI, 200, .inl fh)), (b2, .inl (cI, 200, .inl fo)), (b3, .inl (cI, 200, .inl fk)), (b4, .inl (cI, 200, .inl ft))] (0) := by
  refine hI_body (cc := cX3_offer) (maxL := 2) (by decide) rfl (Nat.le_of_ble_eq_true rfl) (rfl) ?_
  intro p e s m below meth cd A ls Q hat hA hP hK hD hS hl hend
  obtain ⟨hF, hr, hlocks, hv⟩ := id hat
  obtain ⟨hx, hb, hml, hown, hts⟩ := id hF
  have hown : s.vm.findClass RX3 = some m.cls := hown
  have hl : lv_has ls 2 [(0, .ref mo), (1, .int x)] := hl
  have hP : va_P D vwCl [(mo, .inr (3, [.ref b1, .ref b2, .ref b3, .ref b4, .int (nI 200), .int (nI no), .int (nI np), .int th])), (b1, .inl (cI, 200, .inl fh)), (b2, .inl (cI, 200, .inl fo)), (b3, .inl (cI, 200, .inl fk)), (b4, .inl (cI, 200, .inl ft))] s.heap := hP
  have hD : va_D A [(mo, .inr (3, [.ref b1, .ref b2, .ref b3, .ref b4, .int (nI 200), .int (nI no), .int (nI np), .int th])), (b1, .inl (cI, 200, .inl fh)), (b2, .inl (cI, 200, .inl fo)), (b3, .inl (cI, 200, .inl fk)), (b4, .inl (cI, 200, .inl ft))] := hD
  have iX3 : ∀ w ∈ wsX30, w ∈ wsX3_offer := by decide +kernel
  have k7 := hts (.fieldLink RX3 7 "HeapAndDequeModel" "heap" "[I") (by decide +kernel)
  have k26 := hts (.fieldLink RX3 26 "HeapAndDequeModel" "held" "I") (by decide +kernel)
  refine lv_aload_n hx hb dX3_offer_0 rfl (lv_at hl 0 rfl) ?_
  refine lv_aload_n hx hb dX3_offer_1 rfl (lv_at hl 0 rfl) ?_
  refine va_get (D := D) (ci := 3) (v := .int (nI 200)) (C := RX3) (T := TX3) (N := 8) hx hb hts iX3 hown hK hP 0 rfl rfl 4 (by decide) k26 (fun _ h9 => h9) rfl dX3_offer_2 ?_
  refine lv_sipush (v := nI 200) hx hb dX3_offer_5 (by decide +kernel) ?_
  refine lv_icmp_ne (tgt := 15) hx hb dX3_offer_8 (by decide) (fun ht_ => absurd (rfl) ht_) (fun _ => ?_)
  refine lv_iconst (v := 1) hx hb dX3_offer_11 (by decide) ?_
  refine lv_goto (tgt := 16) hx hb dX3_offer_12 (by decide) ?_
  refine hc_iV (As := [.int 1]) (rest := []) (wc := [(mo, .inr (3, [.ref b1, .ref b2, .ref b3, .ref b4, .int (nI 200), .int (nI no), .int (nI np), .int th])), (b1, .inl (cI, 200, .inl fh)), (b2, .inl (cI, 200, .inl fo)), (b3, .inl (cI, 200, .inl fk)), (b4, .inl (cI, 200, .inl ft))]) (wr := []) (w1 := [(mo, .inr (3, [.ref b1, .ref b2, .ref b3, .ref b4, .int (nI 200), .int (nI no), .int (nI np), .int 1])), (b1, .inl (cI, 200, .inl fh)), (b2, .inl (cI, 200, .inl fo)), (b3, .inl (cI, 200, .inl fk)), (b4, .inl (cI, 200, .inl ft))]) (w' := [(mo, .inr (3, [.ref b1, .ref b2, .ref b3, .ref b4, .int (nI 200), .int (nI no), .int (nI np), .int 1])), (b1, .inl (cI, 200, .inl fh)), (b2, .inl (cI, 200, .inl fo)), (b3, .inl (cI, 200, .inl fk)), (b4, .inl (cI, 200, .inl ft))]) hF (c_X3_isWrong_k l D mo b1 b2 b3 b4 cI fh fo fk ft 200 no np th 1 (by decide)) (cwV 1 hts gX3_offer_X3_isWrong rfl rfl rfl (by decide +kernel) ⟨Nat.le_of_ble_eq_true rfl, Nat.le_of_ble_eq_true rfl⟩) hP hK hD hS hA hv [0, 1, 2, 3, 4] [] [0, 1, 2, 3, 4] [0] ⟨rfl, rfl, rfl, rfl, ⟨by decide, by decide, by decide⟩, by decide⟩ 0 3 rfl rfl rfl rfl hl.1 rfl (Nat.le_of_ble_eq_true rfl) dX3_offer_16 ⟨Nat.zero_le _, Nat.zero_le _⟩ (fun H locs hP hD hS => ?_)
  refine lv_if_eq (tgt := 24) hx hb dX3_offer_19 (by decide) (fun ht_ => absurd ht_ (by decide)) (fun _ => ?_)
  refine lv_iconst (v := 0) hx hb dX3_offer_22 (by decide) ?_
  exact hend _ _ _ _ _ hP hD hS (rfl) dX3_offer_23
set_option maxHeartbeats 4000000 in
set_option maxRecDepth 100000 in
theorem c_X3_add (l : Launch) (D : va_G) (mo b1 b2 b3 b4 : Nat) (cI : ClassId) (fh fo fk ft : Nat → Int32) (nh no np : Nat) (th : Int32) (x : Int32) (hc : nh < 200) : mI l yX3_add wsX3_add ({ frames := 2, cells := 0, slots := 0, locals := 42 }) [.ref mo, .int x] D [(cI, .int)] [(mo, .inr (3, [.ref b1, .ref b2, .ref b3, .ref b4, .int (nI nh), .int (nI no), .int (nI np), .int th])), (b1, .inl (cI, 200, .inl fh)), (b2, .inl (cI, 200, .inl fo)), (b3, .inl (cI, 200, .inl fk)), (b4, .inl (cI, 200, .inl ft))] [(mo, .inr (3, [.ref b1, .ref b2, .ref b3, .ref b4, .int (nI (nh + 1)), .int (nI no), .int (nI np), .int (nI 0)])), (b1, .inl (cI, 200, .inl (upd fh nh x))), (b2, .inl (cI, 200, .inl fo)), (b3, .inl (cI, 200, .inl fk)), (b4, .inl (cI, 200, .inl ft))] (nI (nh + 1)) := by
  refine hI_body (cc := cX3_add) (maxL := 2) (by decide) rfl (Nat.le_of_ble_eq_true rfl) (rfl) ?_
  intro p e s m below meth cd A ls Q hat hA hP hK hD hS hl hend
  obtain ⟨hF, hr, hlocks, hv⟩ := id hat
  obtain ⟨hx, hb, hml, hown, hts⟩ := id hF
  have hown : s.vm.findClass RX3 = some m.cls := hown
  have hl : lv_has ls 2 [(0, .ref mo), (1, .int x)] := hl
  have hP : va_P D vwCl [(mo, .inr (3, [.ref b1, .ref b2, .ref b3, .ref b4, .int (nI nh), .int (nI no), .int (nI np), .int th])), (b1, .inl (cI, 200, .inl fh)), (b2, .inl (cI, 200, .inl fo)), (b3, .inl (cI, 200, .inl fk)), (b4, .inl (cI, 200, .inl ft))] s.heap := hP
  have hD : va_D A [(mo, .inr (3, [.ref b1, .ref b2, .ref b3, .ref b4, .int (nI nh), .int (nI no), .int (nI np), .int th])), (b1, .inl (cI, 200, .inl fh)), (b2, .inl (cI, 200, .inl fo)), (b3, .inl (cI, 200, .inl fk)), (b4, .inl (cI, 200, .inl ft))] := hD
  refine lv_aload_n hx hb dX3_add_0 rfl (lv_at hl 0 rfl) ?_
  refine lv_iload_n hx hb dX3_add_1 rfl (lv_at hl 1 rfl) ?_
  refine hc_iV (As := [.int x]) (rest := []) (wc := [(mo, .inr (3, [.ref b1, .ref b2, .ref b3, .ref b4, .int (nI nh), .int (nI no), .int (nI np), .int th])), (b1, .inl (cI, 200, .inl fh)), (b2, .inl (cI, 200, .inl fo)), (b3, .inl (cI, 200, .inl fk)), (b4, .inl (cI, 200, .inl ft))]) (wr := []) (w1 := [(mo, .inr (3, [.ref b1, .ref b2, .ref b3, .ref b4, .int (nI (nh + 1)), .int (nI no), .int (nI np), .int (nI 0)])), (b1, .inl (cI, 200, .inl (upd fh nh x))), (b2, .inl (cI, 200, .inl fo)), (b3, .inl (cI, 200, .inl fk)), (b4, .inl (cI, 200, .inl ft))]) (w' := [(mo, .inr (3, [.ref b1, .ref b2, .ref b3, .ref b4, .int (nI (nh + 1)), .int (nI no), .int (nI np), .int (nI 0)])), (b1, .inl (cI, 200, .inl (upd fh nh x))), (b2, .inl (cI, 200, .inl fo)), (b3, .inl (cI, 200, .inl fk)), (b4, .inl (cI, 200, .inl ft))]) hF (c_X3_offer l D mo b1 b2 b3 b4 cI fh fo fk ft nh no np th x hc) (cwV 1 hts gX3_add_X3_offer rfl rfl rfl (by decide +kernel) ⟨Nat.le_of_ble_eq_true rfl, Nat.le_of_ble_eq_true rfl⟩) hP hK hD hS hA hv [0, 1, 2, 3, 4] [] [0, 1, 2, 3, 4] [0] ⟨rfl, rfl, rfl, rfl, ⟨by decide, by decide, by decide⟩, by decide⟩ 0 3 rfl rfl rfl rfl hl.1 rfl (Nat.le_of_ble_eq_true rfl) dX3_add_2 ⟨Nat.zero_le _, Nat.zero_le _⟩ (fun H locs hP hD hS => ?_)
  exact hend _ _ _ _ _ hP hD hS (rfl) dX3_add_5
set_option maxHeartbeats 4000000 in
set_option maxRecDepth 100000 in
theorem c_X3_add_x (l : Launch) (D : va_G) (mo b1 b2 b3 b4 : Nat) (cI : ClassId) (fh fo fk ft : Nat → Int32) (no np : Nat) (th : Int32) (x : Int32) : mI l yX3_add wsX3_add ({ frames := 2, cells := 0, slots := 0, locals := 42 }) [.ref mo, .int x] D [(cI, .int)] [(mo, .inr (3, [.ref b1, .ref b2, .ref b3, .ref b4, .int (nI 200), .int (nI no), .int (nI np), .int th])), (b1, .inl (cI, 200, .inl fh)), (b2, .inl (cI, 200, .inl fo)), (b3, .inl (cI, 200, .inl fk)), (b4, .inl (cI, 200, .inl ft))] [(mo, .inr (3, [.ref b1, .ref b2, .ref b3, .ref b4, .int (nI 200), .int (nI no), .int (nI np), .int 1])), (b1, .inl (cI, 200, .inl fh)), (b2, .inl (cI, 200, .inl fo)), (b3, .inl (cI, 200, .inl fk)), (b4, .inl (cI, 200, .inl ft))] (0) := by
  refine hI_body (cc := cX3_add) (maxL := 2) (by decide) rfl (Nat.le_of_ble_eq_true rfl) (rfl) ?_
  intro p e s m below meth cd A ls Q hat hA hP hK hD hS hl hend
  obtain ⟨hF, hr, hlocks, hv⟩ := id hat
  obtain ⟨hx, hb, hml, hown, hts⟩ := id hF
  have hown : s.vm.findClass RX3 = some m.cls := hown
  have hl : lv_has ls 2 [(0, .ref mo), (1, .int x)] := hl
  have hP : va_P D vwCl [(mo, .inr (3, [.ref b1, .ref b2, .ref b3, .ref b4, .int (nI 200), .int (nI no), .int (nI np), .int th])), (b1, .inl (cI, 200, .inl fh)), (b2, .inl (cI, 200, .inl fo)), (b3, .inl (cI, 200, .inl fk)), (b4, .inl (cI, 200, .inl ft))] s.heap := hP
  have hD : va_D A [(mo, .inr (3, [.ref b1, .ref b2, .ref b3, .ref b4, .int (nI 200), .int (nI no), .int (nI np), .int th])), (b1, .inl (cI, 200, .inl fh)), (b2, .inl (cI, 200, .inl fo)), (b3, .inl (cI, 200, .inl fk)), (b4, .inl (cI, 200, .inl ft))] := hD
  refine lv_aload_n hx hb dX3_add_0 rfl (lv_at hl 0 rfl) ?_
  refine lv_iload_n hx hb dX3_add_1 rfl (lv_at hl 1 rfl) ?_
  refine hc_iV (As := [.int x]) (rest := []) (wc := [(mo, .inr (3, [.ref b1, .ref b2, .ref b3, .ref b4, .int (nI 200), .int (nI no), .int (nI np), .int th])), (b1, .inl (cI, 200, .inl fh)), (b2, .inl (cI, 200, .inl fo)), (b3, .inl (cI, 200, .inl fk)), (b4, .inl (cI, 200, .inl ft))]) (wr := []) (w1 := [(mo, .inr (3, [.ref b1, .ref b2, .ref b3, .ref b4, .int (nI 200), .int (nI no), .int (nI np), .int 1])), (b1, .inl (cI, 200, .inl fh)), (b2, .inl (cI, 200, .inl fo)), (b3, .inl (cI, 200, .inl fk)), (b4, .inl (cI, 200, .inl ft))]) (w' := [(mo, .inr (3, [.ref b1, .ref b2, .ref b3, .ref b4, .int (nI 200), .int (nI no), .int (nI np), .int 1])), (b1, .inl (cI, 200, .inl fh)), (b2, .inl (cI, 200, .inl fo)), (b3, .inl (cI, 200, .inl fk)), (b4, .inl (cI, 200, .inl ft))]) hF (c_X3_offer_x l D mo b1 b2 b3 b4 cI fh fo fk ft no np th x) (cwV 1 hts gX3_add_X3_offer rfl rfl rfl (by decide +kernel) ⟨Nat.le_of_ble_eq_true rfl, Nat.le_of_ble_eq_true rfl⟩) hP hK hD hS hA hv [0, 1, 2, 3, 4] [] [0, 1, 2, 3, 4] [0] ⟨rfl, rfl, rfl, rfl, ⟨by decide, by decide, by decide⟩, by decide⟩ 0 3 rfl rfl rfl rfl hl.1 rfl (Nat.le_of_ble_eq_true rfl) dX3_add_2 ⟨Nat.zero_le _, Nat.zero_le _⟩ (fun H locs hP hD hS => ?_)
  exact hend _ _ _ _ _ hP hD hS (rfl) dX3_add_5
set_option maxHeartbeats 4000000 in
set_option maxRecDepth 100000 in
theorem c_X3_peek (l : Launch) (D : va_G) (mo b1 b2 b3 b4 : Nat) (cI : ClassId) (fh fo fk ft : Nat → Int32) (nh no np : Nat) (th : Int32) (h1c : 1 ≤ nh) (hn9 : nh ≤ 200) : mI l yX3_peek wsX3_peek ({ frames := 1, cells := 0, slots := 0, locals := 22 }) [.ref mo] D [(cI, .int)] [(mo, .inr (3, [.ref b1, .ref b2, .ref b3, .ref b4, .int (nI nh), .int (nI no), .int (nI np), .int th])), (b1, .inl (cI, 200, .inl fh)), (b2, .inl (cI, 200, .inl fo)), (b3, .inl (cI, 200, .inl fk)), (b4, .inl (cI, 200, .inl ft))] [(mo, .inr (3, [.ref b1, .ref b2, .ref b3, .ref b4, .int (nI nh), .int (nI no), .int (nI np), .int (nI 0)])), (b1, .inl (cI, 200, .inl fh)), (b2, .inl (cI, 200, .inl fo)), (b3, .inl (cI, 200, .inl fk)), (b4, .inl (cI, 200, .inl ft))] (fh (s_lp fh (nh - 1))) := by
  refine hI_body (cc := cX3_peek) (maxL := 1) (by decide) rfl (Nat.le_of_ble_eq_true rfl) (rfl) ?_
  intro p e s m below meth cd A ls Q hat hA hP hK hD hS hl hend
  obtain ⟨hF, hr, hlocks, hv⟩ := id hat
  obtain ⟨hx, hb, hml, hown, hts⟩ := id hF
  have hown : s.vm.findClass RX3 = some m.cls := hown
  have hl : lv_has ls 1 [(0, .ref mo)] := hl
  have hP : va_P D vwCl [(mo, .inr (3, [.ref b1, .ref b2, .ref b3, .ref b4, .int (nI nh), .int (nI no), .int (nI np), .int th])), (b1, .inl (cI, 200, .inl fh)), (b2, .inl (cI, 200, .inl fo)), (b3, .inl (cI, 200, .inl fk)), (b4, .inl (cI, 200, .inl ft))] s.heap := hP
  have hD : va_D A [(mo, .inr (3, [.ref b1, .ref b2, .ref b3, .ref b4, .int (nI nh), .int (nI no), .int (nI np), .int th])), (b1, .inl (cI, 200, .inl fh)), (b2, .inl (cI, 200, .inl fo)), (b3, .inl (cI, 200, .inl fk)), (b4, .inl (cI, 200, .inl ft))] := hD
  have iX3 : ∀ w ∈ wsX30, w ∈ wsX3_peek := by decide +kernel
  have k7 := hts (.fieldLink RX3 7 "HeapAndDequeModel" "heap" "[I") (by decide +kernel)
  have k26 := hts (.fieldLink RX3 26 "HeapAndDequeModel" "held" "I") (by decide +kernel)
  refine lv_aload_n hx hb dX3_peek_0 rfl (lv_at hl 0 rfl) ?_
  refine lv_aload_n hx hb dX3_peek_1 rfl (lv_at hl 0 rfl) ?_
  refine va_get (D := D) (ci := 3) (v := .int (nI nh)) (C := RX3) (T := TX3) (N := 8) hx hb hts iX3 hown hK hP 0 rfl rfl 4 (by decide) k26 (fun _ h9 => h9) rfl dX3_peek_2 ?_
  refine lv_if_ne (tgt := 12) hx hb dX3_peek_5 (by decide) (fun _ => ?_) (fun hn => absurd hn (nI_ne0 (by omega) (by omega)))
  refine lv_iconst (v := nI 0) hx hb dX3_peek_12 (by decide +kernel) ?_
  refine hc_iV (As := [.int (nI 0)]) (rest := []) (wc := [(mo, .inr (3, [.ref b1, .ref b2, .ref b3, .ref b4, .int (nI nh), .int (nI no), .int (nI np), .int th])), (b1, .inl (cI, 200, .inl fh)), (b2, .inl (cI, 200, .inl fo)), (b3, .inl (cI, 200, .inl fk)), (b4, .inl (cI, 200, .inl ft))]) (wr := []) (w1 := [(mo, .inr (3, [.ref b1, .ref b2, .ref b3, .ref b4, .int (nI nh), .int (nI no), .int (nI np), .int (nI 0)])), (b1, .inl (cI, 200, .inl fh)), (b2, .inl (cI, 200, .inl fo)), (b3, .inl (cI, 200, .inl fk)), (b4, .inl (cI, 200, .inl ft))]) (w' := [(mo, .inr (3, [.ref b1, .ref b2, .ref b3, .ref b4, .int (nI nh), .int (nI no), .int (nI np), .int (nI 0)])), (b1, .inl (cI, 200, .inl fh)), (b2, .inl (cI, 200, .inl fo)), (b3, .inl (cI, 200, .inl fk)), (b4, .inl (cI, 200, .inl ft))]) hF (c_X3_isWrong_z l D mo b1 b2 b3 b4 cI fh fo fk ft nh no np th ) (cwV 1 hts gX3_peek_X3_isWrong rfl rfl rfl (by decide +kernel) ⟨Nat.le_of_ble_eq_true rfl, Nat.le_of_ble_eq_true rfl⟩) hP hK hD hS hA hv [0, 1, 2, 3, 4] [] [0, 1, 2, 3, 4] [0] ⟨rfl, rfl, rfl, rfl, ⟨by decide, by decide, by decide⟩, by decide⟩ 0 3 rfl rfl rfl rfl hl.1 rfl (Nat.le_of_ble_eq_true rfl) dX3_peek_13 ⟨Nat.zero_le _, Nat.zero_le _⟩ (fun H locs hP hD hS => ?_)
  refine lv_if_eq (tgt := 23) hx hb dX3_peek_16 (by decide) (fun _ => ?_) (fun hn => absurd (rfl) hn)
  refine lv_aload_n hx hb dX3_peek_23 rfl (lv_at hl 0 rfl) ?_
  refine va_get (D := D) (ci := 3) (v := .ref b1) (C := RX3) (T := TX3) (N := 8) hx hb hts iX3 hown hK hP 0 rfl rfl 0 (by decide) k7 (fun _ h9 => h9) rfl dX3_peek_24 ?_
  refine lv_aload_n hx hb dX3_peek_27 rfl (lv_at hl 0 rfl) ?_
  refine hc_iV (As := []) (rest := [.ref b1]) (wc := [(mo, .inr (3, [.ref b1, .ref b2, .ref b3, .ref b4, .int (nI nh), .int (nI no), .int (nI np), .int (nI 0)])), (b1, .inl (cI, 200, .inl fh)), (b2, .inl (cI, 200, .inl fo)), (b3, .inl (cI, 200, .inl fk)), (b4, .inl (cI, 200, .inl ft))]) (wr := []) (w1 := [(mo, .inr (3, [.ref b1, .ref b2, .ref b3, .ref b4, .int (nI nh), .int (nI no), .int (nI np), .int (nI 0)])), (b1, .inl (cI, 200, .inl fh)), (b2, .inl (cI, 200, .inl fo)), (b3, .inl (cI, 200, .inl fk)), (b4, .inl (cI, 200, .inl ft))]) (w' := [(mo, .inr (3, [.ref b1, .ref b2, .ref b3, .ref b4, .int (nI nh), .int (nI no), .int (nI np), .int (nI 0)])), (b1, .inl (cI, 200, .inl fh)), (b2, .inl (cI, 200, .inl fo)), (b3, .inl (cI, 200, .inl fk)), (b4, .inl (cI, 200, .inl ft))]) hF (c_X3_leastPlace l D mo b1 b2 b3 b4 cI fh fo fk ft nh no np (nI 0) hn9) (cwV 0 hts gX3_peek_X3_leastPlace rfl rfl rfl (by decide +kernel) ⟨Nat.le_of_ble_eq_true rfl, Nat.le_of_ble_eq_true rfl⟩) hP hK hD hS hA hv [0, 1, 2, 3, 4] [] [0, 1, 2, 3, 4] [0] ⟨rfl, rfl, rfl, rfl, ⟨by decide, by decide, by decide⟩, by decide⟩ 0 3 rfl rfl rfl rfl hl.1 rfl (Nat.le_of_ble_eq_true rfl) dX3_peek_28 ⟨Nat.zero_le _, Nat.zero_le _⟩ (fun H locs hP hD hS => ?_)
  refine h_iald hx hb hK hP 1 0 rfl rfl (by decide) (by have := s_lp_le fh (nh - 1); omega) dX3_peek_31 ?_
  exact hend _ _ _ _ _ hP hD hS (rfl) dX3_peek_32
set_option maxHeartbeats 4000000 in
set_option maxRecDepth 100000 in
theorem c_X3_peek_x (l : Launch) (D : va_G) (mo b1 b2 b3 b4 : Nat) (cI : ClassId) (fh fo fk ft : Nat → Int32) (no np : Nat) (th : Int32) : mI l yX3_peek wsX3_peek ({ frames := 1, cells := 0, slots := 0, locals := 21 }) [.ref mo] D [(cI, .int)] [(mo, .inr (3, [.ref b1, .ref b2, .ref b3, .ref b4, .int (nI 0), .int (nI no), .int (nI np), .int th])), (b1, .inl (cI, 200, .inl fh)), (b2, .inl (cI, 200, .inl fo)), (b3, .inl (cI, 200, .inl fk)), (b4, .inl (cI, 200, .inl ft))] [(mo, .inr (3, [.ref b1, .ref b2, .ref b3, .ref b4, .int (nI 0), .int (nI no), .int (nI np), .int 1])), (b1, .inl (cI, 200, .inl fh)), (b2, .inl (cI, 200, .inl fo)), (b3, .inl (cI, 200, .inl fk)), (b4, .inl (cI, 200, .inl ft))] (0) := by
  refine hI_body (cc := cX3_peek) (maxL := 1) (by decide) rfl (Nat.le_of_ble_eq_true rfl) (rfl) ?_
  intro p e s m below meth cd A ls Q hat hA hP hK hD hS hl hend
  obtain ⟨hF, hr, hlocks, hv⟩ := id hat
  obtain ⟨hx, hb, hml, hown, hts⟩ := id hF
  have hown : s.vm.findClass RX3 = some m.cls := hown
  have hl : lv_has ls 1 [(0, .ref mo)] := hl
  have hP : va_P D vwCl [(mo, .inr (3, [.ref b1, .ref b2, .ref b3, .ref b4, .int (nI 0), .int (nI no), .int (nI np), .int th])), (b1, .inl (cI, 200, .inl fh)), (b2, .inl (cI, 200, .inl fo)), (b3, .inl (cI, 200, .inl fk)), (b4, .inl (cI, 200, .inl ft))] s.heap := hP
  have hD : va_D A [(mo, .inr (3, [.ref b1, .ref b2, .ref b3, .ref b4, .int (nI 0), .int (nI no), .int (nI np), .int th])), (b1, .inl (cI, 200, .inl fh)), (b2, .inl (cI, 200, .inl fo)), (b3, .inl (cI, 200, .inl fk)), (b4, .inl (cI, 200, .inl ft))] := hD
  have iX3 : ∀ w ∈ wsX30, w ∈ wsX3_peek := by decide +kernel
  have k7 := hts (.fieldLink RX3 7 "HeapAndDequeModel" "heap" "[I") (by decide +kernel)
  have k26 := hts (.fieldLink RX3 26 "HeapAndDequeModel" "held" "I") (by decide +kernel)
  refine lv_aload_n hx hb dX3_peek_0 rfl (lv_at hl 0 rfl) ?_
  refine lv_aload_n hx hb dX3_peek_1 rfl (lv_at hl 0 rfl) ?_
  refine va_get (D := D) (ci := 3) (v := .int (nI 0)) (C := RX3) (T := TX3) (N := 8) hx hb hts iX3 hown hK hP 0 rfl rfl 4 (by decide) k26 (fun _ h9 => h9) rfl dX3_peek_2 ?_
  refine lv_if_ne (tgt := 12) hx hb dX3_peek_5 (by decide) (fun ht_ => absurd (nI_0) ht_) (fun _ => ?_)
  refine lv_iconst (v := 1) hx hb dX3_peek_8 (by decide) ?_
  refine lv_goto (tgt := 13) hx hb dX3_peek_9 (by decide) ?_
  refine hc_iV (As := [.int 1]) (rest := []) (wc := [(mo, .inr (3, [.ref b1, .ref b2, .ref b3, .ref b4, .int (nI 0), .int (nI no), .int (nI np), .int th])), (b1, .inl (cI, 200, .inl fh)), (b2, .inl (cI, 200, .inl fo)), (b3, .inl (cI, 200, .inl fk)), (b4, .inl (cI, 200, .inl ft))]) (wr := []) (w1 := [(mo, .inr (3, [.ref b1, .ref b2, .ref b3, .ref b4, .int (nI 0), .int (nI no), .int (nI np), .int 1])), (b1, .inl (cI, 200, .inl fh)), (b2, .inl (cI, 200, .inl fo)), (b3, .inl (cI, 200, .inl fk)), (b4, .inl (cI, 200, .inl ft))]) (w' := [(mo, .inr (3, [.ref b1, .ref b2, .ref b3, .ref b4, .int (nI 0), .int (nI no), .int (nI np), .int 1])), (b1, .inl (cI, 200, .inl fh)), (b2, .inl (cI, 200, .inl fo)), (b3, .inl (cI, 200, .inl fk)), (b4, .inl (cI, 200, .inl ft))]) hF (c_X3_isWrong_k l D mo b1 b2 b3 b4 cI fh fo fk ft 0 no np th 1 (by decide)) (cwV 1 hts gX3_peek_X3_isWrong rfl rfl rfl (by decide +kernel) ⟨Nat.le_of_ble_eq_true rfl, Nat.le_of_ble_eq_true rfl⟩) hP hK hD hS hA hv [0, 1, 2, 3, 4] [] [0, 1, 2, 3, 4] [0] ⟨rfl, rfl, rfl, rfl, ⟨by decide, by decide, by decide⟩, by decide⟩ 0 3 rfl rfl rfl rfl hl.1 rfl (Nat.le_of_ble_eq_true rfl) dX3_peek_13 ⟨Nat.zero_le _, Nat.zero_le _⟩ (fun H locs hP hD hS => ?_)
  refine lv_if_eq (tgt := 23) hx hb dX3_peek_16 (by decide) (fun ht_ => absurd ht_ (by decide)) (fun _ => ?_)
  refine lv_iconst (v := 0) hx hb dX3_peek_19 (by decide) ?_
  refine lv_goto (tgt := 32) hx hb dX3_peek_20 (by decide) ?_
  exact hend _ _ _ _ _ hP hD hS (rfl) dX3_peek_32
set_option maxHeartbeats 4000000 in
set_option maxRecDepth 100000 in
theorem c_X3_poll (l : Launch) (D : va_G) (mo b1 b2 b3 b4 : Nat) (cI : ClassId) (fh fo fk ft : Nat → Int32) (nh no np : Nat) (th : Int32) (h1c : 1 ≤ nh) (hn9 : nh ≤ 200) : mI l yX3_poll wsX3_poll ({ frames := 1, cells := 0, slots := 0, locals := 23 }) [.ref mo] D [(cI, .int)] [(mo, .inr (3, [.ref b1, .ref b2, .ref b3, .ref b4, .int (nI nh), .int (nI no), .int (nI np), .int th])), (b1, .inl (cI, 200, .inl fh)), (b2, .inl (cI, 200, .inl fo)), (b3, .inl (cI, 200, .inl fk)), (b4, .inl (cI, 200, .inl ft))] [(mo, .inr (3, [.ref b1, .ref b2, .ref b3, .ref b4, .int (nI (nh - 1)), .int (nI no), .int (nI np), .int (nI 0)])), (b1, .inl (cI, 200, .inl (s_rm fh (s_lp fh (nh - 1)) nh))), (b2, .inl (cI, 200, .inl fo)), (b3, .inl (cI, 200, .inl fk)), (b4, .inl (cI, 200, .inl ft))] (fh (s_lp fh (nh - 1))) := by
  refine hI_body (cc := cX3_poll) (maxL := 1) (by decide) rfl (Nat.le_of_ble_eq_true rfl) (rfl) ?_
  intro p e s m below meth cd A ls Q hat hA hP hK hD hS hl hend
  obtain ⟨hF, hr, hlocks, hv⟩ := id hat
  obtain ⟨hx, hb, hml, hown, hts⟩ := id hF
  have hown : s.vm.findClass RX3 = some m.cls := hown
  have hl : lv_has ls 1 [(0, .ref mo)] := hl
  have hP : va_P D vwCl [(mo, .inr (3, [.ref b1, .ref b2, .ref b3, .ref b4, .int (nI nh), .int (nI no), .int (nI np), .int th])), (b1, .inl (cI, 200, .inl fh)), (b2, .inl (cI, 200, .inl fo)), (b3, .inl (cI, 200, .inl fk)), (b4, .inl (cI, 200, .inl ft))] s.heap := hP
  have hD : va_D A [(mo, .inr (3, [.ref b1, .ref b2, .ref b3, .ref b4, .int (nI nh), .int (nI no), .int (nI np), .int th])), (b1, .inl (cI, 200, .inl fh)), (b2, .inl (cI, 200, .inl fo)), (b3, .inl (cI, 200, .inl fk)), (b4, .inl (cI, 200, .inl ft))] := hD
  have iX3 : ∀ w ∈ wsX30, w ∈ wsX3_poll := by decide +kernel
  have k26 := hts (.fieldLink RX3 26 "HeapAndDequeModel" "held" "I") (by decide +kernel)
  refine lv_aload_n hx hb dX3_poll_0 rfl (lv_at hl 0 rfl) ?_
  refine lv_aload_n hx hb dX3_poll_1 rfl (lv_at hl 0 rfl) ?_
  refine va_get (D := D) (ci := 3) (v := .int (nI nh)) (C := RX3) (T := TX3) (N := 8) hx hb hts iX3 hown hK hP 0 rfl rfl 4 (by decide) k26 (fun _ h9 => h9) rfl dX3_poll_2 ?_
  refine lv_if_ne (tgt := 12) hx hb dX3_poll_5 (by decide) (fun _ => ?_) (fun hn => absurd hn (nI_ne0 (by omega) (by omega)))
  refine lv_iconst (v := nI 0) hx hb dX3_poll_12 (by decide +kernel) ?_
  refine hc_iV (As := [.int (nI 0)]) (rest := []) (wc := [(mo, .inr (3, [.ref b1, .ref b2, .ref b3, .ref b4, .int (nI nh), .int (nI no), .int (nI np), .int th])), (b1, .inl (cI, 200, .inl fh)), (b2, .inl (cI, 200, .inl fo)), (b3, .inl (cI, 200, .inl fk)), (b4, .inl (cI, 200, .inl ft))]) (wr := []) (w1 := [(mo, .inr (3, [.ref b1, .ref b2, .ref b3, .ref b4, .int (nI nh), .int (nI no), .int (nI np), .int (nI 0)])), (b1, .inl (cI, 200, .inl fh)), (b2, .inl (cI, 200, .inl fo)), (b3, .inl (cI, 200, .inl fk)), (b4, .inl (cI, 200, .inl ft))]) (w' := [(mo, .inr (3, [.ref b1, .ref b2, .ref b3, .ref b4, .int (nI nh), .int (nI no), .int (nI np), .int (nI 0)])), (b1, .inl (cI, 200, .inl fh)), (b2, .inl (cI, 200, .inl fo)), (b3, .inl (cI, 200, .inl fk)), (b4, .inl (cI, 200, .inl ft))]) hF (c_X3_isWrong_z l D mo b1 b2 b3 b4 cI fh fo fk ft nh no np th ) (cwV 1 hts gX3_poll_X3_isWrong rfl rfl rfl (by decide +kernel) ⟨Nat.le_of_ble_eq_true rfl, Nat.le_of_ble_eq_true rfl⟩) hP hK hD hS hA hv [0, 1, 2, 3, 4] [] [0, 1, 2, 3, 4] [0] ⟨rfl, rfl, rfl, rfl, ⟨by decide, by decide, by decide⟩, by decide⟩ 0 3 rfl rfl rfl rfl hl.1 rfl (Nat.le_of_ble_eq_true rfl) dX3_poll_13 ⟨Nat.zero_le _, Nat.zero_le _⟩ (fun H locs hP hD hS => ?_)
  refine lv_if_eq (tgt := 23) hx hb dX3_poll_16 (by decide) (fun _ => ?_) (fun hn => absurd (rfl) hn)
  refine lv_aload_n hx hb dX3_poll_23 rfl (lv_at hl 0 rfl) ?_
  refine lv_aload_n hx hb dX3_poll_24 rfl (lv_at hl 0 rfl) ?_
  refine hc_iV (As := []) (rest := [.ref mo]) (wc := [(mo, .inr (3, [.ref b1, .ref b2, .ref b3, .ref b4, .int (nI nh), .int (nI no), .int (nI np), .int (nI 0)])), (b1, .inl (cI, 200, .inl fh)), (b2, .inl (cI, 200, .inl fo)), (b3, .inl (cI, 200, .inl fk)), (b4, .inl (cI, 200, .inl ft))]) (wr := []) (w1 := [(mo, .inr (3, [.ref b1, .ref b2, .ref b3, .ref b4, .int (nI nh), .int (nI no), .int (nI np), .int (nI 0)])), (b1, .inl (cI, 200, .inl fh)), (b2, .inl (cI, 200, .inl fo)), (b3, .inl (cI, 200, .inl fk)), (b4, .inl (cI, 200, .inl ft))]) (w' := [(mo, .inr (3, [.ref b1, .ref b2, .ref b3, .ref b4, .int (nI nh), .int (nI no), .int (nI np), .int (nI 0)])), (b1, .inl (cI, 200, .inl fh)), (b2, .inl (cI, 200, .inl fo)), (b3, .inl (cI, 200, .inl fk)), (b4, .inl (cI, 200, .inl ft))]) hF (c_X3_leastPlace l D mo b1 b2 b3 b4 cI fh fo fk ft nh no np (nI 0) hn9) (cwV 0 hts gX3_poll_X3_leastPlace rfl rfl rfl (by decide +kernel) ⟨Nat.le_of_ble_eq_true rfl, Nat.le_of_ble_eq_true rfl⟩) hP hK hD hS hA hv [0, 1, 2, 3, 4] [] [0, 1, 2, 3, 4] [0] ⟨rfl, rfl, rfl, rfl, ⟨by decide, by decide, by decide⟩, by decide⟩ 0 3 rfl rfl rfl rfl hl.1 rfl (Nat.le_of_ble_eq_true rfl) dX3_poll_25 ⟨Nat.zero_le _, Nat.zero_le _⟩ (fun H locs hP hD hS => ?_)
  refine hc_iV (As := [.int (nI (s_lp fh (nh - 1)))]) (rest := []) (wc := [(mo, .inr (3, [.ref b1, .ref b2, .ref b3, .ref b4, .int (nI nh), .int (nI no), .int (nI np), .int (nI 0)])), (b1, .inl (cI, 200, .inl fh)), (b2, .inl (cI, 200, .inl fo)), (b3, .inl (cI, 200, .inl fk)), (b4, .inl (cI, 200, .inl ft))]) (wr := []) (w1 := [(mo, .inr (3, [.ref b1, .ref b2, .ref b3, .ref b4, .int (nI (nh - 1)), .int (nI no), .int (nI np), .int (nI 0)])), (b1, .inl (cI, 200, .inl (s_rm fh (s_lp fh (nh - 1)) nh))), (b2, .inl (cI, 200, .inl fo)), (b3, .inl (cI, 200, .inl fk)), (b4, .inl (cI, 200, .inl ft))]) (w' := [(mo, .inr (3, [.ref b1, .ref b2, .ref b3, .ref b4, .int (nI (nh - 1)), .int (nI no), .int (nI np), .int (nI 0)])), (b1, .inl (cI, 200, .inl (s_rm fh (s_lp fh (nh - 1)) nh))), (b2, .inl (cI, 200, .inl fo)), (b3, .inl (cI, 200, .inl fk)), (b4, .inl (cI, 200, .inl ft))]) hF (c_X3_takeHeld l D mo b1 b2 b3 b4 cI fh fo fk ft nh no np (nI 0) (s_lp fh (nh - 1)) (by have := s_lp_le fh (nh - 1); omega) hn9) (cwV 1 hts gX3_poll_X3_takeHeld rfl rfl rfl (by decide +kernel) ⟨Nat.le_of_ble_eq_true rfl, Nat.le_of_ble_eq_true rfl⟩) hP hK hD hS hA hv [0, 1, 2, 3, 4] [] [0, 1, 2, 3, 4] [0] ⟨rfl, rfl, rfl, rfl, ⟨by decide, by decide, by decide⟩, by decide⟩ 0 3 rfl rfl rfl rfl hl.1 rfl (Nat.le_of_ble_eq_true rfl) dX3_poll_28 ⟨Nat.zero_le _, Nat.zero_le _⟩ (fun H locs hP hD hS => ?_)
  exact hend _ _ _ _ _ hP hD hS (rfl) dX3_poll_31
set_option maxHeartbeats 4000000 in
set_option maxRecDepth 100000 in
theorem c_X3_poll_x (l : Launch) (D : va_G) (mo b1 b2 b3 b4 : Nat) (cI : ClassId) (fh fo fk ft : Nat → Int32) (no np : Nat) (th : Int32) : mI l yX3_poll wsX3_poll ({ frames := 1, cells := 0, slots := 0, locals := 21 }) [.ref mo] D [(cI, .int)] [(mo, .inr (3, [.ref b1, .ref b2, .ref b3, .ref b4, .int (nI 0), .int (nI no), .int (nI np), .int th])), (b1, .inl (cI, 200, .inl fh)), (b2, .inl (cI, 200, .inl fo)), (b3, .inl (cI, 200, .inl fk)), (b4, .inl (cI, 200, .inl ft))] [(mo, .inr (3, [.ref b1, .ref b2, .ref b3, .ref b4, .int (nI 0), .int (nI no), .int (nI np), .int 1])), (b1, .inl (cI, 200, .inl fh)), (b2, .inl (cI, 200, .inl fo)), (b3, .inl (cI, 200, .inl fk)), (b4, .inl (cI, 200, .inl ft))] (0) := by
  refine hI_body (cc := cX3_poll) (maxL := 1) (by decide) rfl (Nat.le_of_ble_eq_true rfl) (rfl) ?_
  intro p e s m below meth cd A ls Q hat hA hP hK hD hS hl hend
  obtain ⟨hF, hr, hlocks, hv⟩ := id hat
  obtain ⟨hx, hb, hml, hown, hts⟩ := id hF
  have hown : s.vm.findClass RX3 = some m.cls := hown
  have hl : lv_has ls 1 [(0, .ref mo)] := hl
  have hP : va_P D vwCl [(mo, .inr (3, [.ref b1, .ref b2, .ref b3, .ref b4, .int (nI 0), .int (nI no), .int (nI np), .int th])), (b1, .inl (cI, 200, .inl fh)), (b2, .inl (cI, 200, .inl fo)), (b3, .inl (cI, 200, .inl fk)), (b4, .inl (cI, 200, .inl ft))] s.heap := hP
  have hD : va_D A [(mo, .inr (3, [.ref b1, .ref b2, .ref b3, .ref b4, .int (nI 0), .int (nI no), .int (nI np), .int th])), (b1, .inl (cI, 200, .inl fh)), (b2, .inl (cI, 200, .inl fo)), (b3, .inl (cI, 200, .inl fk)), (b4, .inl (cI, 200, .inl ft))] := hD
  have iX3 : ∀ w ∈ wsX30, w ∈ wsX3_poll := by decide +kernel
  have k26 := hts (.fieldLink RX3 26 "HeapAndDequeModel" "held" "I") (by decide +kernel)
  refine lv_aload_n hx hb dX3_poll_0 rfl (lv_at hl 0 rfl) ?_
  refine lv_aload_n hx hb dX3_poll_1 rfl (lv_at hl 0 rfl) ?_
  refine va_get (D := D) (ci := 3) (v := .int (nI 0)) (C := RX3) (T := TX3) (N := 8) hx hb hts iX3 hown hK hP 0 rfl rfl 4 (by decide) k26 (fun _ h9 => h9) rfl dX3_poll_2 ?_
  refine lv_if_ne (tgt := 12) hx hb dX3_poll_5 (by decide) (fun ht_ => absurd (nI_0) ht_) (fun _ => ?_)
  refine lv_iconst (v := 1) hx hb dX3_poll_8 (by decide) ?_
  refine lv_goto (tgt := 13) hx hb dX3_poll_9 (by decide) ?_
  refine hc_iV (As := [.int 1]) (rest := []) (wc := [(mo, .inr (3, [.ref b1, .ref b2, .ref b3, .ref b4, .int (nI 0), .int (nI no), .int (nI np), .int th])), (b1, .inl (cI, 200, .inl fh)), (b2, .inl (cI, 200, .inl fo)), (b3, .inl (cI, 200, .inl fk)), (b4, .inl (cI, 200, .inl ft))]) (wr := []) (w1 := [(mo, .inr (3, [.ref b1, .ref b2, .ref b3, .ref b4, .int (nI 0), .int (nI no), .int (nI np), .int 1])), (b1, .inl (cI, 200, .inl fh)), (b2, .inl (cI, 200, .inl fo)), (b3, .inl (cI, 200, .inl fk)), (b4, .inl (cI, 200, .inl ft))]) (w' := [(mo, .inr (3, [.ref b1, .ref b2, .ref b3, .ref b4, .int (nI 0), .int (nI no), .int (nI np), .int 1])), (b1, .inl (cI, 200, .inl fh)), (b2, .inl (cI, 200, .inl fo)), (b3, .inl (cI, 200, .inl fk)), (b4, .inl (cI, 200, .inl ft))]) hF (c_X3_isWrong_k l D mo b1 b2 b3 b4 cI fh fo fk ft 0 no np th 1 (by decide)) (cwV 1 hts gX3_poll_X3_isWrong rfl rfl rfl (by decide +kernel) ⟨Nat.le_of_ble_eq_true rfl, Nat.le_of_ble_eq_true rfl⟩) hP hK hD hS hA hv [0, 1, 2, 3, 4] [] [0, 1, 2, 3, 4] [0] ⟨rfl, rfl, rfl, rfl, ⟨by decide, by decide, by decide⟩, by decide⟩ 0 3 rfl rfl rfl rfl hl.1 rfl (Nat.le_of_ble_eq_true rfl) dX3_poll_13 ⟨Nat.zero_le _, Nat.zero_le _⟩ (fun H locs hP hD hS => ?_)
  refine lv_if_eq (tgt := 23) hx hb dX3_poll_16 (by decide) (fun ht_ => absurd ht_ (by decide)) (fun _ => ?_)
  refine lv_iconst (v := 0) hx hb dX3_poll_19 (by decide) ?_
  refine lv_goto (tgt := 31) hx hb dX3_poll_20 (by decide) ?_
  exact hend _ _ _ _ _ hP hD hS (rfl) dX3_poll_31
set_option maxHeartbeats 4000000 in
set_option maxRecDepth 100000 in
theorem c_X3_remove_n (l : Launch) (D : va_G) (mo b1 b2 b3 b4 : Nat) (cI : ClassId) (fh fo fk ft : Nat → Int32) (nh no np : Nat) (th : Int32) (x : Int32) (hn9 : nh ≤ 200) (hf : s_fI fh x nh 0 = none) : mI l yX3_remove wsX3_remove ({ frames := 1, cells := 0, slots := 0, locals := 23 }) [.ref mo, .int x] D [(cI, .int)] [(mo, .inr (3, [.ref b1, .ref b2, .ref b3, .ref b4, .int (nI nh), .int (nI no), .int (nI np), .int th])), (b1, .inl (cI, 200, .inl fh)), (b2, .inl (cI, 200, .inl fo)), (b3, .inl (cI, 200, .inl fk)), (b4, .inl (cI, 200, .inl ft))] [(mo, .inr (3, [.ref b1, .ref b2, .ref b3, .ref b4, .int (nI nh), .int (nI no), .int (nI np), .int (nI 0)])), (b1, .inl (cI, 200, .inl fh)), (b2, .inl (cI, 200, .inl fo)), (b3, .inl (cI, 200, .inl fk)), (b4, .inl (cI, 200, .inl ft))] (0) := by
  refine hI_body (cc := cX3_remove) (maxL := 3) (by decide) rfl (Nat.le_of_ble_eq_true rfl) (by decide +kernel) ?_
  intro p e s m below meth cd A ls Q hat hA hP hK hD hS hl hend
  obtain ⟨hF, hr, hlocks, hv⟩ := id hat
  obtain ⟨hx, hb, hml, hown, hts⟩ := id hF
  have hown : s.vm.findClass RX3 = some m.cls := hown
  have hl : lv_has ls 3 [(0, .ref mo), (1, .int x)] := hl
  have hP : va_P D vwCl [(mo, .inr (3, [.ref b1, .ref b2, .ref b3, .ref b4, .int (nI nh), .int (nI no), .int (nI np), .int th])), (b1, .inl (cI, 200, .inl fh)), (b2, .inl (cI, 200, .inl fo)), (b3, .inl (cI, 200, .inl fk)), (b4, .inl (cI, 200, .inl ft))] s.heap := hP
  have hD : va_D A [(mo, .inr (3, [.ref b1, .ref b2, .ref b3, .ref b4, .int (nI nh), .int (nI no), .int (nI np), .int th])), (b1, .inl (cI, 200, .inl fh)), (b2, .inl (cI, 200, .inl fo)), (b3, .inl (cI, 200, .inl fk)), (b4, .inl (cI, 200, .inl ft))] := hD
  have iX3 : ∀ w ∈ wsX30, w ∈ wsX3_remove := by decide +kernel
  have k22 := hts (.fieldLink RX3 22 "HeapAndDequeModel" "thrown" "I") (by decide +kernel)
  refine lv_aload_n hx hb dX3_remove_0 rfl (lv_at hl 0 rfl) ?_
  refine lv_iconst (v := nI 0) hx hb dX3_remove_1 (by decide +kernel) ?_
  refine va_put (D := D) (ci := 3) (v := .int (nI 0)) (ty := .int) (C := RX3) (T := TX3) (N := 8) hx hb hts iX3 tyX3 tyX3_ok nmX3 hown hK hP hD hS 0 rfl rfl 7 (by decide) k22 (fun _ h9 => h9) rfl (by decide +kernel) rfl rfl (Nat.le_of_ble_eq_true rfl) dX3_remove_2 (fun H locs hP hD hS => ?_)
  have hP : va_P D vwCl [(mo, .inr (3, [.ref b1, .ref b2, .ref b3, .ref b4, .int (nI nh), .int (nI no), .int (nI np), .int (nI 0)])), (b1, .inl (cI, 200, .inl fh)), (b2, .inl (cI, 200, .inl fo)), (b3, .inl (cI, 200, .inl fk)), (b4, .inl (cI, 200, .inl ft))] H := hP
  have hD : va_D A [(mo, .inr (3, [.ref b1, .ref b2, .ref b3, .ref b4, .int (nI nh), .int (nI no), .int (nI np), .int (nI 0)])), (b1, .inl (cI, 200, .inl fh)), (b2, .inl (cI, 200, .inl fo)), (b3, .inl (cI, 200, .inl fk)), (b4, .inl (cI, 200, .inl ft))] := hD
  refine lv_aload_n hx hb dX3_remove_5 rfl (lv_at hl 0 rfl) ?_
  refine lv_iload_n hx hb dX3_remove_6 rfl (lv_at hl 1 rfl) ?_
  refine hc_iV (As := [.int x]) (rest := []) (wc := [(mo, .inr (3, [.ref b1, .ref b2, .ref b3, .ref b4, .int (nI nh), .int (nI no), .int (nI np), .int (nI 0)])), (b1, .inl (cI, 200, .inl fh)), (b2, .inl (cI, 200, .inl fo)), (b3, .inl (cI, 200, .inl fk)), (b4, .inl (cI, 200, .inl ft))]) (wr := []) (w1 := [(mo, .inr (3, [.ref b1, .ref b2, .ref b3, .ref b4, .int (nI nh), .int (nI no), .int (nI np), .int (nI 0)])), (b1, .inl (cI, 200, .inl fh)), (b2, .inl (cI, 200, .inl fo)), (b3, .inl (cI, 200, .inl fk)), (b4, .inl (cI, 200, .inl ft))]) (w' := [(mo, .inr (3, [.ref b1, .ref b2, .ref b3, .ref b4, .int (nI nh), .int (nI no), .int (nI np), .int (nI 0)])), (b1, .inl (cI, 200, .inl fh)), (b2, .inl (cI, 200, .inl fo)), (b3, .inl (cI, 200, .inl fk)), (b4, .inl (cI, 200, .inl ft))]) hF (c_X3_heldPlace l D mo b1 b2 b3 b4 cI fh fo fk ft nh no np (nI 0) x hn9) (cwV 1 hts gX3_remove_X3_heldPlace rfl rfl rfl (by decide +kernel) ⟨Nat.le_of_ble_eq_true rfl, Nat.le_of_ble_eq_true rfl⟩) hP hK hD hS hA hv [0, 1, 2, 3, 4] [] [0, 1, 2, 3, 4] [0] ⟨rfl, rfl, rfl, rfl, ⟨by decide, by decide, by decide⟩, by decide⟩ 0 3 rfl rfl rfl rfl hl.1 rfl (Nat.le_of_ble_eq_true rfl) dX3_remove_7 ⟨Nat.zero_le _, Nat.zero_le _⟩ (fun H locs hP hD hS => ?_)
  refine hw_i (y := s_o none) (by rw [hf]) ?_
  refine lv_istore_n (lv' := [(2, .int (s_o none)), (0, .ref mo), (1, .int x)]) hx hb dX3_remove_10 rfl hl (by decide) rfl (fun ls hl => ?_)
  refine lv_iload_n hx hb dX3_remove_11 rfl (lv_at hl 0 rfl) ?_
  refine lv_if_ge (tgt := 17) hx hb dX3_remove_12 (by decide) (fun ht_ => absurd ht_ (by decide +kernel)) (fun _ => ?_)
  refine lv_iconst (v := 0) hx hb dX3_remove_15 (by decide) ?_
  exact hend _ _ _ _ _ hP hD hS (rfl) dX3_remove_16
set_option maxHeartbeats 4000000 in
set_option maxRecDepth 100000 in
theorem c_X3_remove_s (l : Launch) (D : va_G) (mo b1 b2 b3 b4 : Nat) (cI : ClassId) (fh fo fk ft : Nat → Int32) (nh no np : Nat) (th : Int32) (x : Int32) (q9 : Nat) (hn9 : nh ≤ 200) (hf : s_fI fh x nh 0 = some q9) : mI l yX3_remove wsX3_remove ({ frames := 1, cells := 0, slots := 0, locals := 23 }) [.ref mo, .int x] D [(cI, .int)] [(mo, .inr (3, [.ref b1, .ref b2, .ref b3, .ref b4, .int (nI nh), .int (nI no), .int (nI np), .int th])), (b1, .inl (cI, 200, .inl fh)), (b2, .inl (cI, 200, .inl fo)), (b3, .inl (cI, 200, .inl fk)), (b4, .inl (cI, 200, .inl ft))] [(mo, .inr (3, [.ref b1, .ref b2, .ref b3, .ref b4, .int (nI (nh - 1)), .int (nI no), .int (nI np), .int (nI 0)])), (b1, .inl (cI, 200, .inl (s_rm fh q9 nh))), (b2, .inl (cI, 200, .inl fo)), (b3, .inl (cI, 200, .inl fk)), (b4, .inl (cI, 200, .inl ft))] (1) := by
  refine hI_body (cc := cX3_remove) (maxL := 3) (by decide) rfl (Nat.le_of_ble_eq_true rfl) (by decide +kernel) ?_
  intro p e s m below meth cd A ls Q hat hA hP hK hD hS hl hend
  obtain ⟨hF, hr, hlocks, hv⟩ := id hat
  obtain ⟨hx, hb, hml, hown, hts⟩ := id hF
  have hown : s.vm.findClass RX3 = some m.cls := hown
  have hl : lv_has ls 3 [(0, .ref mo), (1, .int x)] := hl
  have hP : va_P D vwCl [(mo, .inr (3, [.ref b1, .ref b2, .ref b3, .ref b4, .int (nI nh), .int (nI no), .int (nI np), .int th])), (b1, .inl (cI, 200, .inl fh)), (b2, .inl (cI, 200, .inl fo)), (b3, .inl (cI, 200, .inl fk)), (b4, .inl (cI, 200, .inl ft))] s.heap := hP
  have hD : va_D A [(mo, .inr (3, [.ref b1, .ref b2, .ref b3, .ref b4, .int (nI nh), .int (nI no), .int (nI np), .int th])), (b1, .inl (cI, 200, .inl fh)), (b2, .inl (cI, 200, .inl fo)), (b3, .inl (cI, 200, .inl fk)), (b4, .inl (cI, 200, .inl ft))] := hD
  have iX3 : ∀ w ∈ wsX30, w ∈ wsX3_remove := by decide +kernel
  have k22 := hts (.fieldLink RX3 22 "HeapAndDequeModel" "thrown" "I") (by decide +kernel)
  refine lv_aload_n hx hb dX3_remove_0 rfl (lv_at hl 0 rfl) ?_
  refine lv_iconst (v := nI 0) hx hb dX3_remove_1 (by decide +kernel) ?_
  refine va_put (D := D) (ci := 3) (v := .int (nI 0)) (ty := .int) (C := RX3) (T := TX3) (N := 8) hx hb hts iX3 tyX3 tyX3_ok nmX3 hown hK hP hD hS 0 rfl rfl 7 (by decide) k22 (fun _ h9 => h9) rfl (by decide +kernel) rfl rfl (Nat.le_of_ble_eq_true rfl) dX3_remove_2 (fun H locs hP hD hS => ?_)
  have hP : va_P D vwCl [(mo, .inr (3, [.ref b1, .ref b2, .ref b3, .ref b4, .int (nI nh), .int (nI no), .int (nI np), .int (nI 0)])), (b1, .inl (cI, 200, .inl fh)), (b2, .inl (cI, 200, .inl fo)), (b3, .inl (cI, 200, .inl fk)), (b4, .inl (cI, 200, .inl ft))] H := hP
  have hD : va_D A [(mo, .inr (3, [.ref b1, .ref b2, .ref b3, .ref b4, .int (nI nh), .int (nI no), .int (nI np), .int (nI 0)])), (b1, .inl (cI, 200, .inl fh)), (b2, .inl (cI, 200, .inl fo)), (b3, .inl (cI, 200, .inl fk)), (b4, .inl (cI, 200, .inl ft))] := hD
  refine lv_aload_n hx hb dX3_remove_5 rfl (lv_at hl 0 rfl) ?_
  refine lv_iload_n hx hb dX3_remove_6 rfl (lv_at hl 1 rfl) ?_
  refine hc_iV (As := [.int x]) (rest := []) (wc := [(mo, .inr (3, [.ref b1, .ref b2, .ref b3, .ref b4, .int (nI nh), .int (nI no), .int (nI np), .int (nI 0)])), (b1, .inl (cI, 200, .inl fh)), (b2, .inl (cI, 200, .inl fo)), (b3, .inl (cI, 200, .inl fk)), (b4, .inl (cI, 200, .inl ft))]) (wr := []) (w1 := [(mo, .inr (3, [.ref b1, .ref b2, .ref b3, .ref b4, .int (nI nh), .int (nI no), .int (nI np), .int (nI 0)])), (b1, .inl (cI, 200, .inl fh)), (b2, .inl (cI, 200, .inl fo)), (b3, .inl (cI, 200, .inl fk)), (b4, .inl (cI, 200, .inl ft))]) (w' := [(mo, .inr (3, [.ref b1, .ref b2, .ref b3, .ref b4, .int (nI nh), .int (nI no), .int (nI np), .int (nI 0)])), (b1, .inl (cI, 200, .inl fh)), (b2, .inl (cI, 200, .inl fo)), (b3, .inl (cI, 200, .inl fk)), (b4, .inl (cI, 200, .inl ft))]) hF (c_X3_heldPlace l D mo b1 b2 b3 b4 cI fh fo fk ft nh no np (nI 0) x hn9) (cwV 1 hts gX3_remove_X3_heldPlace rfl rfl rfl (by decide +kernel) ⟨Nat.le_of_ble_eq_true rfl, Nat.le_of_ble_eq_true rfl⟩) hP hK hD hS hA hv [0, 1, 2, 3, 4] [] [0, 1, 2, 3, 4] [0] ⟨rfl, rfl, rfl, rfl, ⟨by decide, by decide, by decide⟩, by decide⟩ 0 3 rfl rfl rfl rfl hl.1 rfl (Nat.le_of_ble_eq_true rfl) dX3_remove_7 ⟨Nat.zero_le _, Nat.zero_le _⟩ (fun H locs hP hD hS => ?_)
  have hq : q9 < nh := by have := (s_fI_spec hf).2.1; omega
  refine hw_i (y := nI q9) (by rw [hf]; rfl) ?_
  refine lv_istore_n (lv' := [(2, .int (nI q9)), (0, .ref mo), (1, .int x)]) hx hb dX3_remove_10 rfl hl (by decide) rfl (fun ls hl => ?_)
  refine lv_iload_n hx hb dX3_remove_11 rfl (lv_at hl 0 rfl) ?_
  refine lv_if_ge (tgt := 17) hx hb dX3_remove_12 (by decide) (fun _ => ?_) (fun hn => absurd (nI_pos' (by omega)) hn)
  refine lv_aload_n hx hb dX3_remove_17 rfl (lv_at hl 1 rfl) ?_
  refine lv_iload_n hx hb dX3_remove_18 rfl (lv_at hl 0 rfl) ?_
  refine hc_iV (As := [.int (nI q9)]) (rest := []) (wc := [(mo, .inr (3, [.ref b1, .ref b2, .ref b3, .ref b4, .int (nI nh), .int (nI no), .int (nI np), .int (nI 0)])), (b1, .inl (cI, 200, .inl fh)), (b2, .inl (cI, 200, .inl fo)), (b3, .inl (cI, 200, .inl fk)), (b4, .inl (cI, 200, .inl ft))]) (wr := []) (w1 := [(mo, .inr (3, [.ref b1, .ref b2, .ref b3, .ref b4, .int (nI (nh - 1)), .int (nI no), .int (nI np), .int (nI 0)])), (b1, .inl (cI, 200, .inl (s_rm fh q9 nh))), (b2, .inl (cI, 200, .inl fo)), (b3, .inl (cI, 200, .inl fk)), (b4, .inl (cI, 200, .inl ft))]) (w' := [(mo, .inr (3, [.ref b1, .ref b2, .ref b3, .ref b4, .int (nI (nh - 1)), .int (nI no), .int (nI np), .int (nI 0)])), (b1, .inl (cI, 200, .inl (s_rm fh q9 nh))), (b2, .inl (cI, 200, .inl fo)), (b3, .inl (cI, 200, .inl fk)), (b4, .inl (cI, 200, .inl ft))]) hF (c_X3_takeHeld l D mo b1 b2 b3 b4 cI fh fo fk ft nh no np (nI 0) q9 hq hn9) (cwV 1 hts gX3_remove_X3_takeHeld rfl rfl rfl (by decide +kernel) ⟨Nat.le_of_ble_eq_true rfl, Nat.le_of_ble_eq_true rfl⟩) hP hK hD hS hA hv [0, 1, 2, 3, 4] [] [0, 1, 2, 3, 4] [0] ⟨rfl, rfl, rfl, rfl, ⟨by decide, by decide, by decide⟩, by decide⟩ 0 3 rfl rfl rfl rfl hl.1 rfl (Nat.le_of_ble_eq_true rfl) dX3_remove_19 ⟨Nat.zero_le _, Nat.zero_le _⟩ (fun H locs hP hD hS => ?_)
  refine lv_pop hx hb dX3_remove_22 rfl ?_
  refine lv_iconst (v := 1) hx hb dX3_remove_23 (by decide) ?_
  exact hend _ _ _ _ _ hP hD hS (rfl) dX3_remove_24
set_option maxHeartbeats 4000000 in
set_option maxRecDepth 100000 in
theorem c_X3_removeFirstOccurrence_n (l : Launch) (D : va_G) (mo b1 b2 b3 b4 : Nat) (cI : ClassId) (fh fo fk ft : Nat → Int32) (nh no np : Nat) (th : Int32) (x : Int32) (hn9 : no ≤ 200) (hf : s_fI fo x no 0 = none) : mI l yX3_removeFirstOccurrence wsX3_removeFirstOccurrence ({ frames := 1, cells := 0, slots := 0, locals := 23 }) [.ref mo, .int x] D [(cI, .int)] [(mo, .inr (3, [.ref b1, .ref b2, .ref b3, .ref b4, .int (nI nh), .int (nI no), .int (nI np), .int th])), (b1, .inl (cI, 200, .inl fh)), (b2, .inl (cI, 200, .inl fo)), (b3, .inl (cI, 200, .inl fk)), (b4, .inl (cI, 200, .inl ft))] [(mo, .inr (3, [.ref b1, .ref b2, .ref b3, .ref b4, .int (nI nh), .int (nI no), .int (nI np), .int (nI 0)])), (b1, .inl (cI, 200, .inl fh)), (b2, .inl (cI, 200, .inl fo)), (b3, .inl (cI, 200, .inl fk)), (b4, .inl (cI, 200, .inl ft))] (0) := by
  refine hI_body (cc := cX3_removeFirstOccurrence) (maxL := 3) (by decide) rfl (Nat.le_of_ble_eq_true rfl) (by decide +kernel) ?_
  intro p e s m below meth cd A ls Q hat hA hP hK hD hS hl hend
  obtain ⟨hF, hr, hlocks, hv⟩ := id hat
  obtain ⟨hx, hb, hml, hown, hts⟩ := id hF
  have hown : s.vm.findClass RX3 = some m.cls := hown
  have hl : lv_has ls 3 [(0, .ref mo), (1, .int x)] := hl
  have hP : va_P D vwCl [(mo, .inr (3, [.ref b1, .ref b2, .ref b3, .ref b4, .int (nI nh), .int (nI no), .int (nI np), .int th])), (b1, .inl (cI, 200, .inl fh)), (b2, .inl (cI, 200, .inl fo)), (b3, .inl (cI, 200, .inl fk)), (b4, .inl (cI, 200, .inl ft))] s.heap := hP
  have hD : va_D A [(mo, .inr (3, [.ref b1, .ref b2, .ref b3, .ref b4, .int (nI nh), .int (nI no), .int (nI np), .int th])), (b1, .inl (cI, 200, .inl fh)), (b2, .inl (cI, 200, .inl fo)), (b3, .inl (cI, 200, .inl fk)), (b4, .inl (cI, 200, .inl ft))] := hD
  have iX3 : ∀ w ∈ wsX30, w ∈ wsX3_removeFirstOccurrence := by decide +kernel
  have k22 := hts (.fieldLink RX3 22 "HeapAndDequeModel" "thrown" "I") (by decide +kernel)
  refine lv_aload_n hx hb dX3_removeFirstOccurrence_0 rfl (lv_at hl 0 rfl) ?_
  refine lv_iconst (v := nI 0) hx hb dX3_removeFirstOccurrence_1 (by decide +kernel) ?_
  refine va_put (D := D) (ci := 3) (v := .int (nI 0)) (ty := .int) (C := RX3) (T := TX3) (N := 8) hx hb hts iX3 tyX3 tyX3_ok nmX3 hown hK hP hD hS 0 rfl rfl 7 (by decide) k22 (fun _ h9 => h9) rfl (by decide +kernel) rfl rfl (Nat.le_of_ble_eq_true rfl) dX3_removeFirstOccurrence_2 (fun H locs hP hD hS => ?_)
  have hP : va_P D vwCl [(mo, .inr (3, [.ref b1, .ref b2, .ref b3, .ref b4, .int (nI nh), .int (nI no), .int (nI np), .int (nI 0)])), (b1, .inl (cI, 200, .inl fh)), (b2, .inl (cI, 200, .inl fo)), (b3, .inl (cI, 200, .inl fk)), (b4, .inl (cI, 200, .inl ft))] H := hP
  have hD : va_D A [(mo, .inr (3, [.ref b1, .ref b2, .ref b3, .ref b4, .int (nI nh), .int (nI no), .int (nI np), .int (nI 0)])), (b1, .inl (cI, 200, .inl fh)), (b2, .inl (cI, 200, .inl fo)), (b3, .inl (cI, 200, .inl fk)), (b4, .inl (cI, 200, .inl ft))] := hD
  refine lv_aload_n hx hb dX3_removeFirstOccurrence_5 rfl (lv_at hl 0 rfl) ?_
  refine lv_iload_n hx hb dX3_removeFirstOccurrence_6 rfl (lv_at hl 1 rfl) ?_
  refine hc_iV (As := [.int x]) (rest := []) (wc := [(mo, .inr (3, [.ref b1, .ref b2, .ref b3, .ref b4, .int (nI nh), .int (nI no), .int (nI np), .int (nI 0)])), (b1, .inl (cI, 200, .inl fh)), (b2, .inl (cI, 200, .inl fo)), (b3, .inl (cI, 200, .inl fk)), (b4, .inl (cI, 200, .inl ft))]) (wr := []) (w1 := [(mo, .inr (3, [.ref b1, .ref b2, .ref b3, .ref b4, .int (nI nh), .int (nI no), .int (nI np), .int (nI 0)])), (b1, .inl (cI, 200, .inl fh)), (b2, .inl (cI, 200, .inl fo)), (b3, .inl (cI, 200, .inl fk)), (b4, .inl (cI, 200, .inl ft))]) (w' := [(mo, .inr (3, [.ref b1, .ref b2, .ref b3, .ref b4, .int (nI nh), .int (nI no), .int (nI np), .int (nI 0)])), (b1, .inl (cI, 200, .inl fh)), (b2, .inl (cI, 200, .inl fo)), (b3, .inl (cI, 200, .inl fk)), (b4, .inl (cI, 200, .inl ft))]) hF (c_X3_firstPlace l D mo b1 b2 b3 b4 cI fh fo fk ft nh no np (nI 0) x hn9) (cwV 1 hts gX3_removeFirstOccurrence_X3_firstPlace rfl rfl rfl (by decide +kernel) ⟨Nat.le_of_ble_eq_true rfl, Nat.le_of_ble_eq_true rfl⟩) hP hK hD hS hA hv [0, 1, 2, 3, 4] [] [0, 1, 2, 3, 4] [0] ⟨rfl, rfl, rfl, rfl, ⟨by decide, by decide, by decide⟩, by decide⟩ 0 3 rfl rfl rfl rfl hl.1 rfl (Nat.le_of_ble_eq_true rfl) dX3_removeFirstOccurrence_7 ⟨Nat.zero_le _, Nat.zero_le _⟩ (fun H locs hP hD hS => ?_)
  refine hw_i (y := s_o none) (by rw [hf]) ?_
  refine lv_istore_n (lv' := [(2, .int (s_o none)), (0, .ref mo), (1, .int x)]) hx hb dX3_removeFirstOccurrence_10 rfl hl (by decide) rfl (fun ls hl => ?_)
  refine lv_iload_n hx hb dX3_removeFirstOccurrence_11 rfl (lv_at hl 0 rfl) ?_
  refine lv_if_ge (tgt := 17) hx hb dX3_removeFirstOccurrence_12 (by decide) (fun ht_ => absurd ht_ (by decide +kernel)) (fun _ => ?_)
  refine lv_iconst (v := 0) hx hb dX3_removeFirstOccurrence_15 (by decide) ?_
  exact hend _ _ _ _ _ hP hD hS (rfl) dX3_removeFirstOccurrence_16
set_option maxHeartbeats 4000000 in
set_option maxRecDepth 100000 in
theorem c_X3_removeFirstOccurrence_s (l : Launch) (D : va_G) (mo b1 b2 b3 b4 : Nat) (cI : ClassId) (fh fo fk ft : Nat → Int32) (nh no np : Nat) (th : Int32) (x : Int32) (q9 : Nat) (hn9 : no ≤ 200) (hf : s_fI fo x no 0 = some q9) : mI l yX3_removeFirstOccurrence wsX3_removeFirstOccurrence ({ frames := 1, cells := 0, slots := 0, locals := 23 }) [.ref mo, .int x] D [(cI, .int)] [(mo, .inr (3, [.ref b1, .ref b2, .ref b3, .ref b4, .int (nI nh), .int (nI no), .int (nI np), .int th])), (b1, .inl (cI, 200, .inl fh)), (b2, .inl (cI, 200, .inl fo)), (b3, .inl (cI, 200, .inl fk)), (b4, .inl (cI, 200, .inl ft))] [(mo, .inr (3, [.ref b1, .ref b2, .ref b3, .ref b4, .int (nI nh), .int (nI (no - 1)), .int (nI np), .int (nI 0)])), (b1, .inl (cI, 200, .inl fh)), (b2, .inl (cI, 200, .inl (s_rm fo q9 no))), (b3, .inl (cI, 200, .inl fk)), (b4, .inl (cI, 200, .inl ft))] (1) := by
  refine hI_body (cc := cX3_removeFirstOccurrence) (maxL := 3) (by decide) rfl (Nat.le_of_ble_eq_true rfl) (by decide +kernel) ?_
  intro p e s m below meth cd A ls Q hat hA hP hK hD hS hl hend
  obtain ⟨hF, hr, hlocks, hv⟩ := id hat
  obtain ⟨hx, hb, hml, hown, hts⟩ := id hF
  have hown : s.vm.findClass RX3 = some m.cls := hown
  have hl : lv_has ls 3 [(0, .ref mo), (1, .int x)] := hl
  have hP : va_P D vwCl [(mo, .inr (3, [.ref b1, .ref b2, .ref b3, .ref b4, .int (nI nh), .int (nI no), .int (nI np), .int th])), (b1, .inl (cI, 200, .inl fh)), (b2, .inl (cI, 200, .inl fo)), (b3, .inl (cI, 200, .inl fk)), (b4, .inl (cI, 200, .inl ft))] s.heap := hP
  have hD : va_D A [(mo, .inr (3, [.ref b1, .ref b2, .ref b3, .ref b4, .int (nI nh), .int (nI no), .int (nI np), .int th])), (b1, .inl (cI, 200, .inl fh)), (b2, .inl (cI, 200, .inl fo)), (b3, .inl (cI, 200, .inl fk)), (b4, .inl (cI, 200, .inl ft))] := hD
  have iX3 : ∀ w ∈ wsX30, w ∈ wsX3_removeFirstOccurrence := by decide +kernel
  have k22 := hts (.fieldLink RX3 22 "HeapAndDequeModel" "thrown" "I") (by decide +kernel)
  refine lv_aload_n hx hb dX3_removeFirstOccurrence_0 rfl (lv_at hl 0 rfl) ?_
  refine lv_iconst (v := nI 0) hx hb dX3_removeFirstOccurrence_1 (by decide +kernel) ?_
  refine va_put (D := D) (ci := 3) (v := .int (nI 0)) (ty := .int) (C := RX3) (T := TX3) (N := 8) hx hb hts iX3 tyX3 tyX3_ok nmX3 hown hK hP hD hS 0 rfl rfl 7 (by decide) k22 (fun _ h9 => h9) rfl (by decide +kernel) rfl rfl (Nat.le_of_ble_eq_true rfl) dX3_removeFirstOccurrence_2 (fun H locs hP hD hS => ?_)
  have hP : va_P D vwCl [(mo, .inr (3, [.ref b1, .ref b2, .ref b3, .ref b4, .int (nI nh), .int (nI no), .int (nI np), .int (nI 0)])), (b1, .inl (cI, 200, .inl fh)), (b2, .inl (cI, 200, .inl fo)), (b3, .inl (cI, 200, .inl fk)), (b4, .inl (cI, 200, .inl ft))] H := hP
  have hD : va_D A [(mo, .inr (3, [.ref b1, .ref b2, .ref b3, .ref b4, .int (nI nh), .int (nI no), .int (nI np), .int (nI 0)])), (b1, .inl (cI, 200, .inl fh)), (b2, .inl (cI, 200, .inl fo)), (b3, .inl (cI, 200, .inl fk)), (b4, .inl (cI, 200, .inl ft))] := hD
  refine lv_aload_n hx hb dX3_removeFirstOccurrence_5 rfl (lv_at hl 0 rfl) ?_
  refine lv_iload_n hx hb dX3_removeFirstOccurrence_6 rfl (lv_at hl 1 rfl) ?_
  refine hc_iV (As := [.int x]) (rest := []) (wc := [(mo, .inr (3, [.ref b1, .ref b2, .ref b3, .ref b4, .int (nI nh), .int (nI no), .int (nI np), .int (nI 0)])), (b1, .inl (cI, 200, .inl fh)), (b2, .inl (cI, 200, .inl fo)), (b3, .inl (cI, 200, .inl fk)), (b4, .inl (cI, 200, .inl ft))]) (wr := []) (w1 := [(mo, .inr (3, [.ref b1, .ref b2, .ref b3, .ref b4, .int (nI nh), .int (nI no), .int (nI np), .int (nI 0)])), (b1, .inl (cI, 200, .inl fh)), (b2, .inl (cI, 200, .inl fo)), (b3, .inl (cI, 200, .inl fk)), (b4, .inl (cI, 200, .inl ft))]) (w' := [(mo, .inr (3, [.ref b1, .ref b2, .ref b3, .ref b4, .int (nI nh), .int (nI no), .int (nI np), .int (nI 0)])), (b1, .inl (cI, 200, .inl fh)), (b2, .inl (cI, 200, .inl fo)), (b3, .inl (cI, 200, .inl fk)), (b4, .inl (cI, 200, .inl ft))]) hF (c_X3_firstPlace l D mo b1 b2 b3 b4 cI fh fo fk ft nh no np (nI 0) x hn9) (cwV 1 hts gX3_removeFirstOccurrence_X3_firstPlace rfl rfl rfl (by decide +kernel) ⟨Nat.le_of_ble_eq_true rfl, Nat.le_of_ble_eq_true rfl⟩) hP hK hD hS hA hv [0, 1, 2, 3, 4] [] [0, 1, 2, 3, 4] [0] ⟨rfl, rfl, rfl, rfl, ⟨by decide, by decide, by decide⟩, by decide⟩ 0 3 rfl rfl rfl rfl hl.1 rfl (Nat.le_of_ble_eq_true rfl) dX3_removeFirstOccurrence_7 ⟨Nat.zero_le _, Nat.zero_le _⟩ (fun H locs hP hD hS => ?_)
  have hq : q9 < no := by have := (s_fI_spec hf).2.1; omega
  refine hw_i (y := nI q9) (by rw [hf]; rfl) ?_
  refine lv_istore_n (lv' := [(2, .int (nI q9)), (0, .ref mo), (1, .int x)]) hx hb dX3_removeFirstOccurrence_10 rfl hl (by decide) rfl (fun ls hl => ?_)
  refine lv_iload_n hx hb dX3_removeFirstOccurrence_11 rfl (lv_at hl 0 rfl) ?_
  refine lv_if_ge (tgt := 17) hx hb dX3_removeFirstOccurrence_12 (by decide) (fun _ => ?_) (fun hn => absurd (nI_pos' (by omega)) hn)
  refine lv_aload_n hx hb dX3_removeFirstOccurrence_17 rfl (lv_at hl 1 rfl) ?_
  refine lv_iload_n hx hb dX3_removeFirstOccurrence_18 rfl (lv_at hl 0 rfl) ?_
  refine hc_iV (As := [.int (nI q9)]) (rest := []) (wc := [(mo, .inr (3, [.ref b1, .ref b2, .ref b3, .ref b4, .int (nI nh), .int (nI no), .int (nI np), .int (nI 0)])), (b1, .inl (cI, 200, .inl fh)), (b2, .inl (cI, 200, .inl fo)), (b3, .inl (cI, 200, .inl fk)), (b4, .inl (cI, 200, .inl ft))]) (wr := []) (w1 := [(mo, .inr (3, [.ref b1, .ref b2, .ref b3, .ref b4, .int (nI nh), .int (nI (no - 1)), .int (nI np), .int (nI 0)])), (b1, .inl (cI, 200, .inl fh)), (b2, .inl (cI, 200, .inl (s_rm fo q9 no))), (b3, .inl (cI, 200, .inl fk)), (b4, .inl (cI, 200, .inl ft))]) (w' := [(mo, .inr (3, [.ref b1, .ref b2, .ref b3, .ref b4, .int (nI nh), .int (nI (no - 1)), .int (nI np), .int (nI 0)])), (b1, .inl (cI, 200, .inl fh)), (b2, .inl (cI, 200, .inl (s_rm fo q9 no))), (b3, .inl (cI, 200, .inl fk)), (b4, .inl (cI, 200, .inl ft))]) hF (c_X3_takeRow l D mo b1 b2 b3 b4 cI fh fo fk ft nh no np (nI 0) q9 hq hn9) (cwV 1 hts gX3_removeFirstOccurrence_X3_takeRow rfl rfl rfl (by decide +kernel) ⟨Nat.le_of_ble_eq_true rfl, Nat.le_of_ble_eq_true rfl⟩) hP hK hD hS hA hv [0, 1, 2, 3, 4] [] [0, 1, 2, 3, 4] [0] ⟨rfl, rfl, rfl, rfl, ⟨by decide, by decide, by decide⟩, by decide⟩ 0 3 rfl rfl rfl rfl hl.1 rfl (Nat.le_of_ble_eq_true rfl) dX3_removeFirstOccurrence_19 ⟨Nat.zero_le _, Nat.zero_le _⟩ (fun H locs hP hD hS => ?_)
  refine lv_pop hx hb dX3_removeFirstOccurrence_22 rfl ?_
  refine lv_iconst (v := 1) hx hb dX3_removeFirstOccurrence_23 (by decide) ?_
  exact hend _ _ _ _ _ hP hD hS (rfl) dX3_removeFirstOccurrence_24
set_option maxHeartbeats 4000000 in
set_option maxRecDepth 100000 in
theorem c_X3_contains (l : Launch) (D : va_G) (mo b1 b2 b3 b4 : Nat) (cI : ClassId) (fh fo fk ft : Nat → Int32) (nh no np : Nat) (th : Int32) (x : Int32) (hn9 : nh ≤ 200) : mI l yX3_contains wsX3_contains ({ frames := 1, cells := 0, slots := 0, locals := 22 }) [.ref mo, .int x] D [(cI, .int)] [(mo, .inr (3, [.ref b1, .ref b2, .ref b3, .ref b4, .int (nI nh), .int (nI no), .int (nI np), .int th])), (b1, .inl (cI, 200, .inl fh)), (b2, .inl (cI, 200, .inl fo)), (b3, .inl (cI, 200, .inl fk)), (b4, .inl (cI, 200, .inl ft))] [(mo, .inr (3, [.ref b1, .ref b2, .ref b3, .ref b4, .int (nI nh), .int (nI no), .int (nI np), .int (nI 0)])), (b1, .inl (cI, 200, .inl fh)), (b2, .inl (cI, 200, .inl fo)), (b3, .inl (cI, 200, .inl fk)), (b4, .inl (cI, 200, .inl ft))] (s_b (s_fI fh x nh 0).isSome) := by
  refine hI_body (cc := cX3_contains) (maxL := 2) (by decide) rfl (Nat.le_of_ble_eq_true rfl) (s_b_n _) ?_
  intro p e s m below meth cd A ls Q hat hA hP hK hD hS hl hend
  obtain ⟨hF, hr, hlocks, hv⟩ := id hat
  obtain ⟨hx, hb, hml, hown, hts⟩ := id hF
  have hown : s.vm.findClass RX3 = some m.cls := hown
  have hl : lv_has ls 2 [(0, .ref mo), (1, .int x)] := hl
  have hP : va_P D vwCl [(mo, .inr (3, [.ref b1, .ref b2, .ref b3, .ref b4, .int (nI nh), .int (nI no), .int (nI np), .int th])), (b1, .inl (cI, 200, .inl fh)), (b2, .inl (cI, 200, .inl fo)), (b3, .inl (cI, 200, .inl fk)), (b4, .inl (cI, 200, .inl ft))] s.heap := hP
  have hD : va_D A [(mo, .inr (3, [.ref b1, .ref b2, .ref b3, .ref b4, .int (nI nh), .int (nI no), .int (nI np), .int th])), (b1, .inl (cI, 200, .inl fh)), (b2, .inl (cI, 200, .inl fo)), (b3, .inl (cI, 200, .inl fk)), (b4, .inl (cI, 200, .inl ft))] := hD
  have iX3 : ∀ w ∈ wsX30, w ∈ wsX3_contains := by decide +kernel
  have k22 := hts (.fieldLink RX3 22 "HeapAndDequeModel" "thrown" "I") (by decide +kernel)
  refine lv_aload_n hx hb dX3_contains_0 rfl (lv_at hl 0 rfl) ?_
  refine lv_iconst (v := nI 0) hx hb dX3_contains_1 (by decide +kernel) ?_
  refine va_put (D := D) (ci := 3) (v := .int (nI 0)) (ty := .int) (C := RX3) (T := TX3) (N := 8) hx hb hts iX3 tyX3 tyX3_ok nmX3 hown hK hP hD hS 0 rfl rfl 7 (by decide) k22 (fun _ h9 => h9) rfl (by decide +kernel) rfl rfl (Nat.le_of_ble_eq_true rfl) dX3_contains_2 (fun H locs hP hD hS => ?_)
  have hP : va_P D vwCl [(mo, .inr (3, [.ref b1, .ref b2, .ref b3, .ref b4, .int (nI nh), .int (nI no), .int (nI np), .int (nI 0)])), (b1, .inl (cI, 200, .inl fh)), (b2, .inl (cI, 200, .inl fo)), (b3, .inl (cI, 200, .inl fk)), (b4, .inl (cI, 200, .inl ft))] H := hP
  have hD : va_D A [(mo, .inr (3, [.ref b1, .ref b2, .ref b3, .ref b4, .int (nI nh), .int (nI no), .int (nI np), .int (nI 0)])), (b1, .inl (cI, 200, .inl fh)), (b2, .inl (cI, 200, .inl fo)), (b3, .inl (cI, 200, .inl fk)), (b4, .inl (cI, 200, .inl ft))] := hD
  refine lv_aload_n hx hb dX3_contains_5 rfl (lv_at hl 0 rfl) ?_
  refine lv_iload_n hx hb dX3_contains_6 rfl (lv_at hl 1 rfl) ?_
  refine hc_iV (As := [.int x]) (rest := []) (wc := [(mo, .inr (3, [.ref b1, .ref b2, .ref b3, .ref b4, .int (nI nh), .int (nI no), .int (nI np), .int (nI 0)])), (b1, .inl (cI, 200, .inl fh)), (b2, .inl (cI, 200, .inl fo)), (b3, .inl (cI, 200, .inl fk)), (b4, .inl (cI, 200, .inl ft))]) (wr := []) (w1 := [(mo, .inr (3, [.ref b1, .ref b2, .ref b3, .ref b4, .int (nI nh), .int (nI no), .int (nI np), .int (nI 0)])), (b1, .inl (cI, 200, .inl fh)), (b2, .inl (cI, 200, .inl fo)), (b3, .inl (cI, 200, .inl fk)), (b4, .inl (cI, 200, .inl ft))]) (w' := [(mo, .inr (3, [.ref b1, .ref b2, .ref b3, .ref b4, .int (nI nh), .int (nI no), .int (nI np), .int (nI 0)])), (b1, .inl (cI, 200, .inl fh)), (b2, .inl (cI, 200, .inl fo)), (b3, .inl (cI, 200, .inl fk)), (b4, .inl (cI, 200, .inl ft))]) hF (c_X3_heldPlace l D mo b1 b2 b3 b4 cI fh fo fk ft nh no np (nI 0) x hn9) (cwV 1 hts gX3_contains_X3_heldPlace rfl rfl rfl (by decide +kernel) ⟨Nat.le_of_ble_eq_true rfl, Nat.le_of_ble_eq_true rfl⟩) hP hK hD hS hA hv [0, 1, 2, 3, 4] [] [0, 1, 2, 3, 4] [0] ⟨rfl, rfl, rfl, rfl, ⟨by decide, by decide, by decide⟩, by decide⟩ 0 3 rfl rfl rfl rfl hl.1 rfl (Nat.le_of_ble_eq_true rfl) dX3_contains_7 ⟨Nat.zero_le _, Nat.zero_le _⟩ (fun H locs hP hD hS => ?_)
  rcases hf : s_fI fh x nh 0 with _ | q9
  · refine lv_if_lt (tgt := 17) hx hb dX3_contains_10 (by decide) (fun _ => ?_) (fun hn => absurd (s_o_lt) hn)
    refine lv_iconst (v := 0) hx hb dX3_contains_17 (by decide) ?_
    exact hend _ _ _ _ _ hP hD hS (by rw [hf]; rfl) dX3_contains_18
  · refine lv_if_lt (tgt := 17) hx hb dX3_contains_10 (by decide) (fun ht_ => absurd ht_ (s_o_ge q9 (by have := (s_fI_spec hf).2.1; omega))) (fun _ => ?_)
    refine lv_iconst (v := 1) hx hb dX3_contains_13 (by decide) ?_
    refine lv_goto (tgt := 18) hx hb dX3_contains_14 (by decide) ?_
    exact hend _ _ _ _ _ hP hD hS (by rw [hf]; rfl) dX3_contains_18
set_option maxHeartbeats 4000000 in
set_option maxRecDepth 100000 in
theorem c_X3_has (l : Launch) (D : va_G) (mo b1 b2 b3 b4 : Nat) (cI : ClassId) (fh fo fk ft : Nat → Int32) (nh no np : Nat) (th : Int32) (x : Int32) (hn9 : no ≤ 200) : mI l yX3_has wsX3_has ({ frames := 1, cells := 0, slots := 0, locals := 22 }) [.ref mo, .int x] D [(cI, .int)] [(mo, .inr (3, [.ref b1, .ref b2, .ref b3, .ref b4, .int (nI nh), .int (nI no), .int (nI np), .int th])), (b1, .inl (cI, 200, .inl fh)), (b2, .inl (cI, 200, .inl fo)), (b3, .inl (cI, 200, .inl fk)), (b4, .inl (cI, 200, .inl ft))] [(mo, .inr (3, [.ref b1, .ref b2, .ref b3, .ref b4, .int (nI nh), .int (nI no), .int (nI np), .int (nI 0)])), (b1, .inl (cI, 200, .inl fh)), (b2, .inl (cI, 200, .inl fo)), (b3, .inl (cI, 200, .inl fk)), (b4, .inl (cI, 200, .inl ft))] (s_b (s_fI fo x no 0).isSome) := by
  refine hI_body (cc := cX3_has) (maxL := 2) (by decide) rfl (Nat.le_of_ble_eq_true rfl) (s_b_n _) ?_
  intro p e s m below meth cd A ls Q hat hA hP hK hD hS hl hend
  obtain ⟨hF, hr, hlocks, hv⟩ := id hat
  obtain ⟨hx, hb, hml, hown, hts⟩ := id hF
  have hown : s.vm.findClass RX3 = some m.cls := hown
  have hl : lv_has ls 2 [(0, .ref mo), (1, .int x)] := hl
  have hP : va_P D vwCl [(mo, .inr (3, [.ref b1, .ref b2, .ref b3, .ref b4, .int (nI nh), .int (nI no), .int (nI np), .int th])), (b1, .inl (cI, 200, .inl fh)), (b2, .inl (cI, 200, .inl fo)), (b3, .inl (cI, 200, .inl fk)), (b4, .inl (cI, 200, .inl ft))] s.heap := hP
  have hD : va_D A [(mo, .inr (3, [.ref b1, .ref b2, .ref b3, .ref b4, .int (nI nh), .int (nI no), .int (nI np), .int th])), (b1, .inl (cI, 200, .inl fh)), (b2, .inl (cI, 200, .inl fo)), (b3, .inl (cI, 200, .inl fk)), (b4, .inl (cI, 200, .inl ft))] := hD
  have iX3 : ∀ w ∈ wsX30, w ∈ wsX3_has := by decide +kernel
  have k22 := hts (.fieldLink RX3 22 "HeapAndDequeModel" "thrown" "I") (by decide +kernel)
  refine lv_aload_n hx hb dX3_has_0 rfl (lv_at hl 0 rfl) ?_
  refine lv_iconst (v := nI 0) hx hb dX3_has_1 (by decide +kernel) ?_
  refine va_put (D := D) (ci := 3) (v := .int (nI 0)) (ty := .int) (C := RX3) (T := TX3) (N := 8) hx hb hts iX3 tyX3 tyX3_ok nmX3 hown hK hP hD hS 0 rfl rfl 7 (by decide) k22 (fun _ h9 => h9) rfl (by decide +kernel) rfl rfl (Nat.le_of_ble_eq_true rfl) dX3_has_2 (fun H locs hP hD hS => ?_)
  have hP : va_P D vwCl [(mo, .inr (3, [.ref b1, .ref b2, .ref b3, .ref b4, .int (nI nh), .int (nI no), .int (nI np), .int (nI 0)])), (b1, .inl (cI, 200, .inl fh)), (b2, .inl (cI, 200, .inl fo)), (b3, .inl (cI, 200, .inl fk)), (b4, .inl (cI, 200, .inl ft))] H := hP
  have hD : va_D A [(mo, .inr (3, [.ref b1, .ref b2, .ref b3, .ref b4, .int (nI nh), .int (nI no), .int (nI np), .int (nI 0)])), (b1, .inl (cI, 200, .inl fh)), (b2, .inl (cI, 200, .inl fo)), (b3, .inl (cI, 200, .inl fk)), (b4, .inl (cI, 200, .inl ft))] := hD
  refine lv_aload_n hx hb dX3_has_5 rfl (lv_at hl 0 rfl) ?_
  refine lv_iload_n hx hb dX3_has_6 rfl (lv_at hl 1 rfl) ?_
  refine hc_iV (As := [.int x]) (rest := []) (wc := [(mo, .inr (3, [.ref b1, .ref b2, .ref b3, .ref b4, .int (nI nh), .int (nI no), .int (nI np), .int (nI 0)])), (b1, .inl (cI, 200, .inl fh)), (b2, .inl (cI, 200, .inl fo)), (b3, .inl (cI, 200, .inl fk)), (b4, .inl (cI, 200, .inl ft))]) (wr := []) (w1 := [(mo, .inr (3, [.ref b1, .ref b2, .ref b3, .ref b4, .int (nI nh), .int (nI no), .int (nI np), .int (nI 0)])), (b1, .inl (cI, 200, .inl fh)), (b2, .inl (cI, 200, .inl fo)), (b3, .inl (cI, 200, .inl fk)), (b4, .inl (cI, 200, .inl ft))]) (w' := [(mo, .inr (3, [.ref b1, .ref b2, .ref b3, .ref b4, .int (nI nh), .int (nI no), .int (nI np), .int (nI 0)])), (b1, .inl (cI, 200, .inl fh)), (b2, .inl (cI, 200, .inl fo)), (b3, .inl (cI, 200, .inl fk)), (b4, .inl (cI, 200, .inl ft))]) hF (c_X3_firstPlace l D mo b1 b2 b3 b4 cI fh fo fk ft nh no np (nI 0) x hn9) (cwV 1 hts gX3_has_X3_firstPlace rfl rfl rfl (by decide +kernel) ⟨Nat.le_of_ble_eq_true rfl, Nat.le_of_ble_eq_true rfl⟩) hP hK hD hS hA hv [0, 1, 2, 3, 4] [] [0, 1, 2, 3, 4] [0] ⟨rfl, rfl, rfl, rfl, ⟨by decide, by decide, by decide⟩, by decide⟩ 0 3 rfl rfl rfl rfl hl.1 rfl (Nat.le_of_ble_eq_true rfl) dX3_has_7 ⟨Nat.zero_le _, Nat.zero_le _⟩ (fun H locs hP hD hS => ?_)
  rcases hf : s_fI fo x no 0 with _ | q9
  · refine lv_if_lt (tgt := 17) hx hb dX3_has_10 (by decide) (fun _ => ?_) (fun hn => absurd (s_o_lt) hn)
    refine lv_iconst (v := 0) hx hb dX3_has_17 (by decide) ?_
    exact hend _ _ _ _ _ hP hD hS (by rw [hf]; rfl) dX3_has_18
  · refine lv_if_lt (tgt := 17) hx hb dX3_has_10 (by decide) (fun ht_ => absurd ht_ (s_o_ge q9 (by have := (s_fI_spec hf).2.1; omega))) (fun _ => ?_)
    refine lv_iconst (v := 1) hx hb dX3_has_13 (by decide) ?_
    refine lv_goto (tgt := 18) hx hb dX3_has_14 (by decide) ?_
    exact hend _ _ _ _ _ hP hD hS (by rw [hf]; rfl) dX3_has_18
set_option maxHeartbeats 4000000 in
set_option maxRecDepth 100000 in
theorem c_X3_size (l : Launch) (D : va_G) (mo b1 b2 b3 b4 : Nat) (cI : ClassId) (fh fo fk ft : Nat → Int32) (nh no np : Nat) (th : Int32) : mI l yX3_size wsX3_size ({ frames := 0, cells := 0, slots := 0, locals := 0 }) [.ref mo] D [(cI, .int)] [(mo, .inr (3, [.ref b1, .ref b2, .ref b3, .ref b4, .int (nI nh), .int (nI no), .int (nI np), .int th])), (b1, .inl (cI, 200, .inl fh)), (b2, .inl (cI, 200, .inl fo)), (b3, .inl (cI, 200, .inl fk)), (b4, .inl (cI, 200, .inl ft))] [(mo, .inr (3, [.ref b1, .ref b2, .ref b3, .ref b4, .int (nI nh), .int (nI no), .int (nI np), .int (nI 0)])), (b1, .inl (cI, 200, .inl fh)), (b2, .inl (cI, 200, .inl fo)), (b3, .inl (cI, 200, .inl fk)), (b4, .inl (cI, 200, .inl ft))] (nI nh) := by
  refine hI_body (cc := cX3_size) (maxL := 1) (by decide) rfl (Nat.le_of_ble_eq_true rfl) (rfl) ?_
  intro p e s m below meth cd A ls Q hat hA hP hK hD hS hl hend
  obtain ⟨hF, hr, hlocks, hv⟩ := id hat
  obtain ⟨hx, hb, hml, hown, hts⟩ := id hF
  have hown : s.vm.findClass RX3 = some m.cls := hown
  have hl : lv_has ls 1 [(0, .ref mo)] := hl
  have hP : va_P D vwCl [(mo, .inr (3, [.ref b1, .ref b2, .ref b3, .ref b4, .int (nI nh), .int (nI no), .int (nI np), .int th])), (b1, .inl (cI, 200, .inl fh)), (b2, .inl (cI, 200, .inl fo)), (b3, .inl (cI, 200, .inl fk)), (b4, .inl (cI, 200, .inl ft))] s.heap := hP
  have hD : va_D A [(mo, .inr (3, [.ref b1, .ref b2, .ref b3, .ref b4, .int (nI nh), .int (nI no), .int (nI np), .int th])), (b1, .inl (cI, 200, .inl fh)), (b2, .inl (cI, 200, .inl fo)), (b3, .inl (cI, 200, .inl fk)), (b4, .inl (cI, 200, .inl ft))] := hD
  have iX3 : ∀ w ∈ wsX30, w ∈ wsX3_size := by decide +kernel
  have k22 := hts (.fieldLink RX3 22 "HeapAndDequeModel" "thrown" "I") (by decide +kernel)
  have k26 := hts (.fieldLink RX3 26 "HeapAndDequeModel" "held" "I") (by decide +kernel)
  refine lv_aload_n hx hb dX3_size_0 rfl (lv_at hl 0 rfl) ?_
  refine lv_iconst (v := nI 0) hx hb dX3_size_1 (by decide +kernel) ?_
  refine va_put (D := D) (ci := 3) (v := .int (nI 0)) (ty := .int) (C := RX3) (T := TX3) (N := 8) hx hb hts iX3 tyX3 tyX3_ok nmX3 hown hK hP hD hS 0 rfl rfl 7 (by decide) k22 (fun _ h9 => h9) rfl (by decide +kernel) rfl rfl (Nat.le_of_ble_eq_true rfl) dX3_size_2 (fun H locs hP hD hS => ?_)
  have hP : va_P D vwCl [(mo, .inr (3, [.ref b1, .ref b2, .ref b3, .ref b4, .int (nI nh), .int (nI no), .int (nI np), .int (nI 0)])), (b1, .inl (cI, 200, .inl fh)), (b2, .inl (cI, 200, .inl fo)), (b3, .inl (cI, 200, .inl fk)), (b4, .inl (cI, 200, .inl ft))] H := hP
  have hD : va_D A [(mo, .inr (3, [.ref b1, .ref b2, .ref b3, .ref b4, .int (nI nh), .int (nI no), .int (nI np), .int (nI 0)])), (b1, .inl (cI, 200, .inl fh)), (b2, .inl (cI, 200, .inl fo)), (b3, .inl (cI, 200, .inl fk)), (b4, .inl (cI, 200, .inl ft))] := hD
  refine lv_aload_n hx hb dX3_size_5 rfl (lv_at hl 0 rfl) ?_
  refine va_get (D := D) (ci := 3) (v := .int (nI nh)) (C := RX3) (T := TX3) (N := 8) hx hb hts iX3 hown hK hP 0 rfl rfl 4 (by decide) k26 (fun _ h9 => h9) rfl dX3_size_6 ?_
  exact hend _ _ _ _ _ hP hD hS (rfl) dX3_size_9
set_option maxHeartbeats 4000000 in
set_option maxRecDepth 100000 in
theorem c_X3_sizePairs (l : Launch) (D : va_G) (mo b1 b2 b3 b4 : Nat) (cI : ClassId) (fh fo fk ft : Nat → Int32) (nh no np : Nat) (th : Int32) : mI l yX3_sizePairs wsX3_sizePairs ({ frames := 0, cells := 0, slots := 0, locals := 0 }) [.ref mo] D [(cI, .int)] [(mo, .inr (3, [.ref b1, .ref b2, .ref b3, .ref b4, .int (nI nh), .int (nI no), .int (nI np), .int th])), (b1, .inl (cI, 200, .inl fh)), (b2, .inl (cI, 200, .inl fo)), (b3, .inl (cI, 200, .inl fk)), (b4, .inl (cI, 200, .inl ft))] [(mo, .inr (3, [.ref b1, .ref b2, .ref b3, .ref b4, .int (nI nh), .int (nI no), .int (nI np), .int (nI 0)])), (b1, .inl (cI, 200, .inl fh)), (b2, .inl (cI, 200, .inl fo)), (b3, .inl (cI, 200, .inl fk)), (b4, .inl (cI, 200, .inl ft))] (nI np) := by
  refine hI_body (cc := cX3_sizePairs) (maxL := 1) (by decide) rfl (Nat.le_of_ble_eq_true rfl) (rfl) ?_
  intro p e s m below meth cd A ls Q hat hA hP hK hD hS hl hend
  obtain ⟨hF, hr, hlocks, hv⟩ := id hat
  obtain ⟨hx, hb, hml, hown, hts⟩ := id hF
  have hown : s.vm.findClass RX3 = some m.cls := hown
  have hl : lv_has ls 1 [(0, .ref mo)] := hl
  have hP : va_P D vwCl [(mo, .inr (3, [.ref b1, .ref b2, .ref b3, .ref b4, .int (nI nh), .int (nI no), .int (nI np), .int th])), (b1, .inl (cI, 200, .inl fh)), (b2, .inl (cI, 200, .inl fo)), (b3, .inl (cI, 200, .inl fk)), (b4, .inl (cI, 200, .inl ft))] s.heap := hP
  have hD : va_D A [(mo, .inr (3, [.ref b1, .ref b2, .ref b3, .ref b4, .int (nI nh), .int (nI no), .int (nI np), .int th])), (b1, .inl (cI, 200, .inl fh)), (b2, .inl (cI, 200, .inl fo)), (b3, .inl (cI, 200, .inl fk)), (b4, .inl (cI, 200, .inl ft))] := hD
  have iX3 : ∀ w ∈ wsX30, w ∈ wsX3_sizePairs := by decide +kernel
  have k22 := hts (.fieldLink RX3 22 "HeapAndDequeModel" "thrown" "I") (by decide +kernel)
  have k50 := hts (.fieldLink RX3 50 "HeapAndDequeModel" "pairs" "I") (by decide +kernel)
  refine lv_aload_n hx hb dX3_sizePairs_0 rfl (lv_at hl 0 rfl) ?_
  refine lv_iconst (v := nI 0) hx hb dX3_sizePairs_1 (by decide +kernel) ?_
  refine va_put (D := D) (ci := 3) (v := .int (nI 0)) (ty := .int) (C := RX3) (T := TX3) (N := 8) hx hb hts iX3 tyX3 tyX3_ok nmX3 hown hK hP hD hS 0 rfl rfl 7 (by decide) k22 (fun _ h9 => h9) rfl (by decide +kernel) rfl rfl (Nat.le_of_ble_eq_true rfl) dX3_sizePairs_2 (fun H locs hP hD hS => ?_)
  have hP : va_P D vwCl [(mo, .inr (3, [.ref b1, .ref b2, .ref b3, .ref b4, .int (nI nh), .int (nI no), .int (nI np), .int (nI 0)])), (b1, .inl (cI, 200, .inl fh)), (b2, .inl (cI, 200, .inl fo)), (b3, .inl (cI, 200, .inl fk)), (b4, .inl (cI, 200, .inl ft))] H := hP
  have hD : va_D A [(mo, .inr (3, [.ref b1, .ref b2, .ref b3, .ref b4, .int (nI nh), .int (nI no), .int (nI np), .int (nI 0)])), (b1, .inl (cI, 200, .inl fh)), (b2, .inl (cI, 200, .inl fo)), (b3, .inl (cI, 200, .inl fk)), (b4, .inl (cI, 200, .inl ft))] := hD
  refine lv_aload_n hx hb dX3_sizePairs_5 rfl (lv_at hl 0 rfl) ?_
  refine va_get (D := D) (ci := 3) (v := .int (nI np)) (C := RX3) (T := TX3) (N := 8) hx hb hts iX3 hown hK hP 0 rfl rfl 6 (by decide) k50 (fun _ h9 => h9) rfl dX3_sizePairs_6 ?_
  exact hend _ _ _ _ _ hP hD hS (rfl) dX3_sizePairs_9
set_option maxHeartbeats 4000000 in
set_option maxRecDepth 100000 in
theorem c_X3_length (l : Launch) (D : va_G) (mo b1 b2 b3 b4 : Nat) (cI : ClassId) (fh fo fk ft : Nat → Int32) (nh no np : Nat) (th : Int32) : mI l yX3_length wsX3_length ({ frames := 0, cells := 0, slots := 0, locals := 0 }) [.ref mo] D [(cI, .int)] [(mo, .inr (3, [.ref b1, .ref b2, .ref b3, .ref b4, .int (nI nh), .int (nI no), .int (nI np), .int th])), (b1, .inl (cI, 200, .inl fh)), (b2, .inl (cI, 200, .inl fo)), (b3, .inl (cI, 200, .inl fk)), (b4, .inl (cI, 200, .inl ft))] [(mo, .inr (3, [.ref b1, .ref b2, .ref b3, .ref b4, .int (nI nh), .int (nI no), .int (nI np), .int (nI 0)])), (b1, .inl (cI, 200, .inl fh)), (b2, .inl (cI, 200, .inl fo)), (b3, .inl (cI, 200, .inl fk)), (b4, .inl (cI, 200, .inl ft))] (nI no) := by
  refine hI_body (cc := cX3_length) (maxL := 1) (by decide) rfl (Nat.le_of_ble_eq_true rfl) (rfl) ?_
  intro p e s m below meth cd A ls Q hat hA hP hK hD hS hl hend
  obtain ⟨hF, hr, hlocks, hv⟩ := id hat
  obtain ⟨hx, hb, hml, hown, hts⟩ := id hF
  have hown : s.vm.findClass RX3 = some m.cls := hown
  have hl : lv_has ls 1 [(0, .ref mo)] := hl
  have hP : va_P D vwCl [(mo, .inr (3, [.ref b1, .ref b2, .ref b3, .ref b4, .int (nI nh), .int (nI no), .int (nI np), .int th])), (b1, .inl (cI, 200, .inl fh)), (b2, .inl (cI, 200, .inl fo)), (b3, .inl (cI, 200, .inl fk)), (b4, .inl (cI, 200, .inl ft))] s.heap := hP
  have hD : va_D A [(mo, .inr (3, [.ref b1, .ref b2, .ref b3, .ref b4, .int (nI nh), .int (nI no), .int (nI np), .int th])), (b1, .inl (cI, 200, .inl fh)), (b2, .inl (cI, 200, .inl fo)), (b3, .inl (cI, 200, .inl fk)), (b4, .inl (cI, 200, .inl ft))] := hD
  have iX3 : ∀ w ∈ wsX30, w ∈ wsX3_length := by decide +kernel
  have k22 := hts (.fieldLink RX3 22 "HeapAndDequeModel" "thrown" "I") (by decide +kernel)
  have k47 := hts (.fieldLink RX3 47 "HeapAndDequeModel" "many" "I") (by decide +kernel)
  refine lv_aload_n hx hb dX3_length_0 rfl (lv_at hl 0 rfl) ?_
  refine lv_iconst (v := nI 0) hx hb dX3_length_1 (by decide +kernel) ?_
  refine va_put (D := D) (ci := 3) (v := .int (nI 0)) (ty := .int) (C := RX3) (T := TX3) (N := 8) hx hb hts iX3 tyX3 tyX3_ok nmX3 hown hK hP hD hS 0 rfl rfl 7 (by decide) k22 (fun _ h9 => h9) rfl (by decide +kernel) rfl rfl (Nat.le_of_ble_eq_true rfl) dX3_length_2 (fun H locs hP hD hS => ?_)
  have hP : va_P D vwCl [(mo, .inr (3, [.ref b1, .ref b2, .ref b3, .ref b4, .int (nI nh), .int (nI no), .int (nI np), .int (nI 0)])), (b1, .inl (cI, 200, .inl fh)), (b2, .inl (cI, 200, .inl fo)), (b3, .inl (cI, 200, .inl fk)), (b4, .inl (cI, 200, .inl ft))] H := hP
  have hD : va_D A [(mo, .inr (3, [.ref b1, .ref b2, .ref b3, .ref b4, .int (nI nh), .int (nI no), .int (nI np), .int (nI 0)])), (b1, .inl (cI, 200, .inl fh)), (b2, .inl (cI, 200, .inl fo)), (b3, .inl (cI, 200, .inl fk)), (b4, .inl (cI, 200, .inl ft))] := hD
  refine lv_aload_n hx hb dX3_length_5 rfl (lv_at hl 0 rfl) ?_
  refine va_get (D := D) (ci := 3) (v := .int (nI no)) (C := RX3) (T := TX3) (N := 8) hx hb hts iX3 hown hK hP 0 rfl rfl 5 (by decide) k47 (fun _ h9 => h9) rfl dX3_length_6 ?_
  exact hend _ _ _ _ _ hP hD hS (rfl) dX3_length_9
set_option maxHeartbeats 4000000 in
set_option maxRecDepth 100000 in
theorem c_X3_clear (l : Launch) (D : va_G) (mo b1 b2 b3 b4 : Nat) (cI : ClassId) (fh fo fk ft : Nat → Int32) (nh no np : Nat) (th : Int32) : mI l yX3_clear wsX3_clear ({ frames := 0, cells := 0, slots := 0, locals := 0 }) [.ref mo] D [(cI, .int)] [(mo, .inr (3, [.ref b1, .ref b2, .ref b3, .ref b4, .int (nI nh), .int (nI no), .int (nI np), .int th])), (b1, .inl (cI, 200, .inl fh)), (b2, .inl (cI, 200, .inl fo)), (b3, .inl (cI, 200, .inl fk)), (b4, .inl (cI, 200, .inl ft))] [(mo, .inr (3, [.ref b1, .ref b2, .ref b3, .ref b4, .int (nI 0), .int (nI no), .int (nI np), .int (nI 0)])), (b1, .inl (cI, 200, .inl fh)), (b2, .inl (cI, 200, .inl fo)), (b3, .inl (cI, 200, .inl fk)), (b4, .inl (cI, 200, .inl ft))] (nI nh) := by
  refine hI_body (cc := cX3_clear) (maxL := 2) (by decide) rfl (Nat.le_of_ble_eq_true rfl) (rfl) ?_
  intro p e s m below meth cd A ls Q hat hA hP hK hD hS hl hend
  obtain ⟨hF, hr, hlocks, hv⟩ := id hat
  obtain ⟨hx, hb, hml, hown, hts⟩ := id hF
  have hown : s.vm.findClass RX3 = some m.cls := hown
  have hl : lv_has ls 2 [(0, .ref mo)] := hl
  have hP : va_P D vwCl [(mo, .inr (3, [.ref b1, .ref b2, .ref b3, .ref b4, .int (nI nh), .int (nI no), .int (nI np), .int th])), (b1, .inl (cI, 200, .inl fh)), (b2, .inl (cI, 200, .inl fo)), (b3, .inl (cI, 200, .inl fk)), (b4, .inl (cI, 200, .inl ft))] s.heap := hP
  have hD : va_D A [(mo, .inr (3, [.ref b1, .ref b2, .ref b3, .ref b4, .int (nI nh), .int (nI no), .int (nI np), .int th])), (b1, .inl (cI, 200, .inl fh)), (b2, .inl (cI, 200, .inl fo)), (b3, .inl (cI, 200, .inl fk)), (b4, .inl (cI, 200, .inl ft))] := hD
  have iX3 : ∀ w ∈ wsX30, w ∈ wsX3_clear := by decide +kernel
  have k22 := hts (.fieldLink RX3 22 "HeapAndDequeModel" "thrown" "I") (by decide +kernel)
  have k26 := hts (.fieldLink RX3 26 "HeapAndDequeModel" "held" "I") (by decide +kernel)
  refine lv_aload_n hx hb dX3_clear_0 rfl (lv_at hl 0 rfl) ?_
  refine lv_iconst (v := nI 0) hx hb dX3_clear_1 (by decide +kernel) ?_
  refine va_put (D := D) (ci := 3) (v := .int (nI 0)) (ty := .int) (C := RX3) (T := TX3) (N := 8) hx hb hts iX3 tyX3 tyX3_ok nmX3 hown hK hP hD hS 0 rfl rfl 7 (by decide) k22 (fun _ h9 => h9) rfl (by decide +kernel) rfl rfl (Nat.le_of_ble_eq_true rfl) dX3_clear_2 (fun H locs hP hD hS => ?_)
  have hP : va_P D vwCl [(mo, .inr (3, [.ref b1, .ref b2, .ref b3, .ref b4, .int (nI nh), .int (nI no), .int (nI np), .int (nI 0)])), (b1, .inl (cI, 200, .inl fh)), (b2, .inl (cI, 200, .inl fo)), (b3, .inl (cI, 200, .inl fk)), (b4, .inl (cI, 200, .inl ft))] H := hP
  have hD : va_D A [(mo, .inr (3, [.ref b1, .ref b2, .ref b3, .ref b4, .int (nI nh), .int (nI no), .int (nI np), .int (nI 0)])), (b1, .inl (cI, 200, .inl fh)), (b2, .inl (cI, 200, .inl fo)), (b3, .inl (cI, 200, .inl fk)), (b4, .inl (cI, 200, .inl ft))] := hD
  refine lv_aload_n hx hb dX3_clear_5 rfl (lv_at hl 0 rfl) ?_
  refine va_get (D := D) (ci := 3) (v := .int (nI nh)) (C := RX3) (T := TX3) (N := 8) hx hb hts iX3 hown hK hP 0 rfl rfl 4 (by decide) k26 (fun _ h9 => h9) rfl dX3_clear_6 ?_
  refine lv_istore_n (lv' := [(1, .int (nI nh)), (0, .ref mo)]) hx hb dX3_clear_9 rfl hl (by decide) rfl (fun ls hl => ?_)
  refine lv_aload_n hx hb dX3_clear_10 rfl (lv_at hl 1 rfl) ?_
  refine lv_iconst (v := nI 0) hx hb dX3_clear_11 (by decide +kernel) ?_
  refine va_put (D := D) (ci := 3) (v := .int (nI 0)) (ty := .int) (C := RX3) (T := TX3) (N := 8) hx hb hts iX3 tyX3 tyX3_ok nmX3 hown hK hP hD hS 0 rfl rfl 4 (by decide) k26 (fun _ h9 => h9) rfl (by decide +kernel) rfl rfl (Nat.le_of_ble_eq_true rfl) dX3_clear_12 (fun H locs hP hD hS => ?_)
  have hP : va_P D vwCl [(mo, .inr (3, [.ref b1, .ref b2, .ref b3, .ref b4, .int (nI 0), .int (nI no), .int (nI np), .int (nI 0)])), (b1, .inl (cI, 200, .inl fh)), (b2, .inl (cI, 200, .inl fo)), (b3, .inl (cI, 200, .inl fk)), (b4, .inl (cI, 200, .inl ft))] H := hP
  have hD : va_D A [(mo, .inr (3, [.ref b1, .ref b2, .ref b3, .ref b4, .int (nI 0), .int (nI no), .int (nI np), .int (nI 0)])), (b1, .inl (cI, 200, .inl fh)), (b2, .inl (cI, 200, .inl fo)), (b3, .inl (cI, 200, .inl fk)), (b4, .inl (cI, 200, .inl ft))] := hD
  refine lv_iload_n hx hb dX3_clear_15 rfl (lv_at hl 0 rfl) ?_
  exact hend _ _ _ _ _ hP hD hS (rfl) dX3_clear_16
set_option maxHeartbeats 4000000 in
set_option maxRecDepth 100000 in
theorem c_X3_clearPairs (l : Launch) (D : va_G) (mo b1 b2 b3 b4 : Nat) (cI : ClassId) (fh fo fk ft : Nat → Int32) (nh no np : Nat) (th : Int32) : mI l yX3_clearPairs wsX3_clearPairs ({ frames := 0, cells := 0, slots := 0, locals := 0 }) [.ref mo] D [(cI, .int)] [(mo, .inr (3, [.ref b1, .ref b2, .ref b3, .ref b4, .int (nI nh), .int (nI no), .int (nI np), .int th])), (b1, .inl (cI, 200, .inl fh)), (b2, .inl (cI, 200, .inl fo)), (b3, .inl (cI, 200, .inl fk)), (b4, .inl (cI, 200, .inl ft))] [(mo, .inr (3, [.ref b1, .ref b2, .ref b3, .ref b4, .int (nI nh), .int (nI no), .int (nI 0), .int (nI 0)])), (b1, .inl (cI, 200, .inl fh)), (b2, .inl (cI, 200, .inl fo)), (b3, .inl (cI, 200, .inl fk)), (b4, .inl (cI, 200, .inl ft))] (nI np) := by
  refine hI_body (cc := cX3_clearPairs) (maxL := 2) (by decide) rfl (Nat.le_of_ble_eq_true rfl) (rfl) ?_
  intro p e s m below meth cd A ls Q hat hA hP hK hD hS hl hend
  obtain ⟨hF, hr, hlocks, hv⟩ := id hat
  obtain ⟨hx, hb, hml, hown, hts⟩ := id hF
  have hown : s.vm.findClass RX3 = some m.cls := hown
  have hl : lv_has ls 2 [(0, .ref mo)] := hl
  have hP : va_P D vwCl [(mo, .inr (3, [.ref b1, .ref b2, .ref b3, .ref b4, .int (nI nh), .int (nI no), .int (nI np), .int th])), (b1, .inl (cI, 200, .inl fh)), (b2, .inl (cI, 200, .inl fo)), (b3, .inl (cI, 200, .inl fk)), (b4, .inl (cI, 200, .inl ft))] s.heap := hP
  have hD : va_D A [(mo, .inr (3, [.ref b1, .ref b2, .ref b3, .ref b4, .int (nI nh), .int (nI no), .int (nI np), .int th])), (b1, .inl (cI, 200, .inl fh)), (b2, .inl (cI, 200, .inl fo)), (b3, .inl (cI, 200, .inl fk)), (b4, .inl (cI, 200, .inl ft))] := hD
  have iX3 : ∀ w ∈ wsX30, w ∈ wsX3_clearPairs := by decide +kernel
  have k22 := hts (.fieldLink RX3 22 "HeapAndDequeModel" "thrown" "I") (by decide +kernel)
  have k50 := hts (.fieldLink RX3 50 "HeapAndDequeModel" "pairs" "I") (by decide +kernel)
  refine lv_aload_n hx hb dX3_clearPairs_0 rfl (lv_at hl 0 rfl) ?_
  refine lv_iconst (v := nI 0) hx hb dX3_clearPairs_1 (by decide +kernel) ?_
  refine va_put (D := D) (ci := 3) (v := .int (nI 0)) (ty := .int) (C := RX3) (T := TX3) (N := 8) hx hb hts iX3 tyX3 tyX3_ok nmX3 hown hK hP hD hS 0 rfl rfl 7 (by decide) k22 (fun _ h9 => h9) rfl (by decide +kernel) rfl rfl (Nat.le_of_ble_eq_true rfl) dX3_clearPairs_2 (fun H locs hP hD hS => ?_)
  have hP : va_P D vwCl [(mo, .inr (3, [.ref b1, .ref b2, .ref b3, .ref b4, .int (nI nh), .int (nI no), .int (nI np), .int (nI 0)])), (b1, .inl (cI, 200, .inl fh)), (b2, .inl (cI, 200, .inl fo)), (b3, .inl (cI, 200, .inl fk)), (b4, .inl (cI, 200, .inl ft))] H := hP
  have hD : va_D A [(mo, .inr (3, [.ref b1, .ref b2, .ref b3, .ref b4, .int (nI nh), .int (nI no), .int (nI np), .int (nI 0)])), (b1, .inl (cI, 200, .inl fh)), (b2, .inl (cI, 200, .inl fo)), (b3, .inl (cI, 200, .inl fk)), (b4, .inl (cI, 200, .inl ft))] := hD
  refine lv_aload_n hx hb dX3_clearPairs_5 rfl (lv_at hl 0 rfl) ?_
  refine va_get (D := D) (ci := 3) (v := .int (nI np)) (C := RX3) (T := TX3) (N := 8) hx hb hts iX3 hown hK hP 0 rfl rfl 6 (by decide) k50 (fun _ h9 => h9) rfl dX3_clearPairs_6 ?_
  refine lv_istore_n (lv' := [(1, .int (nI np)), (0, .ref mo)]) hx hb dX3_clearPairs_9 rfl hl (by decide) rfl (fun ls hl => ?_)
  refine lv_aload_n hx hb dX3_clearPairs_10 rfl (lv_at hl 1 rfl) ?_
  refine lv_iconst (v := nI 0) hx hb dX3_clearPairs_11 (by decide +kernel) ?_
  refine va_put (D := D) (ci := 3) (v := .int (nI 0)) (ty := .int) (C := RX3) (T := TX3) (N := 8) hx hb hts iX3 tyX3 tyX3_ok nmX3 hown hK hP hD hS 0 rfl rfl 6 (by decide) k50 (fun _ h9 => h9) rfl (by decide +kernel) rfl rfl (Nat.le_of_ble_eq_true rfl) dX3_clearPairs_12 (fun H locs hP hD hS => ?_)
  have hP : va_P D vwCl [(mo, .inr (3, [.ref b1, .ref b2, .ref b3, .ref b4, .int (nI nh), .int (nI no), .int (nI 0), .int (nI 0)])), (b1, .inl (cI, 200, .inl fh)), (b2, .inl (cI, 200, .inl fo)), (b3, .inl (cI, 200, .inl fk)), (b4, .inl (cI, 200, .inl ft))] H := hP
  have hD : va_D A [(mo, .inr (3, [.ref b1, .ref b2, .ref b3, .ref b4, .int (nI nh), .int (nI no), .int (nI 0), .int (nI 0)])), (b1, .inl (cI, 200, .inl fh)), (b2, .inl (cI, 200, .inl fo)), (b3, .inl (cI, 200, .inl fk)), (b4, .inl (cI, 200, .inl ft))] := hD
  refine lv_iload_n hx hb dX3_clearPairs_15 rfl (lv_at hl 0 rfl) ?_
  exact hend _ _ _ _ _ hP hD hS (rfl) dX3_clearPairs_16
set_option maxHeartbeats 4000000 in
set_option maxRecDepth 100000 in
theorem c_X3_wipe (l : Launch) (D : va_G) (mo b1 b2 b3 b4 : Nat) (cI : ClassId) (fh fo fk ft : Nat → Int32) (nh no np : Nat) (th : Int32) : mI l yX3_wipe wsX3_wipe ({ frames := 0, cells := 0, slots := 0, locals := 0 }) [.ref mo] D [(cI, .int)] [(mo, .inr (3, [.ref b1, .ref b2, .ref b3, .ref b4, .int (nI nh), .int (nI no), .int (nI np), .int th])), (b1, .inl (cI, 200, .inl fh)), (b2, .inl (cI, 200, .inl fo)), (b3, .inl (cI, 200, .inl fk)), (b4, .inl (cI, 200, .inl ft))] [(mo, .inr (3, [.ref b1, .ref b2, .ref b3, .ref b4, .int (nI nh), .int (nI 0), .int (nI np), .int (nI 0)])), (b1, .inl (cI, 200, .inl fh)), (b2, .inl (cI, 200, .inl fo)), (b3, .inl (cI, 200, .inl fk)), (b4, .inl (cI, 200, .inl ft))] (nI no) := by
  refine hI_body (cc := cX3_wipe) (maxL := 2) (by decide) rfl (Nat.le_of_ble_eq_true rfl) (rfl) ?_
  intro p e s m below meth cd A ls Q hat hA hP hK hD hS hl hend
  obtain ⟨hF, hr, hlocks, hv⟩ := id hat
  obtain ⟨hx, hb, hml, hown, hts⟩ := id hF
  have hown : s.vm.findClass RX3 = some m.cls := hown
  have hl : lv_has ls 2 [(0, .ref mo)] := hl
  have hP : va_P D vwCl [(mo, .inr (3, [.ref b1, .ref b2, .ref b3, .ref b4, .int (nI nh), .int (nI no), .int (nI np), .int th])), (b1, .inl (cI, 200, .inl fh)), (b2, .inl (cI, 200, .inl fo)), (b3, .inl (cI, 200, .inl fk)), (b4, .inl (cI, 200, .inl ft))] s.heap := hP
  have hD : va_D A [(mo, .inr (3, [.ref b1, .ref b2, .ref b3, .ref b4, .int (nI nh), .int (nI no), .int (nI np), .int th])), (b1, .inl (cI, 200, .inl fh)), (b2, .inl (cI, 200, .inl fo)), (b3, .inl (cI, 200, .inl fk)), (b4, .inl (cI, 200, .inl ft))] := hD
  have iX3 : ∀ w ∈ wsX30, w ∈ wsX3_wipe := by decide +kernel
  have k22 := hts (.fieldLink RX3 22 "HeapAndDequeModel" "thrown" "I") (by decide +kernel)
  have k47 := hts (.fieldLink RX3 47 "HeapAndDequeModel" "many" "I") (by decide +kernel)
  refine lv_aload_n hx hb dX3_wipe_0 rfl (lv_at hl 0 rfl) ?_
  refine lv_iconst (v := nI 0) hx hb dX3_wipe_1 (by decide +kernel) ?_
  refine va_put (D := D) (ci := 3) (v := .int (nI 0)) (ty := .int) (C := RX3) (T := TX3) (N := 8) hx hb hts iX3 tyX3 tyX3_ok nmX3 hown hK hP hD hS 0 rfl rfl 7 (by decide) k22 (fun _ h9 => h9) rfl (by decide +kernel) rfl rfl (Nat.le_of_ble_eq_true rfl) dX3_wipe_2 (fun H locs hP hD hS => ?_)
  have hP : va_P D vwCl [(mo, .inr (3, [.ref b1, .ref b2, .ref b3, .ref b4, .int (nI nh), .int (nI no), .int (nI np), .int (nI 0)])), (b1, .inl (cI, 200, .inl fh)), (b2, .inl (cI, 200, .inl fo)), (b3, .inl (cI, 200, .inl fk)), (b4, .inl (cI, 200, .inl ft))] H := hP
  have hD : va_D A [(mo, .inr (3, [.ref b1, .ref b2, .ref b3, .ref b4, .int (nI nh), .int (nI no), .int (nI np), .int (nI 0)])), (b1, .inl (cI, 200, .inl fh)), (b2, .inl (cI, 200, .inl fo)), (b3, .inl (cI, 200, .inl fk)), (b4, .inl (cI, 200, .inl ft))] := hD
  refine lv_aload_n hx hb dX3_wipe_5 rfl (lv_at hl 0 rfl) ?_
  refine va_get (D := D) (ci := 3) (v := .int (nI no)) (C := RX3) (T := TX3) (N := 8) hx hb hts iX3 hown hK hP 0 rfl rfl 5 (by decide) k47 (fun _ h9 => h9) rfl dX3_wipe_6 ?_
  refine lv_istore_n (lv' := [(1, .int (nI no)), (0, .ref mo)]) hx hb dX3_wipe_9 rfl hl (by decide) rfl (fun ls hl => ?_)
  refine lv_aload_n hx hb dX3_wipe_10 rfl (lv_at hl 1 rfl) ?_
  refine lv_iconst (v := nI 0) hx hb dX3_wipe_11 (by decide +kernel) ?_
  refine va_put (D := D) (ci := 3) (v := .int (nI 0)) (ty := .int) (C := RX3) (T := TX3) (N := 8) hx hb hts iX3 tyX3 tyX3_ok nmX3 hown hK hP hD hS 0 rfl rfl 5 (by decide) k47 (fun _ h9 => h9) rfl (by decide +kernel) rfl rfl (Nat.le_of_ble_eq_true rfl) dX3_wipe_12 (fun H locs hP hD hS => ?_)
  have hP : va_P D vwCl [(mo, .inr (3, [.ref b1, .ref b2, .ref b3, .ref b4, .int (nI nh), .int (nI 0), .int (nI np), .int (nI 0)])), (b1, .inl (cI, 200, .inl fh)), (b2, .inl (cI, 200, .inl fo)), (b3, .inl (cI, 200, .inl fk)), (b4, .inl (cI, 200, .inl ft))] H := hP
  have hD : va_D A [(mo, .inr (3, [.ref b1, .ref b2, .ref b3, .ref b4, .int (nI nh), .int (nI 0), .int (nI np), .int (nI 0)])), (b1, .inl (cI, 200, .inl fh)), (b2, .inl (cI, 200, .inl fo)), (b3, .inl (cI, 200, .inl fk)), (b4, .inl (cI, 200, .inl ft))] := hD
  refine lv_iload_n hx hb dX3_wipe_15 rfl (lv_at hl 0 rfl) ?_
  exact hend _ _ _ _ _ hP hD hS (rfl) dX3_wipe_16
set_option maxHeartbeats 4000000 in
set_option maxRecDepth 100000 in
theorem c_X3_addAll (l : Launch) (D : va_G) (mo b1 b2 b3 b4 : Nat) (cI : ClassId) (fh fo fk ft : Nat → Int32) (nh no np : Nat) (th : Int32) (hc : nh + no ≤ 200) : mI l yX3_addAll wsX3_addAll ({ frames := 1, cells := 0, slots := 0, locals := 21 }) [.ref mo] D [(cI, .int)] [(mo, .inr (3, [.ref b1, .ref b2, .ref b3, .ref b4, .int (nI nh), .int (nI no), .int (nI np), .int th])), (b1, .inl (cI, 200, .inl fh)), (b2, .inl (cI, 200, .inl fo)), (b3, .inl (cI, 200, .inl fk)), (b4, .inl (cI, 200, .inl ft))] [(mo, .inr (3, [.ref b1, .ref b2, .ref b3, .ref b4, .int (nI (nh + no)), .int (nI no), .int (nI np), .int (nI 0)])), (b1, .inl (cI, 200, .inl (s_ma fh fo nh no))), (b2, .inl (cI, 200, .inl fo)), (b3, .inl (cI, 200, .inl fk)), (b4, .inl (cI, 200, .inl ft))] (nI (nh + no)) := by
  refine hI_body (cc := cX3_addAll) (maxL := 2) (by decide) rfl (Nat.le_of_ble_eq_true rfl) (rfl) ?_
  intro p e s m below meth cd A ls Q hat hA hP hK hD hS hl hend
  obtain ⟨hF, hr, hlocks, hv⟩ := id hat
  obtain ⟨hx, hb, hml, hown, hts⟩ := id hF
  have hown : s.vm.findClass RX3 = some m.cls := hown
  have hl : lv_has ls 2 [(0, .ref mo)] := hl
  have hP : va_P D vwCl [(mo, .inr (3, [.ref b1, .ref b2, .ref b3, .ref b4, .int (nI nh), .int (nI no), .int (nI np), .int th])), (b1, .inl (cI, 200, .inl fh)), (b2, .inl (cI, 200, .inl fo)), (b3, .inl (cI, 200, .inl fk)), (b4, .inl (cI, 200, .inl ft))] s.heap := hP
  have hD : va_D A [(mo, .inr (3, [.ref b1, .ref b2, .ref b3, .ref b4, .int (nI nh), .int (nI no), .int (nI np), .int th])), (b1, .inl (cI, 200, .inl fh)), (b2, .inl (cI, 200, .inl fo)), (b3, .inl (cI, 200, .inl fk)), (b4, .inl (cI, 200, .inl ft))] := hD
  have iX3 : ∀ w ∈ wsX30, w ∈ wsX3_addAll := by decide +kernel
  have k7 := hts (.fieldLink RX3 7 "HeapAndDequeModel" "heap" "[I") (by decide +kernel)
  have k13 := hts (.fieldLink RX3 13 "HeapAndDequeModel" "row" "[I") (by decide +kernel)
  have k26 := hts (.fieldLink RX3 26 "HeapAndDequeModel" "held" "I") (by decide +kernel)
  have k47 := hts (.fieldLink RX3 47 "HeapAndDequeModel" "many" "I") (by decide +kernel)
  refine lv_aload_n hx hb dX3_addAll_0 rfl (lv_at hl 0 rfl) ?_
  refine lv_aload_n hx hb dX3_addAll_1 rfl (lv_at hl 0 rfl) ?_
  refine va_get (D := D) (ci := 3) (v := .int (nI nh)) (C := RX3) (T := TX3) (N := 8) hx hb hts iX3 hown hK hP 0 rfl rfl 4 (by decide) k26 (fun _ h9 => h9) rfl dX3_addAll_2 ?_
  refine lv_aload_n hx hb dX3_addAll_5 rfl (lv_at hl 0 rfl) ?_
  refine va_get (D := D) (ci := 3) (v := .int (nI no)) (C := RX3) (T := TX3) (N := 8) hx hb hts iX3 hown hK hP 0 rfl rfl 5 (by decide) k47 (fun _ h9 => h9) rfl dX3_addAll_6 ?_
  refine lv_iadd hx hb dX3_addAll_9 ?_
  refine hw_i (y := nI (nh + no)) (nI_add _ _) ?_
  refine lv_sipush (v := nI 200) hx hb dX3_addAll_10 (by decide +kernel) ?_
  refine lv_icmp_le (tgt := 20) hx hb dX3_addAll_13 (by decide) (fun _ => ?_) (fun hn => absurd (nI_le hc (by decide)) hn)
  refine lv_iconst (v := nI 0) hx hb dX3_addAll_20 (by decide +kernel) ?_
  refine hc_iV (As := [.int (nI 0)]) (rest := []) (wc := [(mo, .inr (3, [.ref b1, .ref b2, .ref b3, .ref b4, .int (nI nh), .int (nI no), .int (nI np), .int th])), (b1, .inl (cI, 200, .inl fh)), (b2, .inl (cI, 200, .inl fo)), (b3, .inl (cI, 200, .inl fk)), (b4, .inl (cI, 200, .inl ft))]) (wr := []) (w1 := [(mo, .inr (3, [.ref b1, .ref b2, .ref b3, .ref b4, .int (nI nh), .int (nI no), .int (nI np), .int (nI 0)])), (b1, .inl (cI, 200, .inl fh)), (b2, .inl (cI, 200, .inl fo)), (b3, .inl (cI, 200, .inl fk)), (b4, .inl (cI, 200, .inl ft))]) (w' := [(mo, .inr (3, [.ref b1, .ref b2, .ref b3, .ref b4, .int (nI nh), .int (nI no), .int (nI np), .int (nI 0)])), (b1, .inl (cI, 200, .inl fh)), (b2, .inl (cI, 200, .inl fo)), (b3, .inl (cI, 200, .inl fk)), (b4, .inl (cI, 200, .inl ft))]) hF (c_X3_isWrong_z l D mo b1 b2 b3 b4 cI fh fo fk ft nh no np th ) (cwV 1 hts gX3_addAll_X3_isWrong rfl rfl rfl (by decide +kernel) ⟨Nat.le_of_ble_eq_true rfl, Nat.le_of_ble_eq_true rfl⟩) hP hK hD hS hA hv [0, 1, 2, 3, 4] [] [0, 1, 2, 3, 4] [0] ⟨rfl, rfl, rfl, rfl, ⟨by decide, by decide, by decide⟩, by decide⟩ 0 3 rfl rfl rfl rfl hl.1 rfl (Nat.le_of_ble_eq_true rfl) dX3_addAll_21 ⟨Nat.zero_le _, Nat.zero_le _⟩ (fun H locs hP hD hS => ?_)
  refine lv_if_eq (tgt := 29) hx hb dX3_addAll_24 (by decide) (fun _ => ?_) (fun hn => absurd (rfl) hn)
  refine lv_iconst (v := nI 0) hx hb dX3_addAll_29 (by decide +kernel) ?_
  refine lv_istore_n (lv' := [(1, .int (nI 0)), (0, .ref mo)]) hx hb dX3_addAll_30 rfl hl (by decide) rfl (fun ls hl => ?_)
  have loop : ∀ (n i : Nat), i + n = no → ∀ (H : Heap) (locs : List Loc) (ls : Array Slot), va_P D vwCl [(mo, .inr (3, [.ref b1, .ref b2, .ref b3, .ref b4, .int (nI (nh + i)), .int (nI no), .int (nI np), .int (nI 0)])), (b1, .inl (cI, 200, .inl (s_ma fh fo nh i))), (b2, .inl (cI, 200, .inl fo)), (b3, .inl (cI, 200, .inl fk)), (b4, .inl (cI, 200, .inl ft))] H → va_D A [(mo, .inr (3, [.ref b1, .ref b2, .ref b3, .ref b4, .int (nI (nh + i)), .int (nI no), .int (nI np), .int (nI 0)])), (b1, .inl (cI, 200, .inl (s_ma fh fo nh i))), (b2, .inl (cI, 200, .inl fo)), (b3, .inl (cI, 200, .inl fk)), (b4, .inl (cI, 200, .inl ft))] → va_S A s.heap H locs → lv_has ls 2 [(1, .int (nI i)), (0, .ref mo)] → W p l e ({ frames := 1, cells := 0, slots := 0, locals := 21 }) s m ([.ref mo] : List Value).toArray below meth cd H locs 0 0 Q (F0 m 31 ls []) := by
    intro n
    induction n with
    | zero =>
      intro i hn H locs ls hP hD hS hl
      refine lv_iload_n hx hb dX3_addAll_31 rfl (lv_at hl 0 rfl) ?_
      refine lv_aload_n hx hb dX3_addAll_32 rfl (lv_at hl 1 rfl) ?_
      refine va_get (D := D) (ci := 3) (v := .int (nI no)) (C := RX3) (T := TX3) (N := 8) hx hb hts iX3 hown hK hP 0 rfl rfl 5 (by decide) k47 (fun _ h9 => h9) rfl dX3_addAll_33 ?_
      refine lv_icmp_ge (tgt := 70) hx hb dX3_addAll_36 (by decide) (fun _ => ?_) (fun hn => absurd (nI_le (by omega) (by omega)) hn)
      have e8 : i = no := by omega
      subst e8
      refine lv_aload_n hx hb dX3_addAll_70 rfl (lv_at hl 1 rfl) ?_
      refine va_get (D := D) (ci := 3) (v := .int (nI (nh + i))) (C := RX3) (T := TX3) (N := 8) hx hb hts iX3 hown hK hP 0 rfl rfl 4 (by decide) k26 (fun _ h9 => h9) rfl dX3_addAll_71 ?_
      exact hend _ _ _ _ _ hP hD hS (rfl) dX3_addAll_74
    | succ n ih =>
      intro i hn H locs ls hP hD hS hl
      refine lv_iload_n hx hb dX3_addAll_31 rfl (lv_at hl 0 rfl) ?_
      refine lv_aload_n hx hb dX3_addAll_32 rfl (lv_at hl 1 rfl) ?_
      refine va_get (D := D) (ci := 3) (v := .int (nI no)) (C := RX3) (T := TX3) (N := 8) hx hb hts iX3 hown hK hP 0 rfl rfl 5 (by decide) k47 (fun _ h9 => h9) rfl dX3_addAll_33 ?_
      refine lv_icmp_ge (tgt := 70) hx hb dX3_addAll_36 (by decide) (fun ht_ => absurd ht_ (nI_ge (by omega) (by omega))) (fun _ => ?_)
      refine lv_aload_n hx hb dX3_addAll_39 rfl (lv_at hl 1 rfl) ?_
      refine va_get (D := D) (ci := 3) (v := .ref b1) (C := RX3) (T := TX3) (N := 8) hx hb hts iX3 hown hK hP 0 rfl rfl 0 (by decide) k7 (fun _ h9 => h9) rfl dX3_addAll_40 ?_
      refine lv_aload_n hx hb dX3_addAll_43 rfl (lv_at hl 1 rfl) ?_
      refine va_get (D := D) (ci := 3) (v := .int (nI (nh + i))) (C := RX3) (T := TX3) (N := 8) hx hb hts iX3 hown hK hP 0 rfl rfl 4 (by decide) k26 (fun _ h9 => h9) rfl dX3_addAll_44 ?_
      refine lv_aload_n hx hb dX3_addAll_47 rfl (lv_at hl 1 rfl) ?_
      refine va_get (D := D) (ci := 3) (v := .ref b2) (C := RX3) (T := TX3) (N := 8) hx hb hts iX3 hown hK hP 0 rfl rfl 1 (by decide) k13 (fun _ h9 => h9) rfl dX3_addAll_48 ?_
      refine lv_iload_n hx hb dX3_addAll_51 rfl (lv_at hl 0 rfl) ?_
      refine h_iald hx hb hK hP 2 0 rfl rfl (by decide) (by omega) dX3_addAll_52 ?_
      refine h_iast hx hb hK hP hD hS 1 0 rfl rfl (by decide) (by omega) dX3_addAll_53 (fun H locs hP hD hS => ?_)
      have hP : va_P D vwCl [(mo, .inr (3, [.ref b1, .ref b2, .ref b3, .ref b4, .int (nI (nh + i)), .int (nI no), .int (nI np), .int (nI 0)])), (b1, .inl (cI, 200, .inl (upd (s_ma fh fo nh i) (nh + i) (fo i)))), (b2, .inl (cI, 200, .inl fo)), (b3, .inl (cI, 200, .inl fk)), (b4, .inl (cI, 200, .inl ft))] H := hP
      have hD : va_D A [(mo, .inr (3, [.ref b1, .ref b2, .ref b3, .ref b4, .int (nI (nh + i)), .int (nI no), .int (nI np), .int (nI 0)])), (b1, .inl (cI, 200, .inl (upd (s_ma fh fo nh i) (nh + i) (fo i)))), (b2, .inl (cI, 200, .inl fo)), (b3, .inl (cI, 200, .inl fk)), (b4, .inl (cI, 200, .inl ft))] := hD
      refine lv_aload_n hx hb dX3_addAll_54 rfl (lv_at hl 1 rfl) ?_
      refine lv_dup hx hb dX3_addAll_55 rfl ?_
      refine va_get (D := D) (ci := 3) (v := .int (nI (nh + i))) (C := RX3) (T := TX3) (N := 8) hx hb hts iX3 hown hK hP 0 rfl rfl 4 (by decide) k26 (fun _ h9 => h9) rfl dX3_addAll_56 ?_
      refine lv_iconst (v := 1) hx hb dX3_addAll_59 (by decide) ?_
      refine lv_iadd hx hb dX3_addAll_60 ?_
      refine hw_i (y := nI (nh + i + 1)) (nI_1 _) ?_
      refine va_put (D := D) (ci := 3) (v := .int (nI (nh + i + 1))) (ty := .int) (C := RX3) (T := TX3) (N := 8) hx hb hts iX3 tyX3 tyX3_ok nmX3 hown hK hP hD hS 0 rfl rfl 4 (by decide) k26 (fun _ h9 => h9) rfl (by decide +kernel) rfl rfl (Nat.le_of_ble_eq_true rfl) dX3_addAll_61 (fun H locs hP hD hS => ?_)
      have hP : va_P D vwCl [(mo, .inr (3, [.ref b1, .ref b2, .ref b3, .ref b4, .int (nI (nh + i + 1)), .int (nI no), .int (nI np), .int (nI 0)])), (b1, .inl (cI, 200, .inl (upd (s_ma fh fo nh i) (nh + i) (fo i)))), (b2, .inl (cI, 200, .inl fo)), (b3, .inl (cI, 200, .inl fk)), (b4, .inl (cI, 200, .inl ft))] H := hP
      have hD : va_D A [(mo, .inr (3, [.ref b1, .ref b2, .ref b3, .ref b4, .int (nI (nh + i + 1)), .int (nI no), .int (nI np), .int (nI 0)])), (b1, .inl (cI, 200, .inl (upd (s_ma fh fo nh i) (nh + i) (fo i)))), (b2, .inl (cI, 200, .inl fo)), (b3, .inl (cI, 200, .inl fk)), (b4, .inl (cI, 200, .inl ft))] := hD
      refine lv_iinc (v := nI (i + 1)) (lv' := [(1, .int (nI (i + 1))), (0, .ref mo)]) hx hb dX3_addAll_64 hl (k := 0) rfl (nI_1 _) (by decide) rfl (fun ls hl => ?_)
      refine lv_goto (tgt := 31) hx hb dX3_addAll_67 (by decide) ?_
      exact ih (i + 1) (by omega) _ _ _ hP hD hS (lv_sub hl [0, 1] rfl)
  exact loop no 0 (by omega) _ _ _ hP hD hS hl
set_option maxHeartbeats 4000000 in
set_option maxRecDepth 100000 in
theorem c_X3_addAll_x (l : Launch) (D : va_G) (mo b1 b2 b3 b4 : Nat) (cI : ClassId) (fh fo fk ft : Nat → Int32) (nh no np : Nat) (th : Int32) (hc : 200 < nh + no) (hc1 : nh ≤ 200) (hc2 : no ≤ 200) : mI l yX3_addAll wsX3_addAll ({ frames := 1, cells := 0, slots := 0, locals := 21 }) [.ref mo] D [(cI, .int)] [(mo, .inr (3, [.ref b1, .ref b2, .ref b3, .ref b4, .int (nI nh), .int (nI no), .int (nI np), .int th])), (b1, .inl (cI, 200, .inl fh)), (b2, .inl (cI, 200, .inl fo)), (b3, .inl (cI, 200, .inl fk)), (b4, .inl (cI, 200, .inl ft))] [(mo, .inr (3, [.ref b1, .ref b2, .ref b3, .ref b4, .int (nI nh), .int (nI no), .int (nI np), .int 1])), (b1, .inl (cI, 200, .inl fh)), (b2, .inl (cI, 200, .inl fo)), (b3, .inl (cI, 200, .inl fk)), (b4, .inl (cI, 200, .inl ft))] (0) := by
  refine hI_body (cc := cX3_addAll) (maxL := 2) (by decide) rfl (Nat.le_of_ble_eq_true rfl) (rfl) ?_
  intro p e s m below meth cd A ls Q hat hA hP hK hD hS hl hend
  obtain ⟨hF, hr, hlocks, hv⟩ := id hat
  obtain ⟨hx, hb, hml, hown, hts⟩ := id hF
  have hown : s.vm.findClass RX3 = some m.cls := hown
  have hl : lv_has ls 2 [(0, .ref mo)] := hl
  have hP : va_P D vwCl [(mo, .inr (3, [.ref b1, .ref b2, .ref b3, .ref b4, .int (nI nh), .int (nI no), .int (nI np), .int th])), (b1, .inl (cI, 200, .inl fh)), (b2, .inl (cI, 200, .inl fo)), (b3, .inl (cI, 200, .inl fk)), (b4, .inl (cI, 200, .inl ft))] s.heap := hP
  have hD : va_D A [(mo, .inr (3, [.ref b1, .ref b2, .ref b3, .ref b4, .int (nI nh), .int (nI no), .int (nI np), .int th])), (b1, .inl (cI, 200, .inl fh)), (b2, .inl (cI, 200, .inl fo)), (b3, .inl (cI, 200, .inl fk)), (b4, .inl (cI, 200, .inl ft))] := hD
  have iX3 : ∀ w ∈ wsX30, w ∈ wsX3_addAll := by decide +kernel
  have k7 := hts (.fieldLink RX3 7 "HeapAndDequeModel" "heap" "[I") (by decide +kernel)
  have k13 := hts (.fieldLink RX3 13 "HeapAndDequeModel" "row" "[I") (by decide +kernel)
  have k26 := hts (.fieldLink RX3 26 "HeapAndDequeModel" "held" "I") (by decide +kernel)
  have k47 := hts (.fieldLink RX3 47 "HeapAndDequeModel" "many" "I") (by decide +kernel)
  refine lv_aload_n hx hb dX3_addAll_0 rfl (lv_at hl 0 rfl) ?_
  refine lv_aload_n hx hb dX3_addAll_1 rfl (lv_at hl 0 rfl) ?_
  refine va_get (D := D) (ci := 3) (v := .int (nI nh)) (C := RX3) (T := TX3) (N := 8) hx hb hts iX3 hown hK hP 0 rfl rfl 4 (by decide) k26 (fun _ h9 => h9) rfl dX3_addAll_2 ?_
  refine lv_aload_n hx hb dX3_addAll_5 rfl (lv_at hl 0 rfl) ?_
  refine va_get (D := D) (ci := 3) (v := .int (nI no)) (C := RX3) (T := TX3) (N := 8) hx hb hts iX3 hown hK hP 0 rfl rfl 5 (by decide) k47 (fun _ h9 => h9) rfl dX3_addAll_6 ?_
  refine lv_iadd hx hb dX3_addAll_9 ?_
  refine hw_i (y := nI (nh + no)) (nI_add _ _) ?_
  refine lv_sipush (v := nI 200) hx hb dX3_addAll_10 (by decide +kernel) ?_
  refine lv_icmp_le (tgt := 20) hx hb dX3_addAll_13 (by decide) (fun ht_ => absurd ht_ (nI_ge hc (by omega))) (fun _ => ?_)
  refine lv_iconst (v := 1) hx hb dX3_addAll_16 (by decide) ?_
  refine lv_goto (tgt := 21) hx hb dX3_addAll_17 (by decide) ?_
  refine hc_iV (As := [.int 1]) (rest := []) (wc := [(mo, .inr (3, [.ref b1, .ref b2, .ref b3, .ref b4, .int (nI nh), .int (nI no), .int (nI np), .int th])), (b1, .inl (cI, 200, .inl fh)), (b2, .inl (cI, 200, .inl fo)), (b3, .inl (cI, 200, .inl fk)), (b4, .inl (cI, 200, .inl ft))]) (wr := []) (w1 := [(mo, .inr (3, [.ref b1, .ref b2, .ref b3, .ref b4, .int (nI nh), .int (nI no), .int (nI np), .int 1])), (b1, .inl (cI, 200, .inl fh)), (b2, .inl (cI, 200, .inl fo)), (b3, .inl (cI, 200, .inl fk)), (b4, .inl (cI, 200, .inl ft))]) (w' := [(mo, .inr (3, [.ref b1, .ref b2, .ref b3, .ref b4, .int (nI nh), .int (nI no), .int (nI np), .int 1])), (b1, .inl (cI, 200, .inl fh)), (b2, .inl (cI, 200, .inl fo)), (b3, .inl (cI, 200, .inl fk)), (b4, .inl (cI, 200, .inl ft))]) hF (c_X3_isWrong_k l D mo b1 b2 b3 b4 cI fh fo fk ft nh no np th 1 (by decide)) (cwV 1 hts gX3_addAll_X3_isWrong rfl rfl rfl (by decide +kernel) ⟨Nat.le_of_ble_eq_true rfl, Nat.le_of_ble_eq_true rfl⟩) hP hK hD hS hA hv [0, 1, 2, 3, 4] [] [0, 1, 2, 3, 4] [0] ⟨rfl, rfl, rfl, rfl, ⟨by decide, by decide, by decide⟩, by decide⟩ 0 3 rfl rfl rfl rfl hl.1 rfl (Nat.le_of_ble_eq_true rfl) dX3_addAll_21 ⟨Nat.zero_le _, Nat.zero_le _⟩ (fun H locs hP hD hS => ?_)
  refine lv_if_eq (tgt := 29) hx hb dX3_addAll_24 (by decide) (fun ht_ => absurd ht_ (by decide)) (fun _ => ?_)
  refine lv_iconst (v := 0) hx hb dX3_addAll_27 (by decide) ?_
  exact hend _ _ _ _ _ hP hD hS (rfl) dX3_addAll_28
