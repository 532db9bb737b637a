/-! HeapAndDeque, and the two functions of Math that it calls -/
set_option maxHeartbeats 4000000 in
set_option maxRecDepth 100000 in
theorem c_J9_floorDiv_f86c9 (l : Launch) (D : va_G) (x y : Int64) (hne : ¬ y = 0) : mL l yJ9_floorDiv_f86c9 wsJ9_floorDiv_f86c9 ({ frames := 0, cells := 0, slots := 0, locals := 0 }) [.long x, .long y] D [] [] [] (s_fd x y) := by
  refine hJ_body (cc := cJ9_floorDiv_f86c9) (maxL := 6) (by decide +kernel) rfl (Nat.le_of_ble_eq_true rfl) ?_
  intro p e s m below meth cd A ls Q hat hA hP hK hD hS hl hend
  obtain ⟨hF, hr, hlocks, hv⟩ := id hat
  obtain ⟨hx, hb, hml, hown, hts⟩ := id hF
  have hown : s.vm.findClass RJ9 = some m.cls := hown
  have hl : lv_has ls 6 [(0, .long x), (2, .long y)] := hl
  have hP : va_P D vwCl [] s.heap := hP
  refine lv_lload_n hx hb dJ9_floorDiv_f86c9_0 rfl (lv_at hl 0 rfl) ?_
  refine lv_lload_n hx hb dJ9_floorDiv_f86c9_1 rfl (lv_at hl 1 rfl) ?_
  refine lv_ldiv hx hb dJ9_floorDiv_f86c9_2 hne ?_
  refine lv_lstore (lv' := [(4, .long (x / y)), (0, .long x), (2, .long y)]) hx hb dJ9_floorDiv_f86c9_3 hl (by decide) rfl (fun ls hl => ?_)
  refine lv_lload_n hx hb dJ9_floorDiv_f86c9_5 rfl (lv_at hl 1 rfl) ?_
  refine lv_lload_n hx hb dJ9_floorDiv_f86c9_6 rfl (lv_at hl 2 rfl) ?_
  refine lv_lxor hx hb dJ9_floorDiv_f86c9_7 ?_
  refine lv_lconst (v := 0) hx hb dJ9_floorDiv_f86c9_8 (by decide) ?_
  refine W.lcmp hx hb dJ9_floorDiv_f86c9_9 ?_
  refine lv_if_ge (tgt := 27) hx hb dJ9_floorDiv_f86c9_10 (by decide) (fun c1 => ?_) (fun c1 => ?_)
  · have k1 : ¬ x ^^^ y < 0 := hl_ge.mp c1
    refine lv_lload hx hb dJ9_floorDiv_f86c9_27 (lv_at hl 0 rfl) ?_
    exact hend _ _ _ _ _ hP hD hS (by unfold s_fd; rw [if_neg (fun h => k1 h.1)]) dJ9_floorDiv_f86c9_29
  · have k1 : x ^^^ y < 0 := Decidable.not_not.mp (fun h => c1 (hl_ge.mpr h))
    refine lv_lload hx hb dJ9_floorDiv_f86c9_13 (lv_at hl 0 rfl) ?_
    refine lv_lload_n hx hb dJ9_floorDiv_f86c9_15 rfl (lv_at hl 2 rfl) ?_
    refine lv_lmul hx hb dJ9_floorDiv_f86c9_16 ?_
    refine lv_lload_n hx hb dJ9_floorDiv_f86c9_17 rfl (lv_at hl 1 rfl) ?_
    refine W.lcmp hx hb dJ9_floorDiv_f86c9_18 ?_
    refine lv_if_eq (tgt := 27) hx hb dJ9_floorDiv_f86c9_19 (by decide) (fun c2 => ?_) (fun c2 => ?_)
    · have k2 := hl_eq.mp c2
      refine lv_lload hx hb dJ9_floorDiv_f86c9_27 (lv_at hl 0 rfl) ?_
      exact hend _ _ _ _ _ hP hD hS (by unfold s_fd; rw [if_neg (fun h => h.2 k2)]) dJ9_floorDiv_f86c9_29
    · have k2 := fun h => c2 (hl_eq.mpr h)
      refine lv_lload hx hb dJ9_floorDiv_f86c9_22 (lv_at hl 0 rfl) ?_
      refine lv_lconst (v := 1) hx hb dJ9_floorDiv_f86c9_24 (by decide) ?_
      refine lv_lsub hx hb dJ9_floorDiv_f86c9_25 ?_
      exact hend _ _ _ _ _ hP hD hS (by unfold s_fd; rw [if_pos ⟨k1, k2⟩]) dJ9_floorDiv_f86c9_26
set_option maxHeartbeats 4000000 in
set_option maxRecDepth 100000 in
theorem c_J9_floorMod_f86c9 (l : Launch) (D : va_G) (x y : Int64) (hne : ¬ y = 0) : mL l yJ9_floorMod_f86c9 wsJ9_floorMod_f86c9 ({ frames := 0, cells := 0, slots := 0, locals := 0 }) [.long x, .long y] D [] [] [] (s_fm x y) := by
  refine hJ_body (cc := cJ9_floorMod_f86c9) (maxL := 6) (by decide +kernel) rfl (Nat.le_of_ble_eq_true rfl) ?_
  intro p e s m below meth cd A ls Q hat hA hP hK hD hS hl hend
  obtain ⟨hF, hr, hlocks, hv⟩ := id hat
  obtain ⟨hx, hb, hml, hown, hts⟩ := id hF
  have hown : s.vm.findClass RJ9 = some m.cls := hown
  have hl : lv_has ls 6 [(0, .long x), (2, .long y)] := hl
  have hP : va_P D vwCl [] s.heap := hP
  refine lv_lload_n hx hb dJ9_floorMod_f86c9_0 rfl (lv_at hl 0 rfl) ?_
  refine lv_lload_n hx hb dJ9_floorMod_f86c9_1 rfl (lv_at hl 1 rfl) ?_
  refine lv_lrem hx hb dJ9_floorMod_f86c9_2 hne ?_
  refine lv_lstore (lv' := [(4, .long (x - x / y * y)), (0, .long x), (2, .long y)]) hx hb dJ9_floorMod_f86c9_3 hl (by decide) rfl (fun ls hl => ?_)
  refine lv_lload_n hx hb dJ9_floorMod_f86c9_5 rfl (lv_at hl 1 rfl) ?_
  refine lv_lload_n hx hb dJ9_floorMod_f86c9_6 rfl (lv_at hl 2 rfl) ?_
  refine lv_lxor hx hb dJ9_floorMod_f86c9_7 ?_
  refine lv_lconst (v := 0) hx hb dJ9_floorMod_f86c9_8 (by decide) ?_
  refine W.lcmp hx hb dJ9_floorMod_f86c9_9 ?_
  refine lv_if_ge (tgt := 25) hx hb dJ9_floorMod_f86c9_10 (by decide) (fun c1 => ?_) (fun c1 => ?_)
  · have k1 : ¬ x ^^^ y < 0 := hl_ge.mp c1
    refine lv_lload hx hb dJ9_floorMod_f86c9_25 (lv_at hl 0 rfl) ?_
    exact hend _ _ _ _ _ hP hD hS (by unfold s_fm; rw [if_neg (fun h => k1 h.1)]) dJ9_floorMod_f86c9_27
  · have k1 : x ^^^ y < 0 := Decidable.not_not.mp (fun h => c1 (hl_ge.mpr h))
    refine lv_lload hx hb dJ9_floorMod_f86c9_13 (lv_at hl 0 rfl) ?_
    refine lv_lconst (v := 0) hx hb dJ9_floorMod_f86c9_15 (by decide) ?_
    refine W.lcmp hx hb dJ9_floorMod_f86c9_16 ?_
    refine lv_if_eq (tgt := 25) hx hb dJ9_floorMod_f86c9_17 (by decide) (fun c2 => ?_) (fun c2 => ?_)
    · have k2 := hl_eq.mp c2
      refine lv_lload hx hb dJ9_floorMod_f86c9_25 (lv_at hl 0 rfl) ?_
      exact hend _ _ _ _ _ hP hD hS (by unfold s_fm; rw [if_neg (fun h => h.2 k2)]) dJ9_floorMod_f86c9_27
    · have k2 := fun h => c2 (hl_eq.mpr h)
      refine lv_lload hx hb dJ9_floorMod_f86c9_20 (lv_at hl 0 rfl) ?_
      refine lv_lload_n hx hb dJ9_floorMod_f86c9_22 rfl (lv_at hl 2 rfl) ?_
      refine lv_ladd hx hb dJ9_floorMod_f86c9_23 ?_
      exact hend _ _ _ _ _ hP hD hS (by unfold s_fm; rw [if_pos ⟨k1, k2⟩]) dJ9_floorMod_f86c9_24
set_option maxHeartbeats 4000000 in
set_option maxRecDepth 100000 in
theorem c_X2_keyOf (l : Launch) (D : va_G) (r : Int64) : mI l yX2_keyOf wsX2_keyOf ({ frames := 1, cells := 0, slots := 0, locals := 25 }) [.long r] D [] [] [] (s_key r) := by
  refine hI_body (cc := cX2_keyOf) (maxL := 2) (by decide) rfl (Nat.le_of_ble_eq_true rfl) (rfl) ?_
  intro p e s m below meth cd A ls Q hat hA hP hK hD hS hl hend
  obtain ⟨hF, hr, hlocks, hv⟩ := id hat
  obtain ⟨hx, hb, hml, hown, hts⟩ := id hF
  have hown : s.vm.findClass RX2 = some m.cls := hown
  have hl : lv_has ls 2 [(0, .long r)] := hl
  have hP : va_P D vwCl [] s.heap := hP
  refine lv_lload_n hx hb dX2_keyOf_0 rfl (lv_at hl 0 rfl) ?_
  refine lv_ldc2 hx hb hown (hts (.constantLong RX2 127 (1000)) (by decide +kernel)) dX2_keyOf_1 ?_
  refine hc_lS (As := [.long r, .long 1000]) (rest := []) hF (c_J9_floorDiv_f86c9 l D r 1000 (by decide +kernel)) (va_cwS 2 hts gX2_keyOf_J9_floorDiv_f86c9 rfl rfl rfl (by decide +kernel) ⟨Nat.le_of_ble_eq_true rfl, Nat.le_of_ble_eq_true rfl⟩) hK hS hA hv rfl hl.1 rfl (Nat.le_of_ble_eq_true rfl) dX2_keyOf_4 ⟨Nat.zero_le _, Nat.zero_le _⟩ (fun H locs hPk hz9 hk9 hS => ?_)
  have hP := hPk _ hP
  refine lv_l2i hx hb dX2_keyOf_7 rfl ?_
  exact hend _ _ _ _ _ hP hD hS (rfl) dX2_keyOf_8
set_option maxHeartbeats 4000000 in
set_option maxRecDepth 100000 in
theorem c_X2_toldOf (l : Launch) (D : va_G) (r : Int64) : mL l yX2_toldOf wsX2_toldOf ({ frames := 2, cells := 0, slots := 0, locals := 46 }) [.long r] D [] [] [] (s_tell r) := by
  refine hL_body (cc := cX2_toldOf) (maxL := 4) (by decide) rfl (Nat.le_of_ble_eq_true rfl) ?_
  intro p e s m below meth cd A ls Q hat hA hP hK hD hS hl hend
  obtain ⟨hF, hr, hlocks, hv⟩ := id hat
  obtain ⟨hx, hb, hml, hown, hts⟩ := id hF
  have hown : s.vm.findClass RX2 = some m.cls := hown
  have hl : lv_has ls 4 [(0, .long r)] := hl
  have hP : va_P D vwCl [] s.heap := hP
  refine lv_ldc2 hx hb hown (hts (.constantLong RX2 135 (999)) (by decide +kernel)) dX2_toldOf_0 ?_
  refine lv_lload_n hx hb dX2_toldOf_3 rfl (lv_at hl 0 rfl) ?_
  refine lv_ldc2 hx hb hown (hts (.constantLong RX2 127 (1000)) (by decide +kernel)) dX2_toldOf_4 ?_
  refine hc_lS (As := [.long r, .long 1000]) (rest := [.long 999]) hF (c_J9_floorMod_f86c9 l D r 1000 (by decide +kernel)) (va_cwS 2 hts gX2_toldOf_J9_floorMod_f86c9 rfl rfl rfl (by decide +kernel) ⟨Nat.le_of_ble_eq_true rfl, Nat.le_of_ble_eq_true rfl⟩) hK hS hA hv rfl hl.1 rfl (Nat.le_of_ble_eq_true rfl) dX2_toldOf_7 ⟨Nat.zero_le _, Nat.zero_le _⟩ (fun H locs hPk hz9 hk9 hS => ?_)
  have hP := hPk _ hP
  refine lv_lsub hx hb dX2_toldOf_10 ?_
  refine lv_lstore_n (lv' := [(2, .long (999 - (s_fm r 1000))), (0, .long r)]) hx hb dX2_toldOf_11 rfl hl (by decide) rfl (fun ls hl => ?_)
  refine lv_lload_n hx hb dX2_toldOf_12 rfl (lv_at hl 1 rfl) ?_
  refine hc_iS (As := [.long r]) (rest := []) hF (c_X2_keyOf l D r) (va_cwS 1 hts gX2_toldOf_X2_keyOf rfl rfl rfl (by decide +kernel) ⟨Nat.le_of_ble_eq_true rfl, Nat.le_of_ble_eq_true rfl⟩) hK hS hA hv rfl hl.1 rfl (Nat.le_of_ble_eq_true rfl) dX2_toldOf_13 ⟨Nat.zero_le _, Nat.zero_le _⟩ (fun H locs hPk hz9 hk9 hS => ?_)
  have hP := hPk _ hP
  refine lv_i2l hx hb dX2_toldOf_16 rfl ?_
  refine lv_ldc2 hx hb hown (hts (.constantLong RX2 127 (1000)) (by decide +kernel)) dX2_toldOf_17 ?_
  refine lv_lmul hx hb dX2_toldOf_20 ?_
  refine lv_lload_n hx hb dX2_toldOf_21 rfl (lv_at hl 0 rfl) ?_
  refine lv_ladd hx hb dX2_toldOf_22 ?_
  exact hend _ _ _ _ _ hP hD hS (rfl) dX2_toldOf_23
set_option maxHeartbeats 4000000 in
set_option maxRecDepth 100000 in
theorem c_X2_rankOf (l : Launch) (D : va_G) (k t : Int32) (ht0 : ¬ t < 0) (ht1 : t ≤ nI 999) : mL l yX2_rankOf wsX2_rankOf ({ frames := 0, cells := 0, slots := 0, locals := 0 }) [.int k, .int t] D [] [] [] (s_rank k t) := by
  refine hL_body (cc := cX2_rankOf) (maxL := 2) (by decide) rfl (Nat.le_of_ble_eq_true rfl) ?_
  intro p e s m below meth cd A ls Q hat hA hP hK hD hS hl hend
  obtain ⟨hF, hr, hlocks, hv⟩ := id hat
  obtain ⟨hx, hb, hml, hown, hts⟩ := id hF
  have hown : s.vm.findClass RX2 = some m.cls := hown
  have hl : lv_has ls 2 [(0, .int k), (1, .int t)] := hl
  have hP : va_P D vwCl [] s.heap := hP
  refine lv_iload_n hx hb dX2_rankOf_0 rfl (lv_at hl 1 rfl) ?_
  refine lv_if_lt (tgt := 11) hx hb dX2_rankOf_1 (by decide) (fun ht_ => absurd ht_ (ht0)) (fun _ => ?_)
  refine lv_iload_n hx hb dX2_rankOf_4 rfl (lv_at hl 1 rfl) ?_
  refine lv_sipush (v := nI 999) hx hb dX2_rankOf_5 (by decide +kernel) ?_
  refine lv_icmp_le (tgt := 21) hx hb dX2_rankOf_8 (by decide) (fun _ => ?_) (fun hn => absurd (ht1) hn)
  refine lv_iload_n hx hb dX2_rankOf_21 rfl (lv_at hl 0 rfl) ?_
  refine lv_i2l hx hb dX2_rankOf_22 rfl ?_
  refine lv_ldc2 hx hb hown (hts (.constantLong RX2 127 (1000)) (by decide +kernel)) dX2_rankOf_23 ?_
  refine lv_lmul hx hb dX2_rankOf_26 ?_
  refine lv_sipush (v := nI 999) hx hb dX2_rankOf_27 (by decide +kernel) ?_
  refine lv_iload_n hx hb dX2_rankOf_30 rfl (lv_at hl 1 rfl) ?_
  refine lv_isub hx hb dX2_rankOf_31 ?_
  refine lv_i2l hx hb dX2_rankOf_32 rfl ?_
  refine lv_ladd hx hb dX2_rankOf_33 ?_
  exact hend _ _ _ _ _ hP hD hS (rfl) dX2_rankOf_34
set_option maxHeartbeats 4000000 in
set_option maxRecDepth 100000 in
theorem c_X2_rankOf_x (l : Launch) (hfl : l.stackTraces = false) (D : va_G) (k t : Int32) (ht : t < 0 ∨ ¬ t ≤ nI 999) : mX l yX2_rankOf wsX2_rankOf ({ frames := 6, cells := 1, slots := 6, locals := 84 }) [.int k, .int t] D [] [] "java/lang/IllegalArgumentException" := by
  refine hX_body (cc := cX2_rankOf) (maxL := 2) (by decide) rfl (Nat.le_of_ble_eq_true rfl) ?_
  intro p e s m below meth cd ls hat hnt hZ hP hK hD hS hl
  obtain ⟨hF, hr, hlocks, hv⟩ := id hat
  obtain ⟨hx, hb, hml, hown, hts⟩ := id hF
  have hown : s.vm.findClass RX2 = some m.cls := hown
  have hl : lv_has ls 2 [(0, .int k), (1, .int t)] := hl
  have hP : va_P D vwCl [] s.heap := hP
  refine lv_iload_n hx hb dX2_rankOf_0 rfl (lv_at hl 1 rfl) ?_
  refine lv_if_lt (tgt := 11) hx hb dX2_rankOf_1 (by decide) (fun c9 => ?_) (fun c9 => ?_)
  · exact hX_throw (E := "java/lang/IllegalArgumentException") (text := "the tag is out of range") (names := ["java/lang/RuntimeException", "java/lang/Exception"]) (ik := 122) (is := 124) (ic := 126) hx hb hfl hown (by decide +kernel) (by decide +kernel) hts (by decide +kernel) hv.2.2.2.1 (by decide +kernel) hv (by decide +kernel) hZ.2.2.2.2.2.2.2.2.1 hZ hS (hl.1.trans hml.symm) dX2_rankOf_11 dX2_rankOf_14 dX2_rankOf_15 dX2_rankOf_17 dX2_rankOf_20 hnt ⟨Nat.le_of_ble_eq_true rfl, Nat.le_of_ble_eq_true rfl, Nat.le_of_ble_eq_true rfl, Nat.le_of_ble_eq_true rfl⟩ hlocks
  · refine lv_iload_n hx hb dX2_rankOf_4 rfl (lv_at hl 1 rfl) ?_
    refine lv_sipush (v := nI 999) hx hb dX2_rankOf_5 (by decide +kernel) ?_
    refine lv_icmp_le (tgt := 21) hx hb dX2_rankOf_8 (by decide) (fun ht_ => absurd ht_ (ht.resolve_left c9)) (fun _ => ?_)
    exact hX_throw (E := "java/lang/IllegalArgumentException") (text := "the tag is out of range") (names := ["java/lang/RuntimeException", "java/lang/Exception"]) (ik := 122) (is := 124) (ic := 126) hx hb hfl hown (by decide +kernel) (by decide +kernel) hts (by decide +kernel) hv.2.2.2.1 (by decide +kernel) hv (by decide +kernel) hZ.2.2.2.2.2.2.2.2.1 hZ hS (hl.1.trans hml.symm) dX2_rankOf_11 dX2_rankOf_14 dX2_rankOf_15 dX2_rankOf_17 dX2_rankOf_20 hnt ⟨Nat.le_of_ble_eq_true rfl, Nat.le_of_ble_eq_true rfl, Nat.le_of_ble_eq_true rfl, Nat.le_of_ble_eq_true rfl⟩ hlocks
set_option maxHeartbeats 4000000 in
set_option maxRecDepth 100000 in
theorem c_X2_refuseAtRow (l : Launch) (D : va_G) (x h1 h2 h3 a3 : Nat) (cI : ClassId) (f : Nat → Int32) (c : Nat) (n : Nat) (hc : c + n ≤ 200) : mV l yX2_refuseAtRow wsX2_refuseAtRow ({ frames := 0, cells := 0, slots := 0, locals := 0 }) [.ref x, .int (nI n)] D [(cI, .int)] [(x, .inr (2, [.ref h1, .ref h2, .ref h3])), (h3, .inr (1, [.ref a3, .int (nI c)])), (a3, .inl (cI, 200, .inl f))] [(x, .inr (2, [.ref h1, .ref h2, .ref h3])), (h3, .inr (1, [.ref a3, .int (nI c)])), (a3, .inl (cI, 200, .inl f))] := by
  refine hV_body (cc := cX2_refuseAtRow) (maxL := 2) (by decide) rfl (Nat.le_of_ble_eq_true rfl) ?_
  intro p e s m below meth cd A ls Q hat hA hP hK hD hS hl hend
  obtain ⟨hF, hr, hlocks, hv⟩ := id hat
  obtain ⟨hx, hb, hml, hown, hts⟩ := id hF
  have hown : s.vm.findClass RX2 = some m.cls := hown
  have hl : lv_has ls 2 [(0, .ref x), (1, .int (nI n))] := hl
  have hP : va_P D vwCl [(x, .inr (2, [.ref h1, .ref h2, .ref h3])), (h3, .inr (1, [.ref a3, .int (nI c)])), (a3, .inl (cI, 200, .inl f))] s.heap := hP
  have hD : va_D A [(x, .inr (2, [.ref h1, .ref h2, .ref h3])), (h3, .inr (1, [.ref a3, .int (nI c)])), (a3, .inl (cI, 200, .inl f))] := hD
  have iX1 : ∀ w ∈ wsX10, w ∈ wsX2_refuseAtRow := by decide +kernel
  have iX2 : ∀ w ∈ wsX20, w ∈ wsX2_refuseAtRow := by decide +kernel
  have k22 := hts (.fieldLink RX2 22 "HeapAndDeque" "row" "LHeapAndDeque$Row;") (by decide +kernel)
  refine lv_aload_n hx hb dX2_refuseAtRow_0 rfl (lv_at hl 0 rfl) ?_
  refine va_get (D := D) (ci := 2) (v := .ref h3) (C := RX2) (T := TX2) (N := 3) hx hb hts iX2 hown hK hP 0 rfl rfl 2 (by decide) k22 (fun _ h9 => h9) rfl dX2_refuseAtRow_1 ?_
  refine va_getN (D := D) (ci := 1) (v := .int (nI c)) (C := RX1) (T := TX1) (N := 2) hx hb hts iX1 hown hK hP 1 rfl rfl 1 (by decide) (va_Nw.use rfl hv.2.2.2.2.2.1) (fun _ h9 => h9) rfl dX2_refuseAtRow_4 ?_
  refine lv_iload_n hx hb dX2_refuseAtRow_7 rfl (lv_at hl 1 rfl) ?_
  refine lv_iadd hx hb dX2_refuseAtRow_8 ?_
  refine hw_i (y := nI (c + n)) (nI_add _ _) ?_
  refine lv_sipush (v := nI 200) hx hb dX2_refuseAtRow_9 (by decide +kernel) ?_
  refine lv_icmp_le (tgt := 25) hx hb dX2_refuseAtRow_12 (by decide) (fun _ => ?_) (fun hn => absurd (nI_le hc (by decide)) hn)
  exact hend _ _ _ _ hP hD hS dX2_refuseAtRow_25
set_option maxHeartbeats 4000000 in
set_option maxRecDepth 100000 in
theorem c_X2_refuseAtRow_x (l : Launch) (hfl : l.stackTraces = false) (D : va_G) (x h1 h2 h3 a3 : Nat) (cI : ClassId) (f : Nat → Int32) (c : Nat) (n : Nat) (hc : 200 < c + n) (hc1 : c ≤ 200) (hc2 : n ≤ 200) : mX l yX2_refuseAtRow wsX2_refuseAtRow ({ frames := 6, cells := 1, slots := 6, locals := 84 }) [.ref x, .int (nI n)] D [(cI, .int)] [(x, .inr (2, [.ref h1, .ref h2, .ref h3])), (h3, .inr (1, [.ref a3, .int (nI c)])), (a3, .inl (cI, 200, .inl f))] "java/lang/IllegalStateException" := by
  refine hX_body (cc := cX2_refuseAtRow) (maxL := 2) (by decide) rfl (Nat.le_of_ble_eq_true rfl) ?_
  intro p e s m below meth cd ls hat hnt hZ hP hK hD hS hl
  obtain ⟨hF, hr, hlocks, hv⟩ := id hat
  obtain ⟨hx, hb, hml, hown, hts⟩ := id hF
  have hown : s.vm.findClass RX2 = some m.cls := hown
  have hl : lv_has ls 2 [(0, .ref x), (1, .int (nI n))] := hl
  have hP : va_P D vwCl [(x, .inr (2, [.ref h1, .ref h2, .ref h3])), (h3, .inr (1, [.ref a3, .int (nI c)])), (a3, .inl (cI, 200, .inl f))] s.heap := hP
  have hD : va_D (fun _ => True) [(x, .inr (2, [.ref h1, .ref h2, .ref h3])), (h3, .inr (1, [.ref a3, .int (nI c)])), (a3, .inl (cI, 200, .inl f))] := hD
  have iX1 : ∀ w ∈ wsX10, w ∈ wsX2_refuseAtRow := by decide +kernel
  have iX2 : ∀ w ∈ wsX20, w ∈ wsX2_refuseAtRow := by decide +kernel
  have k22 := hts (.fieldLink RX2 22 "HeapAndDeque" "row" "LHeapAndDeque$Row;") (by decide +kernel)
  refine lv_aload_n hx hb dX2_refuseAtRow_0 rfl (lv_at hl 0 rfl) ?_
  refine va_get (D := D) (ci := 2) (v := .ref h3) (C := RX2) (T := TX2) (N := 3) hx hb hts iX2 hown hK hP 0 rfl rfl 2 (by decide) k22 (fun _ h9 => h9) rfl dX2_refuseAtRow_1 ?_
  refine va_getN (D := D) (ci := 1) (v := .int (nI c)) (C := RX1) (T := TX1) (N := 2) hx hb hts iX1 hown hK hP 1 rfl rfl 1 (by decide) (va_Nw.use rfl hv.2.2.2.2.2.1) (fun _ h9 => h9) rfl dX2_refuseAtRow_4 ?_
  refine lv_iload_n hx hb dX2_refuseAtRow_7 rfl (lv_at hl 1 rfl) ?_
  refine lv_iadd hx hb dX2_refuseAtRow_8 ?_
  refine hw_i (y := nI (c + n)) (nI_add _ _) ?_
  refine lv_sipush (v := nI 200) hx hb dX2_refuseAtRow_9 (by decide +kernel) ?_
  refine lv_icmp_le (tgt := 25) hx hb dX2_refuseAtRow_12 (by decide) (fun ht_ => absurd ht_ (nI_ge hc (by omega))) (fun _ => ?_)
  exact hX_throw (E := "java/lang/IllegalStateException") (text := "the row would hold more than 200") (names := ["java/lang/RuntimeException", "java/lang/Exception"]) (ik := 53) (is := 120) (ic := 57) hx hb hfl hown (by decide +kernel) (by decide +kernel) hts (by decide +kernel) hv.1 (by decide +kernel) hv (by decide +kernel) hZ.2.2.2.2.2.2.1 hZ hS (hl.1.trans hml.symm) dX2_refuseAtRow_15 dX2_refuseAtRow_18 dX2_refuseAtRow_19 dX2_refuseAtRow_21 dX2_refuseAtRow_24 hnt ⟨Nat.le_of_ble_eq_true rfl, Nat.le_of_ble_eq_true rfl, Nat.le_of_ble_eq_true rfl, Nat.le_of_ble_eq_true rfl⟩ hlocks
set_option maxHeartbeats 4000000 in
set_option maxRecDepth 100000 in
theorem c_X2_offer (l : Launch) (D : va_G) (x h1 h2 h3 a1 : Nat) (cL : ClassId) (f : Nat → Int64) (c : Nat) (v : Int32) (hc : c < 200) : mI l yX2_offer wsX2_offer ({ frames := 1, cells := 0, slots := 0, locals := 23 }) [.ref x, .int v] D [(cL, .long)] [(x, .inr (2, [.ref h1, .ref h2, .ref h3])), (h1, .inr (0, [.ref a1, .int (nI c)])), (a1, .inl (cL, 200, .inr (.inl f)))] [(x, .inr (2, [.ref h1, .ref h2, .ref h3])), (h1, .inr (0, [.ref a1, .int (nI (c + 1))])), (a1, .inl (cL, 200, .inr (.inl (s_put v.toInt64 c f))))] (nI (c + 1)) := by
  refine hI_body (cc := cX2_offer) (maxL := 2) (by decide) rfl (Nat.le_of_ble_eq_true rfl) (rfl) ?_
  intro p e s m below meth cd A ls Q hat hA hP hK hD hS hl hend
  obtain ⟨hF, hr, hlocks, hv⟩ := id hat
  obtain ⟨hx, hb, hml, hown, hts⟩ := id hF
  have hown : s.vm.findClass RX2 = some m.cls := hown
  have hl : lv_has ls 2 [(0, .ref x), (1, .int v)] := hl
  have hP : va_P D vwCl [(x, .inr (2, [.ref h1, .ref h2, .ref h3])), (h1, .inr (0, [.ref a1, .int (nI c)])), (a1, .inl (cL, 200, .inr (.inl f)))] s.heap := hP
  have hD : va_D A [(x, .inr (2, [.ref h1, .ref h2, .ref h3])), (h1, .inr (0, [.ref a1, .int (nI c)])), (a1, .inl (cL, 200, .inr (.inl f)))] := hD
  have iX2 : ∀ w ∈ wsX20, w ∈ wsX2_offer := by decide +kernel
  have k10 := hts (.fieldLink RX2 10 "HeapAndDeque" "numbers" "LHeapAndDeque$LeastFirst;") (by decide +kernel)
  refine lv_aload_n hx hb dX2_offer_0 rfl (lv_at hl 0 rfl) ?_
  refine va_get (D := D) (ci := 2) (v := .ref h1) (C := RX2) (T := TX2) (N := 3) hx hb hts iX2 hown hK hP 0 rfl rfl 0 (by decide) k10 (fun _ h9 => h9) rfl dX2_offer_1 ?_
  refine lv_iload_n hx hb dX2_offer_4 rfl (lv_at hl 1 rfl) ?_
  refine lv_i2l hx hb dX2_offer_5 rfl ?_
  refine hc_iV (As := [.long v.toInt64]) (rest := []) (wc := [(h1, .inr (0, [.ref a1, .int (nI c)])), (a1, .inl (cL, 200, .inr (.inl f)))]) (wr := [(x, .inr (2, [.ref h1, .ref h2, .ref h3]))]) (w1 := [(h1, .inr (0, [.ref a1, .int (nI (c + 1))])), (a1, .inl (cL, 200, .inr (.inl (s_put v.toInt64 c f))))]) (w' := [(x, .inr (2, [.ref h1, .ref h2, .ref h3])), (h1, .inr (0, [.ref a1, .int (nI (c + 1))])), (a1, .inl (cL, 200, .inr (.inl (s_put v.toInt64 c f))))]) hF (c_X0_put l D h1 a1 cL f c v.toInt64 hc) (cwV 1 hts gX2_offer_X0_put rfl rfl rfl (by decide +kernel) ⟨Nat.le_of_ble_eq_true rfl, Nat.le_of_ble_eq_true rfl⟩) hP hK hD hS hA hv [1, 2] [0] [0, 1, 2] [0] ⟨rfl, rfl, rfl, rfl, ⟨by decide, by decide, by decide⟩, by decide⟩ 1 0 rfl rfl rfl rfl hl.1 rfl (Nat.le_of_ble_eq_true rfl) dX2_offer_6 ⟨Nat.zero_le _, Nat.zero_le _⟩ (fun H locs hP hD hS => ?_)
  exact hend _ _ _ _ _ hP hD hS (rfl) dX2_offer_9
set_option maxHeartbeats 4000000 in
set_option maxRecDepth 100000 in
theorem c_X2_offer_x (l : Launch) (hfl : l.stackTraces = false) (D : va_G) (x h1 h2 h3 a1 : Nat) (cL : ClassId) (f : Nat → Int64) (v : Int32) : mX l yX2_offer wsX2_offer ({ frames := 7, cells := 1, slots := 6, locals := 107 }) [.ref x, .int v] D [(cL, .long)] [(x, .inr (2, [.ref h1, .ref h2, .ref h3])), (h1, .inr (0, [.ref a1, .int (nI 200)])), (a1, .inl (cL, 200, .inr (.inl f)))] "java/lang/IllegalStateException" := by
  refine hX_body (cc := cX2_offer) (maxL := 2) (by decide) rfl (Nat.le_of_ble_eq_true rfl) ?_
  intro p e s m below meth cd ls hat hnt hZ hP hK hD hS hl
  obtain ⟨hF, hr, hlocks, hv⟩ := id hat
  obtain ⟨hx, hb, hml, hown, hts⟩ := id hF
  have hown : s.vm.findClass RX2 = some m.cls := hown
  have hl : lv_has ls 2 [(0, .ref x), (1, .int v)] := hl
  have hP : va_P D vwCl [(x, .inr (2, [.ref h1, .ref h2, .ref h3])), (h1, .inr (0, [.ref a1, .int (nI 200)])), (a1, .inl (cL, 200, .inr (.inl f)))] s.heap := hP
  have hD : va_D (fun _ => True) [(x, .inr (2, [.ref h1, .ref h2, .ref h3])), (h1, .inr (0, [.ref a1, .int (nI 200)])), (a1, .inl (cL, 200, .inr (.inl f)))] := hD
  have iX2 : ∀ w ∈ wsX20, w ∈ wsX2_offer := by decide +kernel
  have k10 := hts (.fieldLink RX2 10 "HeapAndDeque" "numbers" "LHeapAndDeque$LeastFirst;") (by decide +kernel)
  refine lv_aload_n hx hb dX2_offer_0 rfl (lv_at hl 0 rfl) ?_
  refine va_get (D := D) (ci := 2) (v := .ref h1) (C := RX2) (T := TX2) (N := 3) hx hb hts iX2 hown hK hP 0 rfl rfl 0 (by decide) k10 (fun _ h9 => h9) rfl dX2_offer_1 ?_
  refine lv_iload_n hx hb dX2_offer_4 rfl (lv_at hl 1 rfl) ?_
  refine lv_i2l hx hb dX2_offer_5 rfl ?_
  exact hX_thruV (As := [.long v.toInt64]) (rest := []) (wc := [(h1, .inr (0, [.ref a1, .int (nI 200)])), (a1, .inl (cL, 200, .inr (.inl f)))]) hF (c_X0_put_x l hfl D h1 a1 cL f v.toInt64) (cwV 1 hts gX2_offer_X0_put rfl rfl rfl (by decide +kernel) ⟨Nat.le_of_ble_eq_true rfl, Nat.le_of_ble_eq_true rfl⟩) hP hK hD hS hv hZ [1, 2] [0] rfl (by decide) rfl 1 0 rfl rfl rfl rfl hl.1 rfl (Nat.le_of_ble_eq_true rfl) dX2_offer_6 ⟨Nat.le_of_ble_eq_true rfl, Nat.le_of_ble_eq_true rfl⟩ hnt hlocks
set_option maxHeartbeats 4000000 in
set_option maxRecDepth 100000 in
theorem c_X2_add (l : Launch) (D : va_G) (x h1 h2 h3 a1 : Nat) (cL : ClassId) (f : Nat → Int64) (c : Nat) (v : Int32) (hc : c < 200) : mI l yX2_add wsX2_add ({ frames := 1, cells := 0, slots := 0, locals := 23 }) [.ref x, .int v] D [(cL, .long)] [(x, .inr (2, [.ref h1, .ref h2, .ref h3])), (h1, .inr (0, [.ref a1, .int (nI c)])), (a1, .inl (cL, 200, .inr (.inl f)))] [(x, .inr (2, [.ref h1, .ref h2, .ref h3])), (h1, .inr (0, [.ref a1, .int (nI (c + 1))])), (a1, .inl (cL, 200, .inr (.inl (s_put v.toInt64 c f))))] (nI (c + 1)) := by
  refine hI_body (cc := cX2_add) (maxL := 2) (by decide) rfl (Nat.le_of_ble_eq_true rfl) (rfl) ?_
  intro p e s m below meth cd A ls Q hat hA hP hK hD hS hl hend
  obtain ⟨hF, hr, hlocks, hv⟩ := id hat
  obtain ⟨hx, hb, hml, hown, hts⟩ := id hF
  have hown : s.vm.findClass RX2 = some m.cls := hown
  have hl : lv_has ls 2 [(0, .ref x), (1, .int v)] := hl
  have hP : va_P D vwCl [(x, .inr (2, [.ref h1, .ref h2, .ref h3])), (h1, .inr (0, [.ref a1, .int (nI c)])), (a1, .inl (cL, 200, .inr (.inl f)))] s.heap := hP
  have hD : va_D A [(x, .inr (2, [.ref h1, .ref h2, .ref h3])), (h1, .inr (0, [.ref a1, .int (nI c)])), (a1, .inl (cL, 200, .inr (.inl f)))] := hD
  have iX2 : ∀ w ∈ wsX20, w ∈ wsX2_add := by decide +kernel
  have k10 := hts (.fieldLink RX2 10 "HeapAndDeque" "numbers" "LHeapAndDeque$LeastFirst;") (by decide +kernel)
  refine lv_aload_n hx hb dX2_add_0 rfl (lv_at hl 0 rfl) ?_
  refine va_get (D := D) (ci := 2) (v := .ref h1) (C := RX2) (T := TX2) (N := 3) hx hb hts iX2 hown hK hP 0 rfl rfl 0 (by decide) k10 (fun _ h9 => h9) rfl dX2_add_1 ?_
  refine lv_iload_n hx hb dX2_add_4 rfl (lv_at hl 1 rfl) ?_
  refine lv_i2l hx hb dX2_add_5 rfl ?_
  refine hc_iV (As := [.long v.toInt64]) (rest := []) (wc := [(h1, .inr (0, [.ref a1, .int (nI c)])), (a1, .inl (cL, 200, .inr (.inl f)))]) (wr := [(x, .inr (2, [.ref h1, .ref h2, .ref h3]))]) (w1 := [(h1, .inr (0, [.ref a1, .int (nI (c + 1))])), (a1, .inl (cL, 200, .inr (.inl (s_put v.toInt64 c f))))]) (w' := [(x, .inr (2, [.ref h1, .ref h2, .ref h3])), (h1, .inr (0, [.ref a1, .int (nI (c + 1))])), (a1, .inl (cL, 200, .inr (.inl (s_put v.toInt64 c f))))]) hF (c_X0_put l D h1 a1 cL f c v.toInt64 hc) (cwV 1 hts gX2_add_X0_put rfl rfl rfl (by decide +kernel) ⟨Nat.le_of_ble_eq_true rfl, Nat.le_of_ble_eq_true rfl⟩) hP hK hD hS hA hv [1, 2] [0] [0, 1, 2] [0] ⟨rfl, rfl, rfl, rfl, ⟨by decide, by decide, by decide⟩, by decide⟩ 1 0 rfl rfl rfl rfl hl.1 rfl (Nat.le_of_ble_eq_true rfl) dX2_add_6 ⟨Nat.zero_le _, Nat.zero_le _⟩ (fun H locs hP hD hS => ?_)
  exact hend _ _ _ _ _ hP hD hS (rfl) dX2_add_9
set_option maxHeartbeats 4000000 in
set_option maxRecDepth 100000 in
theorem c_X2_add_x (l : Launch) (hfl : l.stackTraces = false) (D : va_G) (x h1 h2 h3 a1 : Nat) (cL : ClassId) (f : Nat → Int64) (v : Int32) : mX l yX2_add wsX2_add ({ frames := 7, cells := 1, slots := 6, locals := 107 }) [.ref x, .int v] D [(cL, .long)] [(x, .inr (2, [.ref h1, .ref h2, .ref h3])), (h1, .inr (0, [.ref a1, .int (nI 200)])), (a1, .inl (cL, 200, .inr (.inl f)))] "java/lang/IllegalStateException" := by
  refine hX_body (cc := cX2_add) (maxL := 2) (by decide) rfl (Nat.le_of_ble_eq_true rfl) ?_
  intro p e s m below meth cd ls hat hnt hZ hP hK hD hS hl
  obtain ⟨hF, hr, hlocks, hv⟩ := id hat
  obtain ⟨hx, hb, hml, hown, hts⟩ := id hF
  have hown : s.vm.findClass RX2 = some m.cls := hown
  have hl : lv_has ls 2 [(0, .ref x), (1, .int v)] := hl
  have hP : va_P D vwCl [(x, .inr (2, [.ref h1, .ref h2, .ref h3])), (h1, .inr (0, [.ref a1, .int (nI 200)])), (a1, .inl (cL, 200, .inr (.inl f)))] s.heap := hP
  have hD : va_D (fun _ => True) [(x, .inr (2, [.ref h1, .ref h2, .ref h3])), (h1, .inr (0, [.ref a1, .int (nI 200)])), (a1, .inl (cL, 200, .inr (.inl f)))] := hD
  have iX2 : ∀ w ∈ wsX20, w ∈ wsX2_add := by decide +kernel
  have k10 := hts (.fieldLink RX2 10 "HeapAndDeque" "numbers" "LHeapAndDeque$LeastFirst;") (by decide +kernel)
  refine lv_aload_n hx hb dX2_add_0 rfl (lv_at hl 0 rfl) ?_
  refine va_get (D := D) (ci := 2) (v := .ref h1) (C := RX2) (T := TX2) (N := 3) hx hb hts iX2 hown hK hP 0 rfl rfl 0 (by decide) k10 (fun _ h9 => h9) rfl dX2_add_1 ?_
  refine lv_iload_n hx hb dX2_add_4 rfl (lv_at hl 1 rfl) ?_
  refine lv_i2l hx hb dX2_add_5 rfl ?_
  exact hX_thruV (As := [.long v.toInt64]) (rest := []) (wc := [(h1, .inr (0, [.ref a1, .int (nI 200)])), (a1, .inl (cL, 200, .inr (.inl f)))]) hF (c_X0_put_x l hfl D h1 a1 cL f v.toInt64) (cwV 1 hts gX2_add_X0_put rfl rfl rfl (by decide +kernel) ⟨Nat.le_of_ble_eq_true rfl, Nat.le_of_ble_eq_true rfl⟩) hP hK hD hS hv hZ [1, 2] [0] rfl (by decide) rfl 1 0 rfl rfl rfl rfl hl.1 rfl (Nat.le_of_ble_eq_true rfl) dX2_add_6 ⟨Nat.le_of_ble_eq_true rfl, Nat.le_of_ble_eq_true rfl⟩ hnt hlocks
set_option maxHeartbeats 4000000 in
set_option maxRecDepth 100000 in
theorem c_X2_peek (l : Launch) (D : va_G) (x h1 h2 h3 a1 : Nat) (cL : ClassId) (f : Nat → Int64) (c : Nat) (h1c : 1 ≤ c) (hc : c ≤ 200) : mI l yX2_peek wsX2_peek ({ frames := 1, cells := 0, slots := 0, locals := 20 }) [.ref x] D [(cL, .long)] [(x, .inr (2, [.ref h1, .ref h2, .ref h3])), (h1, .inr (0, [.ref a1, .int (nI c)])), (a1, .inl (cL, 200, .inr (.inl f)))] [(x, .inr (2, [.ref h1, .ref h2, .ref h3])), (h1, .inr (0, [.ref a1, .int (nI c)])), (a1, .inl (cL, 200, .inr (.inl f)))] ((f (c - 1)).toInt32) := by
  refine hI_body (cc := cX2_peek) (maxL := 1) (by decide) rfl (Nat.le_of_ble_eq_true rfl) (rfl) ?_
  intro p e s m below meth cd A ls Q hat hA hP hK hD hS hl hend
  obtain ⟨hF, hr, hlocks, hv⟩ := id hat
  obtain ⟨hx, hb, hml, hown, hts⟩ := id hF
  have hown : s.vm.findClass RX2 = some m.cls := hown
  have hl : lv_has ls 1 [(0, .ref x)] := hl
  have hP : va_P D vwCl [(x, .inr (2, [.ref h1, .ref h2, .ref h3])), (h1, .inr (0, [.ref a1, .int (nI c)])), (a1, .inl (cL, 200, .inr (.inl f)))] s.heap := hP
  have hD : va_D A [(x, .inr (2, [.ref h1, .ref h2, .ref h3])), (h1, .inr (0, [.ref a1, .int (nI c)])), (a1, .inl (cL, 200, .inr (.inl f)))] := hD
  have iX2 : ∀ w ∈ wsX20, w ∈ wsX2_peek := by decide +kernel
  have k10 := hts (.fieldLink RX2 10 "HeapAndDeque" "numbers" "LHeapAndDeque$LeastFirst;") (by decide +kernel)
  refine lv_aload_n hx hb dX2_peek_0 rfl (lv_at hl 0 rfl) ?_
  refine va_get (D := D) (ci := 2) (v := .ref h1) (C := RX2) (T := TX2) (N := 3) hx hb hts iX2 hown hK hP 0 rfl rfl 0 (by decide) k10 (fun _ h9 => h9) rfl dX2_peek_1 ?_
  refine hc_lV (As := []) (rest := []) (wc := [(h1, .inr (0, [.ref a1, .int (nI c)])), (a1, .inl (cL, 200, .inr (.inl f)))]) (wr := [(x, .inr (2, [.ref h1, .ref h2, .ref h3]))]) (w1 := [(h1, .inr (0, [.ref a1, .int (nI c)])), (a1, .inl (cL, 200, .inr (.inl f)))]) (w' := [(x, .inr (2, [.ref h1, .ref h2, .ref h3])), (h1, .inr (0, [.ref a1, .int (nI c)])), (a1, .inl (cL, 200, .inr (.inl f)))]) hF (c_X0_least l D h1 a1 cL f c h1c hc) (cwV 0 hts gX2_peek_X0_least rfl rfl rfl (by decide +kernel) ⟨Nat.le_of_ble_eq_true rfl, Nat.le_of_ble_eq_true rfl⟩) hP hK hD hS hA hv [1, 2] [0] [0, 1, 2] [0] ⟨rfl, rfl, rfl, rfl, ⟨by decide, by decide, by decide⟩, by decide⟩ 1 0 rfl rfl rfl rfl hl.1 rfl (Nat.le_of_ble_eq_true rfl) dX2_peek_4 ⟨Nat.zero_le _, Nat.zero_le _⟩ (fun H locs hP hD hS => ?_)
  refine lv_l2i hx hb dX2_peek_7 rfl ?_
  exact hend _ _ _ _ _ hP hD hS (rfl) dX2_peek_8
set_option maxHeartbeats 4000000 in
set_option maxRecDepth 100000 in
theorem c_X2_peek_x (l : Launch) (hfl : l.stackTraces = false) (D : va_G) (x h1 h2 h3 a1 : Nat) (cL : ClassId) (f : Nat → Int64) : mX l yX2_peek wsX2_peek ({ frames := 7, cells := 1, slots := 6, locals := 104 }) [.ref x] D [(cL, .long)] [(x, .inr (2, [.ref h1, .ref h2, .ref h3])), (h1, .inr (0, [.ref a1, .int (nI 0)])), (a1, .inl (cL, 200, .inr (.inl f)))] hNS := by
  refine hX_body (cc := cX2_peek) (maxL := 1) (by decide) rfl (Nat.le_of_ble_eq_true rfl) ?_
  intro p e s m below meth cd ls hat hnt hZ hP hK hD hS hl
  obtain ⟨hF, hr, hlocks, hv⟩ := id hat
  obtain ⟨hx, hb, hml, hown, hts⟩ := id hF
  have hown : s.vm.findClass RX2 = some m.cls := hown
  have hl : lv_has ls 1 [(0, .ref x)] := hl
  have hP : va_P D vwCl [(x, .inr (2, [.ref h1, .ref h2, .ref h3])), (h1, .inr (0, [.ref a1, .int (nI 0)])), (a1, .inl (cL, 200, .inr (.inl f)))] s.heap := hP
  have hD : va_D (fun _ => True) [(x, .inr (2, [.ref h1, .ref h2, .ref h3])), (h1, .inr (0, [.ref a1, .int (nI 0)])), (a1, .inl (cL, 200, .inr (.inl f)))] := hD
  have iX2 : ∀ w ∈ wsX20, w ∈ wsX2_peek := by decide +kernel
  have k10 := hts (.fieldLink RX2 10 "HeapAndDeque" "numbers" "LHeapAndDeque$LeastFirst;") (by decide +kernel)
  refine lv_aload_n hx hb dX2_peek_0 rfl (lv_at hl 0 rfl) ?_
  refine va_get (D := D) (ci := 2) (v := .ref h1) (C := RX2) (T := TX2) (N := 3) hx hb hts iX2 hown hK hP 0 rfl rfl 0 (by decide) k10 (fun _ h9 => h9) rfl dX2_peek_1 ?_
  exact hX_thruV (As := []) (rest := []) (wc := [(h1, .inr (0, [.ref a1, .int (nI 0)])), (a1, .inl (cL, 200, .inr (.inl f)))]) hF (c_X0_least_x l hfl D h1 a1 cL f) (cwV 0 hts gX2_peek_X0_least rfl rfl rfl (by decide +kernel) ⟨Nat.le_of_ble_eq_true rfl, Nat.le_of_ble_eq_true rfl⟩) hP hK hD hS hv hZ [1, 2] [0] rfl (by decide) rfl 1 0 rfl rfl rfl rfl hl.1 rfl (Nat.le_of_ble_eq_true rfl) dX2_peek_4 ⟨Nat.le_of_ble_eq_true rfl, Nat.le_of_ble_eq_true rfl⟩ hnt hlocks
set_option maxHeartbeats 4000000 in
set_option maxRecDepth 100000 in
theorem c_X2_poll (l : Launch) (D : va_G) (x h1 h2 h3 a1 : Nat) (cL : ClassId) (f : Nat → Int64) (c : Nat) (h1c : 1 ≤ c) (hc : c ≤ 200) : mI l yX2_poll wsX2_poll ({ frames := 2, cells := 0, slots := 0, locals := 42 }) [.ref x] D [(cL, .long)] [(x, .inr (2, [.ref h1, .ref h2, .ref h3])), (h1, .inr (0, [.ref a1, .int (nI c)])), (a1, .inl (cL, 200, .inr (.inl f)))] [(x, .inr (2, [.ref h1, .ref h2, .ref h3])), (h1, .inr (0, [.ref a1, .int (nI (c - 1))])), (a1, .inl (cL, 200, .inr (.inl f)))] ((f (c - 1)).toInt32) := by
  refine hI_body (cc := cX2_poll) (maxL := 1) (by decide) rfl (Nat.le_of_ble_eq_true rfl) (rfl) ?_
  intro p e s m below meth cd A ls Q hat hA hP hK hD hS hl hend
  obtain ⟨hF, hr, hlocks, hv⟩ := id hat
  obtain ⟨hx, hb, hml, hown, hts⟩ := id hF
  have hown : s.vm.findClass RX2 = some m.cls := hown
  have hl : lv_has ls 1 [(0, .ref x)] := hl
  have hP : va_P D vwCl [(x, .inr (2, [.ref h1, .ref h2, .ref h3])), (h1, .inr (0, [.ref a1, .int (nI c)])), (a1, .inl (cL, 200, .inr (.inl f)))] s.heap := hP
  have hD : va_D A [(x, .inr (2, [.ref h1, .ref h2, .ref h3])), (h1, .inr (0, [.ref a1, .int (nI c)])), (a1, .inl (cL, 200, .inr (.inl f)))] := hD
  have iX2 : ∀ w ∈ wsX20, w ∈ wsX2_poll := by decide +kernel
  have k10 := hts (.fieldLink RX2 10 "HeapAndDeque" "numbers" "LHeapAndDeque$LeastFirst;") (by decide +kernel)
  refine lv_aload_n hx hb dX2_poll_0 rfl (lv_at hl 0 rfl) ?_
  refine va_get (D := D) (ci := 2) (v := .ref h1) (C := RX2) (T := TX2) (N := 3) hx hb hts iX2 hown hK hP 0 rfl rfl 0 (by decide) k10 (fun _ h9 => h9) rfl dX2_poll_1 ?_
  refine hc_lV (As := []) (rest := []) (wc := [(h1, .inr (0, [.ref a1, .int (nI c)])), (a1, .inl (cL, 200, .inr (.inl f)))]) (wr := [(x, .inr (2, [.ref h1, .ref h2, .ref h3]))]) (w1 := [(h1, .inr (0, [.ref a1, .int (nI (c - 1))])), (a1, .inl (cL, 200, .inr (.inl f)))]) (w' := [(x, .inr (2, [.ref h1, .ref h2, .ref h3])), (h1, .inr (0, [.ref a1, .int (nI (c - 1))])), (a1, .inl (cL, 200, .inr (.inl f)))]) hF (c_X0_takeLeast l D h1 a1 cL f c h1c hc) (cwV 0 hts gX2_poll_X0_takeLeast rfl rfl rfl (by decide +kernel) ⟨Nat.le_of_ble_eq_true rfl, Nat.le_of_ble_eq_true rfl⟩) hP hK hD hS hA hv [1, 2] [0] [0, 1, 2] [0] ⟨rfl, rfl, rfl, rfl, ⟨by decide, by decide, by decide⟩, by decide⟩ 1 0 rfl rfl rfl rfl hl.1 rfl (Nat.le_of_ble_eq_true rfl) dX2_poll_4 ⟨Nat.zero_le _, Nat.zero_le _⟩ (fun H locs hP hD hS => ?_)
  refine lv_l2i hx hb dX2_poll_7 rfl ?_
  exact hend _ _ _ _ _ hP hD hS (rfl) dX2_poll_8
set_option maxHeartbeats 4000000 in
set_option maxRecDepth 100000 in
theorem c_X2_poll_x (l : Launch) (hfl : l.stackTraces = false) (D : va_G) (x h1 h2 h3 a1 : Nat) (cL : ClassId) (f : Nat → Int64) : mX l yX2_poll wsX2_poll ({ frames := 8, cells := 1, slots := 6, locals := 126 }) [.ref x] D [(cL, .long)] [(x, .inr (2, [.ref h1, .ref h2, .ref h3])), (h1, .inr (0, [.ref a1, .int (nI 0)])), (a1, .inl (cL, 200, .inr (.inl f)))] hNS := by
  refine hX_body (cc := cX2_poll) (maxL := 1) (by decide) rfl (Nat.le_of_ble_eq_true rfl) ?_
  intro p e s m below meth cd ls hat hnt hZ hP hK hD hS hl
  obtain ⟨hF, hr, hlocks, hv⟩ := id hat
  obtain ⟨hx, hb, hml, hown, hts⟩ := id hF
  have hown : s.vm.findClass RX2 = some m.cls := hown
  have hl : lv_has ls 1 [(0, .ref x)] := hl
  have hP : va_P D vwCl [(x, .inr (2, [.ref h1, .ref h2, .ref h3])), (h1, .inr (0, [.ref a1, .int (nI 0)])), (a1, .inl (cL, 200, .inr (.inl f)))] s.heap := hP
  have hD : va_D (fun _ => True) [(x, .inr (2, [.ref h1, .ref h2, .ref h3])), (h1, .inr (0, [.ref a1, .int (nI 0)])), (a1, .inl (cL, 200, .inr (.inl f)))] := hD
  have iX2 : ∀ w ∈ wsX20, w ∈ wsX2_poll := by decide +kernel
  have k10 := hts (.fieldLink RX2 10 "HeapAndDeque" "numbers" "LHeapAndDeque$LeastFirst;") (by decide +kernel)
  refine lv_aload_n hx hb dX2_poll_0 rfl (lv_at hl 0 rfl) ?_
  refine va_get (D := D) (ci := 2) (v := .ref h1) (C := RX2) (T := TX2) (N := 3) hx hb hts iX2 hown hK hP 0 rfl rfl 0 (by decide) k10 (fun _ h9 => h9) rfl dX2_poll_1 ?_
  exact hX_thruV (As := []) (rest := []) (wc := [(h1, .inr (0, [.ref a1, .int (nI 0)])), (a1, .inl (cL, 200, .inr (.inl f)))]) hF (c_X0_takeLeast_x l hfl D h1 a1 cL f) (cwV 0 hts gX2_poll_X0_takeLeast rfl rfl rfl (by decide +kernel) ⟨Nat.le_of_ble_eq_true rfl, Nat.le_of_ble_eq_true rfl⟩) hP hK hD hS hv hZ [1, 2] [0] rfl (by decide) rfl 1 0 rfl rfl rfl rfl hl.1 rfl (Nat.le_of_ble_eq_true rfl) dX2_poll_4 ⟨Nat.le_of_ble_eq_true rfl, Nat.le_of_ble_eq_true rfl⟩ hnt hlocks
set_option maxHeartbeats 4000000 in
set_option maxRecDepth 100000 in
theorem c_X2_peekPair (l : Launch) (D : va_G) (x h1 h2 h3 a2 : Nat) (cL : ClassId) (f : Nat → Int64) (c : Nat) (h1c : 1 ≤ c) (hc : c ≤ 200) : mL l yX2_peekPair wsX2_peekPair ({ frames := 3, cells := 0, slots := 0, locals := 69 }) [.ref x] D [(cL, .long)] [(x, .inr (2, [.ref h1, .ref h2, .ref h3])), (h2, .inr (0, [.ref a2, .int (nI c)])), (a2, .inl (cL, 200, .inr (.inl f)))] [(x, .inr (2, [.ref h1, .ref h2, .ref h3])), (h2, .inr (0, [.ref a2, .int (nI c)])), (a2, .inl (cL, 200, .inr (.inl f)))] (s_tell (f (c - 1))) := by
  refine hL_body (cc := cX2_peekPair) (maxL := 1) (by decide) rfl (Nat.le_of_ble_eq_true rfl) ?_
  intro p e s m below meth cd A ls Q hat hA hP hK hD hS hl hend
  obtain ⟨hF, hr, hlocks, hv⟩ := id hat
  obtain ⟨hx, hb, hml, hown, hts⟩ := id hF
  have hown : s.vm.findClass RX2 = some m.cls := hown
  have hl : lv_has ls 1 [(0, .ref x)] := hl
  have hP : va_P D vwCl [(x, .inr (2, [.ref h1, .ref h2, .ref h3])), (h2, .inr (0, [.ref a2, .int (nI c)])), (a2, .inl (cL, 200, .inr (.inl f)))] s.heap := hP
  have hD : va_D A [(x, .inr (2, [.ref h1, .ref h2, .ref h3])), (h2, .inr (0, [.ref a2, .int (nI c)])), (a2, .inl (cL, 200, .inr (.inl f)))] := hD
  have iX2 : ∀ w ∈ wsX20, w ∈ wsX2_peekPair := by decide +kernel
  have k16 := hts (.fieldLink RX2 16 "HeapAndDeque" "pairs" "LHeapAndDeque$LeastFirst;") (by decide +kernel)
  refine lv_aload_n hx hb dX2_peekPair_0 rfl (lv_at hl 0 rfl) ?_
  refine va_get (D := D) (ci := 2) (v := .ref h2) (C := RX2) (T := TX2) (N := 3) hx hb hts iX2 hown hK hP 0 rfl rfl 1 (by decide) k16 (fun _ h9 => h9) rfl dX2_peekPair_1 ?_
  refine hc_lV (As := []) (rest := []) (wc := [(h2, .inr (0, [.ref a2, .int (nI c)])), (a2, .inl (cL, 200, .inr (.inl f)))]) (wr := [(x, .inr (2, [.ref h1, .ref h2, .ref h3]))]) (w1 := [(h2, .inr (0, [.ref a2, .int (nI c)])), (a2, .inl (cL, 200, .inr (.inl f)))]) (w' := [(x, .inr (2, [.ref h1, .ref h2, .ref h3])), (h2, .inr (0, [.ref a2, .int (nI c)])), (a2, .inl (cL, 200, .inr (.inl f)))]) hF (c_X0_least l D h2 a2 cL f c h1c hc) (cwV 0 hts gX2_peekPair_X0_least rfl rfl rfl (by decide +kernel) ⟨Nat.le_of_ble_eq_true rfl, Nat.le_of_ble_eq_true rfl⟩) hP hK hD hS hA hv [1, 2] [0] [0, 1, 2] [0] ⟨rfl, rfl, rfl, rfl, ⟨by decide, by decide, by decide⟩, by decide⟩ 1 0 rfl rfl rfl rfl hl.1 rfl (Nat.le_of_ble_eq_true rfl) dX2_peekPair_4 ⟨Nat.zero_le _, Nat.zero_le _⟩ (fun H locs hP hD hS => ?_)
  refine hc_lS (As := [.long (f (c - 1))]) (rest := []) hF (c_X2_toldOf l D (f (c - 1))) (va_cwS 1 hts gX2_peekPair_X2_toldOf rfl rfl rfl (by decide +kernel) ⟨Nat.le_of_ble_eq_true rfl, Nat.le_of_ble_eq_true rfl⟩) hK hS hA hv rfl hl.1 rfl (Nat.le_of_ble_eq_true rfl) dX2_peekPair_7 ⟨Nat.zero_le _, Nat.zero_le _⟩ (fun H locs hPk hz9 hk9 hS => ?_)
  have hP := hPk _ hP
  exact hend _ _ _ _ _ hP hD hS (rfl) dX2_peekPair_10
set_option maxHeartbeats 4000000 in
set_option maxRecDepth 100000 in
theorem c_X2_peekPair_x (l : Launch) (hfl : l.stackTraces = false) (D : va_G) (x h1 h2 h3 a2 : Nat) (cL : ClassId) (f : Nat → Int64) : mX l yX2_peekPair wsX2_peekPair ({ frames := 7, cells := 1, slots := 6, locals := 104 }) [.ref x] D [(cL, .long)] [(x, .inr (2, [.ref h1, .ref h2, .ref h3])), (h2, .inr (0, [.ref a2, .int (nI 0)])), (a2, .inl (cL, 200, .inr (.inl f)))] hNS := by
  refine hX_body (cc := cX2_peekPair) (maxL := 1) (by decide) rfl (Nat.le_of_ble_eq_true rfl) ?_
  intro p e s m below meth cd ls hat hnt hZ hP hK hD hS hl
  obtain ⟨hF, hr, hlocks, hv⟩ := id hat
  obtain ⟨hx, hb, hml, hown, hts⟩ := id hF
  have hown : s.vm.findClass RX2 = some m.cls := hown
  have hl : lv_has ls 1 [(0, .ref x)] := hl
  have hP : va_P D vwCl [(x, .inr (2, [.ref h1, .ref h2, .ref h3])), (h2, .inr (0, [.ref a2, .int (nI 0)])), (a2, .inl (cL, 200, .inr (.inl f)))] s.heap := hP
  have hD : va_D (fun _ => True) [(x, .inr (2, [.ref h1, .ref h2, .ref h3])), (h2, .inr (0, [.ref a2, .int (nI 0)])), (a2, .inl (cL, 200, .inr (.inl f)))] := hD
  have iX2 : ∀ w ∈ wsX20, w ∈ wsX2_peekPair := by decide +kernel
  have k16 := hts (.fieldLink RX2 16 "HeapAndDeque" "pairs" "LHeapAndDeque$LeastFirst;") (by decide +kernel)
  refine lv_aload_n hx hb dX2_peekPair_0 rfl (lv_at hl 0 rfl) ?_
  refine va_get (D := D) (ci := 2) (v := .ref h2) (C := RX2) (T := TX2) (N := 3) hx hb hts iX2 hown hK hP 0 rfl rfl 1 (by decide) k16 (fun _ h9 => h9) rfl dX2_peekPair_1 ?_
  exact hX_thruV (As := []) (rest := []) (wc := [(h2, .inr (0, [.ref a2, .int (nI 0)])), (a2, .inl (cL, 200, .inr (.inl f)))]) hF (c_X0_least_x l hfl D h2 a2 cL f) (cwV 0 hts gX2_peekPair_X0_least rfl rfl rfl (by decide +kernel) ⟨Nat.le_of_ble_eq_true rfl, Nat.le_of_ble_eq_true rfl⟩) hP hK hD hS hv hZ [1, 2] [0] rfl (by decide) rfl 1 0 rfl rfl rfl rfl hl.1 rfl (Nat.le_of_ble_eq_true rfl) dX2_peekPair_4 ⟨Nat.le_of_ble_eq_true rfl, Nat.le_of_ble_eq_true rfl⟩ hnt hlocks
set_option maxHeartbeats 4000000 in
set_option maxRecDepth 100000 in
theorem c_X2_pollPair (l : Launch) (D : va_G) (x h1 h2 h3 a2 : Nat) (cL : ClassId) (f : Nat → Int64) (c : Nat) (h1c : 1 ≤ c) (hc : c ≤ 200) : mL l yX2_pollPair wsX2_pollPair ({ frames := 3, cells := 0, slots := 0, locals := 69 }) [.ref x] D [(cL, .long)] [(x, .inr (2, [.ref h1, .ref h2, .ref h3])), (h2, .inr (0, [.ref a2, .int (nI c)])), (a2, .inl (cL, 200, .inr (.inl f)))] [(x, .inr (2, [.ref h1, .ref h2, .ref h3])), (h2, .inr (0, [.ref a2, .int (nI (c - 1))])), (a2, .inl (cL, 200, .inr (.inl f)))] (s_tell (f (c - 1))) := by
  refine hL_body (cc := cX2_pollPair) (maxL := 1) (by decide) rfl (Nat.le_of_ble_eq_true rfl) ?_
  intro p e s m below meth cd A ls Q hat hA hP hK hD hS hl hend
  obtain ⟨hF, hr, hlocks, hv⟩ := id hat
  obtain ⟨hx, hb, hml, hown, hts⟩ := id hF
  have hown : s.vm.findClass RX2 = some m.cls := hown
  have hl : lv_has ls 1 [(0, .ref x)] := hl
  have hP : va_P D vwCl [(x, .inr (2, [.ref h1, .ref h2, .ref h3])), (h2, .inr (0, [.ref a2, .int (nI c)])), (a2, .inl (cL, 200, .inr (.inl f)))] s.heap := hP
  have hD : va_D A [(x, .inr (2, [.ref h1, .ref h2, .ref h3])), (h2, .inr (0, [.ref a2, .int (nI c)])), (a2, .inl (cL, 200, .inr (.inl f)))] := hD
  have iX2 : ∀ w ∈ wsX20, w ∈ wsX2_pollPair := by decide +kernel
  have k16 := hts (.fieldLink RX2 16 "HeapAndDeque" "pairs" "LHeapAndDeque$LeastFirst;") (by decide +kernel)
  refine lv_aload_n hx hb dX2_pollPair_0 rfl (lv_at hl 0 rfl) ?_
  refine va_get (D := D) (ci := 2) (v := .ref h2) (C := RX2) (T := TX2) (N := 3) hx hb hts iX2 hown hK hP 0 rfl rfl 1 (by decide) k16 (fun _ h9 => h9) rfl dX2_pollPair_1 ?_
  refine hc_lV (As := []) (rest := []) (wc := [(h2, .inr (0, [.ref a2, .int (nI c)])), (a2, .inl (cL, 200, .inr (.inl f)))]) (wr := [(x, .inr (2, [.ref h1, .ref h2, .ref h3]))]) (w1 := [(h2, .inr (0, [.ref a2, .int (nI (c - 1))])), (a2, .inl (cL, 200, .inr (.inl f)))]) (w' := [(x, .inr (2, [.ref h1, .ref h2, .ref h3])), (h2, .inr (0, [.ref a2, .int (nI (c - 1))])), (a2, .inl (cL, 200, .inr (.inl f)))]) hF (c_X0_takeLeast l D h2 a2 cL f c h1c hc) (cwV 0 hts gX2_pollPair_X0_takeLeast rfl rfl rfl (by decide +kernel) ⟨Nat.le_of_ble_eq_true rfl, Nat.le_of_ble_eq_true rfl⟩) hP hK hD hS hA hv [1, 2] [0] [0, 1, 2] [0] ⟨rfl, rfl, rfl, rfl, ⟨by decide, by decide, by decide⟩, by decide⟩ 1 0 rfl rfl rfl rfl hl.1 rfl (Nat.le_of_ble_eq_true rfl) dX2_pollPair_4 ⟨Nat.zero_le _, Nat.zero_le _⟩ (fun H locs hP hD hS => ?_)
  refine hc_lS (As := [.long (f (c - 1))]) (rest := []) hF (c_X2_toldOf l D (f (c - 1))) (va_cwS 1 hts gX2_pollPair_X2_toldOf rfl rfl rfl (by decide +kernel) ⟨Nat.le_of_ble_eq_true rfl, Nat.le_of_ble_eq_true rfl⟩) hK hS hA hv rfl hl.1 rfl (Nat.le_of_ble_eq_true rfl) dX2_pollPair_7 ⟨Nat.zero_le _, Nat.zero_le _⟩ (fun H locs hPk hz9 hk9 hS => ?_)
  have hP := hPk _ hP
  exact hend _ _ _ _ _ hP hD hS (rfl) dX2_pollPair_10
set_option maxHeartbeats 4000000 in
set_option maxRecDepth 100000 in
theorem c_X2_pollPair_x (l : Launch) (hfl : l.stackTraces = false) (D : va_G) (x h1 h2 h3 a2 : Nat) (cL : ClassId) (f : Nat → Int64) : mX l yX2_pollPair wsX2_pollPair ({ frames := 8, cells := 1, slots := 6, locals := 126 }) [.ref x] D [(cL, .long)] [(x, .inr (2, [.ref h1, .ref h2, .ref h3])), (h2, .inr (0, [.ref a2, .int (nI 0)])), (a2, .inl (cL, 200, .inr (.inl f)))] hNS := by
  refine hX_body (cc := cX2_pollPair) (maxL := 1) (by decide) rfl (Nat.le_of_ble_eq_true rfl) ?_
  intro p e s m below meth cd ls hat hnt hZ hP hK hD hS hl
  obtain ⟨hF, hr, hlocks, hv⟩ := id hat
  obtain ⟨hx, hb, hml, hown, hts⟩ := id hF
  have hown : s.vm.findClass RX2 = some m.cls := hown
  have hl : lv_has ls 1 [(0, .ref x)] := hl
  have hP : va_P D vwCl [(x, .inr (2, [.ref h1, .ref h2, .ref h3])), (h2, .inr (0, [.ref a2, .int (nI 0)])), (a2, .inl (cL, 200, .inr (.inl f)))] s.heap := hP
  have hD : va_D (fun _ => True) [(x, .inr (2, [.ref h1, .ref h2, .ref h3])), (h2, .inr (0, [.ref a2, .int (nI 0)])), (a2, .inl (cL, 200, .inr (.inl f)))] := hD
  have iX2 : ∀ w ∈ wsX20, w ∈ wsX2_pollPair := by decide +kernel
  have k16 := hts (.fieldLink RX2 16 "HeapAndDeque" "pairs" "LHeapAndDeque$LeastFirst;") (by decide +kernel)
  refine lv_aload_n hx hb dX2_pollPair_0 rfl (lv_at hl 0 rfl) ?_
  refine va_get (D := D) (ci := 2) (v := .ref h2) (C := RX2) (T := TX2) (N := 3) hx hb hts iX2 hown hK hP 0 rfl rfl 1 (by decide) k16 (fun _ h9 => h9) rfl dX2_pollPair_1 ?_
  exact hX_thruV (As := []) (rest := []) (wc := [(h2, .inr (0, [.ref a2, .int (nI 0)])), (a2, .inl (cL, 200, .inr (.inl f)))]) hF (c_X0_takeLeast_x l hfl D h2 a2 cL f) (cwV 0 hts gX2_pollPair_X0_takeLeast rfl rfl rfl (by decide +kernel) ⟨Nat.le_of_ble_eq_true rfl, Nat.le_of_ble_eq_true rfl⟩) hP hK hD hS hv hZ [1, 2] [0] rfl (by decide) rfl 1 0 rfl rfl rfl rfl hl.1 rfl (Nat.le_of_ble_eq_true rfl) dX2_pollPair_4 ⟨Nat.le_of_ble_eq_true rfl, Nat.le_of_ble_eq_true rfl⟩ hnt hlocks
set_option maxHeartbeats 4000000 in
set_option maxRecDepth 100000 in
theorem c_X2_clear (l : Launch) (D : va_G) (x h1 h2 h3 a1 : Nat) (cL : ClassId) (f : Nat → Int64) (c : Nat) : mI l yX2_clear wsX2_clear ({ frames := 1, cells := 0, slots := 0, locals := 21 }) [.ref x] D [(cL, .long)] [(x, .inr (2, [.ref h1, .ref h2, .ref h3])), (h1, .inr (0, [.ref a1, .int (nI c)])), (a1, .inl (cL, 200, .inr (.inl f)))] [(x, .inr (2, [.ref h1, .ref h2, .ref h3])), (h1, .inr (0, [.ref a1, .int (nI 0)])), (a1, .inl (cL, 200, .inr (.inl f)))] (nI c) := by
  refine hI_body (cc := cX2_clear) (maxL := 1) (by decide) rfl (Nat.le_of_ble_eq_true rfl) (rfl) ?_
  intro p e s m below meth cd A ls Q hat hA hP hK hD hS hl hend
  obtain ⟨hF, hr, hlocks, hv⟩ := id hat
  obtain ⟨hx, hb, hml, hown, hts⟩ := id hF
  have hown : s.vm.findClass RX2 = some m.cls := hown
  have hl : lv_has ls 1 [(0, .ref x)] := hl
  have hP : va_P D vwCl [(x, .inr (2, [.ref h1, .ref h2, .ref h3])), (h1, .inr (0, [.ref a1, .int (nI c)])), (a1, .inl (cL, 200, .inr (.inl f)))] s.heap := hP
  have hD : va_D A [(x, .inr (2, [.ref h1, .ref h2, .ref h3])), (h1, .inr (0, [.ref a1, .int (nI c)])), (a1, .inl (cL, 200, .inr (.inl f)))] := hD
  have iX2 : ∀ w ∈ wsX20, w ∈ wsX2_clear := by decide +kernel
  have k10 := hts (.fieldLink RX2 10 "HeapAndDeque" "numbers" "LHeapAndDeque$LeastFirst;") (by decide +kernel)
  refine lv_aload_n hx hb dX2_clear_0 rfl (lv_at hl 0 rfl) ?_
  refine va_get (D := D) (ci := 2) (v := .ref h1) (C := RX2) (T := TX2) (N := 3) hx hb hts iX2 hown hK hP 0 rfl rfl 0 (by decide) k10 (fun _ h9 => h9) rfl dX2_clear_1 ?_
  refine hc_iV (As := []) (rest := []) (wc := [(h1, .inr (0, [.ref a1, .int (nI c)])), (a1, .inl (cL, 200, .inr (.inl f)))]) (wr := [(x, .inr (2, [.ref h1, .ref h2, .ref h3]))]) (w1 := [(h1, .inr (0, [.ref a1, .int (nI 0)])), (a1, .inl (cL, 200, .inr (.inl f)))]) (w' := [(x, .inr (2, [.ref h1, .ref h2, .ref h3])), (h1, .inr (0, [.ref a1, .int (nI 0)])), (a1, .inl (cL, 200, .inr (.inl f)))]) hF (c_X0_empty l D h1 a1 cL f c ) (cwV 0 hts gX2_clear_X0_empty rfl rfl rfl (by decide +kernel) ⟨Nat.le_of_ble_eq_true rfl, Nat.le_of_ble_eq_true rfl⟩) hP hK hD hS hA hv [1, 2] [0] [0, 1, 2] [0] ⟨rfl, rfl, rfl, rfl, ⟨by decide, by decide, by decide⟩, by decide⟩ 1 0 rfl rfl rfl rfl hl.1 rfl (Nat.le_of_ble_eq_true rfl) dX2_clear_4 ⟨Nat.zero_le _, Nat.zero_le _⟩ (fun H locs hP hD hS => ?_)
  exact hend _ _ _ _ _ hP hD hS (rfl) dX2_clear_7
set_option maxHeartbeats 4000000 in
set_option maxRecDepth 100000 in
theorem c_X2_clearPairs (l : Launch) (D : va_G) (x h1 h2 h3 a2 : Nat) (cL : ClassId) (f : Nat → Int64) (c : Nat) : mI l yX2_clearPairs wsX2_clearPairs ({ frames := 1, cells := 0, slots := 0, locals := 21 }) [.ref x] D [(cL, .long)] [(x, .inr (2, [.ref h1, .ref h2, .ref h3])), (h2, .inr (0, [.ref a2, .int (nI c)])), (a2, .inl (cL, 200, .inr (.inl f)))] [(x, .inr (2, [.ref h1, .ref h2, .ref h3])), (h2, .inr (0, [.ref a2, .int (nI 0)])), (a2, .inl (cL, 200, .inr (.inl f)))] (nI c) := by
  refine hI_body (cc := cX2_clearPairs) (maxL := 1) (by decide) rfl (Nat.le_of_ble_eq_true rfl) (rfl) ?_
  intro p e s m below meth cd A ls Q hat hA hP hK hD hS hl hend
  obtain ⟨hF, hr, hlocks, hv⟩ := id hat
  obtain ⟨hx, hb, hml, hown, hts⟩ := id hF
  have hown : s.vm.findClass RX2 = some m.cls := hown
  have hl : lv_has ls 1 [(0, .ref x)] := hl
  have hP : va_P D vwCl [(x, .inr (2, [.ref h1, .ref h2, .ref h3])), (h2, .inr (0, [.ref a2, .int (nI c)])), (a2, .inl (cL, 200, .inr (.inl f)))] s.heap := hP
  have hD : va_D A [(x, .inr (2, [.ref h1, .ref h2, .ref h3])), (h2, .inr (0, [.ref a2, .int (nI c)])), (a2, .inl (cL, 200, .inr (.inl f)))] := hD
  have iX2 : ∀ w ∈ wsX20, w ∈ wsX2_clearPairs := by decide +kernel
  have k16 := hts (.fieldLink RX2 16 "HeapAndDeque" "pairs" "LHeapAndDeque$LeastFirst;") (by decide +kernel)
  refine lv_aload_n hx hb dX2_clearPairs_0 rfl (lv_at hl 0 rfl) ?_
  refine va_get (D := D) (ci := 2) (v := .ref h2) (C := RX2) (T := TX2) (N := 3) hx hb hts iX2 hown hK hP 0 rfl rfl 1 (by decide) k16 (fun _ h9 => h9) rfl dX2_clearPairs_1 ?_
  refine hc_iV (As := []) (rest := []) (wc := [(h2, .inr (0, [.ref a2, .int (nI c)])), (a2, .inl (cL, 200, .inr (.inl f)))]) (wr := [(x, .inr (2, [.ref h1, .ref h2, .ref h3]))]) (w1 := [(h2, .inr (0, [.ref a2, .int (nI 0)])), (a2, .inl (cL, 200, .inr (.inl f)))]) (w' := [(x, .inr (2, [.ref h1, .ref h2, .ref h3])), (h2, .inr (0, [.ref a2, .int (nI 0)])), (a2, .inl (cL, 200, .inr (.inl f)))]) hF (c_X0_empty l D h2 a2 cL f c ) (cwV 0 hts gX2_clearPairs_X0_empty rfl rfl rfl (by decide +kernel) ⟨Nat.le_of_ble_eq_true rfl, Nat.le_of_ble_eq_true rfl⟩) hP hK hD hS hA hv [1, 2] [0] [0, 1, 2] [0] ⟨rfl, rfl, rfl, rfl, ⟨by decide, by decide, by decide⟩, by decide⟩ 1 0 rfl rfl rfl rfl hl.1 rfl (Nat.le_of_ble_eq_true rfl) dX2_clearPairs_4 ⟨Nat.zero_le _, Nat.zero_le _⟩ (fun H locs hP hD hS => ?_)
  exact hend _ _ _ _ _ hP hD hS (rfl) dX2_clearPairs_7
set_option maxHeartbeats 4000000 in
set_option maxRecDepth 100000 in
theorem c_X2_size (l : Launch) (D : va_G) (x h1 h2 h3 a1 : Nat) (c : Nat) : mI l yX2_size wsX2_size ({ frames := 0, cells := 0, slots := 0, locals := 0 }) [.ref x] D [] [(x, .inr (2, [.ref h1, .ref h2, .ref h3])), (h1, .inr (0, [.ref a1, .int (nI c)]))] [(x, .inr (2, [.ref h1, .ref h2, .ref h3])), (h1, .inr (0, [.ref a1, .int (nI c)]))] (nI c) := by
  refine hI_body (cc := cX2_size) (maxL := 1) (by decide) rfl (Nat.le_of_ble_eq_true rfl) (rfl) ?_
  intro p e s m below meth cd A ls Q hat hA hP hK hD hS hl hend
  obtain ⟨hF, hr, hlocks, hv⟩ := id hat
  obtain ⟨hx, hb, hml, hown, hts⟩ := id hF
  have hown : s.vm.findClass RX2 = some m.cls := hown
  have hl : lv_has ls 1 [(0, .ref x)] := hl
  have hP : va_P D vwCl [(x, .inr (2, [.ref h1, .ref h2, .ref h3])), (h1, .inr (0, [.ref a1, .int (nI c)]))] s.heap := hP
  have hD : va_D A [(x, .inr (2, [.ref h1, .ref h2, .ref h3])), (h1, .inr (0, [.ref a1, .int (nI c)]))] := hD
  have iX0 : ∀ w ∈ wsX00, w ∈ wsX2_size := by decide +kernel
  have iX2 : ∀ w ∈ wsX20, w ∈ wsX2_size := by decide +kernel
  have k10 := hts (.fieldLink RX2 10 "HeapAndDeque" "numbers" "LHeapAndDeque$LeastFirst;") (by decide +kernel)
  refine lv_aload_n hx hb dX2_size_0 rfl (lv_at hl 0 rfl) ?_
  refine va_get (D := D) (ci := 2) (v := .ref h1) (C := RX2) (T := TX2) (N := 3) hx hb hts iX2 hown hK hP 0 rfl rfl 0 (by decide) k10 (fun _ h9 => h9) rfl dX2_size_1 ?_
  refine va_getN (D := D) (ci := 0) (v := .int (nI c)) (C := RX0) (T := TX0) (N := 2) hx hb hts iX0 hown hK hP 1 rfl rfl 1 (by decide) (va_Nw.use rfl hv.2.2.2.2.1) (fun _ h9 => h9) rfl dX2_size_4 ?_
  exact hend _ _ _ _ _ hP hD hS (rfl) dX2_size_7
set_option maxHeartbeats 4000000 in
set_option maxRecDepth 100000 in
theorem c_X2_sizePairs (l : Launch) (D : va_G) (x h1 h2 h3 a2 : Nat) (c : Nat) : mI l yX2_sizePairs wsX2_sizePairs ({ frames := 0, cells := 0, slots := 0, locals := 0 }) [.ref x] D [] [(x, .inr (2, [.ref h1, .ref h2, .ref h3])), (h2, .inr (0, [.ref a2, .int (nI c)]))] [(x, .inr (2, [.ref h1, .ref h2, .ref h3])), (h2, .inr (0, [.ref a2, .int (nI c)]))] (nI c) := by
  refine hI_body (cc := cX2_sizePairs) (maxL := 1) (by decide) rfl (Nat.le_of_ble_eq_true rfl) (rfl) ?_
  intro p e s m below meth cd A ls Q hat hA hP hK hD hS hl hend
  obtain ⟨hF, hr, hlocks, hv⟩ := id hat
  obtain ⟨hx, hb, hml, hown, hts⟩ := id hF
  have hown : s.vm.findClass RX2 = some m.cls := hown
  have hl : lv_has ls 1 [(0, .ref x)] := hl
  have hP : va_P D vwCl [(x, .inr (2, [.ref h1, .ref h2, .ref h3])), (h2, .inr (0, [.ref a2, .int (nI c)]))] s.heap := hP
  have hD : va_D A [(x, .inr (2, [.ref h1, .ref h2, .ref h3])), (h2, .inr (0, [.ref a2, .int (nI c)]))] := hD
  have iX0 : ∀ w ∈ wsX00, w ∈ wsX2_sizePairs := by decide +kernel
  have iX2 : ∀ w ∈ wsX20, w ∈ wsX2_sizePairs := by decide +kernel
  have k16 := hts (.fieldLink RX2 16 "HeapAndDeque" "pairs" "LHeapAndDeque$LeastFirst;") (by decide +kernel)
  refine lv_aload_n hx hb dX2_sizePairs_0 rfl (lv_at hl 0 rfl) ?_
  refine va_get (D := D) (ci := 2) (v := .ref h2) (C := RX2) (T := TX2) (N := 3) hx hb hts iX2 hown hK hP 0 rfl rfl 1 (by decide) k16 (fun _ h9 => h9) rfl dX2_sizePairs_1 ?_
  refine va_getN (D := D) (ci := 0) (v := .int (nI c)) (C := RX0) (T := TX0) (N := 2) hx hb hts iX0 hown hK hP 1 rfl rfl 1 (by decide) (va_Nw.use rfl hv.2.2.2.2.1) (fun _ h9 => h9) rfl dX2_sizePairs_4 ?_
  exact hend _ _ _ _ _ hP hD hS (rfl) dX2_sizePairs_7
set_option maxHeartbeats 4000000 in
set_option maxRecDepth 100000 in
theorem c_X2_remove_n (l : Launch) (D : va_G) (x h1 h2 h3 a1 : Nat) (cL : ClassId) (f : Nat → Int64) (c : Nat) (v : Int32) (hc : c ≤ 200) (hf : s_fL f v.toInt64 c 0 = none) : mI l yX2_remove wsX2_remove ({ frames := 2, cells := 0, slots := 0, locals := 47 }) [.ref x, .int v] D [(cL, .long)] [(x, .inr (2, [.ref h1, .ref h2, .ref h3])), (h1, .inr (0, [.ref a1, .int (nI c)])), (a1, .inl (cL, 200, .inr (.inl f)))] [(x, .inr (2, [.ref h1, .ref h2, .ref h3])), (h1, .inr (0, [.ref a1, .int (nI c)])), (a1, .inl (cL, 200, .inr (.inl f)))] (0) := by
  refine hI_body (cc := cX2_remove) (maxL := 2) (by decide) rfl (Nat.le_of_ble_eq_true rfl) (by decide +kernel) ?_
  intro p e s m below meth cd A ls Q hat hA hP hK hD hS hl hend
  obtain ⟨hF, hr, hlocks, hv⟩ := id hat
  obtain ⟨hx, hb, hml, hown, hts⟩ := id hF
  have hown : s.vm.findClass RX2 = some m.cls := hown
  have hl : lv_has ls 2 [(0, .ref x), (1, .int v)] := hl
  have hP : va_P D vwCl [(x, .inr (2, [.ref h1, .ref h2, .ref h3])), (h1, .inr (0, [.ref a1, .int (nI c)])), (a1, .inl (cL, 200, .inr (.inl f)))] s.heap := hP
  have hD : va_D A [(x, .inr (2, [.ref h1, .ref h2, .ref h3])), (h1, .inr (0, [.ref a1, .int (nI c)])), (a1, .inl (cL, 200, .inr (.inl f)))] := hD
  have iX2 : ∀ w ∈ wsX20, w ∈ wsX2_remove := by decide +kernel
  have k10 := hts (.fieldLink RX2 10 "HeapAndDeque" "numbers" "LHeapAndDeque$LeastFirst;") (by decide +kernel)
  refine lv_aload_n hx hb dX2_remove_0 rfl (lv_at hl 0 rfl) ?_
  refine va_get (D := D) (ci := 2) (v := .ref h1) (C := RX2) (T := TX2) (N := 3) hx hb hts iX2 hown hK hP 0 rfl rfl 0 (by decide) k10 (fun _ h9 => h9) rfl dX2_remove_1 ?_
  refine lv_iload_n hx hb dX2_remove_4 rfl (lv_at hl 1 rfl) ?_
  refine lv_i2l hx hb dX2_remove_5 rfl ?_
  refine hc_iV (As := [.long v.toInt64]) (rest := []) (wc := [(h1, .inr (0, [.ref a1, .int (nI c)])), (a1, .inl (cL, 200, .inr (.inl f)))]) (wr := [(x, .inr (2, [.ref h1, .ref h2, .ref h3]))]) (w1 := [(h1, .inr (0, [.ref a1, .int (nI c)])), (a1, .inl (cL, 200, .inr (.inl f)))]) (w' := [(x, .inr (2, [.ref h1, .ref h2, .ref h3])), (h1, .inr (0, [.ref a1, .int (nI c)])), (a1, .inl (cL, 200, .inr (.inl f)))]) hF (c_X0_takeLike_n l D h1 a1 cL f c v.toInt64 hc hf) (cwV 1 hts gX2_remove_X0_takeLike rfl rfl rfl (by decide +kernel) ⟨Nat.le_of_ble_eq_true rfl, Nat.le_of_ble_eq_true rfl⟩) hP hK hD hS hA hv [1, 2] [0] [0, 1, 2] [0] ⟨rfl, rfl, rfl, rfl, ⟨by decide, by decide, by decide⟩, by decide⟩ 1 0 rfl rfl rfl rfl hl.1 rfl (Nat.le_of_ble_eq_true rfl) dX2_remove_6 ⟨Nat.zero_le _, Nat.zero_le _⟩ (fun H locs hP hD hS => ?_)
  exact hend _ _ _ _ _ hP hD hS (rfl) dX2_remove_9
set_option maxHeartbeats 4000000 in
set_option maxRecDepth 100000 in
theorem c_X2_removePair_n (l : Launch) (D : va_G) (x h1 h2 h3 a2 : Nat) (cL : ClassId) (f : Nat → Int64) (c : Nat) (k t : Int32) (ht0 : ¬ t < 0) (ht1 : t ≤ nI 999) (hc : c ≤ 200) (hf : s_fL f (s_rank k t) c 0 = none) : mI l yX2_removePair wsX2_removePair ({ frames := 2, cells := 0, slots := 0, locals := 47 }) [.ref x, .int k, .int t] D [(cL, .long)] [(x, .inr (2, [.ref h1, .ref h2, .ref h3])), (h2, .inr (0, [.ref a2, .int (nI c)])), (a2, .inl (cL, 200, .inr (.inl f)))] [(x, .inr (2, [.ref h1, .ref h2, .ref h3])), (h2, .inr (0, [.ref a2, .int (nI c)])), (a2, .inl (cL, 200, .inr (.inl f)))] (0) := by
  refine hI_body (cc := cX2_removePair) (maxL := 3) (by decide) rfl (Nat.le_of_ble_eq_true rfl) (by decide +kernel) ?_
  intro p e s m below meth cd A ls Q hat hA hP hK hD hS hl hend
  obtain ⟨hF, hr, hlocks, hv⟩ := id hat
  obtain ⟨hx, hb, hml, hown, hts⟩ := id hF
  have hown : s.vm.findClass RX2 = some m.cls := hown
  have hl : lv_has ls 3 [(0, .ref x), (1, .int k), (2, .int t)] := hl
  have hP : va_P D vwCl [(x, .inr (2, [.ref h1, .ref h2, .ref h3])), (h2, .inr (0, [.ref a2, .int (nI c)])), (a2, .inl (cL, 200, .inr (.inl f)))] s.heap := hP
  have hD : va_D A [(x, .inr (2, [.ref h1, .ref h2, .ref h3])), (h2, .inr (0, [.ref a2, .int (nI c)])), (a2, .inl (cL, 200, .inr (.inl f)))] := hD
  have iX2 : ∀ w ∈ wsX20, w ∈ wsX2_removePair := by decide +kernel
  have k16 := hts (.fieldLink RX2 16 "HeapAndDeque" "pairs" "LHeapAndDeque$LeastFirst;") (by decide +kernel)
  refine lv_aload_n hx hb dX2_removePair_0 rfl (lv_at hl 0 rfl) ?_
  refine va_get (D := D) (ci := 2) (v := .ref h2) (C := RX2) (T := TX2) (N := 3) hx hb hts iX2 hown hK hP 0 rfl rfl 1 (by decide) k16 (fun _ h9 => h9) rfl dX2_removePair_1 ?_
  refine lv_iload_n hx hb dX2_removePair_4 rfl (lv_at hl 1 rfl) ?_
  refine lv_iload_n hx hb dX2_removePair_5 rfl (lv_at hl 2 rfl) ?_
  refine hc_lS (As := [.int k, .int t]) (rest := [.ref h2]) hF (c_X2_rankOf l D k t ht0 ht1) (va_cwS 2 hts gX2_removePair_X2_rankOf rfl rfl rfl (by decide +kernel) ⟨Nat.le_of_ble_eq_true rfl, Nat.le_of_ble_eq_true rfl⟩) hK hS hA hv rfl hl.1 rfl (Nat.le_of_ble_eq_true rfl) dX2_removePair_6 ⟨Nat.zero_le _, Nat.zero_le _⟩ (fun H locs hPk hz9 hk9 hS => ?_)
  have hP := hPk _ hP
  refine hc_iV (As := [.long (s_rank k t)]) (rest := []) (wc := [(h2, .inr (0, [.ref a2, .int (nI c)])), (a2, .inl (cL, 200, .inr (.inl f)))]) (wr := [(x, .inr (2, [.ref h1, .ref h2, .ref h3]))]) (w1 := [(h2, .inr (0, [.ref a2, .int (nI c)])), (a2, .inl (cL, 200, .inr (.inl f)))]) (w' := [(x, .inr (2, [.ref h1, .ref h2, .ref h3])), (h2, .inr (0, [.ref a2, .int (nI c)])), (a2, .inl (cL, 200, .inr (.inl f)))]) hF (c_X0_takeLike_n l D h2 a2 cL f c (s_rank k t) hc hf) (cwV 1 hts gX2_removePair_X0_takeLike rfl rfl rfl (by decide +kernel) ⟨Nat.le_of_ble_eq_true rfl, Nat.le_of_ble_eq_true rfl⟩) hP hK hD hS hA hv [1, 2] [0] [0, 1, 2] [0] ⟨rfl, rfl, rfl, rfl, ⟨by decide, by decide, by decide⟩, by decide⟩ 1 0 rfl rfl rfl rfl hl.1 rfl (Nat.le_of_ble_eq_true rfl) dX2_removePair_9 ⟨Nat.zero_le _, Nat.zero_le _⟩ (fun H locs hP hD hS => ?_)
  exact hend _ _ _ _ _ hP hD hS (rfl) dX2_removePair_12
set_option maxHeartbeats 4000000 in
set_option maxRecDepth 100000 in
theorem c_X2_remove_s (l : Launch) (D : va_G) (x h1 h2 h3 a1 : Nat) (cL : ClassId) (f : Nat → Int64) (c : Nat) (v : Int32) (q9 : Nat) (hc : c ≤ 200) (hf : s_fL f v.toInt64 c 0 = some q9) : mI l yX2_remove wsX2_remove ({ frames := 2, cells := 0, slots := 0, locals := 47 }) [.ref x, .int v] D [(cL, .long)] [(x, .inr (2, [.ref h1, .ref h2, .ref h3])), (h1, .inr (0, [.ref a1, .int (nI c)])), (a1, .inl (cL, 200, .inr (.inl f)))] [(x, .inr (2, [.ref h1, .ref h2, .ref h3])), (h1, .inr (0, [.ref a1, .int (nI (c - 1))])), (a1, .inl (cL, 200, .inr (.inl (s_rmL f q9 c))))] (1) := by
  refine hI_body (cc := cX2_remove) (maxL := 2) (by decide) rfl (Nat.le_of_ble_eq_true rfl) (by decide +kernel) ?_
  intro p e s m below meth cd A ls Q hat hA hP hK hD hS hl hend
  obtain ⟨hF, hr, hlocks, hv⟩ := id hat
  obtain ⟨hx, hb, hml, hown, hts⟩ := id hF
  have hown : s.vm.findClass RX2 = some m.cls := hown
  have hl : lv_has ls 2 [(0, .ref x), (1, .int v)] := hl
  have hP : va_P D vwCl [(x, .inr (2, [.ref h1, .ref h2, .ref h3])), (h1, .inr (0, [.ref a1, .int (nI c)])), (a1, .inl (cL, 200, .inr (.inl f)))] s.heap := hP
  have hD : va_D A [(x, .inr (2, [.ref h1, .ref h2, .ref h3])), (h1, .inr (0, [.ref a1, .int (nI c)])), (a1, .inl (cL, 200, .inr (.inl f)))] := hD
  have iX2 : ∀ w ∈ wsX20, w ∈ wsX2_remove := by decide +kernel
  have k10 := hts (.fieldLink RX2 10 "HeapAndDeque" "numbers" "LHeapAndDeque$LeastFirst;") (by decide +kernel)
  refine lv_aload_n hx hb dX2_remove_0 rfl (lv_at hl 0 rfl) ?_
  refine va_get (D := D) (ci := 2) (v := .ref h1) (C := RX2) (T := TX2) (N := 3) hx hb hts iX2 hown hK hP 0 rfl rfl 0 (by decide) k10 (fun _ h9 => h9) rfl dX2_remove_1 ?_
  refine lv_iload_n hx hb dX2_remove_4 rfl (lv_at hl 1 rfl) ?_
  refine lv_i2l hx hb dX2_remove_5 rfl ?_
  refine hc_iV (As := [.long v.toInt64]) (rest := []) (wc := [(h1, .inr (0, [.ref a1, .int (nI c)])), (a1, .inl (cL, 200, .inr (.inl f)))]) (wr := [(x, .inr (2, [.ref h1, .ref h2, .ref h3]))]) (w1 := [(h1, .inr (0, [.ref a1, .int (nI (c - 1))])), (a1, .inl (cL, 200, .inr (.inl (s_rmL f q9 c))))]) (w' := [(x, .inr (2, [.ref h1, .ref h2, .ref h3])), (h1, .inr (0, [.ref a1, .int (nI (c - 1))])), (a1, .inl (cL, 200, .inr (.inl (s_rmL f q9 c))))]) hF (c_X0_takeLike_s l D h1 a1 cL f c v.toInt64 q9 hc hf) (cwV 1 hts gX2_remove_X0_takeLike rfl rfl rfl (by decide +kernel) ⟨Nat.le_of_ble_eq_true rfl, Nat.le_of_ble_eq_true rfl⟩) hP hK hD hS hA hv [1, 2] [0] [0, 1, 2] [0] ⟨rfl, rfl, rfl, rfl, ⟨by decide, by decide, by decide⟩, by decide⟩ 1 0 rfl rfl rfl rfl hl.1 rfl (Nat.le_of_ble_eq_true rfl) dX2_remove_6 ⟨Nat.zero_le _, Nat.zero_le _⟩ (fun H locs hP hD hS => ?_)
  exact hend _ _ _ _ _ hP hD hS (rfl) dX2_remove_9
set_option maxHeartbeats 4000000 in
set_option maxRecDepth 100000 in
theorem c_X2_removePair_s (l : Launch) (D : va_G) (x h1 h2 h3 a2 : Nat) (cL : ClassId) (f : Nat → Int64) (c : Nat) (k t : Int32) (q9 : Nat) (ht0 : ¬ t < 0) (ht1 : t ≤ nI 999) (hc : c ≤ 200) (hf : s_fL f (s_rank k t) c 0 = some q9) : mI l yX2_removePair wsX2_removePair ({ frames := 2, cells := 0, slots := 0, locals := 47 }) [.ref x, .int k, .int t] D [(cL, .long)] [(x, .inr (2, [.ref h1, .ref h2, .ref h3])), (h2, .inr (0, [.ref a2, .int (nI c)])), (a2, .inl (cL, 200, .inr (.inl f)))] [(x, .inr (2, [.ref h1, .ref h2, .ref h3])), (h2, .inr (0, [.ref a2, .int (nI (c - 1))])), (a2, .inl (cL, 200, .inr (.inl (s_rmL f q9 c))))] (1) := by
  refine hI_body (cc := cX2_removePair) (maxL := 3) (by decide) rfl (Nat.le_of_ble_eq_true rfl) (by decide +kernel) ?_
  intro p e s m below meth cd A ls Q hat hA hP hK hD hS hl hend
  obtain ⟨hF, hr, hlocks, hv⟩ := id hat
  obtain ⟨hx, hb, hml, hown, hts⟩ := id hF
  have hown : s.vm.findClass RX2 = some m.cls := hown
  have hl : lv_has ls 3 [(0, .ref x), (1, .int k), (2, .int t)] := hl
  have hP : va_P D vwCl [(x, .inr (2, [.ref h1, .ref h2, .ref h3])), (h2, .inr (0, [.ref a2, .int (nI c)])), (a2, .inl (cL, 200, .inr (.inl f)))] s.heap := hP
  have hD : va_D A [(x, .inr (2, [.ref h1, .ref h2, .ref h3])), (h2, .inr (0, [.ref a2, .int (nI c)])), (a2, .inl (cL, 200, .inr (.inl f)))] := hD
  have iX2 : ∀ w ∈ wsX20, w ∈ wsX2_removePair := by decide +kernel
  have k16 := hts (.fieldLink RX2 16 "HeapAndDeque" "pairs" "LHeapAndDeque$LeastFirst;") (by decide +kernel)
  refine lv_aload_n hx hb dX2_removePair_0 rfl (lv_at hl 0 rfl) ?_
  refine va_get (D := D) (ci := 2) (v := .ref h2) (C := RX2) (T := TX2) (N := 3) hx hb hts iX2 hown hK hP 0 rfl rfl 1 (by decide) k16 (fun _ h9 => h9) rfl dX2_removePair_1 ?_
  refine lv_iload_n hx hb dX2_removePair_4 rfl (lv_at hl 1 rfl) ?_
  refine lv_iload_n hx hb dX2_removePair_5 rfl (lv_at hl 2 rfl) ?_
  refine hc_lS (As := [.int k, .int t]) (rest := [.ref h2]) hF (c_X2_rankOf l D k t ht0 ht1) (va_cwS 2 hts gX2_removePair_X2_rankOf rfl rfl rfl (by decide +kernel) ⟨Nat.le_of_ble_eq_true rfl, Nat.le_of_ble_eq_true rfl⟩) hK hS hA hv rfl hl.1 rfl (Nat.le_of_ble_eq_true rfl) dX2_removePair_6 ⟨Nat.zero_le _, Nat.zero_le _⟩ (fun H locs hPk hz9 hk9 hS => ?_)
  have hP := hPk _ hP
  refine hc_iV (As := [.long (s_rank k t)]) (rest := []) (wc := [(h2, .inr (0, [.ref a2, .int (nI c)])), (a2, .inl (cL, 200, .inr (.inl f)))]) (wr := [(x, .inr (2, [.ref h1, .ref h2, .ref h3]))]) (w1 := [(h2, .inr (0, [.ref a2, .int (nI (c - 1))])), (a2, .inl (cL, 200, .inr (.inl (s_rmL f q9 c))))]) (w' := [(x, .inr (2, [.ref h1, .ref h2, .ref h3])), (h2, .inr (0, [.ref a2, .int (nI (c - 1))])), (a2, .inl (cL, 200, .inr (.inl (s_rmL f q9 c))))]) hF (c_X0_takeLike_s l D h2 a2 cL f c (s_rank k t) q9 hc hf) (cwV 1 hts gX2_removePair_X0_takeLike rfl rfl rfl (by decide +kernel) ⟨Nat.le_of_ble_eq_true rfl, Nat.le_of_ble_eq_true rfl⟩) hP hK hD hS hA hv [1, 2] [0] [0, 1, 2] [0] ⟨rfl, rfl, rfl, rfl, ⟨by decide, by decide, by decide⟩, by decide⟩ 1 0 rfl rfl rfl rfl hl.1 rfl (Nat.le_of_ble_eq_true rfl) dX2_removePair_9 ⟨Nat.zero_le _, Nat.zero_le _⟩ (fun H locs hP hD hS => ?_)
  exact hend _ _ _ _ _ hP hD hS (rfl) dX2_removePair_12
set_option maxHeartbeats 4000000 in
set_option maxRecDepth 100000 in
theorem c_X2_contains (l : Launch) (D : va_G) (x h1 h2 h3 a1 : Nat) (cL : ClassId) (f : Nat → Int64) (c : Nat) (v : Int32) (hc : c ≤ 200) : mI l yX2_contains wsX2_contains ({ frames := 1, cells := 0, slots := 0, locals := 23 }) [.ref x, .int v] D [(cL, .long)] [(x, .inr (2, [.ref h1, .ref h2, .ref h3])), (h1, .inr (0, [.ref a1, .int (nI c)])), (a1, .inl (cL, 200, .inr (.inl f)))] [(x, .inr (2, [.ref h1, .ref h2, .ref h3])), (h1, .inr (0, [.ref a1, .int (nI c)])), (a1, .inl (cL, 200, .inr (.inl f)))] (s_b (s_fL f v.toInt64 c 0).isSome) := by
  refine hI_body (cc := cX2_contains) (maxL := 2) (by decide) rfl (Nat.le_of_ble_eq_true rfl) (s_b_n _) ?_
  intro p e s m below meth cd A ls Q hat hA hP hK hD hS hl hend
  obtain ⟨hF, hr, hlocks, hv⟩ := id hat
  obtain ⟨hx, hb, hml, hown, hts⟩ := id hF
  have hown : s.vm.findClass RX2 = some m.cls := hown
  have hl : lv_has ls 2 [(0, .ref x), (1, .int v)] := hl
  have hP : va_P D vwCl [(x, .inr (2, [.ref h1, .ref h2, .ref h3])), (h1, .inr (0, [.ref a1, .int (nI c)])), (a1, .inl (cL, 200, .inr (.inl f)))] s.heap := hP
  have hD : va_D A [(x, .inr (2, [.ref h1, .ref h2, .ref h3])), (h1, .inr (0, [.ref a1, .int (nI c)])), (a1, .inl (cL, 200, .inr (.inl f)))] := hD
  have iX2 : ∀ w ∈ wsX20, w ∈ wsX2_contains := by decide +kernel
  have k10 := hts (.fieldLink RX2 10 "HeapAndDeque" "numbers" "LHeapAndDeque$LeastFirst;") (by decide +kernel)
  refine lv_aload_n hx hb dX2_contains_0 rfl (lv_at hl 0 rfl) ?_
  refine va_get (D := D) (ci := 2) (v := .ref h1) (C := RX2) (T := TX2) (N := 3) hx hb hts iX2 hown hK hP 0 rfl rfl 0 (by decide) k10 (fun _ h9 => h9) rfl dX2_contains_1 ?_
  refine lv_iload_n hx hb dX2_contains_4 rfl (lv_at hl 1 rfl) ?_
  refine lv_i2l hx hb dX2_contains_5 rfl ?_
  refine hc_iV (As := [.long v.toInt64]) (rest := []) (wc := [(h1, .inr (0, [.ref a1, .int (nI c)])), (a1, .inl (cL, 200, .inr (.inl f)))]) (wr := [(x, .inr (2, [.ref h1, .ref h2, .ref h3]))]) (w1 := [(h1, .inr (0, [.ref a1, .int (nI c)])), (a1, .inl (cL, 200, .inr (.inl f)))]) (w' := [(x, .inr (2, [.ref h1, .ref h2, .ref h3])), (h1, .inr (0, [.ref a1, .int (nI c)])), (a1, .inl (cL, 200, .inr (.inl f)))]) hF (c_X0_placeOf l D h1 a1 cL f c v.toInt64 hc) (cwV 1 hts gX2_contains_X0_placeOf rfl rfl rfl (by decide +kernel) ⟨Nat.le_of_ble_eq_true rfl, Nat.le_of_ble_eq_true rfl⟩) hP hK hD hS hA hv [1, 2] [0] [0, 1, 2] [0] ⟨rfl, rfl, rfl, rfl, ⟨by decide, by decide, by decide⟩, by decide⟩ 1 0 rfl rfl rfl rfl hl.1 rfl (Nat.le_of_ble_eq_true rfl) dX2_contains_6 ⟨Nat.zero_le _, Nat.zero_le _⟩ (fun H locs hP hD hS => ?_)
  rcases hf : s_fL f v.toInt64 c 0 with _ | q9
  · refine lv_if_lt (tgt := 16) hx hb dX2_contains_9 (by decide) (fun _ => ?_) (fun hn => absurd (s_o_lt) hn)
    refine lv_iconst (v := 0) hx hb dX2_contains_16 (by decide) ?_
    exact hend _ _ _ _ _ hP hD hS (by rw [hf]; rfl) dX2_contains_17
  · refine lv_if_lt (tgt := 16) hx hb dX2_contains_9 (by decide) (fun ht_ => absurd ht_ (s_o_ge q9 (by have := (s_fL_spec hf).2.1; omega))) (fun _ => ?_)
    refine lv_iconst (v := 1) hx hb dX2_contains_12 (by decide) ?_
    refine lv_goto (tgt := 17) hx hb dX2_contains_13 (by decide) ?_
    exact hend _ _ _ _ _ hP hD hS (by rw [hf]; rfl) dX2_contains_17
set_option maxHeartbeats 4000000 in
set_option maxRecDepth 100000 in
theorem c_X2_containsPair (l : Launch) (D : va_G) (x h1 h2 h3 a2 : Nat) (cL : ClassId) (f : Nat → Int64) (c : Nat) (k t : Int32) (ht0 : ¬ t < 0) (ht1 : t ≤ nI 999) (hc : c ≤ 200) : mI l yX2_containsPair wsX2_containsPair ({ frames := 1, cells := 0, slots := 0, locals := 23 }) [.ref x, .int k, .int t] D [(cL, .long)] [(x, .inr (2, [.ref h1, .ref h2, .ref h3])), (h2, .inr (0, [.ref a2, .int (nI c)])), (a2, .inl (cL, 200, .inr (.inl f)))] [(x, .inr (2, [.ref h1, .ref h2, .ref h3])), (h2, .inr (0, [.ref a2, .int (nI c)])), (a2, .inl (cL, 200, .inr (.inl f)))] (s_b (s_fL f (s_rank k t) c 0).isSome) := by
  refine hI_body (cc := cX2_containsPair) (maxL := 3) (by decide) rfl (Nat.le_of_ble_eq_true rfl) (s_b_n _) ?_
  intro p e s m below meth cd A ls Q hat hA hP hK hD hS hl hend
  obtain ⟨hF, hr, hlocks, hv⟩ := id hat
  obtain ⟨hx, hb, hml, hown, hts⟩ := id hF
  have hown : s.vm.findClass RX2 = some m.cls := hown
  have hl : lv_has ls 3 [(0, .ref x), (1, .int k), (2, .int t)] := hl
  have hP : va_P D vwCl [(x, .inr (2, [.ref h1, .ref h2, .ref h3])), (h2, .inr (0, [.ref a2, .int (nI c)])), (a2, .inl (cL, 200, .inr (.inl f)))] s.heap := hP
  have hD : va_D A [(x, .inr (2, [.ref h1, .ref h2, .ref h3])), (h2, .inr (0, [.ref a2, .int (nI c)])), (a2, .inl (cL, 200, .inr (.inl f)))] := hD
  have iX2 : ∀ w ∈ wsX20, w ∈ wsX2_containsPair := by decide +kernel
  have k16 := hts (.fieldLink RX2 16 "HeapAndDeque" "pairs" "LHeapAndDeque$LeastFirst;") (by decide +kernel)
  refine lv_aload_n hx hb dX2_containsPair_0 rfl (lv_at hl 0 rfl) ?_
  refine va_get (D := D) (ci := 2) (v := .ref h2) (C := RX2) (T := TX2) (N := 3) hx hb hts iX2 hown hK hP 0 rfl rfl 1 (by decide) k16 (fun _ h9 => h9) rfl dX2_containsPair_1 ?_
  refine lv_iload_n hx hb dX2_containsPair_4 rfl (lv_at hl 1 rfl) ?_
  refine lv_iload_n hx hb dX2_containsPair_5 rfl (lv_at hl 2 rfl) ?_
  refine hc_lS (As := [.int k, .int t]) (rest := [.ref h2]) hF (c_X2_rankOf l D k t ht0 ht1) (va_cwS 2 hts gX2_containsPair_X2_rankOf rfl rfl rfl (by decide +kernel) ⟨Nat.le_of_ble_eq_true rfl, Nat.le_of_ble_eq_true rfl⟩) hK hS hA hv rfl hl.1 rfl (Nat.le_of_ble_eq_true rfl) dX2_containsPair_6 ⟨Nat.zero_le _, Nat.zero_le _⟩ (fun H locs hPk hz9 hk9 hS => ?_)
  have hP := hPk _ hP
  refine hc_iV (As := [.long (s_rank k t)]) (rest := []) (wc := [(h2, .inr (0, [.ref a2, .int (nI c)])), (a2, .inl (cL, 200, .inr (.inl f)))]) (wr := [(x, .inr (2, [.ref h1, .ref h2, .ref h3]))]) (w1 := [(h2, .inr (0, [.ref a2, .int (nI c)])), (a2, .inl (cL, 200, .inr (.inl f)))]) (w' := [(x, .inr (2, [.ref h1, .ref h2, .ref h3])), (h2, .inr (0, [.ref a2, .int (nI c)])), (a2, .inl (cL, 200, .inr (.inl f)))]) hF (c_X0_placeOf l D h2 a2 cL f c (s_rank k t) hc) (cwV 1 hts gX2_containsPair_X0_placeOf rfl rfl rfl (by decide +kernel) ⟨Nat.le_of_ble_eq_true rfl, Nat.le_of_ble_eq_true rfl⟩) hP hK hD hS hA hv [1, 2] [0] [0, 1, 2] [0] ⟨rfl, rfl, rfl, rfl, ⟨by decide, by decide, by decide⟩, by decide⟩ 1 0 rfl rfl rfl rfl hl.1 rfl (Nat.le_of_ble_eq_true rfl) dX2_containsPair_9 ⟨Nat.zero_le _, Nat.zero_le _⟩ (fun H locs hP hD hS => ?_)
  rcases hf : s_fL f (s_rank k t) c 0 with _ | q9
  · refine lv_if_lt (tgt := 19) hx hb dX2_containsPair_12 (by decide) (fun _ => ?_) (fun hn => absurd (s_o_lt) hn)
    refine lv_iconst (v := 0) hx hb dX2_containsPair_19 (by decide) ?_
    exact hend _ _ _ _ _ hP hD hS (by rw [hf]; rfl) dX2_containsPair_20
  · refine lv_if_lt (tgt := 19) hx hb dX2_containsPair_12 (by decide) (fun ht_ => absurd ht_ (s_o_ge q9 (by have := (s_fL_spec hf).2.1; omega))) (fun _ => ?_)
    refine lv_iconst (v := 1) hx hb dX2_containsPair_15 (by decide) ?_
    refine lv_goto (tgt := 20) hx hb dX2_containsPair_16 (by decide) ?_
    exact hend _ _ _ _ _ hP hD hS (by rw [hf]; rfl) dX2_containsPair_20
set_option maxHeartbeats 4000000 in
set_option maxRecDepth 100000 in
theorem c_X2_removePair_t (l : Launch) (hfl : l.stackTraces = false) (D : va_G) (x h1 h2 h3 : Nat) (k t : Int32) (ht : t < 0 ∨ ¬ t ≤ nI 999) : mX l yX2_removePair wsX2_removePair ({ frames := 7, cells := 1, slots := 6, locals := 105 }) [.ref x, .int k, .int t] D [] [(x, .inr (2, [.ref h1, .ref h2, .ref h3]))] "java/lang/IllegalArgumentException" := by
  refine hX_body (cc := cX2_removePair) (maxL := 3) (by decide) rfl (Nat.le_of_ble_eq_true rfl) ?_
  intro p e s m below meth cd ls hat hnt hZ hP hK hD hS hl
  obtain ⟨hF, hr, hlocks, hv⟩ := id hat
  obtain ⟨hx, hb, hml, hown, hts⟩ := id hF
  have hown : s.vm.findClass RX2 = some m.cls := hown
  have hl : lv_has ls 3 [(0, .ref x), (1, .int k), (2, .int t)] := hl
  have hP : va_P D vwCl [(x, .inr (2, [.ref h1, .ref h2, .ref h3]))] s.heap := hP
  have hD : va_D (fun _ => True) [(x, .inr (2, [.ref h1, .ref h2, .ref h3]))] := hD
  have iX2 : ∀ w ∈ wsX20, w ∈ wsX2_removePair := by decide +kernel
  have k16 := hts (.fieldLink RX2 16 "HeapAndDeque" "pairs" "LHeapAndDeque$LeastFirst;") (by decide +kernel)
  refine lv_aload_n hx hb dX2_removePair_0 rfl (lv_at hl 0 rfl) ?_
  refine va_get (D := D) (ci := 2) (v := .ref h2) (C := RX2) (T := TX2) (N := 3) hx hb hts iX2 hown hK hP 0 rfl rfl 1 (by decide) k16 (fun _ h9 => h9) rfl dX2_removePair_1 ?_
  refine lv_iload_n hx hb dX2_removePair_4 rfl (lv_at hl 1 rfl) ?_
  refine lv_iload_n hx hb dX2_removePair_5 rfl (lv_at hl 2 rfl) ?_
  exact hX_thruS (As := [.int k, .int t]) (rest := [.ref h2]) hF (c_X2_rankOf_x l hfl D k t ht) (va_cwS 2 hts gX2_removePair_X2_rankOf rfl rfl rfl (by decide +kernel) ⟨Nat.le_of_ble_eq_true rfl, Nat.le_of_ble_eq_true rfl⟩) hK hS hv hZ rfl hl.1 rfl (Nat.le_of_ble_eq_true rfl) dX2_removePair_6 ⟨Nat.le_of_ble_eq_true rfl, Nat.le_of_ble_eq_true rfl⟩ hnt hlocks
set_option maxHeartbeats 4000000 in
set_option maxRecDepth 100000 in
theorem c_X2_containsPair_t (l : Launch) (hfl : l.stackTraces = false) (D : va_G) (x h1 h2 h3 : Nat) (k t : Int32) (ht : t < 0 ∨ ¬ t ≤ nI 999) : mX l yX2_containsPair wsX2_containsPair ({ frames := 7, cells := 1, slots := 6, locals := 105 }) [.ref x, .int k, .int t] D [] [(x, .inr (2, [.ref h1, .ref h2, .ref h3]))] "java/lang/IllegalArgumentException" := by
  refine hX_body (cc := cX2_containsPair) (maxL := 3) (by decide) rfl (Nat.le_of_ble_eq_true rfl) ?_
  intro p e s m below meth cd ls hat hnt hZ hP hK hD hS hl
  obtain ⟨hF, hr, hlocks, hv⟩ := id hat
  obtain ⟨hx, hb, hml, hown, hts⟩ := id hF
  have hown : s.vm.findClass RX2 = some m.cls := hown
  have hl : lv_has ls 3 [(0, .ref x), (1, .int k), (2, .int t)] := hl
  have hP : va_P D vwCl [(x, .inr (2, [.ref h1, .ref h2, .ref h3]))] s.heap := hP
  have hD : va_D (fun _ => True) [(x, .inr (2, [.ref h1, .ref h2, .ref h3]))] := hD
  have iX2 : ∀ w ∈ wsX20, w ∈ wsX2_containsPair := by decide +kernel
  have k16 := hts (.fieldLink RX2 16 "HeapAndDeque" "pairs" "LHeapAndDeque$LeastFirst;") (by decide +kernel)
  refine lv_aload_n hx hb dX2_containsPair_0 rfl (lv_at hl 0 rfl) ?_
  refine va_get (D := D) (ci := 2) (v := .ref h2) (C := RX2) (T := TX2) (N := 3) hx hb hts iX2 hown hK hP 0 rfl rfl 1 (by decide) k16 (fun _ h9 => h9) rfl dX2_containsPair_1 ?_
  refine lv_iload_n hx hb dX2_containsPair_4 rfl (lv_at hl 1 rfl) ?_
  refine lv_iload_n hx hb dX2_containsPair_5 rfl (lv_at hl 2 rfl) ?_
  exact hX_thruS (As := [.int k, .int t]) (rest := [.ref h2]) hF (c_X2_rankOf_x l hfl D k t ht) (va_cwS 2 hts gX2_containsPair_X2_rankOf rfl rfl rfl (by decide +kernel) ⟨Nat.le_of_ble_eq_true rfl, Nat.le_of_ble_eq_true rfl⟩) hK hS hv hZ rfl hl.1 rfl (Nat.le_of_ble_eq_true rfl) dX2_containsPair_6 ⟨Nat.le_of_ble_eq_true rfl, Nat.le_of_ble_eq_true rfl⟩ hnt hlocks
set_option maxHeartbeats 4000000 in
set_option maxRecDepth 100000 in
theorem c_X2_offerPair_t (l : Launch) (hfl : l.stackTraces = false) (D : va_G) (x h1 h2 h3 : Nat) (k t : Int32) (ht : t < 0 ∨ ¬ t ≤ nI 999) : mX l yX2_offerPair wsX2_offerPair ({ frames := 7, cells := 1, slots := 6, locals := 105 }) [.ref x, .int k, .int t] D [] [(x, .inr (2, [.ref h1, .ref h2, .ref h3]))] "java/lang/IllegalArgumentException" := by
  refine hX_body (cc := cX2_offerPair) (maxL := 3) (by decide) rfl (Nat.le_of_ble_eq_true rfl) ?_
  intro p e s m below meth cd ls hat hnt hZ hP hK hD hS hl
  obtain ⟨hF, hr, hlocks, hv⟩ := id hat
  obtain ⟨hx, hb, hml, hown, hts⟩ := id hF
  have hown : s.vm.findClass RX2 = some m.cls := hown
  have hl : lv_has ls 3 [(0, .ref x), (1, .int k), (2, .int t)] := hl
  have hP : va_P D vwCl [(x, .inr (2, [.ref h1, .ref h2, .ref h3]))] s.heap := hP
  have hD : va_D (fun _ => True) [(x, .inr (2, [.ref h1, .ref h2, .ref h3]))] := hD
  have iX2 : ∀ w ∈ wsX20, w ∈ wsX2_offerPair := by decide +kernel
  have k16 := hts (.fieldLink RX2 16 "HeapAndDeque" "pairs" "LHeapAndDeque$LeastFirst;") (by decide +kernel)
  refine lv_aload_n hx hb dX2_offerPair_0 rfl (lv_at hl 0 rfl) ?_
  refine va_get (D := D) (ci := 2) (v := .ref h2) (C := RX2) (T := TX2) (N := 3) hx hb hts iX2 hown hK hP 0 rfl rfl 1 (by decide) k16 (fun _ h9 => h9) rfl dX2_offerPair_1 ?_
  refine lv_iload_n hx hb dX2_offerPair_4 rfl (lv_at hl 1 rfl) ?_
  refine lv_iload_n hx hb dX2_offerPair_5 rfl (lv_at hl 2 rfl) ?_
  exact hX_thruS (As := [.int k, .int t]) (rest := [.ref h2]) hF (c_X2_rankOf_x l hfl D k t ht) (va_cwS 2 hts gX2_offerPair_X2_rankOf rfl rfl rfl (by decide +kernel) ⟨Nat.le_of_ble_eq_true rfl, Nat.le_of_ble_eq_true rfl⟩) hK hS hv hZ rfl hl.1 rfl (Nat.le_of_ble_eq_true rfl) dX2_offerPair_6 ⟨Nat.le_of_ble_eq_true rfl, Nat.le_of_ble_eq_true rfl⟩ hnt hlocks
set_option maxHeartbeats 4000000 in
set_option maxRecDepth 100000 in
theorem c_X2_offerPair (l : Launch) (D : va_G) (x h1 h2 h3 a2 : Nat) (cL : ClassId) (f : Nat → Int64) (c : Nat) (k t : Int32) (ht0 : ¬ t < 0) (ht1 : t ≤ nI 999) (hc : c < 200) : mI l yX2_offerPair wsX2_offerPair ({ frames := 1, cells := 0, slots := 0, locals := 23 }) [.ref x, .int k, .int t] D [(cL, .long)] [(x, .inr (2, [.ref h1, .ref h2, .ref h3])), (h2, .inr (0, [.ref a2, .int (nI c)])), (a2, .inl (cL, 200, .inr (.inl f)))] [(x, .inr (2, [.ref h1, .ref h2, .ref h3])), (h2, .inr (0, [.ref a2, .int (nI (c + 1))])), (a2, .inl (cL, 200, .inr (.inl (s_put (s_rank k t) c f))))] (nI (c + 1)) := by
  refine hI_body (cc := cX2_offerPair) (maxL := 3) (by decide) rfl (Nat.le_of_ble_eq_true rfl) (rfl) ?_
  intro p e s m below meth cd A ls Q hat hA hP hK hD hS hl hend
  obtain ⟨hF, hr, hlocks, hv⟩ := id hat
  obtain ⟨hx, hb, hml, hown, hts⟩ := id hF
  have hown : s.vm.findClass RX2 = some m.cls := hown
  have hl : lv_has ls 3 [(0, .ref x), (1, .int k), (2, .int t)] := hl
  have hP : va_P D vwCl [(x, .inr (2, [.ref h1, .ref h2, .ref h3])), (h2, .inr (0, [.ref a2, .int (nI c)])), (a2, .inl (cL, 200, .inr (.inl f)))] s.heap := hP
  have hD : va_D A [(x, .inr (2, [.ref h1, .ref h2, .ref h3])), (h2, .inr (0, [.ref a2, .int (nI c)])), (a2, .inl (cL, 200, .inr (.inl f)))] := hD
  have iX2 : ∀ w ∈ wsX20, w ∈ wsX2_offerPair := by decide +kernel
  have k16 := hts (.fieldLink RX2 16 "HeapAndDeque" "pairs" "LHeapAndDeque$LeastFirst;") (by decide +kernel)
  refine lv_aload_n hx hb dX2_offerPair_0 rfl (lv_at hl 0 rfl) ?_
  refine va_get (D := D) (ci := 2) (v := .ref h2) (C := RX2) (T := TX2) (N := 3) hx hb hts iX2 hown hK hP 0 rfl rfl 1 (by decide) k16 (fun _ h9 => h9) rfl dX2_offerPair_1 ?_
  refine lv_iload_n hx hb dX2_offerPair_4 rfl (lv_at hl 1 rfl) ?_
  refine lv_iload_n hx hb dX2_offerPair_5 rfl (lv_at hl 2 rfl) ?_
  refine hc_lS (As := [.int k, .int t]) (rest := [.ref h2]) hF (c_X2_rankOf l D k t ht0 ht1) (va_cwS 2 hts gX2_offerPair_X2_rankOf rfl rfl rfl (by decide +kernel) ⟨Nat.le_of_ble_eq_true rfl, Nat.le_of_ble_eq_true rfl⟩) hK hS hA hv rfl hl.1 rfl (Nat.le_of_ble_eq_true rfl) dX2_offerPair_6 ⟨Nat.zero_le _, Nat.zero_le _⟩ (fun H locs hPk hz9 hk9 hS => ?_)
  have hP := hPk _ hP
  refine hc_iV (As := [.long (s_rank k t)]) (rest := []) (wc := [(h2, .inr (0, [.ref a2, .int (nI c)])), (a2, .inl (cL, 200, .inr (.inl f)))]) (wr := [(x, .inr (2, [.ref h1, .ref h2, .ref h3]))]) (w1 := [(h2, .inr (0, [.ref a2, .int (nI (c + 1))])), (a2, .inl (cL, 200, .inr (.inl (s_put (s_rank k t) c f))))]) (w' := [(x, .inr (2, [.ref h1, .ref h2, .ref h3])), (h2, .inr (0, [.ref a2, .int (nI (c + 1))])), (a2, .inl (cL, 200, .inr (.inl (s_put (s_rank k t) c f))))]) hF (c_X0_put l D h2 a2 cL f c (s_rank k t) hc) (cwV 1 hts gX2_offerPair_X0_put rfl rfl rfl (by decide +kernel) ⟨Nat.le_of_ble_eq_true rfl, Nat.le_of_ble_eq_true rfl⟩) hP hK hD hS hA hv [1, 2] [0] [0, 1, 2] [0] ⟨rfl, rfl, rfl, rfl, ⟨by decide, by decide, by decide⟩, by decide⟩ 1 0 rfl rfl rfl rfl hl.1 rfl (Nat.le_of_ble_eq_true rfl) dX2_offerPair_9 ⟨Nat.zero_le _, Nat.zero_le _⟩ (fun H locs hP hD hS => ?_)
  exact hend _ _ _ _ _ hP hD hS (rfl) dX2_offerPair_12
set_option maxHeartbeats 4000000 in
set_option maxRecDepth 100000 in
theorem c_X2_offerPair_x (l : Launch) (hfl : l.stackTraces = false) (D : va_G) (x h1 h2 h3 a2 : Nat) (cL : ClassId) (f : Nat → Int64) (k t : Int32) (ht0 : ¬ t < 0) (ht1 : t ≤ nI 999) : mX l yX2_offerPair wsX2_offerPair ({ frames := 7, cells := 1, slots := 6, locals := 107 }) [.ref x, .int k, .int t] D [(cL, .long)] [(x, .inr (2, [.ref h1, .ref h2, .ref h3])), (h2, .inr (0, [.ref a2, .int (nI 200)])), (a2, .inl (cL, 200, .inr (.inl f)))] "java/lang/IllegalStateException" := by
  refine hX_body (cc := cX2_offerPair) (maxL := 3) (by decide) rfl (Nat.le_of_ble_eq_true rfl) ?_
  intro p e s m below meth cd ls hat hnt hZ hP hK hD hS hl
  obtain ⟨hF, hr, hlocks, hv⟩ := id hat
  obtain ⟨hx, hb, hml, hown, hts⟩ := id hF
  have hown : s.vm.findClass RX2 = some m.cls := hown
  have hl : lv_has ls 3 [(0, .ref x), (1, .int k), (2, .int t)] := hl
  have hP : va_P D vwCl [(x, .inr (2, [.ref h1, .ref h2, .ref h3])), (h2, .inr (0, [.ref a2, .int (nI 200)])), (a2, .inl (cL, 200, .inr (.inl f)))] s.heap := hP
  have hD : va_D (fun _ => True) [(x, .inr (2, [.ref h1, .ref h2, .ref h3])), (h2, .inr (0, [.ref a2, .int (nI 200)])), (a2, .inl (cL, 200, .inr (.inl f)))] := hD
  have iX2 : ∀ w ∈ wsX20, w ∈ wsX2_offerPair := by decide +kernel
  have k16 := hts (.fieldLink RX2 16 "HeapAndDeque" "pairs" "LHeapAndDeque$LeastFirst;") (by decide +kernel)
  refine lv_aload_n hx hb dX2_offerPair_0 rfl (lv_at hl 0 rfl) ?_
  refine va_get (D := D) (ci := 2) (v := .ref h2) (C := RX2) (T := TX2) (N := 3) hx hb hts iX2 hown hK hP 0 rfl rfl 1 (by decide) k16 (fun _ h9 => h9) rfl dX2_offerPair_1 ?_
  refine lv_iload_n hx hb dX2_offerPair_4 rfl (lv_at hl 1 rfl) ?_
  refine lv_iload_n hx hb dX2_offerPair_5 rfl (lv_at hl 2 rfl) ?_
  refine hc_lS (As := [.int k, .int t]) (rest := [.ref h2]) hF (c_X2_rankOf l D k t ht0 ht1) (va_cwS 2 hts gX2_offerPair_X2_rankOf rfl rfl rfl (by decide +kernel) ⟨Nat.le_of_ble_eq_true rfl, Nat.le_of_ble_eq_true rfl⟩) hK hS (fun q h => h) hv rfl hl.1 rfl (Nat.le_of_ble_eq_true rfl) dX2_offerPair_6 ⟨Nat.zero_le _, Nat.zero_le _⟩ (fun H locs hPk hz9 hk9 hS => ?_)
  have hP := hPk _ hP
  exact hX_thruV (As := [.long (s_rank k t)]) (rest := []) (wc := [(h2, .inr (0, [.ref a2, .int (nI 200)])), (a2, .inl (cL, 200, .inr (.inl f)))]) hF (c_X0_put_x l hfl D h2 a2 cL f (s_rank k t)) (cwV 1 hts gX2_offerPair_X0_put rfl rfl rfl (by decide +kernel) ⟨Nat.le_of_ble_eq_true rfl, Nat.le_of_ble_eq_true rfl⟩) hP hK hD hS hv hZ [1, 2] [0] rfl (by decide) rfl 1 0 rfl rfl rfl rfl hl.1 rfl (Nat.le_of_ble_eq_true rfl) dX2_offerPair_9 ⟨Nat.le_of_ble_eq_true rfl, Nat.le_of_ble_eq_true rfl⟩ hnt hlocks
set_option maxHeartbeats 4000000 in
set_option maxRecDepth 100000 in
theorem c_X2_addFirst (l : Launch) (D : va_G) (x h1 h2 h3 a3 : Nat) (cI : ClassId) (f : Nat → Int32) (c : Nat) (v : Int32) (hc : c < 200) : mI l yX2_addFirst wsX2_addFirst ({ frames := 1, cells := 0, slots := 0, locals := 22 }) [.ref x, .int v] D [(cI, .int)] [(x, .inr (2, [.ref h1, .ref h2, .ref h3])), (h3, .inr (1, [.ref a3, .int (nI c)])), (a3, .inl (cI, 200, .inl f))] [(x, .inr (2, [.ref h1, .ref h2, .ref h3])), (h3, .inr (1, [.ref a3, .int (nI (c + 1))])), (a3, .inl (cI, 200, .inl (s_ins f v c)))] (nI (c + 1)) := by
  refine hI_body (cc := cX2_addFirst) (maxL := 2) (by decide) rfl (Nat.le_of_ble_eq_true rfl) (rfl) ?_
  intro p e s m below meth cd A ls Q hat hA hP hK hD hS hl hend
  obtain ⟨hF, hr, hlocks, hv⟩ := id hat
  obtain ⟨hx, hb, hml, hown, hts⟩ := id hF
  have hown : s.vm.findClass RX2 = some m.cls := hown
  have hl : lv_has ls 2 [(0, .ref x), (1, .int v)] := hl
  have hP : va_P D vwCl [(x, .inr (2, [.ref h1, .ref h2, .ref h3])), (h3, .inr (1, [.ref a3, .int (nI c)])), (a3, .inl (cI, 200, .inl f))] s.heap := hP
  have hD : va_D A [(x, .inr (2, [.ref h1, .ref h2, .ref h3])), (h3, .inr (1, [.ref a3, .int (nI c)])), (a3, .inl (cI, 200, .inl f))] := hD
  have iX2 : ∀ w ∈ wsX20, w ∈ wsX2_addFirst := by decide +kernel
  have k22 := hts (.fieldLink RX2 22 "HeapAndDeque" "row" "LHeapAndDeque$Row;") (by decide +kernel)
  refine lv_aload_n hx hb dX2_addFirst_0 rfl (lv_at hl 0 rfl) ?_
  refine va_get (D := D) (ci := 2) (v := .ref h3) (C := RX2) (T := TX2) (N := 3) hx hb hts iX2 hown hK hP 0 rfl rfl 2 (by decide) k22 (fun _ h9 => h9) rfl dX2_addFirst_1 ?_
  refine lv_iload_n hx hb dX2_addFirst_4 rfl (lv_at hl 1 rfl) ?_
  refine hc_iV (As := [.int v]) (rest := []) (wc := [(h3, .inr (1, [.ref a3, .int (nI c)])), (a3, .inl (cI, 200, .inl f))]) (wr := [(x, .inr (2, [.ref h1, .ref h2, .ref h3]))]) (w1 := [(h3, .inr (1, [.ref a3, .int (nI (c + 1))])), (a3, .inl (cI, 200, .inl (s_ins f v c)))]) (w' := [(x, .inr (2, [.ref h1, .ref h2, .ref h3])), (h3, .inr (1, [.ref a3, .int (nI (c + 1))])), (a3, .inl (cI, 200, .inl (s_ins f v c)))]) hF (c_X1_putFirst l D h3 a3 cI f c v hc) (cwV 1 hts gX2_addFirst_X1_putFirst rfl rfl rfl (by decide +kernel) ⟨Nat.le_of_ble_eq_true rfl, Nat.le_of_ble_eq_true rfl⟩) hP hK hD hS hA hv [1, 2] [0] [0, 1, 2] [0] ⟨rfl, rfl, rfl, rfl, ⟨by decide, by decide, by decide⟩, by decide⟩ 1 1 rfl rfl rfl rfl hl.1 rfl (Nat.le_of_ble_eq_true rfl) dX2_addFirst_5 ⟨Nat.zero_le _, Nat.zero_le _⟩ (fun H locs hP hD hS => ?_)
  exact hend _ _ _ _ _ hP hD hS (rfl) dX2_addFirst_8
set_option maxHeartbeats 4000000 in
set_option maxRecDepth 100000 in
theorem c_X2_addFirst_x (l : Launch) (hfl : l.stackTraces = false) (D : va_G) (x h1 h2 h3 a3 : Nat) (cI : ClassId) (f : Nat → Int32) (v : Int32) : mX l yX2_addFirst wsX2_addFirst ({ frames := 7, cells := 1, slots := 6, locals := 106 }) [.ref x, .int v] D [(cI, .int)] [(x, .inr (2, [.ref h1, .ref h2, .ref h3])), (h3, .inr (1, [.ref a3, .int (nI 200)])), (a3, .inl (cI, 200, .inl f))] "java/lang/IllegalStateException" := by
  refine hX_body (cc := cX2_addFirst) (maxL := 2) (by decide) rfl (Nat.le_of_ble_eq_true rfl) ?_
  intro p e s m below meth cd ls hat hnt hZ hP hK hD hS hl
  obtain ⟨hF, hr, hlocks, hv⟩ := id hat
  obtain ⟨hx, hb, hml, hown, hts⟩ := id hF
  have hown : s.vm.findClass RX2 = some m.cls := hown
  have hl : lv_has ls 2 [(0, .ref x), (1, .int v)] := hl
  have hP : va_P D vwCl [(x, .inr (2, [.ref h1, .ref h2, .ref h3])), (h3, .inr (1, [.ref a3, .int (nI 200)])), (a3, .inl (cI, 200, .inl f))] s.heap := hP
  have hD : va_D (fun _ => True) [(x, .inr (2, [.ref h1, .ref h2, .ref h3])), (h3, .inr (1, [.ref a3, .int (nI 200)])), (a3, .inl (cI, 200, .inl f))] := hD
  have iX2 : ∀ w ∈ wsX20, w ∈ wsX2_addFirst := by decide +kernel
  have k22 := hts (.fieldLink RX2 22 "HeapAndDeque" "row" "LHeapAndDeque$Row;") (by decide +kernel)
  refine lv_aload_n hx hb dX2_addFirst_0 rfl (lv_at hl 0 rfl) ?_
  refine va_get (D := D) (ci := 2) (v := .ref h3) (C := RX2) (T := TX2) (N := 3) hx hb hts iX2 hown hK hP 0 rfl rfl 2 (by decide) k22 (fun _ h9 => h9) rfl dX2_addFirst_1 ?_
  refine lv_iload_n hx hb dX2_addFirst_4 rfl (lv_at hl 1 rfl) ?_
  exact hX_thruV (As := [.int v]) (rest := []) (wc := [(h3, .inr (1, [.ref a3, .int (nI 200)])), (a3, .inl (cI, 200, .inl f))]) hF (c_X1_putFirst_x l hfl D h3 a3 cI f v) (cwV 1 hts gX2_addFirst_X1_putFirst rfl rfl rfl (by decide +kernel) ⟨Nat.le_of_ble_eq_true rfl, Nat.le_of_ble_eq_true rfl⟩) hP hK hD hS hv hZ [1, 2] [0] rfl (by decide) rfl 1 1 rfl rfl rfl rfl hl.1 rfl (Nat.le_of_ble_eq_true rfl) dX2_addFirst_5 ⟨Nat.le_of_ble_eq_true rfl, Nat.le_of_ble_eq_true rfl⟩ hnt hlocks
set_option maxHeartbeats 4000000 in
set_option maxRecDepth 100000 in
theorem c_X2_push (l : Launch) (D : va_G) (x h1 h2 h3 a3 : Nat) (cI : ClassId) (f : Nat → Int32) (c : Nat) (v : Int32) (hc : c < 200) : mI l yX2_push wsX2_push ({ frames := 1, cells := 0, slots := 0, locals := 22 }) [.ref x, .int v] D [(cI, .int)] [(x, .inr (2, [.ref h1, .ref h2, .ref h3])), (h3, .inr (1, [.ref a3, .int (nI c)])), (a3, .inl (cI, 200, .inl f))] [(x, .inr (2, [.ref h1, .ref h2, .ref h3])), (h3, .inr (1, [.ref a3, .int (nI (c + 1))])), (a3, .inl (cI, 200, .inl (s_ins f v c)))] (nI (c + 1)) := by
  refine hI_body (cc := cX2_push) (maxL := 2) (by decide) rfl (Nat.le_of_ble_eq_true rfl) (rfl) ?_
  intro p e s m below meth cd A ls Q hat hA hP hK hD hS hl hend
  obtain ⟨hF, hr, hlocks, hv⟩ := id hat
  obtain ⟨hx, hb, hml, hown, hts⟩ := id hF
  have hown : s.vm.findClass RX2 = some m.cls := hown
  have hl : lv_has ls 2 [(0, .ref x), (1, .int v)] := hl
  have hP : va_P D vwCl [(x, .inr (2, [.ref h1, .ref h2, .ref h3])), (h3, .inr (1, [.ref a3, .int (nI c)])), (a3, .inl (cI, 200, .inl f))] s.heap := hP
  have hD : va_D A [(x, .inr (2, [.ref h1, .ref h2, .ref h3])), (h3, .inr (1, [.ref a3, .int (nI c)])), (a3, .inl (cI, 200, .inl f))] := hD
  have iX2 : ∀ w ∈ wsX20, w ∈ wsX2_push := by decide +kernel
  have k22 := hts (.fieldLink RX2 22 "HeapAndDeque" "row" "LHeapAndDeque$Row;") (by decide +kernel)
  refine lv_aload_n hx hb dX2_push_0 rfl (lv_at hl 0 rfl) ?_
  refine va_get (D := D) (ci := 2) (v := .ref h3) (C := RX2) (T := TX2) (N := 3) hx hb hts iX2 hown hK hP 0 rfl rfl 2 (by decide) k22 (fun _ h9 => h9) rfl dX2_push_1 ?_
  refine lv_iload_n hx hb dX2_push_4 rfl (lv_at hl 1 rfl) ?_
  refine hc_iV (As := [.int v]) (rest := []) (wc := [(h3, .inr (1, [.ref a3, .int (nI c)])), (a3, .inl (cI, 200, .inl f))]) (wr := [(x, .inr (2, [.ref h1, .ref h2, .ref h3]))]) (w1 := [(h3, .inr (1, [.ref a3, .int (nI (c + 1))])), (a3, .inl (cI, 200, .inl (s_ins f v c)))]) (w' := [(x, .inr (2, [.ref h1, .ref h2, .ref h3])), (h3, .inr (1, [.ref a3, .int (nI (c + 1))])), (a3, .inl (cI, 200, .inl (s_ins f v c)))]) hF (c_X1_putFirst l D h3 a3 cI f c v hc) (cwV 1 hts gX2_push_X1_putFirst rfl rfl rfl (by decide +kernel) ⟨Nat.le_of_ble_eq_true rfl, Nat.le_of_ble_eq_true rfl⟩) hP hK hD hS hA hv [1, 2] [0] [0, 1, 2] [0] ⟨rfl, rfl, rfl, rfl, ⟨by decide, by decide, by decide⟩, by decide⟩ 1 1 rfl rfl rfl rfl hl.1 rfl (Nat.le_of_ble_eq_true rfl) dX2_push_5 ⟨Nat.zero_le _, Nat.zero_le _⟩ (fun H locs hP hD hS => ?_)
  exact hend _ _ _ _ _ hP hD hS (rfl) dX2_push_8
set_option maxHeartbeats 4000000 in
set_option maxRecDepth 100000 in
theorem c_X2_push_x (l : Launch) (hfl : l.stackTraces = false) (D : va_G) (x h1 h2 h3 a3 : Nat) (cI : ClassId) (f : Nat → Int32) (v : Int32) : mX l yX2_push wsX2_push ({ frames := 7, cells := 1, slots := 6, locals := 106 }) [.ref x, .int v] D [(cI, .int)] [(x, .inr (2, [.ref h1, .ref h2, .ref h3])), (h3, .inr (1, [.ref a3, .int (nI 200)])), (a3, .inl (cI, 200, .inl f))] "java/lang/IllegalStateException" := by
  refine hX_body (cc := cX2_push) (maxL := 2) (by decide) rfl (Nat.le_of_ble_eq_true rfl) ?_
  intro p e s m below meth cd ls hat hnt hZ hP hK hD hS hl
  obtain ⟨hF, hr, hlocks, hv⟩ := id hat
  obtain ⟨hx, hb, hml, hown, hts⟩ := id hF
  have hown : s.vm.findClass RX2 = some m.cls := hown
  have hl : lv_has ls 2 [(0, .ref x), (1, .int v)] := hl
  have hP : va_P D vwCl [(x, .inr (2, [.ref h1, .ref h2, .ref h3])), (h3, .inr (1, [.ref a3, .int (nI 200)])), (a3, .inl (cI, 200, .inl f))] s.heap := hP
  have hD : va_D (fun _ => True) [(x, .inr (2, [.ref h1, .ref h2, .ref h3])), (h3, .inr (1, [.ref a3, .int (nI 200)])), (a3, .inl (cI, 200, .inl f))] := hD
  have iX2 : ∀ w ∈ wsX20, w ∈ wsX2_push := by decide +kernel
  have k22 := hts (.fieldLink RX2 22 "HeapAndDeque" "row" "LHeapAndDeque$Row;") (by decide +kernel)
  refine lv_aload_n hx hb dX2_push_0 rfl (lv_at hl 0 rfl) ?_
  refine va_get (D := D) (ci := 2) (v := .ref h3) (C := RX2) (T := TX2) (N := 3) hx hb hts iX2 hown hK hP 0 rfl rfl 2 (by decide) k22 (fun _ h9 => h9) rfl dX2_push_1 ?_
  refine lv_iload_n hx hb dX2_push_4 rfl (lv_at hl 1 rfl) ?_
  exact hX_thruV (As := [.int v]) (rest := []) (wc := [(h3, .inr (1, [.ref a3, .int (nI 200)])), (a3, .inl (cI, 200, .inl f))]) hF (c_X1_putFirst_x l hfl D h3 a3 cI f v) (cwV 1 hts gX2_push_X1_putFirst rfl rfl rfl (by decide +kernel) ⟨Nat.le_of_ble_eq_true rfl, Nat.le_of_ble_eq_true rfl⟩) hP hK hD hS hv hZ [1, 2] [0] rfl (by decide) rfl 1 1 rfl rfl rfl rfl hl.1 rfl (Nat.le_of_ble_eq_true rfl) dX2_push_5 ⟨Nat.le_of_ble_eq_true rfl, Nat.le_of_ble_eq_true rfl⟩ hnt hlocks
set_option maxHeartbeats 4000000 in
set_option maxRecDepth 100000 in
theorem c_X2_addLast (l : Launch) (D : va_G) (x h1 h2 h3 a3 : Nat) (cI : ClassId) (f : Nat → Int32) (c : Nat) (v : Int32) (hc : c < 200) : mI l yX2_addLast wsX2_addLast ({ frames := 1, cells := 0, slots := 0, locals := 21 }) [.ref x, .int v] D [(cI, .int)] [(x, .inr (2, [.ref h1, .ref h2, .ref h3])), (h3, .inr (1, [.ref a3, .int (nI c)])), (a3, .inl (cI, 200, .inl f))] [(x, .inr (2, [.ref h1, .ref h2, .ref h3])), (h3, .inr (1, [.ref a3, .int (nI (c + 1))])), (a3, .inl (cI, 200, .inl (upd f c v)))] (nI (c + 1)) := by
  refine hI_body (cc := cX2_addLast) (maxL := 2) (by decide) rfl (Nat.le_of_ble_eq_true rfl) (rfl) ?_
  intro p e s m below meth cd A ls Q hat hA hP hK hD hS hl hend
  obtain ⟨hF, hr, hlocks, hv⟩ := id hat
  obtain ⟨hx, hb, hml, hown, hts⟩ := id hF
  have hown : s.vm.findClass RX2 = some m.cls := hown
  have hl : lv_has ls 2 [(0, .ref x), (1, .int v)] := hl
  have hP : va_P D vwCl [(x, .inr (2, [.ref h1, .ref h2, .ref h3])), (h3, .inr (1, [.ref a3, .int (nI c)])), (a3, .inl (cI, 200, .inl f))] s.heap := hP
  have hD : va_D A [(x, .inr (2, [.ref h1, .ref h2, .ref h3])), (h3, .inr (1, [.ref a3, .int (nI c)])), (a3, .inl (cI, 200, .inl f))] := hD
  have iX2 : ∀ w ∈ wsX20, w ∈ wsX2_addLast := by decide +kernel
  have k22 := hts (.fieldLink RX2 22 "HeapAndDeque" "row" "LHeapAndDeque$Row;") (by decide +kernel)
  refine lv_aload_n hx hb dX2_addLast_0 rfl (lv_at hl 0 rfl) ?_
  refine va_get (D := D) (ci := 2) (v := .ref h3) (C := RX2) (T := TX2) (N := 3) hx hb hts iX2 hown hK hP 0 rfl rfl 2 (by decide) k22 (fun _ h9 => h9) rfl dX2_addLast_1 ?_
  refine lv_iload_n hx hb dX2_addLast_4 rfl (lv_at hl 1 rfl) ?_
  refine hc_iV (As := [.int v]) (rest := []) (wc := [(h3, .inr (1, [.ref a3, .int (nI c)])), (a3, .inl (cI, 200, .inl f))]) (wr := [(x, .inr (2, [.ref h1, .ref h2, .ref h3]))]) (w1 := [(h3, .inr (1, [.ref a3, .int (nI (c + 1))])), (a3, .inl (cI, 200, .inl (upd f c v)))]) (w' := [(x, .inr (2, [.ref h1, .ref h2, .ref h3])), (h3, .inr (1, [.ref a3, .int (nI (c + 1))])), (a3, .inl (cI, 200, .inl (upd f c v)))]) hF (c_X1_putLast l D h3 a3 cI f c v hc) (cwV 1 hts gX2_addLast_X1_putLast rfl rfl rfl (by decide +kernel) ⟨Nat.le_of_ble_eq_true rfl, Nat.le_of_ble_eq_true rfl⟩) hP hK hD hS hA hv [1, 2] [0] [0, 1, 2] [0] ⟨rfl, rfl, rfl, rfl, ⟨by decide, by decide, by decide⟩, by decide⟩ 1 1 rfl rfl rfl rfl hl.1 rfl (Nat.le_of_ble_eq_true rfl) dX2_addLast_5 ⟨Nat.zero_le _, Nat.zero_le _⟩ (fun H locs hP hD hS => ?_)
  exact hend _ _ _ _ _ hP hD hS (rfl) dX2_addLast_8
set_option maxHeartbeats 4000000 in
set_option maxRecDepth 100000 in
theorem c_X2_addLast_x (l : Launch) (hfl : l.stackTraces = false) (D : va_G) (x h1 h2 h3 a3 : Nat) (cI : ClassId) (f : Nat → Int32) (v : Int32) : mX l yX2_addLast wsX2_addLast ({ frames := 7, cells := 1, slots := 6, locals := 105 }) [.ref x, .int v] D [(cI, .int)] [(x, .inr (2, [.ref h1, .ref h2, .ref h3])), (h3, .inr (1, [.ref a3, .int (nI 200)])), (a3, .inl (cI, 200, .inl f))] "java/lang/IllegalStateException" := by
  refine hX_body (cc := cX2_addLast) (maxL := 2) (by decide) rfl (Nat.le_of_ble_eq_true rfl) ?_
  intro p e s m below meth cd ls hat hnt hZ hP hK hD hS hl
  obtain ⟨hF, hr, hlocks, hv⟩ := id hat
  obtain ⟨hx, hb, hml, hown, hts⟩ := id hF
  have hown : s.vm.findClass RX2 = some m.cls := hown
  have hl : lv_has ls 2 [(0, .ref x), (1, .int v)] := hl
  have hP : va_P D vwCl [(x, .inr (2, [.ref h1, .ref h2, .ref h3])), (h3, .inr (1, [.ref a3, .int (nI 200)])), (a3, .inl (cI, 200, .inl f))] s.heap := hP
  have hD : va_D (fun _ => True) [(x, .inr (2, [.ref h1, .ref h2, .ref h3])), (h3, .inr (1, [.ref a3, .int (nI 200)])), (a3, .inl (cI, 200, .inl f))] := hD
  have iX2 : ∀ w ∈ wsX20, w ∈ wsX2_addLast := by decide +kernel
  have k22 := hts (.fieldLink RX2 22 "HeapAndDeque" "row" "LHeapAndDeque$Row;") (by decide +kernel)
  refine lv_aload_n hx hb dX2_addLast_0 rfl (lv_at hl 0 rfl) ?_
  refine va_get (D := D) (ci := 2) (v := .ref h3) (C := RX2) (T := TX2) (N := 3) hx hb hts iX2 hown hK hP 0 rfl rfl 2 (by decide) k22 (fun _ h9 => h9) rfl dX2_addLast_1 ?_
  refine lv_iload_n hx hb dX2_addLast_4 rfl (lv_at hl 1 rfl) ?_
  exact hX_thruV (As := [.int v]) (rest := []) (wc := [(h3, .inr (1, [.ref a3, .int (nI 200)])), (a3, .inl (cI, 200, .inl f))]) hF (c_X1_putLast_x l hfl D h3 a3 cI f v) (cwV 1 hts gX2_addLast_X1_putLast rfl rfl rfl (by decide +kernel) ⟨Nat.le_of_ble_eq_true rfl, Nat.le_of_ble_eq_true rfl⟩) hP hK hD hS hv hZ [1, 2] [0] rfl (by decide) rfl 1 1 rfl rfl rfl rfl hl.1 rfl (Nat.le_of_ble_eq_true rfl) dX2_addLast_5 ⟨Nat.le_of_ble_eq_true rfl, Nat.le_of_ble_eq_true rfl⟩ hnt hlocks
set_option maxHeartbeats 4000000 in
set_option maxRecDepth 100000 in
theorem c_X2_getFirst (l : Launch) (D : va_G) (x h1 h2 h3 a3 : Nat) (cI : ClassId) (f : Nat → Int32) (c : Nat) (h1c : 1 ≤ c) (hc : c ≤ 200) : mI l yX2_getFirst wsX2_getFirst ({ frames := 1, cells := 0, slots := 0, locals := 20 }) [.ref x] D [(cI, .int)] [(x, .inr (2, [.ref h1, .ref h2, .ref h3])), (h3, .inr (1, [.ref a3, .int (nI c)])), (a3, .inl (cI, 200, .inl f))] [(x, .inr (2, [.ref h1, .ref h2, .ref h3])), (h3, .inr (1, [.ref a3, .int (nI c)])), (a3, .inl (cI, 200, .inl f))] (f 0) := by
  refine hI_body (cc := cX2_getFirst) (maxL := 1) (by decide) rfl (Nat.le_of_ble_eq_true rfl) (rfl) ?_
  intro p e s m below meth cd A ls Q hat hA hP hK hD hS hl hend
  obtain ⟨hF, hr, hlocks, hv⟩ := id hat
  obtain ⟨hx, hb, hml, hown, hts⟩ := id hF
  have hown : s.vm.findClass RX2 = some m.cls := hown
  have hl : lv_has ls 1 [(0, .ref x)] := hl
  have hP : va_P D vwCl [(x, .inr (2, [.ref h1, .ref h2, .ref h3])), (h3, .inr (1, [.ref a3, .int (nI c)])), (a3, .inl (cI, 200, .inl f))] s.heap := hP
  have hD : va_D A [(x, .inr (2, [.ref h1, .ref h2, .ref h3])), (h3, .inr (1, [.ref a3, .int (nI c)])), (a3, .inl (cI, 200, .inl f))] := hD
  have iX2 : ∀ w ∈ wsX20, w ∈ wsX2_getFirst := by decide +kernel
  have k22 := hts (.fieldLink RX2 22 "HeapAndDeque" "row" "LHeapAndDeque$Row;") (by decide +kernel)
  refine lv_aload_n hx hb dX2_getFirst_0 rfl (lv_at hl 0 rfl) ?_
  refine va_get (D := D) (ci := 2) (v := .ref h3) (C := RX2) (T := TX2) (N := 3) hx hb hts iX2 hown hK hP 0 rfl rfl 2 (by decide) k22 (fun _ h9 => h9) rfl dX2_getFirst_1 ?_
  refine hc_iV (As := []) (rest := []) (wc := [(h3, .inr (1, [.ref a3, .int (nI c)])), (a3, .inl (cI, 200, .inl f))]) (wr := [(x, .inr (2, [.ref h1, .ref h2, .ref h3]))]) (w1 := [(h3, .inr (1, [.ref a3, .int (nI c)])), (a3, .inl (cI, 200, .inl f))]) (w' := [(x, .inr (2, [.ref h1, .ref h2, .ref h3])), (h3, .inr (1, [.ref a3, .int (nI c)])), (a3, .inl (cI, 200, .inl f))]) hF (c_X1_first l D h3 a3 cI f c h1c hc) (cwV 0 hts gX2_getFirst_X1_first rfl rfl rfl (by decide +kernel) ⟨Nat.le_of_ble_eq_true rfl, Nat.le_of_ble_eq_true rfl⟩) hP hK hD hS hA hv [1, 2] [0] [0, 1, 2] [0] ⟨rfl, rfl, rfl, rfl, ⟨by decide, by decide, by decide⟩, by decide⟩ 1 1 rfl rfl rfl rfl hl.1 rfl (Nat.le_of_ble_eq_true rfl) dX2_getFirst_4 ⟨Nat.zero_le _, Nat.zero_le _⟩ (fun H locs hP hD hS => ?_)
  exact hend _ _ _ _ _ hP hD hS (rfl) dX2_getFirst_7
set_option maxHeartbeats 4000000 in
set_option maxRecDepth 100000 in
theorem c_X2_getFirst_x (l : Launch) (hfl : l.stackTraces = false) (D : va_G) (x h1 h2 h3 a3 : Nat) (cI : ClassId) (f : Nat → Int32) : mX l yX2_getFirst wsX2_getFirst ({ frames := 7, cells := 1, slots := 6, locals := 104 }) [.ref x] D [(cI, .int)] [(x, .inr (2, [.ref h1, .ref h2, .ref h3])), (h3, .inr (1, [.ref a3, .int (nI 0)])), (a3, .inl (cI, 200, .inl f))] hNS := by
  refine hX_body (cc := cX2_getFirst) (maxL := 1) (by decide) rfl (Nat.le_of_ble_eq_true rfl) ?_
  intro p e s m below meth cd ls hat hnt hZ hP hK hD hS hl
  obtain ⟨hF, hr, hlocks, hv⟩ := id hat
  obtain ⟨hx, hb, hml, hown, hts⟩ := id hF
  have hown : s.vm.findClass RX2 = some m.cls := hown
  have hl : lv_has ls 1 [(0, .ref x)] := hl
  have hP : va_P D vwCl [(x, .inr (2, [.ref h1, .ref h2, .ref h3])), (h3, .inr (1, [.ref a3, .int (nI 0)])), (a3, .inl (cI, 200, .inl f))] s.heap := hP
  have hD : va_D (fun _ => True) [(x, .inr (2, [.ref h1, .ref h2, .ref h3])), (h3, .inr (1, [.ref a3, .int (nI 0)])), (a3, .inl (cI, 200, .inl f))] := hD
  have iX2 : ∀ w ∈ wsX20, w ∈ wsX2_getFirst := by decide +kernel
  have k22 := hts (.fieldLink RX2 22 "HeapAndDeque" "row" "LHeapAndDeque$Row;") (by decide +kernel)
  refine lv_aload_n hx hb dX2_getFirst_0 rfl (lv_at hl 0 rfl) ?_
  refine va_get (D := D) (ci := 2) (v := .ref h3) (C := RX2) (T := TX2) (N := 3) hx hb hts iX2 hown hK hP 0 rfl rfl 2 (by decide) k22 (fun _ h9 => h9) rfl dX2_getFirst_1 ?_
  exact hX_thruV (As := []) (rest := []) (wc := [(h3, .inr (1, [.ref a3, .int (nI 0)])), (a3, .inl (cI, 200, .inl f))]) hF (c_X1_first_x l hfl D h3 a3 cI f ) (cwV 0 hts gX2_getFirst_X1_first rfl rfl rfl (by decide +kernel) ⟨Nat.le_of_ble_eq_true rfl, Nat.le_of_ble_eq_true rfl⟩) hP hK hD hS hv hZ [1, 2] [0] rfl (by decide) rfl 1 1 rfl rfl rfl rfl hl.1 rfl (Nat.le_of_ble_eq_true rfl) dX2_getFirst_4 ⟨Nat.le_of_ble_eq_true rfl, Nat.le_of_ble_eq_true rfl⟩ hnt hlocks
set_option maxHeartbeats 4000000 in
set_option maxRecDepth 100000 in
theorem c_X2_getLast (l : Launch) (D : va_G) (x h1 h2 h3 a3 : Nat) (cI : ClassId) (f : Nat → Int32) (c : Nat) (h1c : 1 ≤ c) (hc : c ≤ 200) : mI l yX2_getLast wsX2_getLast ({ frames := 1, cells := 0, slots := 0, locals := 20 }) [.ref x] D [(cI, .int)] [(x, .inr (2, [.ref h1, .ref h2, .ref h3])), (h3, .inr (1, [.ref a3, .int (nI c)])), (a3, .inl (cI, 200, .inl f))] [(x, .inr (2, [.ref h1, .ref h2, .ref h3])), (h3, .inr (1, [.ref a3, .int (nI c)])), (a3, .inl (cI, 200, .inl f))] (f (c - 1)) := by
  refine hI_body (cc := cX2_getLast) (maxL := 1) (by decide) rfl (Nat.le_of_ble_eq_true rfl) (rfl) ?_
  intro p e s m below meth cd A ls Q hat hA hP hK hD hS hl hend
  obtain ⟨hF, hr, hlocks, hv⟩ := id hat
  obtain ⟨hx, hb, hml, hown, hts⟩ := id hF
  have hown : s.vm.findClass RX2 = some m.cls := hown
  have hl : lv_has ls 1 [(0, .ref x)] := hl
  have hP : va_P D vwCl [(x, .inr (2, [.ref h1, .ref h2, .ref h3])), (h3, .inr (1, [.ref a3, .int (nI c)])), (a3, .inl (cI, 200, .inl f))] s.heap := hP
  have hD : va_D A [(x, .inr (2, [.ref h1, .ref h2, .ref h3])), (h3, .inr (1, [.ref a3, .int (nI c)])), (a3, .inl (cI, 200, .inl f))] := hD
  have iX2 : ∀ w ∈ wsX20, w ∈ wsX2_getLast := by decide +kernel
  have k22 := hts (.fieldLink RX2 22 "HeapAndDeque" "row" "LHeapAndDeque$Row;") (by decide +kernel)
  refine lv_aload_n hx hb dX2_getLast_0 rfl (lv_at hl 0 rfl) ?_
  refine va_get (D := D) (ci := 2) (v := .ref h3) (C := RX2) (T := TX2) (N := 3) hx hb hts iX2 hown hK hP 0 rfl rfl 2 (by decide) k22 (fun _ h9 => h9) rfl dX2_getLast_1 ?_
  refine hc_iV (As := []) (rest := []) (wc := [(h3, .inr (1, [.ref a3, .int (nI c)])), (a3, .inl (cI, 200, .inl f))]) (wr := [(x, .inr (2, [.ref h1, .ref h2, .ref h3]))]) (w1 := [(h3, .inr (1, [.ref a3, .int (nI c)])), (a3, .inl (cI, 200, .inl f))]) (w' := [(x, .inr (2, [.ref h1, .ref h2, .ref h3])), (h3, .inr (1, [.ref a3, .int (nI c)])), (a3, .inl (cI, 200, .inl f))]) hF (c_X1_last l D h3 a3 cI f c h1c hc) (cwV 0 hts gX2_getLast_X1_last rfl rfl rfl (by decide +kernel) ⟨Nat.le_of_ble_eq_true rfl, Nat.le_of_ble_eq_true rfl⟩) hP hK hD hS hA hv [1, 2] [0] [0, 1, 2] [0] ⟨rfl, rfl, rfl, rfl, ⟨by decide, by decide, by decide⟩, by decide⟩ 1 1 rfl rfl rfl rfl hl.1 rfl (Nat.le_of_ble_eq_true rfl) dX2_getLast_4 ⟨Nat.zero_le _, Nat.zero_le _⟩ (fun H locs hP hD hS => ?_)
  exact hend _ _ _ _ _ hP hD hS (rfl) dX2_getLast_7
set_option maxHeartbeats 4000000 in
set_option maxRecDepth 100000 in
theorem c_X2_getLast_x (l : Launch) (hfl : l.stackTraces = false) (D : va_G) (x h1 h2 h3 a3 : Nat) (cI : ClassId) (f : Nat → Int32) : mX l yX2_getLast wsX2_getLast ({ frames := 7, cells := 1, slots := 6, locals := 104 }) [.ref x] D [(cI, .int)] [(x, .inr (2, [.ref h1, .ref h2, .ref h3])), (h3, .inr (1, [.ref a3, .int (nI 0)])), (a3, .inl (cI, 200, .inl f))] hNS := by
  refine hX_body (cc := cX2_getLast) (maxL := 1) (by decide) rfl (Nat.le_of_ble_eq_true rfl) ?_
  intro p e s m below meth cd ls hat hnt hZ hP hK hD hS hl
  obtain ⟨hF, hr, hlocks, hv⟩ := id hat
  obtain ⟨hx, hb, hml, hown, hts⟩ := id hF
  have hown : s.vm.findClass RX2 = some m.cls := hown
  have hl : lv_has ls 1 [(0, .ref x)] := hl
  have hP : va_P D vwCl [(x, .inr (2, [.ref h1, .ref h2, .ref h3])), (h3, .inr (1, [.ref a3, .int (nI 0)])), (a3, .inl (cI, 200, .inl f))] s.heap := hP
  have hD : va_D (fun _ => True) [(x, .inr (2, [.ref h1, .ref h2, .ref h3])), (h3, .inr (1, [.ref a3, .int (nI 0)])), (a3, .inl (cI, 200, .inl f))] := hD
  have iX2 : ∀ w ∈ wsX20, w ∈ wsX2_getLast := by decide +kernel
  have k22 := hts (.fieldLink RX2 22 "HeapAndDeque" "row" "LHeapAndDeque$Row;") (by decide +kernel)
  refine lv_aload_n hx hb dX2_getLast_0 rfl (lv_at hl 0 rfl) ?_
  refine va_get (D := D) (ci := 2) (v := .ref h3) (C := RX2) (T := TX2) (N := 3) hx hb hts iX2 hown hK hP 0 rfl rfl 2 (by decide) k22 (fun _ h9 => h9) rfl dX2_getLast_1 ?_
  exact hX_thruV (As := []) (rest := []) (wc := [(h3, .inr (1, [.ref a3, .int (nI 0)])), (a3, .inl (cI, 200, .inl f))]) hF (c_X1_last_x l hfl D h3 a3 cI f ) (cwV 0 hts gX2_getLast_X1_last rfl rfl rfl (by decide +kernel) ⟨Nat.le_of_ble_eq_true rfl, Nat.le_of_ble_eq_true rfl⟩) hP hK hD hS hv hZ [1, 2] [0] rfl (by decide) rfl 1 1 rfl rfl rfl rfl hl.1 rfl (Nat.le_of_ble_eq_true rfl) dX2_getLast_4 ⟨Nat.le_of_ble_eq_true rfl, Nat.le_of_ble_eq_true rfl⟩ hnt hlocks
set_option maxHeartbeats 4000000 in
set_option maxRecDepth 100000 in
theorem c_X2_removeFirst (l : Launch) (D : va_G) (x h1 h2 h3 a3 : Nat) (cI : ClassId) (f : Nat → Int32) (c : Nat) (h1c : 1 ≤ c) (hc : c ≤ 200) : mI l yX2_removeFirst wsX2_removeFirst ({ frames := 2, cells := 0, slots := 0, locals := 43 }) [.ref x] D [(cI, .int)] [(x, .inr (2, [.ref h1, .ref h2, .ref h3])), (h3, .inr (1, [.ref a3, .int (nI c)])), (a3, .inl (cI, 200, .inl f))] [(x, .inr (2, [.ref h1, .ref h2, .ref h3])), (h3, .inr (1, [.ref a3, .int (nI (c - 1))])), (a3, .inl (cI, 200, .inl (s_rm f 0 c)))] (f 0) := by
  refine hI_body (cc := cX2_removeFirst) (maxL := 1) (by decide) rfl (Nat.le_of_ble_eq_true rfl) (rfl) ?_
  intro p e s m below meth cd A ls Q hat hA hP hK hD hS hl hend
  obtain ⟨hF, hr, hlocks, hv⟩ := id hat
  obtain ⟨hx, hb, hml, hown, hts⟩ := id hF
  have hown : s.vm.findClass RX2 = some m.cls := hown
  have hl : lv_has ls 1 [(0, .ref x)] := hl
  have hP : va_P D vwCl [(x, .inr (2, [.ref h1, .ref h2, .ref h3])), (h3, .inr (1, [.ref a3, .int (nI c)])), (a3, .inl (cI, 200, .inl f))] s.heap := hP
  have hD : va_D A [(x, .inr (2, [.ref h1, .ref h2, .ref h3])), (h3, .inr (1, [.ref a3, .int (nI c)])), (a3, .inl (cI, 200, .inl f))] := hD
  have iX2 : ∀ w ∈ wsX20, w ∈ wsX2_removeFirst := by decide +kernel
  have k22 := hts (.fieldLink RX2 22 "HeapAndDeque" "row" "LHeapAndDeque$Row;") (by decide +kernel)
  refine lv_aload_n hx hb dX2_removeFirst_0 rfl (lv_at hl 0 rfl) ?_
  refine va_get (D := D) (ci := 2) (v := .ref h3) (C := RX2) (T := TX2) (N := 3) hx hb hts iX2 hown hK hP 0 rfl rfl 2 (by decide) k22 (fun _ h9 => h9) rfl dX2_removeFirst_1 ?_
  refine hc_iV (As := []) (rest := []) (wc := [(h3, .inr (1, [.ref a3, .int (nI c)])), (a3, .inl (cI, 200, .inl f))]) (wr := [(x, .inr (2, [.ref h1, .ref h2, .ref h3]))]) (w1 := [(h3, .inr (1, [.ref a3, .int (nI (c - 1))])), (a3, .inl (cI, 200, .inl (s_rm f 0 c)))]) (w' := [(x, .inr (2, [.ref h1, .ref h2, .ref h3])), (h3, .inr (1, [.ref a3, .int (nI (c - 1))])), (a3, .inl (cI, 200, .inl (s_rm f 0 c)))]) hF (c_X1_takeFirst l D h3 a3 cI f c h1c hc) (cwV 0 hts gX2_removeFirst_X1_takeFirst rfl rfl rfl (by decide +kernel) ⟨Nat.le_of_ble_eq_true rfl, Nat.le_of_ble_eq_true rfl⟩) hP hK hD hS hA hv [1, 2] [0] [0, 1, 2] [0] ⟨rfl, rfl, rfl, rfl, ⟨by decide, by decide, by decide⟩, by decide⟩ 1 1 rfl rfl rfl rfl hl.1 rfl (Nat.le_of_ble_eq_true rfl) dX2_removeFirst_4 ⟨Nat.zero_le _, Nat.zero_le _⟩ (fun H locs hP hD hS => ?_)
  exact hend _ _ _ _ _ hP hD hS (rfl) dX2_removeFirst_7
set_option maxHeartbeats 4000000 in
set_option maxRecDepth 100000 in
theorem c_X2_removeFirst_x (l : Launch) (hfl : l.stackTraces = false) (D : va_G) (x h1 h2 h3 a3 : Nat) (cI : ClassId) (f : Nat → Int32) : mX l yX2_removeFirst wsX2_removeFirst ({ frames := 8, cells := 1, slots := 6, locals := 125 }) [.ref x] D [(cI, .int)] [(x, .inr (2, [.ref h1, .ref h2, .ref h3])), (h3, .inr (1, [.ref a3, .int (nI 0)])), (a3, .inl (cI, 200, .inl f))] hNS := by
  refine hX_body (cc := cX2_removeFirst) (maxL := 1) (by decide) rfl (Nat.le_of_ble_eq_true rfl) ?_
  intro p e s m below meth cd ls hat hnt hZ hP hK hD hS hl
  obtain ⟨hF, hr, hlocks, hv⟩ := id hat
  obtain ⟨hx, hb, hml, hown, hts⟩ := id hF
  have hown : s.vm.findClass RX2 = some m.cls := hown
  have hl : lv_has ls 1 [(0, .ref x)] := hl
  have hP : va_P D vwCl [(x, .inr (2, [.ref h1, .ref h2, .ref h3])), (h3, .inr (1, [.ref a3, .int (nI 0)])), (a3, .inl (cI, 200, .inl f))] s.heap := hP
  have hD : va_D (fun _ => True) [(x, .inr (2, [.ref h1, .ref h2, .ref h3])), (h3, .inr (1, [.ref a3, .int (nI 0)])), (a3, .inl (cI, 200, .inl f))] := hD
  have iX2 : ∀ w ∈ wsX20, w ∈ wsX2_removeFirst := by decide +kernel
  have k22 := hts (.fieldLink RX2 22 "HeapAndDeque" "row" "LHeapAndDeque$Row;") (by decide +kernel)
  refine lv_aload_n hx hb dX2_removeFirst_0 rfl (lv_at hl 0 rfl) ?_
  refine va_get (D := D) (ci := 2) (v := .ref h3) (C := RX2) (T := TX2) (N := 3) hx hb hts iX2 hown hK hP 0 rfl rfl 2 (by decide) k22 (fun _ h9 => h9) rfl dX2_removeFirst_1 ?_
  exact hX_thruV (As := []) (rest := []) (wc := [(h3, .inr (1, [.ref a3, .int (nI 0)])), (a3, .inl (cI, 200, .inl f))]) hF (c_X1_takeFirst_x l hfl D h3 a3 cI f ) (cwV 0 hts gX2_removeFirst_X1_takeFirst rfl rfl rfl (by decide +kernel) ⟨Nat.le_of_ble_eq_true rfl, Nat.le_of_ble_eq_true rfl⟩) hP hK hD hS hv hZ [1, 2] [0] rfl (by decide) rfl 1 1 rfl rfl rfl rfl hl.1 rfl (Nat.le_of_ble_eq_true rfl) dX2_removeFirst_4 ⟨Nat.le_of_ble_eq_true rfl, Nat.le_of_ble_eq_true rfl⟩ hnt hlocks
set_option maxHeartbeats 4000000 in
set_option maxRecDepth 100000 in
theorem c_X2_pop (l : Launch) (D : va_G) (x h1 h2 h3 a3 : Nat) (cI : ClassId) (f : Nat → Int32) (c : Nat) (h1c : 1 ≤ c) (hc : c ≤ 200) : mI l yX2_pop wsX2_pop ({ frames := 2, cells := 0, slots := 0, locals := 43 }) [.ref x] D [(cI, .int)] [(x, .inr (2, [.ref h1, .ref h2, .ref h3])), (h3, .inr (1, [.ref a3, .int (nI c)])), (a3, .inl (cI, 200, .inl f))] [(x, .inr (2, [.ref h1, .ref h2, .ref h3])), (h3, .inr (1, [.ref a3, .int (nI (c - 1))])), (a3, .inl (cI, 200, .inl (s_rm f 0 c)))] (f 0) := by
  refine hI_body (cc := cX2_pop) (maxL := 1) (by decide) rfl (Nat.le_of_ble_eq_true rfl) (rfl) ?_
  intro p e s m below meth cd A ls Q hat hA hP hK hD hS hl hend
  obtain ⟨hF, hr, hlocks, hv⟩ := id hat
  obtain ⟨hx, hb, hml, hown, hts⟩ := id hF
  have hown : s.vm.findClass RX2 = some m.cls := hown
  have hl : lv_has ls 1 [(0, .ref x)] := hl
  have hP : va_P D vwCl [(x, .inr (2, [.ref h1, .ref h2, .ref h3])), (h3, .inr (1, [.ref a3, .int (nI c)])), (a3, .inl (cI, 200, .inl f))] s.heap := hP
  have hD : va_D A [(x, .inr (2, [.ref h1, .ref h2, .ref h3])), (h3, .inr (1, [.ref a3, .int (nI c)])), (a3, .inl (cI, 200, .inl f))] := hD
  have iX2 : ∀ w ∈ wsX20, w ∈ wsX2_pop := by decide +kernel
  have k22 := hts (.fieldLink RX2 22 "HeapAndDeque" "row" "LHeapAndDeque$Row;") (by decide +kernel)
  refine lv_aload_n hx hb dX2_pop_0 rfl (lv_at hl 0 rfl) ?_
  refine va_get (D := D) (ci := 2) (v := .ref h3) (C := RX2) (T := TX2) (N := 3) hx hb hts iX2 hown hK hP 0 rfl rfl 2 (by decide) k22 (fun _ h9 => h9) rfl dX2_pop_1 ?_
  refine hc_iV (As := []) (rest := []) (wc := [(h3, .inr (1, [.ref a3, .int (nI c)])), (a3, .inl (cI, 200, .inl f))]) (wr := [(x, .inr (2, [.ref h1, .ref h2, .ref h3]))]) (w1 := [(h3, .inr (1, [.ref a3, .int (nI (c - 1))])), (a3, .inl (cI, 200, .inl (s_rm f 0 c)))]) (w' := [(x, .inr (2, [.ref h1, .ref h2, .ref h3])), (h3, .inr (1, [.ref a3, .int (nI (c - 1))])), (a3, .inl (cI, 200, .inl (s_rm f 0 c)))]) hF (c_X1_takeFirst l D h3 a3 cI f c h1c hc) (cwV 0 hts gX2_pop_X1_takeFirst rfl rfl rfl (by decide +kernel) ⟨Nat.le_of_ble_eq_true rfl, Nat.le_of_ble_eq_true rfl⟩) hP hK hD hS hA hv [1, 2] [0] [0, 1, 2] [0] ⟨rfl, rfl, rfl, rfl, ⟨by decide, by decide, by decide⟩, by decide⟩ 1 1 rfl rfl rfl rfl hl.1 rfl (Nat.le_of_ble_eq_true rfl) dX2_pop_4 ⟨Nat.zero_le _, Nat.zero_le _⟩ (fun H locs hP hD hS => ?_)
  exact hend _ _ _ _ _ hP hD hS (rfl) dX2_pop_7
set_option maxHeartbeats 4000000 in
set_option maxRecDepth 100000 in
theorem c_X2_pop_x (l : Launch) (hfl : l.stackTraces = false) (D : va_G) (x h1 h2 h3 a3 : Nat) (cI : ClassId) (f : Nat → Int32) : mX l yX2_pop wsX2_pop ({ frames := 8, cells := 1, slots := 6, locals := 125 }) [.ref x] D [(cI, .int)] [(x, .inr (2, [.ref h1, .ref h2, .ref h3])), (h3, .inr (1, [.ref a3, .int (nI 0)])), (a3, .inl (cI, 200, .inl f))] hNS := by
  refine hX_body (cc := cX2_pop) (maxL := 1) (by decide) rfl (Nat.le_of_ble_eq_true rfl) ?_
  intro p e s m below meth cd ls hat hnt hZ hP hK hD hS hl
  obtain ⟨hF, hr, hlocks, hv⟩ := id hat
  obtain ⟨hx, hb, hml, hown, hts⟩ := id hF
  have hown : s.vm.findClass RX2 = some m.cls := hown
  have hl : lv_has ls 1 [(0, .ref x)] := hl
  have hP : va_P D vwCl [(x, .inr (2, [.ref h1, .ref h2, .ref h3])), (h3, .inr (1, [.ref a3, .int (nI 0)])), (a3, .inl (cI, 200, .inl f))] s.heap := hP
  have hD : va_D (fun _ => True) [(x, .inr (2, [.ref h1, .ref h2, .ref h3])), (h3, .inr (1, [.ref a3, .int (nI 0)])), (a3, .inl (cI, 200, .inl f))] := hD
  have iX2 : ∀ w ∈ wsX20, w ∈ wsX2_pop := by decide +kernel
  have k22 := hts (.fieldLink RX2 22 "HeapAndDeque" "row" "LHeapAndDeque$Row;") (by decide +kernel)
  refine lv_aload_n hx hb dX2_pop_0 rfl (lv_at hl 0 rfl) ?_
  refine va_get (D := D) (ci := 2) (v := .ref h3) (C := RX2) (T := TX2) (N := 3) hx hb hts iX2 hown hK hP 0 rfl rfl 2 (by decide) k22 (fun _ h9 => h9) rfl dX2_pop_1 ?_
  exact hX_thruV (As := []) (rest := []) (wc := [(h3, .inr (1, [.ref a3, .int (nI 0)])), (a3, .inl (cI, 200, .inl f))]) hF (c_X1_takeFirst_x l hfl D h3 a3 cI f ) (cwV 0 hts gX2_pop_X1_takeFirst rfl rfl rfl (by decide +kernel) ⟨Nat.le_of_ble_eq_true rfl, Nat.le_of_ble_eq_true rfl⟩) hP hK hD hS hv hZ [1, 2] [0] rfl (by decide) rfl 1 1 rfl rfl rfl rfl hl.1 rfl (Nat.le_of_ble_eq_true rfl) dX2_pop_4 ⟨Nat.le_of_ble_eq_true rfl, Nat.le_of_ble_eq_true rfl⟩ hnt hlocks
set_option maxHeartbeats 4000000 in
set_option maxRecDepth 100000 in
theorem c_X2_removeLast (l : Launch) (D : va_G) (x h1 h2 h3 a3 : Nat) (cI : ClassId) (f : Nat → Int32) (c : Nat) (h1c : 1 ≤ c) (hc : c ≤ 200) : mI l yX2_removeLast wsX2_removeLast ({ frames := 2, cells := 0, slots := 0, locals := 41 }) [.ref x] D [(cI, .int)] [(x, .inr (2, [.ref h1, .ref h2, .ref h3])), (h3, .inr (1, [.ref a3, .int (nI c)])), (a3, .inl (cI, 200, .inl f))] [(x, .inr (2, [.ref h1, .ref h2, .ref h3])), (h3, .inr (1, [.ref a3, .int (nI (c - 1))])), (a3, .inl (cI, 200, .inl f))] (f (c - 1)) := by
  refine hI_body (cc := cX2_removeLast) (maxL := 1) (by decide) rfl (Nat.le_of_ble_eq_true rfl) (rfl) ?_
  intro p e s m below meth cd A ls Q hat hA hP hK hD hS hl hend
  obtain ⟨hF, hr, hlocks, hv⟩ := id hat
  obtain ⟨hx, hb, hml, hown, hts⟩ := id hF
  have hown : s.vm.findClass RX2 = some m.cls := hown
  have hl : lv_has ls 1 [(0, .ref x)] := hl
  have hP : va_P D vwCl [(x, .inr (2, [.ref h1, .ref h2, .ref h3])), (h3, .inr (1, [.ref a3, .int (nI c)])), (a3, .inl (cI, 200, .inl f))] s.heap := hP
  have hD : va_D A [(x, .inr (2, [.ref h1, .ref h2, .ref h3])), (h3, .inr (1, [.ref a3, .int (nI c)])), (a3, .inl (cI, 200, .inl f))] := hD
  have iX2 : ∀ w ∈ wsX20, w ∈ wsX2_removeLast := by decide +kernel
  have k22 := hts (.fieldLink RX2 22 "HeapAndDeque" "row" "LHeapAndDeque$Row;") (by decide +kernel)
  refine lv_aload_n hx hb dX2_removeLast_0 rfl (lv_at hl 0 rfl) ?_
  refine va_get (D := D) (ci := 2) (v := .ref h3) (C := RX2) (T := TX2) (N := 3) hx hb hts iX2 hown hK hP 0 rfl rfl 2 (by decide) k22 (fun _ h9 => h9) rfl dX2_removeLast_1 ?_
  refine hc_iV (As := []) (rest := []) (wc := [(h3, .inr (1, [.ref a3, .int (nI c)])), (a3, .inl (cI, 200, .inl f))]) (wr := [(x, .inr (2, [.ref h1, .ref h2, .ref h3]))]) (w1 := [(h3, .inr (1, [.ref a3, .int (nI (c - 1))])), (a3, .inl (cI, 200, .inl f))]) (w' := [(x, .inr (2, [.ref h1, .ref h2, .ref h3])), (h3, .inr (1, [.ref a3, .int (nI (c - 1))])), (a3, .inl (cI, 200, .inl f))]) hF (c_X1_takeLast l D h3 a3 cI f c h1c hc) (cwV 0 hts gX2_removeLast_X1_takeLast rfl rfl rfl (by decide +kernel) ⟨Nat.le_of_ble_eq_true rfl, Nat.le_of_ble_eq_true rfl⟩) hP hK hD hS hA hv [1, 2] [0] [0, 1, 2] [0] ⟨rfl, rfl, rfl, rfl, ⟨by decide, by decide, by decide⟩, by decide⟩ 1 1 rfl rfl rfl rfl hl.1 rfl (Nat.le_of_ble_eq_true rfl) dX2_removeLast_4 ⟨Nat.zero_le _, Nat.zero_le _⟩ (fun H locs hP hD hS => ?_)
  exact hend _ _ _ _ _ hP hD hS (rfl) dX2_removeLast_7
set_option maxHeartbeats 4000000 in
set_option maxRecDepth 100000 in
theorem c_X2_removeLast_x (l : Launch) (hfl : l.stackTraces = false) (D : va_G) (x h1 h2 h3 a3 : Nat) (cI : ClassId) (f : Nat → Int32) : mX l yX2_removeLast wsX2_removeLast ({ frames := 8, cells := 1, slots := 6, locals := 125 }) [.ref x] D [(cI, .int)] [(x, .inr (2, [.ref h1, .ref h2, .ref h3])), (h3, .inr (1, [.ref a3, .int (nI 0)])), (a3, .inl (cI, 200, .inl f))] hNS := by
  refine hX_body (cc := cX2_removeLast) (maxL := 1) (by decide) rfl (Nat.le_of_ble_eq_true rfl) ?_
  intro p e s m below meth cd ls hat hnt hZ hP hK hD hS hl
  obtain ⟨hF, hr, hlocks, hv⟩ := id hat
  obtain ⟨hx, hb, hml, hown, hts⟩ := id hF
  have hown : s.vm.findClass RX2 = some m.cls := hown
  have hl : lv_has ls 1 [(0, .ref x)] := hl
  have hP : va_P D vwCl [(x, .inr (2, [.ref h1, .ref h2, .ref h3])), (h3, .inr (1, [.ref a3, .int (nI 0)])), (a3, .inl (cI, 200, .inl f))] s.heap := hP
  have hD : va_D (fun _ => True) [(x, .inr (2, [.ref h1, .ref h2, .ref h3])), (h3, .inr (1, [.ref a3, .int (nI 0)])), (a3, .inl (cI, 200, .inl f))] := hD
  have iX2 : ∀ w ∈ wsX20, w ∈ wsX2_removeLast := by decide +kernel
  have k22 := hts (.fieldLink RX2 22 "HeapAndDeque" "row" "LHeapAndDeque$Row;") (by decide +kernel)
  refine lv_aload_n hx hb dX2_removeLast_0 rfl (lv_at hl 0 rfl) ?_
  refine va_get (D := D) (ci := 2) (v := .ref h3) (C := RX2) (T := TX2) (N := 3) hx hb hts iX2 hown hK hP 0 rfl rfl 2 (by decide) k22 (fun _ h9 => h9) rfl dX2_removeLast_1 ?_
  exact hX_thruV (As := []) (rest := []) (wc := [(h3, .inr (1, [.ref a3, .int (nI 0)])), (a3, .inl (cI, 200, .inl f))]) hF (c_X1_takeLast_x l hfl D h3 a3 cI f ) (cwV 0 hts gX2_removeLast_X1_takeLast rfl rfl rfl (by decide +kernel) ⟨Nat.le_of_ble_eq_true rfl, Nat.le_of_ble_eq_true rfl⟩) hP hK hD hS hv hZ [1, 2] [0] rfl (by decide) rfl 1 1 rfl rfl rfl rfl hl.1 rfl (Nat.le_of_ble_eq_true rfl) dX2_removeLast_4 ⟨Nat.le_of_ble_eq_true rfl, Nat.le_of_ble_eq_true rfl⟩ hnt hlocks
set_option maxHeartbeats 4000000 in
set_option maxRecDepth 100000 in
theorem c_X2_at (l : Launch) (D : va_G) (x h1 h2 h3 a3 : Nat) (cI : ClassId) (f : Nat → Int32) (c : Nat) (q9 : Nat) (hq : q9 < c) (hc : c ≤ 200) : mI l yX2_at wsX2_at ({ frames := 1, cells := 0, slots := 0, locals := 21 }) [.ref x, .int (nI q9)] D [(cI, .int)] [(x, .inr (2, [.ref h1, .ref h2, .ref h3])), (h3, .inr (1, [.ref a3, .int (nI c)])), (a3, .inl (cI, 200, .inl f))] [(x, .inr (2, [.ref h1, .ref h2, .ref h3])), (h3, .inr (1, [.ref a3, .int (nI c)])), (a3, .inl (cI, 200, .inl f))] (f q9) := by
  refine hI_body (cc := cX2_at) (maxL := 2) (by decide) rfl (Nat.le_of_ble_eq_true rfl) (rfl) ?_
  intro p e s m below meth cd A ls Q hat hA hP hK hD hS hl hend
  obtain ⟨hF, hr, hlocks, hv⟩ := id hat
  obtain ⟨hx, hb, hml, hown, hts⟩ := id hF
  have hown : s.vm.findClass RX2 = some m.cls := hown
  have hl : lv_has ls 2 [(0, .ref x), (1, .int (nI q9))] := hl
  have hP : va_P D vwCl [(x, .inr (2, [.ref h1, .ref h2, .ref h3])), (h3, .inr (1, [.ref a3, .int (nI c)])), (a3, .inl (cI, 200, .inl f))] s.heap := hP
  have hD : va_D A [(x, .inr (2, [.ref h1, .ref h2, .ref h3])), (h3, .inr (1, [.ref a3, .int (nI c)])), (a3, .inl (cI, 200, .inl f))] := hD
  have iX2 : ∀ w ∈ wsX20, w ∈ wsX2_at := by decide +kernel
  have k22 := hts (.fieldLink RX2 22 "HeapAndDeque" "row" "LHeapAndDeque$Row;") (by decide +kernel)
  refine lv_aload_n hx hb dX2_at_0 rfl (lv_at hl 0 rfl) ?_
  refine va_get (D := D) (ci := 2) (v := .ref h3) (C := RX2) (T := TX2) (N := 3) hx hb hts iX2 hown hK hP 0 rfl rfl 2 (by decide) k22 (fun _ h9 => h9) rfl dX2_at_1 ?_
  refine lv_iload_n hx hb dX2_at_4 rfl (lv_at hl 1 rfl) ?_
  refine hc_iV (As := [.int (nI q9)]) (rest := []) (wc := [(h3, .inr (1, [.ref a3, .int (nI c)])), (a3, .inl (cI, 200, .inl f))]) (wr := [(x, .inr (2, [.ref h1, .ref h2, .ref h3]))]) (w1 := [(h3, .inr (1, [.ref a3, .int (nI c)])), (a3, .inl (cI, 200, .inl f))]) (w' := [(x, .inr (2, [.ref h1, .ref h2, .ref h3])), (h3, .inr (1, [.ref a3, .int (nI c)])), (a3, .inl (cI, 200, .inl f))]) hF (c_X1_numberAt l D h3 a3 cI f c q9 hq hc) (cwV 1 hts gX2_at_X1_numberAt rfl rfl rfl (by decide +kernel) ⟨Nat.le_of_ble_eq_true rfl, Nat.le_of_ble_eq_true rfl⟩) hP hK hD hS hA hv [1, 2] [0] [0, 1, 2] [0] ⟨rfl, rfl, rfl, rfl, ⟨by decide, by decide, by decide⟩, by decide⟩ 1 1 rfl rfl rfl rfl hl.1 rfl (Nat.le_of_ble_eq_true rfl) dX2_at_5 ⟨Nat.zero_le _, Nat.zero_le _⟩ (fun H locs hP hD hS => ?_)
  exact hend _ _ _ _ _ hP hD hS (rfl) dX2_at_8
set_option maxHeartbeats 4000000 in
set_option maxRecDepth 100000 in
theorem c_X2_at_x (l : Launch) (hfl : l.stackTraces = false) (D : va_G) (x h1 h2 h3 a3 : Nat) (cI : ClassId) (f : Nat → Int32) (c : Nat) (v : Int32) (hq : v < 0 ∨ nI c ≤ v) : mX l yX2_at wsX2_at ({ frames := 7, cells := 1, slots := 6, locals := 105 }) [.ref x, .int v] D [(cI, .int)] [(x, .inr (2, [.ref h1, .ref h2, .ref h3])), (h3, .inr (1, [.ref a3, .int (nI c)])), (a3, .inl (cI, 200, .inl f))] "java/lang/IndexOutOfBoundsException" := by
  refine hX_body (cc := cX2_at) (maxL := 2) (by decide) rfl (Nat.le_of_ble_eq_true rfl) ?_
  intro p e s m below meth cd ls hat hnt hZ hP hK hD hS hl
  obtain ⟨hF, hr, hlocks, hv⟩ := id hat
  obtain ⟨hx, hb, hml, hown, hts⟩ := id hF
  have hown : s.vm.findClass RX2 = some m.cls := hown
  have hl : lv_has ls 2 [(0, .ref x), (1, .int v)] := hl
  have hP : va_P D vwCl [(x, .inr (2, [.ref h1, .ref h2, .ref h3])), (h3, .inr (1, [.ref a3, .int (nI c)])), (a3, .inl (cI, 200, .inl f))] s.heap := hP
  have hD : va_D (fun _ => True) [(x, .inr (2, [.ref h1, .ref h2, .ref h3])), (h3, .inr (1, [.ref a3, .int (nI c)])), (a3, .inl (cI, 200, .inl f))] := hD
  have iX2 : ∀ w ∈ wsX20, w ∈ wsX2_at := by decide +kernel
  have k22 := hts (.fieldLink RX2 22 "HeapAndDeque" "row" "LHeapAndDeque$Row;") (by decide +kernel)
  refine lv_aload_n hx hb dX2_at_0 rfl (lv_at hl 0 rfl) ?_
  refine va_get (D := D) (ci := 2) (v := .ref h3) (C := RX2) (T := TX2) (N := 3) hx hb hts iX2 hown hK hP 0 rfl rfl 2 (by decide) k22 (fun _ h9 => h9) rfl dX2_at_1 ?_
  refine lv_iload_n hx hb dX2_at_4 rfl (lv_at hl 1 rfl) ?_
  exact hX_thruV (As := [.int v]) (rest := []) (wc := [(h3, .inr (1, [.ref a3, .int (nI c)])), (a3, .inl (cI, 200, .inl f))]) hF (c_X1_numberAt_x l hfl D h3 a3 cI f c v hq) (cwV 1 hts gX2_at_X1_numberAt rfl rfl rfl (by decide +kernel) ⟨Nat.le_of_ble_eq_true rfl, Nat.le_of_ble_eq_true rfl⟩) hP hK hD hS hv hZ [1, 2] [0] rfl (by decide) rfl 1 1 rfl rfl rfl rfl hl.1 rfl (Nat.le_of_ble_eq_true rfl) dX2_at_5 ⟨Nat.le_of_ble_eq_true rfl, Nat.le_of_ble_eq_true rfl⟩ hnt hlocks
set_option maxHeartbeats 4000000 in
set_option maxRecDepth 100000 in
theorem c_X2_back (l : Launch) (D : va_G) (x h1 h2 h3 a3 : Nat) (cI : ClassId) (f : Nat → Int32) (c : Nat) (q9 : Nat) (hq : q9 < c) (hc : c ≤ 200) : mI l yX2_back wsX2_back ({ frames := 1, cells := 0, slots := 0, locals := 21 }) [.ref x, .int (nI q9)] D [(cI, .int)] [(x, .inr (2, [.ref h1, .ref h2, .ref h3])), (h3, .inr (1, [.ref a3, .int (nI c)])), (a3, .inl (cI, 200, .inl f))] [(x, .inr (2, [.ref h1, .ref h2, .ref h3])), (h3, .inr (1, [.ref a3, .int (nI c)])), (a3, .inl (cI, 200, .inl f))] (f (c - 1 - q9)) := by
  refine hI_body (cc := cX2_back) (maxL := 2) (by decide) rfl (Nat.le_of_ble_eq_true rfl) (rfl) ?_
  intro p e s m below meth cd A ls Q hat hA hP hK hD hS hl hend
  obtain ⟨hF, hr, hlocks, hv⟩ := id hat
  obtain ⟨hx, hb, hml, hown, hts⟩ := id hF
  have hown : s.vm.findClass RX2 = some m.cls := hown
  have hl : lv_has ls 2 [(0, .ref x), (1, .int (nI q9))] := hl
  have hP : va_P D vwCl [(x, .inr (2, [.ref h1, .ref h2, .ref h3])), (h3, .inr (1, [.ref a3, .int (nI c)])), (a3, .inl (cI, 200, .inl f))] s.heap := hP
  have hD : va_D A [(x, .inr (2, [.ref h1, .ref h2, .ref h3])), (h3, .inr (1, [.ref a3, .int (nI c)])), (a3, .inl (cI, 200, .inl f))] := hD
  have iX2 : ∀ w ∈ wsX20, w ∈ wsX2_back := by decide +kernel
  have k22 := hts (.fieldLink RX2 22 "HeapAndDeque" "row" "LHeapAndDeque$Row;") (by decide +kernel)
  refine lv_aload_n hx hb dX2_back_0 rfl (lv_at hl 0 rfl) ?_
  refine va_get (D := D) (ci := 2) (v := .ref h3) (C := RX2) (T := TX2) (N := 3) hx hb hts iX2 hown hK hP 0 rfl rfl 2 (by decide) k22 (fun _ h9 => h9) rfl dX2_back_1 ?_
  refine lv_iload_n hx hb dX2_back_4 rfl (lv_at hl 1 rfl) ?_
  refine hc_iV (As := [.int (nI q9)]) (rest := []) (wc := [(h3, .inr (1, [.ref a3, .int (nI c)])), (a3, .inl (cI, 200, .inl f))]) (wr := [(x, .inr (2, [.ref h1, .ref h2, .ref h3]))]) (w1 := [(h3, .inr (1, [.ref a3, .int (nI c)])), (a3, .inl (cI, 200, .inl f))]) (w' := [(x, .inr (2, [.ref h1, .ref h2, .ref h3])), (h3, .inr (1, [.ref a3, .int (nI c)])), (a3, .inl (cI, 200, .inl f))]) hF (c_X1_numberFromLast l D h3 a3 cI f c q9 hq hc) (cwV 1 hts gX2_back_X1_numberFromLast rfl rfl rfl (by decide +kernel) ⟨Nat.le_of_ble_eq_true rfl, Nat.le_of_ble_eq_true rfl⟩) hP hK hD hS hA hv [1, 2] [0] [0, 1, 2] [0] ⟨rfl, rfl, rfl, rfl, ⟨by decide, by decide, by decide⟩, by decide⟩ 1 1 rfl rfl rfl rfl hl.1 rfl (Nat.le_of_ble_eq_true rfl) dX2_back_5 ⟨Nat.zero_le _, Nat.zero_le _⟩ (fun H locs hP hD hS => ?_)
  exact hend _ _ _ _ _ hP hD hS (rfl) dX2_back_8
set_option maxHeartbeats 4000000 in
set_option maxRecDepth 100000 in
theorem c_X2_back_x (l : Launch) (hfl : l.stackTraces = false) (D : va_G) (x h1 h2 h3 a3 : Nat) (cI : ClassId) (f : Nat → Int32) (c : Nat) (v : Int32) (hq : v < 0 ∨ nI c ≤ v) : mX l yX2_back wsX2_back ({ frames := 7, cells := 1, slots := 6, locals := 105 }) [.ref x, .int v] D [(cI, .int)] [(x, .inr (2, [.ref h1, .ref h2, .ref h3])), (h3, .inr (1, [.ref a3, .int (nI c)])), (a3, .inl (cI, 200, .inl f))] "java/lang/IndexOutOfBoundsException" := by
  refine hX_body (cc := cX2_back) (maxL := 2) (by decide) rfl (Nat.le_of_ble_eq_true rfl) ?_
  intro p e s m below meth cd ls hat hnt hZ hP hK hD hS hl
  obtain ⟨hF, hr, hlocks, hv⟩ := id hat
  obtain ⟨hx, hb, hml, hown, hts⟩ := id hF
  have hown : s.vm.findClass RX2 = some m.cls := hown
  have hl : lv_has ls 2 [(0, .ref x), (1, .int v)] := hl
  have hP : va_P D vwCl [(x, .inr (2, [.ref h1, .ref h2, .ref h3])), (h3, .inr (1, [.ref a3, .int (nI c)])), (a3, .inl (cI, 200, .inl f))] s.heap := hP
  have hD : va_D (fun _ => True) [(x, .inr (2, [.ref h1, .ref h2, .ref h3])), (h3, .inr (1, [.ref a3, .int (nI c)])), (a3, .inl (cI, 200, .inl f))] := hD
  have iX2 : ∀ w ∈ wsX20, w ∈ wsX2_back := by decide +kernel
  have k22 := hts (.fieldLink RX2 22 "HeapAndDeque" "row" "LHeapAndDeque$Row;") (by decide +kernel)
  refine lv_aload_n hx hb dX2_back_0 rfl (lv_at hl 0 rfl) ?_
  refine va_get (D := D) (ci := 2) (v := .ref h3) (C := RX2) (T := TX2) (N := 3) hx hb hts iX2 hown hK hP 0 rfl rfl 2 (by decide) k22 (fun _ h9 => h9) rfl dX2_back_1 ?_
  refine lv_iload_n hx hb dX2_back_4 rfl (lv_at hl 1 rfl) ?_
  exact hX_thruV (As := [.int v]) (rest := []) (wc := [(h3, .inr (1, [.ref a3, .int (nI c)])), (a3, .inl (cI, 200, .inl f))]) hF (c_X1_numberFromLast_x l hfl D h3 a3 cI f c v hq) (cwV 1 hts gX2_back_X1_numberFromLast rfl rfl rfl (by decide +kernel) ⟨Nat.le_of_ble_eq_true rfl, Nat.le_of_ble_eq_true rfl⟩) hP hK hD hS hv hZ [1, 2] [0] rfl (by decide) rfl 1 1 rfl rfl rfl rfl hl.1 rfl (Nat.le_of_ble_eq_true rfl) dX2_back_5 ⟨Nat.le_of_ble_eq_true rfl, Nat.le_of_ble_eq_true rfl⟩ hnt hlocks
set_option maxHeartbeats 4000000 in
set_option maxRecDepth 100000 in
theorem c_X2_wipe (l : Launch) (D : va_G) (x h1 h2 h3 a3 : Nat) (cI : ClassId) (f : Nat → Int32) (c : Nat) : mI l yX2_wipe wsX2_wipe ({ frames := 1, cells := 0, slots := 0, locals := 21 }) [.ref x] D [(cI, .int)] [(x, .inr (2, [.ref h1, .ref h2, .ref h3])), (h3, .inr (1, [.ref a3, .int (nI c)])), (a3, .inl (cI, 200, .inl f))] [(x, .inr (2, [.ref h1, .ref h2, .ref h3])), (h3, .inr (1, [.ref a3, .int (nI 0)])), (a3, .inl (cI, 200, .inl f))] (nI c) := by
  refine hI_body (cc := cX2_wipe) (maxL := 1) (by decide) rfl (Nat.le_of_ble_eq_true rfl) (rfl) ?_
  intro p e s m below meth cd A ls Q hat hA hP hK hD hS hl hend
  obtain ⟨hF, hr, hlocks, hv⟩ := id hat
  obtain ⟨hx, hb, hml, hown, hts⟩ := id hF
  have hown : s.vm.findClass RX2 = some m.cls := hown
  have hl : lv_has ls 1 [(0, .ref x)] := hl
  have hP : va_P D vwCl [(x, .inr (2, [.ref h1, .ref h2, .ref h3])), (h3, .inr (1, [.ref a3, .int (nI c)])), (a3, .inl (cI, 200, .inl f))] s.heap := hP
  have hD : va_D A [(x, .inr (2, [.ref h1, .ref h2, .ref h3])), (h3, .inr (1, [.ref a3, .int (nI c)])), (a3, .inl (cI, 200, .inl f))] := hD
  have iX2 : ∀ w ∈ wsX20, w ∈ wsX2_wipe := by decide +kernel
  have k22 := hts (.fieldLink RX2 22 "HeapAndDeque" "row" "LHeapAndDeque$Row;") (by decide +kernel)
  refine lv_aload_n hx hb dX2_wipe_0 rfl (lv_at hl 0 rfl) ?_
  refine va_get (D := D) (ci := 2) (v := .ref h3) (C := RX2) (T := TX2) (N := 3) hx hb hts iX2 hown hK hP 0 rfl rfl 2 (by decide) k22 (fun _ h9 => h9) rfl dX2_wipe_1 ?_
  refine hc_iV (As := []) (rest := []) (wc := [(h3, .inr (1, [.ref a3, .int (nI c)])), (a3, .inl (cI, 200, .inl f))]) (wr := [(x, .inr (2, [.ref h1, .ref h2, .ref h3]))]) (w1 := [(h3, .inr (1, [.ref a3, .int (nI 0)])), (a3, .inl (cI, 200, .inl f))]) (w' := [(x, .inr (2, [.ref h1, .ref h2, .ref h3])), (h3, .inr (1, [.ref a3, .int (nI 0)])), (a3, .inl (cI, 200, .inl f))]) hF (c_X1_empty l D h3 a3 cI f c ) (cwV 0 hts gX2_wipe_X1_empty rfl rfl rfl (by decide +kernel) ⟨Nat.le_of_ble_eq_true rfl, Nat.le_of_ble_eq_true rfl⟩) hP hK hD hS hA hv [1, 2] [0] [0, 1, 2] [0] ⟨rfl, rfl, rfl, rfl, ⟨by decide, by decide, by decide⟩, by decide⟩ 1 1 rfl rfl rfl rfl hl.1 rfl (Nat.le_of_ble_eq_true rfl) dX2_wipe_4 ⟨Nat.zero_le _, Nat.zero_le _⟩ (fun H locs hP hD hS => ?_)
  exact hend _ _ _ _ _ hP hD hS (rfl) dX2_wipe_7
set_option maxHeartbeats 4000000 in
set_option maxRecDepth 100000 in
theorem c_X2_dropLike (l : Launch) (D : va_G) (x h1 h2 h3 a3 : Nat) (cI : ClassId) (f : Nat → Int32) (c : Nat) (v : Int32) (hc : c ≤ 200) : mI l yX2_dropLike wsX2_dropLike ({ frames := 1, cells := 0, slots := 0, locals := 23 }) [.ref x, .int v] D [(cI, .int)] [(x, .inr (2, [.ref h1, .ref h2, .ref h3])), (h3, .inr (1, [.ref a3, .int (nI c)])), (a3, .inl (cI, 200, .inl f))] [(x, .inr (2, [.ref h1, .ref h2, .ref h3])), (h3, .inr (1, [.ref a3, .int (nI ((s_cmp v c 0 0 f).2))])), (a3, .inl (cI, 200, .inl ((s_cmp v c 0 0 f).1)))] (nI (c - (s_cmp v c 0 0 f).2)) := by
  refine hI_body (cc := cX2_dropLike) (maxL := 2) (by decide) rfl (Nat.le_of_ble_eq_true rfl) (rfl) ?_
  intro p e s m below meth cd A ls Q hat hA hP hK hD hS hl hend
  obtain ⟨hF, hr, hlocks, hv⟩ := id hat
  obtain ⟨hx, hb, hml, hown, hts⟩ := id hF
  have hown : s.vm.findClass RX2 = some m.cls := hown
  have hl : lv_has ls 2 [(0, .ref x), (1, .int v)] := hl
  have hP : va_P D vwCl [(x, .inr (2, [.ref h1, .ref h2, .ref h3])), (h3, .inr (1, [.ref a3, .int (nI c)])), (a3, .inl (cI, 200, .inl f))] s.heap := hP
  have hD : va_D A [(x, .inr (2, [.ref h1, .ref h2, .ref h3])), (h3, .inr (1, [.ref a3, .int (nI c)])), (a3, .inl (cI, 200, .inl f))] := hD
  have iX2 : ∀ w ∈ wsX20, w ∈ wsX2_dropLike := by decide +kernel
  have k22 := hts (.fieldLink RX2 22 "HeapAndDeque" "row" "LHeapAndDeque$Row;") (by decide +kernel)
  refine lv_aload_n hx hb dX2_dropLike_0 rfl (lv_at hl 0 rfl) ?_
  refine va_get (D := D) (ci := 2) (v := .ref h3) (C := RX2) (T := TX2) (N := 3) hx hb hts iX2 hown hK hP 0 rfl rfl 2 (by decide) k22 (fun _ h9 => h9) rfl dX2_dropLike_1 ?_
  refine lv_iload_n hx hb dX2_dropLike_4 rfl (lv_at hl 1 rfl) ?_
  refine hc_iV (As := [.int v]) (rest := []) (wc := [(h3, .inr (1, [.ref a3, .int (nI c)])), (a3, .inl (cI, 200, .inl f))]) (wr := [(x, .inr (2, [.ref h1, .ref h2, .ref h3]))]) (w1 := [(h3, .inr (1, [.ref a3, .int (nI ((s_cmp v c 0 0 f).2))])), (a3, .inl (cI, 200, .inl ((s_cmp v c 0 0 f).1)))]) (w' := [(x, .inr (2, [.ref h1, .ref h2, .ref h3])), (h3, .inr (1, [.ref a3, .int (nI ((s_cmp v c 0 0 f).2))])), (a3, .inl (cI, 200, .inl ((s_cmp v c 0 0 f).1)))]) hF (c_X1_takeAllLike l D h3 a3 cI f c v hc) (cwV 1 hts gX2_dropLike_X1_takeAllLike rfl rfl rfl (by decide +kernel) ⟨Nat.le_of_ble_eq_true rfl, Nat.le_of_ble_eq_true rfl⟩) hP hK hD hS hA hv [1, 2] [0] [0, 1, 2] [0] ⟨rfl, rfl, rfl, rfl, ⟨by decide, by decide, by decide⟩, by decide⟩ 1 1 rfl rfl rfl rfl hl.1 rfl (Nat.le_of_ble_eq_true rfl) dX2_dropLike_5 ⟨Nat.zero_le _, Nat.zero_le _⟩ (fun H locs hP hD hS => ?_)
  exact hend _ _ _ _ _ hP hD hS (rfl) dX2_dropLike_8
set_option maxHeartbeats 4000000 in
set_option maxRecDepth 100000 in
theorem c_X2_walk (l : Launch) (D : va_G) (x h1 h2 h3 a3 : Nat) (cI : ClassId) (f : Nat → Int32) (c : Nat) (hc : c ≤ 200) : mL l yX2_walk wsX2_walk ({ frames := 1, cells := 0, slots := 0, locals := 23 }) [.ref x] D [(cI, .int)] [(x, .inr (2, [.ref h1, .ref h2, .ref h3])), (h3, .inr (1, [.ref a3, .int (nI c)])), (a3, .inl (cI, 200, .inl f))] [(x, .inr (2, [.ref h1, .ref h2, .ref h3])), (h3, .inr (1, [.ref a3, .int (nI c)])), (a3, .inl (cI, 200, .inl f))] (s_up f c) := by
  refine hL_body (cc := cX2_walk) (maxL := 1) (by decide) rfl (Nat.le_of_ble_eq_true rfl) ?_
  intro p e s m below meth cd A ls Q hat hA hP hK hD hS hl hend
  obtain ⟨hF, hr, hlocks, hv⟩ := id hat
  obtain ⟨hx, hb, hml, hown, hts⟩ := id hF
  have hown : s.vm.findClass RX2 = some m.cls := hown
  have hl : lv_has ls 1 [(0, .ref x)] := hl
  have hP : va_P D vwCl [(x, .inr (2, [.ref h1, .ref h2, .ref h3])), (h3, .inr (1, [.ref a3, .int (nI c)])), (a3, .inl (cI, 200, .inl f))] s.heap := hP
  have hD : va_D A [(x, .inr (2, [.ref h1, .ref h2, .ref h3])), (h3, .inr (1, [.ref a3, .int (nI c)])), (a3, .inl (cI, 200, .inl f))] := hD
  have iX2 : ∀ w ∈ wsX20, w ∈ wsX2_walk := by decide +kernel
  have k22 := hts (.fieldLink RX2 22 "HeapAndDeque" "row" "LHeapAndDeque$Row;") (by decide +kernel)
  refine lv_aload_n hx hb dX2_walk_0 rfl (lv_at hl 0 rfl) ?_
  refine va_get (D := D) (ci := 2) (v := .ref h3) (C := RX2) (T := TX2) (N := 3) hx hb hts iX2 hown hK hP 0 rfl rfl 2 (by decide) k22 (fun _ h9 => h9) rfl dX2_walk_1 ?_
  refine hc_lV (As := []) (rest := []) (wc := [(h3, .inr (1, [.ref a3, .int (nI c)])), (a3, .inl (cI, 200, .inl f))]) (wr := [(x, .inr (2, [.ref h1, .ref h2, .ref h3]))]) (w1 := [(h3, .inr (1, [.ref a3, .int (nI c)])), (a3, .inl (cI, 200, .inl f))]) (w' := [(x, .inr (2, [.ref h1, .ref h2, .ref h3])), (h3, .inr (1, [.ref a3, .int (nI c)])), (a3, .inl (cI, 200, .inl f))]) hF (c_X1_sumFromFirst l D h3 a3 cI f c hc) (cwV 0 hts gX2_walk_X1_sumFromFirst rfl rfl rfl (by decide +kernel) ⟨Nat.le_of_ble_eq_true rfl, Nat.le_of_ble_eq_true rfl⟩) hP hK hD hS hA hv [1, 2] [0] [0, 1, 2] [0] ⟨rfl, rfl, rfl, rfl, ⟨by decide, by decide, by decide⟩, by decide⟩ 1 1 rfl rfl rfl rfl hl.1 rfl (Nat.le_of_ble_eq_true rfl) dX2_walk_4 ⟨Nat.zero_le _, Nat.zero_le _⟩ (fun H locs hP hD hS => ?_)
  exact hend _ _ _ _ _ hP hD hS (rfl) dX2_walk_7
set_option maxHeartbeats 4000000 in
set_option maxRecDepth 100000 in
theorem c_X2_walkBack (l : Launch) (D : va_G) (x h1 h2 h3 a3 : Nat) (cI : ClassId) (f : Nat → Int32) (c : Nat) (hc : c ≤ 200) : mL l yX2_walkBack wsX2_walkBack ({ frames := 1, cells := 0, slots := 0, locals := 23 }) [.ref x] D [(cI, .int)] [(x, .inr (2, [.ref h1, .ref h2, .ref h3])), (h3, .inr (1, [.ref a3, .int (nI c)])), (a3, .inl (cI, 200, .inl f))] [(x, .inr (2, [.ref h1, .ref h2, .ref h3])), (h3, .inr (1, [.ref a3, .int (nI c)])), (a3, .inl (cI, 200, .inl f))] (s_dn f c 7) := by
  refine hL_body (cc := cX2_walkBack) (maxL := 1) (by decide) rfl (Nat.le_of_ble_eq_true rfl) ?_
  intro p e s m below meth cd A ls Q hat hA hP hK hD hS hl hend
  obtain ⟨hF, hr, hlocks, hv⟩ := id hat
  obtain ⟨hx, hb, hml, hown, hts⟩ := id hF
  have hown : s.vm.findClass RX2 = some m.cls := hown
  have hl : lv_has ls 1 [(0, .ref x)] := hl
  have hP : va_P D vwCl [(x, .inr (2, [.ref h1, .ref h2, .ref h3])), (h3, .inr (1, [.ref a3, .int (nI c)])), (a3, .inl (cI, 200, .inl f))] s.heap := hP
  have hD : va_D A [(x, .inr (2, [.ref h1, .ref h2, .ref h3])), (h3, .inr (1, [.ref a3, .int (nI c)])), (a3, .inl (cI, 200, .inl f))] := hD
  have iX2 : ∀ w ∈ wsX20, w ∈ wsX2_walkBack := by decide +kernel
  have k22 := hts (.fieldLink RX2 22 "HeapAndDeque" "row" "LHeapAndDeque$Row;") (by decide +kernel)
  refine lv_aload_n hx hb dX2_walkBack_0 rfl (lv_at hl 0 rfl) ?_
  refine va_get (D := D) (ci := 2) (v := .ref h3) (C := RX2) (T := TX2) (N := 3) hx hb hts iX2 hown hK hP 0 rfl rfl 2 (by decide) k22 (fun _ h9 => h9) rfl dX2_walkBack_1 ?_
  refine hc_lV (As := []) (rest := []) (wc := [(h3, .inr (1, [.ref a3, .int (nI c)])), (a3, .inl (cI, 200, .inl f))]) (wr := [(x, .inr (2, [.ref h1, .ref h2, .ref h3]))]) (w1 := [(h3, .inr (1, [.ref a3, .int (nI c)])), (a3, .inl (cI, 200, .inl f))]) (w' := [(x, .inr (2, [.ref h1, .ref h2, .ref h3])), (h3, .inr (1, [.ref a3, .int (nI c)])), (a3, .inl (cI, 200, .inl f))]) hF (c_X1_sumFromLast l D h3 a3 cI f c hc) (cwV 0 hts gX2_walkBack_X1_sumFromLast rfl rfl rfl (by decide +kernel) ⟨Nat.le_of_ble_eq_true rfl, Nat.le_of_ble_eq_true rfl⟩) hP hK hD hS hA hv [1, 2] [0] [0, 1, 2] [0] ⟨rfl, rfl, rfl, rfl, ⟨by decide, by decide, by decide⟩, by decide⟩ 1 1 rfl rfl rfl rfl hl.1 rfl (Nat.le_of_ble_eq_true rfl) dX2_walkBack_4 ⟨Nat.zero_le _, Nat.zero_le _⟩ (fun H locs hP hD hS => ?_)
  exact hend _ _ _ _ _ hP hD hS (rfl) dX2_walkBack_7
set_option maxHeartbeats 4000000 in
set_option maxRecDepth 100000 in
theorem c_X2_length (l : Launch) (D : va_G) (x h1 h2 h3 a3 : Nat) (c : Nat) : mI l yX2_length wsX2_length ({ frames := 0, cells := 0, slots := 0, locals := 0 }) [.ref x] D [] [(x, .inr (2, [.ref h1, .ref h2, .ref h3])), (h3, .inr (1, [.ref a3, .int (nI c)]))] [(x, .inr (2, [.ref h1, .ref h2, .ref h3])), (h3, .inr (1, [.ref a3, .int (nI c)]))] (nI c) := by
  refine hI_body (cc := cX2_length) (maxL := 1) (by decide) rfl (Nat.le_of_ble_eq_true rfl) (rfl) ?_
  intro p e s m below meth cd A ls Q hat hA hP hK hD hS hl hend
  obtain ⟨hF, hr, hlocks, hv⟩ := id hat
  obtain ⟨hx, hb, hml, hown, hts⟩ := id hF
  have hown : s.vm.findClass RX2 = some m.cls := hown
  have hl : lv_has ls 1 [(0, .ref x)] := hl
  have hP : va_P D vwCl [(x, .inr (2, [.ref h1, .ref h2, .ref h3])), (h3, .inr (1, [.ref a3, .int (nI c)]))] s.heap := hP
  have hD : va_D A [(x, .inr (2, [.ref h1, .ref h2, .ref h3])), (h3, .inr (1, [.ref a3, .int (nI c)]))] := hD
  have iX1 : ∀ w ∈ wsX10, w ∈ wsX2_length := by decide +kernel
  have iX2 : ∀ w ∈ wsX20, w ∈ wsX2_length := by decide +kernel
  have k22 := hts (.fieldLink RX2 22 "HeapAndDeque" "row" "LHeapAndDeque$Row;") (by decide +kernel)
  refine lv_aload_n hx hb dX2_length_0 rfl (lv_at hl 0 rfl) ?_
  refine va_get (D := D) (ci := 2) (v := .ref h3) (C := RX2) (T := TX2) (N := 3) hx hb hts iX2 hown hK hP 0 rfl rfl 2 (by decide) k22 (fun _ h9 => h9) rfl dX2_length_1 ?_
  refine va_getN (D := D) (ci := 1) (v := .int (nI c)) (C := RX1) (T := TX1) (N := 2) hx hb hts iX1 hown hK hP 1 rfl rfl 1 (by decide) (va_Nw.use rfl hv.2.2.2.2.2.1) (fun _ h9 => h9) rfl dX2_length_4 ?_
  exact hend _ _ _ _ _ hP hD hS (rfl) dX2_length_7
set_option maxHeartbeats 4000000 in
set_option maxRecDepth 100000 in
theorem c_X2_has (l : Launch) (D : va_G) (x h1 h2 h3 a3 : Nat) (cI : ClassId) (f : Nat → Int32) (c : Nat) (v : Int32) (hc : c ≤ 200) : mI l yX2_has wsX2_has ({ frames := 1, cells := 0, slots := 0, locals := 22 }) [.ref x, .int v] D [(cI, .int)] [(x, .inr (2, [.ref h1, .ref h2, .ref h3])), (h3, .inr (1, [.ref a3, .int (nI c)])), (a3, .inl (cI, 200, .inl f))] [(x, .inr (2, [.ref h1, .ref h2, .ref h3])), (h3, .inr (1, [.ref a3, .int (nI c)])), (a3, .inl (cI, 200, .inl f))] (s_b (s_fI f v c 0).isSome) := by
  refine hI_body (cc := cX2_has) (maxL := 2) (by decide) rfl (Nat.le_of_ble_eq_true rfl) (s_b_n _) ?_
  intro p e s m below meth cd A ls Q hat hA hP hK hD hS hl hend
  obtain ⟨hF, hr, hlocks, hv⟩ := id hat
  obtain ⟨hx, hb, hml, hown, hts⟩ := id hF
  have hown : s.vm.findClass RX2 = some m.cls := hown
  have hl : lv_has ls 2 [(0, .ref x), (1, .int v)] := hl
  have hP : va_P D vwCl [(x, .inr (2, [.ref h1, .ref h2, .ref h3])), (h3, .inr (1, [.ref a3, .int (nI c)])), (a3, .inl (cI, 200, .inl f))] s.heap := hP
  have hD : va_D A [(x, .inr (2, [.ref h1, .ref h2, .ref h3])), (h3, .inr (1, [.ref a3, .int (nI c)])), (a3, .inl (cI, 200, .inl f))] := hD
  have iX2 : ∀ w ∈ wsX20, w ∈ wsX2_has := by decide +kernel
  have k22 := hts (.fieldLink RX2 22 "HeapAndDeque" "row" "LHeapAndDeque$Row;") (by decide +kernel)
  refine lv_aload_n hx hb dX2_has_0 rfl (lv_at hl 0 rfl) ?_
  refine va_get (D := D) (ci := 2) (v := .ref h3) (C := RX2) (T := TX2) (N := 3) hx hb hts iX2 hown hK hP 0 rfl rfl 2 (by decide) k22 (fun _ h9 => h9) rfl dX2_has_1 ?_
  refine lv_iload_n hx hb dX2_has_4 rfl (lv_at hl 1 rfl) ?_
  refine hc_iV (As := [.int v]) (rest := []) (wc := [(h3, .inr (1, [.ref a3, .int (nI c)])), (a3, .inl (cI, 200, .inl f))]) (wr := [(x, .inr (2, [.ref h1, .ref h2, .ref h3]))]) (w1 := [(h3, .inr (1, [.ref a3, .int (nI c)])), (a3, .inl (cI, 200, .inl f))]) (w' := [(x, .inr (2, [.ref h1, .ref h2, .ref h3])), (h3, .inr (1, [.ref a3, .int (nI c)])), (a3, .inl (cI, 200, .inl f))]) hF (c_X1_firstPlaceOf l D h3 a3 cI f c v hc) (cwV 1 hts gX2_has_X1_firstPlaceOf rfl rfl rfl (by decide +kernel) ⟨Nat.le_of_ble_eq_true rfl, Nat.le_of_ble_eq_true rfl⟩) hP hK hD hS hA hv [1, 2] [0] [0, 1, 2] [0] ⟨rfl, rfl, rfl, rfl, ⟨by decide, by decide, by decide⟩, by decide⟩ 1 1 rfl rfl rfl rfl hl.1 rfl (Nat.le_of_ble_eq_true rfl) dX2_has_5 ⟨Nat.zero_le _, Nat.zero_le _⟩ (fun H locs hP hD hS => ?_)
  rcases hf : s_fI f v c 0 with _ | q9
  · refine lv_if_lt (tgt := 15) hx hb dX2_has_8 (by decide) (fun _ => ?_) (fun hn => absurd (s_o_lt) hn)
    refine lv_iconst (v := 0) hx hb dX2_has_15 (by decide) ?_
    exact hend _ _ _ _ _ hP hD hS (by rw [hf]; rfl) dX2_has_16
  · refine lv_if_lt (tgt := 15) hx hb dX2_has_8 (by decide) (fun ht_ => absurd ht_ (s_o_ge q9 (by have := (s_fI_spec hf).2.1; omega))) (fun _ => ?_)
    refine lv_iconst (v := 1) hx hb dX2_has_11 (by decide) ?_
    refine lv_goto (tgt := 16) hx hb dX2_has_12 (by decide) ?_
    exact hend _ _ _ _ _ hP hD hS (by rw [hf]; rfl) dX2_has_16
set_option maxHeartbeats 4000000 in
set_option maxRecDepth 100000 in
theorem c_X2_removeFirstOccurrence_n (l : Launch) (D : va_G) (x h1 h2 h3 a3 : Nat) (cI : ClassId) (f : Nat → Int32) (c : Nat) (v : Int32) (hc : c ≤ 200) (hf : s_fI f v c 0 = none) : mI l yX2_removeFirstOccurrence wsX2_removeFirstOccurrence ({ frames := 1, cells := 0, slots := 0, locals := 22 }) [.ref x, .int v] D [(cI, .int)] [(x, .inr (2, [.ref h1, .ref h2, .ref h3])), (h3, .inr (1, [.ref a3, .int (nI c)])), (a3, .inl (cI, 200, .inl f))] [(x, .inr (2, [.ref h1, .ref h2, .ref h3])), (h3, .inr (1, [.ref a3, .int (nI c)])), (a3, .inl (cI, 200, .inl f))] (0) := by
  refine hI_body (cc := cX2_removeFirstOccurrence) (maxL := 2) (by decide) rfl (Nat.le_of_ble_eq_true rfl) (by decide +kernel) ?_
  intro p e s m below meth cd A ls Q hat hA hP hK hD hS hl hend
  obtain ⟨hF, hr, hlocks, hv⟩ := id hat
  obtain ⟨hx, hb, hml, hown, hts⟩ := id hF
  have hown : s.vm.findClass RX2 = some m.cls := hown
  have hl : lv_has ls 2 [(0, .ref x), (1, .int v)] := hl
  have hP : va_P D vwCl [(x, .inr (2, [.ref h1, .ref h2, .ref h3])), (h3, .inr (1, [.ref a3, .int (nI c)])), (a3, .inl (cI, 200, .inl f))] s.heap := hP
  have hD : va_D A [(x, .inr (2, [.ref h1, .ref h2, .ref h3])), (h3, .inr (1, [.ref a3, .int (nI c)])), (a3, .inl (cI, 200, .inl f))] := hD
  have iX2 : ∀ w ∈ wsX20, w ∈ wsX2_removeFirstOccurrence := by decide +kernel
  have k22 := hts (.fieldLink RX2 22 "HeapAndDeque" "row" "LHeapAndDeque$Row;") (by decide +kernel)
  refine lv_aload_n hx hb dX2_removeFirstOccurrence_0 rfl (lv_at hl 0 rfl) ?_
  refine va_get (D := D) (ci := 2) (v := .ref h3) (C := RX2) (T := TX2) (N := 3) hx hb hts iX2 hown hK hP 0 rfl rfl 2 (by decide) k22 (fun _ h9 => h9) rfl dX2_removeFirstOccurrence_1 ?_
  refine lv_aload_n hx hb dX2_removeFirstOccurrence_4 rfl (lv_at hl 0 rfl) ?_
  refine va_get (D := D) (ci := 2) (v := .ref h3) (C := RX2) (T := TX2) (N := 3) hx hb hts iX2 hown hK hP 0 rfl rfl 2 (by decide) k22 (fun _ h9 => h9) rfl dX2_removeFirstOccurrence_5 ?_
  refine lv_iload_n hx hb dX2_removeFirstOccurrence_8 rfl (lv_at hl 1 rfl) ?_
  refine hc_iV (As := [.int v]) (rest := [.ref h3]) (wc := [(h3, .inr (1, [.ref a3, .int (nI c)])), (a3, .inl (cI, 200, .inl f))]) (wr := [(x, .inr (2, [.ref h1, .ref h2, .ref h3]))]) (w1 := [(h3, .inr (1, [.ref a3, .int (nI c)])), (a3, .inl (cI, 200, .inl f))]) (w' := [(x, .inr (2, [.ref h1, .ref h2, .ref h3])), (h3, .inr (1, [.ref a3, .int (nI c)])), (a3, .inl (cI, 200, .inl f))]) hF (c_X1_firstPlaceOf l D h3 a3 cI f c v hc) (cwV 1 hts gX2_removeFirstOccurrence_X1_firstPlaceOf rfl rfl rfl (by decide +kernel) ⟨Nat.le_of_ble_eq_true rfl, Nat.le_of_ble_eq_true rfl⟩) hP hK hD hS hA hv [1, 2] [0] [0, 1, 2] [0] ⟨rfl, rfl, rfl, rfl, ⟨by decide, by decide, by decide⟩, by decide⟩ 1 1 rfl rfl rfl rfl hl.1 rfl (Nat.le_of_ble_eq_true rfl) dX2_removeFirstOccurrence_9 ⟨Nat.zero_le _, Nat.zero_le _⟩ (fun H locs hP hD hS => ?_)
  refine hw_i (y := s_o none) (by rw [hf]) ?_
  refine hc_iV (As := [.int (s_o none)]) (rest := []) (wc := [(h3, .inr (1, [.ref a3, .int (nI c)])), (a3, .inl (cI, 200, .inl f))]) (wr := [(x, .inr (2, [.ref h1, .ref h2, .ref h3]))]) (w1 := [(h3, .inr (1, [.ref a3, .int (nI c)])), (a3, .inl (cI, 200, .inl f))]) (w' := [(x, .inr (2, [.ref h1, .ref h2, .ref h3])), (h3, .inr (1, [.ref a3, .int (nI c)])), (a3, .inl (cI, 200, .inl f))]) hF (c_X1_takeFound_n l D h3 a3 cI f c) (cwV 1 hts gX2_removeFirstOccurrence_X1_takeFound rfl rfl rfl (by decide +kernel) ⟨Nat.le_of_ble_eq_true rfl, Nat.le_of_ble_eq_true rfl⟩) hP hK hD hS hA hv [1, 2] [0] [0, 1, 2] [0] ⟨rfl, rfl, rfl, rfl, ⟨by decide, by decide, by decide⟩, by decide⟩ 1 1 rfl rfl rfl rfl hl.1 rfl (Nat.le_of_ble_eq_true rfl) dX2_removeFirstOccurrence_12 ⟨Nat.zero_le _, Nat.zero_le _⟩ (fun H locs hP hD hS => ?_)
  exact hend _ _ _ _ _ hP hD hS (rfl) dX2_removeFirstOccurrence_15
set_option maxHeartbeats 4000000 in
set_option maxRecDepth 100000 in
theorem c_X2_removeFirstOccurrence_s (l : Launch) (D : va_G) (x h1 h2 h3 a3 : Nat) (cI : ClassId) (f : Nat → Int32) (c : Nat) (v : Int32) (q9 : Nat) (hc : c ≤ 200) (hf : s_fI f v c 0 = some q9) : mI l yX2_removeFirstOccurrence wsX2_removeFirstOccurrence ({ frames := 1, cells := 0, slots := 0, locals := 22 }) [.ref x, .int v] D [(cI, .int)] [(x, .inr (2, [.ref h1, .ref h2, .ref h3])), (h3, .inr (1, [.ref a3, .int (nI c)])), (a3, .inl (cI, 200, .inl f))] [(x, .inr (2, [.ref h1, .ref h2, .ref h3])), (h3, .inr (1, [.ref a3, .int (nI (c - 1))])), (a3, .inl (cI, 200, .inl (s_rm f q9 c)))] (1) := by
  refine hI_body (cc := cX2_removeFirstOccurrence) (maxL := 2) (by decide) rfl (Nat.le_of_ble_eq_true rfl) (by decide +kernel) ?_
  intro p e s m below meth cd A ls Q hat hA hP hK hD hS hl hend
  obtain ⟨hF, hr, hlocks, hv⟩ := id hat
  obtain ⟨hx, hb, hml, hown, hts⟩ := id hF
  have hown : s.vm.findClass RX2 = some m.cls := hown
  have hl : lv_has ls 2 [(0, .ref x), (1, .int v)] := hl
  have hP : va_P D vwCl [(x, .inr (2, [.ref h1, .ref h2, .ref h3])), (h3, .inr (1, [.ref a3, .int (nI c)])), (a3, .inl (cI, 200, .inl f))] s.heap := hP
  have hD : va_D A [(x, .inr (2, [.ref h1, .ref h2, .ref h3])), (h3, .inr (1, [.ref a3, .int (nI c)])), (a3, .inl (cI, 200, .inl f))] := hD
  have iX2 : ∀ w ∈ wsX20, w ∈ wsX2_removeFirstOccurrence := by decide +kernel
  have k22 := hts (.fieldLink RX2 22 "HeapAndDeque" "row" "LHeapAndDeque$Row;") (by decide +kernel)
  refine lv_aload_n hx hb dX2_removeFirstOccurrence_0 rfl (lv_at hl 0 rfl) ?_
  refine va_get (D := D) (ci := 2) (v := .ref h3) (C := RX2) (T := TX2) (N := 3) hx hb hts iX2 hown hK hP 0 rfl rfl 2 (by decide) k22 (fun _ h9 => h9) rfl dX2_removeFirstOccurrence_1 ?_
  refine lv_aload_n hx hb dX2_removeFirstOccurrence_4 rfl (lv_at hl 0 rfl) ?_
  refine va_get (D := D) (ci := 2) (v := .ref h3) (C := RX2) (T := TX2) (N := 3) hx hb hts iX2 hown hK hP 0 rfl rfl 2 (by decide) k22 (fun _ h9 => h9) rfl dX2_removeFirstOccurrence_5 ?_
  refine lv_iload_n hx hb dX2_removeFirstOccurrence_8 rfl (lv_at hl 1 rfl) ?_
  refine hc_iV (As := [.int v]) (rest := [.ref h3]) (wc := [(h3, .inr (1, [.ref a3, .int (nI c)])), (a3, .inl (cI, 200, .inl f))]) (wr := [(x, .inr (2, [.ref h1, .ref h2, .ref h3]))]) (w1 := [(h3, .inr (1, [.ref a3, .int (nI c)])), (a3, .inl (cI, 200, .inl f))]) (w' := [(x, .inr (2, [.ref h1, .ref h2, .ref h3])), (h3, .inr (1, [.ref a3, .int (nI c)])), (a3, .inl (cI, 200, .inl f))]) hF (c_X1_firstPlaceOf l D h3 a3 cI f c v hc) (cwV 1 hts gX2_removeFirstOccurrence_X1_firstPlaceOf rfl rfl rfl (by decide +kernel) ⟨Nat.le_of_ble_eq_true rfl, Nat.le_of_ble_eq_true rfl⟩) hP hK hD hS hA hv [1, 2] [0] [0, 1, 2] [0] ⟨rfl, rfl, rfl, rfl, ⟨by decide, by decide, by decide⟩, by decide⟩ 1 1 rfl rfl rfl rfl hl.1 rfl (Nat.le_of_ble_eq_true rfl) dX2_removeFirstOccurrence_9 ⟨Nat.zero_le _, Nat.zero_le _⟩ (fun H locs hP hD hS => ?_)
  refine hw_i (y := nI q9) (by rw [hf]; rfl) ?_
  refine hc_iV (As := [.int (nI q9)]) (rest := []) (wc := [(h3, .inr (1, [.ref a3, .int (nI c)])), (a3, .inl (cI, 200, .inl f))]) (wr := [(x, .inr (2, [.ref h1, .ref h2, .ref h3]))]) (w1 := [(h3, .inr (1, [.ref a3, .int (nI (c - 1))])), (a3, .inl (cI, 200, .inl (s_rm f q9 c)))]) (w' := [(x, .inr (2, [.ref h1, .ref h2, .ref h3])), (h3, .inr (1, [.ref a3, .int (nI (c - 1))])), (a3, .inl (cI, 200, .inl (s_rm f q9 c)))]) hF (c_X1_takeFound_s l D h3 a3 cI f c q9 (by have := (s_fI_spec hf).2.1; omega) hc) (cwV 1 hts gX2_removeFirstOccurrence_X1_takeFound rfl rfl rfl (by decide +kernel) ⟨Nat.le_of_ble_eq_true rfl, Nat.le_of_ble_eq_true rfl⟩) hP hK hD hS hA hv [1, 2] [0] [0, 1, 2] [0] ⟨rfl, rfl, rfl, rfl, ⟨by decide, by decide, by decide⟩, by decide⟩ 1 1 rfl rfl rfl rfl hl.1 rfl (Nat.le_of_ble_eq_true rfl) dX2_removeFirstOccurrence_12 ⟨Nat.zero_le _, Nat.zero_le _⟩ (fun H locs hP hD hS => ?_)
  exact hend _ _ _ _ _ hP hD hS (rfl) dX2_removeFirstOccurrence_15
set_option maxHeartbeats 4000000 in
set_option maxRecDepth 100000 in
theorem c_X2_removeLastOccurrence_n (l : Launch) (D : va_G) (x h1 h2 h3 a3 : Nat) (cI : ClassId) (f : Nat → Int32) (c : Nat) (v : Int32) (hc : c ≤ 200) (hf : s_last f v c = none) : mI l yX2_removeLastOccurrence wsX2_removeLastOccurrence ({ frames := 1, cells := 0, slots := 0, locals := 22 }) [.ref x, .int v] D [(cI, .int)] [(x, .inr (2, [.ref h1, .ref h2, .ref h3])), (h3, .inr (1, [.ref a3, .int (nI c)])), (a3, .inl (cI, 200, .inl f))] [(x, .inr (2, [.ref h1, .ref h2, .ref h3])), (h3, .inr (1, [.ref a3, .int (nI c)])), (a3, .inl (cI, 200, .inl f))] (0) := by
  refine hI_body (cc := cX2_removeLastOccurrence) (maxL := 2) (by decide) rfl (Nat.le_of_ble_eq_true rfl) (by decide +kernel) ?_
  intro p e s m below meth cd A ls Q hat hA hP hK hD hS hl hend
  obtain ⟨hF, hr, hlocks, hv⟩ := id hat
  obtain ⟨hx, hb, hml, hown, hts⟩ := id hF
  have hown : s.vm.findClass RX2 = some m.cls := hown
  have hl : lv_has ls 2 [(0, .ref x), (1, .int v)] := hl
  have hP : va_P D vwCl [(x, .inr (2, [.ref h1, .ref h2, .ref h3])), (h3, .inr (1, [.ref a3, .int (nI c)])), (a3, .inl (cI, 200, .inl f))] s.heap := hP
  have hD : va_D A [(x, .inr (2, [.ref h1, .ref h2, .ref h3])), (h3, .inr (1, [.ref a3, .int (nI c)])), (a3, .inl (cI, 200, .inl f))] := hD
  have iX2 : ∀ w ∈ wsX20, w ∈ wsX2_removeLastOccurrence := by decide +kernel
  have k22 := hts (.fieldLink RX2 22 "HeapAndDeque" "row" "LHeapAndDeque$Row;") (by decide +kernel)
  refine lv_aload_n hx hb dX2_removeLastOccurrence_0 rfl (lv_at hl 0 rfl) ?_
  refine va_get (D := D) (ci := 2) (v := .ref h3) (C := RX2) (T := TX2) (N := 3) hx hb hts iX2 hown hK hP 0 rfl rfl 2 (by decide) k22 (fun _ h9 => h9) rfl dX2_removeLastOccurrence_1 ?_
  refine lv_aload_n hx hb dX2_removeLastOccurrence_4 rfl (lv_at hl 0 rfl) ?_
  refine va_get (D := D) (ci := 2) (v := .ref h3) (C := RX2) (T := TX2) (N := 3) hx hb hts iX2 hown hK hP 0 rfl rfl 2 (by decide) k22 (fun _ h9 => h9) rfl dX2_removeLastOccurrence_5 ?_
  refine lv_iload_n hx hb dX2_removeLastOccurrence_8 rfl (lv_at hl 1 rfl) ?_
  refine hc_iV (As := [.int v]) (rest := [.ref h3]) (wc := [(h3, .inr (1, [.ref a3, .int (nI c)])), (a3, .inl (cI, 200, .inl f))]) (wr := [(x, .inr (2, [.ref h1, .ref h2, .ref h3]))]) (w1 := [(h3, .inr (1, [.ref a3, .int (nI c)])), (a3, .inl (cI, 200, .inl f))]) (w' := [(x, .inr (2, [.ref h1, .ref h2, .ref h3])), (h3, .inr (1, [.ref a3, .int (nI c)])), (a3, .inl (cI, 200, .inl f))]) hF (c_X1_lastPlaceOf l D h3 a3 cI f c v hc) (cwV 1 hts gX2_removeLastOccurrence_X1_lastPlaceOf rfl rfl rfl (by decide +kernel) ⟨Nat.le_of_ble_eq_true rfl, Nat.le_of_ble_eq_true rfl⟩) hP hK hD hS hA hv [1, 2] [0] [0, 1, 2] [0] ⟨rfl, rfl, rfl, rfl, ⟨by decide, by decide, by decide⟩, by decide⟩ 1 1 rfl rfl rfl rfl hl.1 rfl (Nat.le_of_ble_eq_true rfl) dX2_removeLastOccurrence_9 ⟨Nat.zero_le _, Nat.zero_le _⟩ (fun H locs hP hD hS => ?_)
  refine hw_i (y := s_o none) (by rw [hf]) ?_
  refine hc_iV (As := [.int (s_o none)]) (rest := []) (wc := [(h3, .inr (1, [.ref a3, .int (nI c)])), (a3, .inl (cI, 200, .inl f))]) (wr := [(x, .inr (2, [.ref h1, .ref h2, .ref h3]))]) (w1 := [(h3, .inr (1, [.ref a3, .int (nI c)])), (a3, .inl (cI, 200, .inl f))]) (w' := [(x, .inr (2, [.ref h1, .ref h2, .ref h3])), (h3, .inr (1, [.ref a3, .int (nI c)])), (a3, .inl (cI, 200, .inl f))]) hF (c_X1_takeFound_n l D h3 a3 cI f c) (cwV 1 hts gX2_removeLastOccurrence_X1_takeFound rfl rfl rfl (by decide +kernel) ⟨Nat.le_of_ble_eq_true rfl, Nat.le_of_ble_eq_true rfl⟩) hP hK hD hS hA hv [1, 2] [0] [0, 1, 2] [0] ⟨rfl, rfl, rfl, rfl, ⟨by decide, by decide, by decide⟩, by decide⟩ 1 1 rfl rfl rfl rfl hl.1 rfl (Nat.le_of_ble_eq_true rfl) dX2_removeLastOccurrence_12 ⟨Nat.zero_le _, Nat.zero_le _⟩ (fun H locs hP hD hS => ?_)
  exact hend _ _ _ _ _ hP hD hS (rfl) dX2_removeLastOccurrence_15
set_option maxHeartbeats 4000000 in
set_option maxRecDepth 100000 in
theorem c_X2_removeLastOccurrence_s (l : Launch) (D : va_G) (x h1 h2 h3 a3 : Nat) (cI : ClassId) (f : Nat → Int32) (c : Nat) (v : Int32) (q9 : Nat) (hc : c ≤ 200) (hf : s_last f v c = some q9) : mI l yX2_removeLastOccurrence wsX2_removeLastOccurrence ({ frames := 1, cells := 0, slots := 0, locals := 22 }) [.ref x, .int v] D [(cI, .int)] [(x, .inr (2, [.ref h1, .ref h2, .ref h3])), (h3, .inr (1, [.ref a3, .int (nI c)])), (a3, .inl (cI, 200, .inl f))] [(x, .inr (2, [.ref h1, .ref h2, .ref h3])), (h3, .inr (1, [.ref a3, .int (nI (c - 1))])), (a3, .inl (cI, 200, .inl (s_rm f q9 c)))] (1) := by
  refine hI_body (cc := cX2_removeLastOccurrence) (maxL := 2) (by decide) rfl (Nat.le_of_ble_eq_true rfl) (by decide +kernel) ?_
  intro p e s m below meth cd A ls Q hat hA hP hK hD hS hl hend
  obtain ⟨hF, hr, hlocks, hv⟩ := id hat
  obtain ⟨hx, hb, hml, hown, hts⟩ := id hF
  have hown : s.vm.findClass RX2 = some m.cls := hown
  have hl : lv_has ls 2 [(0, .ref x), (1, .int v)] := hl
  have hP : va_P D vwCl [(x, .inr (2, [.ref h1, .ref h2, .ref h3])), (h3, .inr (1, [.ref a3, .int (nI c)])), (a3, .inl (cI, 200, .inl f))] s.heap := hP
  have hD : va_D A [(x, .inr (2, [.ref h1, .ref h2, .ref h3])), (h3, .inr (1, [.ref a3, .int (nI c)])), (a3, .inl (cI, 200, .inl f))] := hD
  have iX2 : ∀ w ∈ wsX20, w ∈ wsX2_removeLastOccurrence := by decide +kernel
  have k22 := hts (.fieldLink RX2 22 "HeapAndDeque" "row" "LHeapAndDeque$Row;") (by decide +kernel)
  refine lv_aload_n hx hb dX2_removeLastOccurrence_0 rfl (lv_at hl 0 rfl) ?_
  refine va_get (D := D) (ci := 2) (v := .ref h3) (C := RX2) (T := TX2) (N := 3) hx hb hts iX2 hown hK hP 0 rfl rfl 2 (by decide) k22 (fun _ h9 => h9) rfl dX2_removeLastOccurrence_1 ?_
  refine lv_aload_n hx hb dX2_removeLastOccurrence_4 rfl (lv_at hl 0 rfl) ?_
  refine va_get (D := D) (ci := 2) (v := .ref h3) (C := RX2) (T := TX2) (N := 3) hx hb hts iX2 hown hK hP 0 rfl rfl 2 (by decide) k22 (fun _ h9 => h9) rfl dX2_removeLastOccurrence_5 ?_
  refine lv_iload_n hx hb dX2_removeLastOccurrence_8 rfl (lv_at hl 1 rfl) ?_
  refine hc_iV (As := [.int v]) (rest := [.ref h3]) (wc := [(h3, .inr (1, [.ref a3, .int (nI c)])), (a3, .inl (cI, 200, .inl f))]) (wr := [(x, .inr (2, [.ref h1, .ref h2, .ref h3]))]) (w1 := [(h3, .inr (1, [.ref a3, .int (nI c)])), (a3, .inl (cI, 200, .inl f))]) (w' := [(x, .inr (2, [.ref h1, .ref h2, .ref h3])), (h3, .inr (1, [.ref a3, .int (nI c)])), (a3, .inl (cI, 200, .inl f))]) hF (c_X1_lastPlaceOf l D h3 a3 cI f c v hc) (cwV 1 hts gX2_removeLastOccurrence_X1_lastPlaceOf rfl rfl rfl (by decide +kernel) ⟨Nat.le_of_ble_eq_true rfl, Nat.le_of_ble_eq_true rfl⟩) hP hK hD hS hA hv [1, 2] [0] [0, 1, 2] [0] ⟨rfl, rfl, rfl, rfl, ⟨by decide, by decide, by decide⟩, by decide⟩ 1 1 rfl rfl rfl rfl hl.1 rfl (Nat.le_of_ble_eq_true rfl) dX2_removeLastOccurrence_9 ⟨Nat.zero_le _, Nat.zero_le _⟩ (fun H locs hP hD hS => ?_)
  refine hw_i (y := nI q9) (by rw [hf]; rfl) ?_
  refine hc_iV (As := [.int (nI q9)]) (rest := []) (wc := [(h3, .inr (1, [.ref a3, .int (nI c)])), (a3, .inl (cI, 200, .inl f))]) (wr := [(x, .inr (2, [.ref h1, .ref h2, .ref h3]))]) (w1 := [(h3, .inr (1, [.ref a3, .int (nI (c - 1))])), (a3, .inl (cI, 200, .inl (s_rm f q9 c)))]) (w' := [(x, .inr (2, [.ref h1, .ref h2, .ref h3])), (h3, .inr (1, [.ref a3, .int (nI (c - 1))])), (a3, .inl (cI, 200, .inl (s_rm f q9 c)))]) hF (c_X1_takeFound_s l D h3 a3 cI f c q9 (s_last_spec hf).1 hc) (cwV 1 hts gX2_removeLastOccurrence_X1_takeFound rfl rfl rfl (by decide +kernel) ⟨Nat.le_of_ble_eq_true rfl, Nat.le_of_ble_eq_true rfl⟩) hP hK hD hS hA hv [1, 2] [0] [0, 1, 2] [0] ⟨rfl, rfl, rfl, rfl, ⟨by decide, by decide, by decide⟩, by decide⟩ 1 1 rfl rfl rfl rfl hl.1 rfl (Nat.le_of_ble_eq_true rfl) dX2_removeLastOccurrence_12 ⟨Nat.zero_le _, Nat.zero_le _⟩ (fun H locs hP hD hS => ?_)
  exact hend _ _ _ _ _ hP hD hS (rfl) dX2_removeLastOccurrence_15
set_option maxHeartbeats 4000000 in
set_option maxRecDepth 100000 in
theorem c_X2_addAll (l : Launch) (D : va_G) (x h1 h2 h3 a1 a3 : Nat) (cL cI : ClassId) (f : Nat → Int64) (c : Nat) (g : Nat → Int32) (r : Nat) (hc : c + r ≤ 200) : mI l yX2_addAll wsX2_addAll ({ frames := 1, cells := 0, slots := 0, locals := 23 }) [.ref x] D [(cL, .long), (cI, .int)] [(x, .inr (2, [.ref h1, .ref h2, .ref h3])), (h1, .inr (0, [.ref a1, .int (nI c)])), (a1, .inl (cL, 200, .inr (.inl f))), (h3, .inr (1, [.ref a3, .int (nI r)])), (a3, .inl (cI, 200, .inl g))] [(x, .inr (2, [.ref h1, .ref h2, .ref h3])), (h1, .inr (0, [.ref a1, .int (nI (c + r))])), (a1, .inl (cL, 200, .inr (.inl (s_xa g f c r)))), (h3, .inr (1, [.ref a3, .int (nI r)])), (a3, .inl (cI, 200, .inl g))] (nI (c + r)) := by
  refine hI_body (cc := cX2_addAll) (maxL := 2) (by decide) rfl (Nat.le_of_ble_eq_true rfl) (rfl) ?_
  intro p e s m below meth cd A ls Q hat hA hP hK hD hS hl hend
  obtain ⟨hF, hr, hlocks, hv⟩ := id hat
  obtain ⟨hx, hb, hml, hown, hts⟩ := id hF
  have hown : s.vm.findClass RX2 = some m.cls := hown
  have hl : lv_has ls 2 [(0, .ref x)] := hl
  have hP : va_P D vwCl [(x, .inr (2, [.ref h1, .ref h2, .ref h3])), (h1, .inr (0, [.ref a1, .int (nI c)])), (a1, .inl (cL, 200, .inr (.inl f))), (h3, .inr (1, [.ref a3, .int (nI r)])), (a3, .inl (cI, 200, .inl g))] s.heap := hP
  have hD : va_D A [(x, .inr (2, [.ref h1, .ref h2, .ref h3])), (h1, .inr (0, [.ref a1, .int (nI c)])), (a1, .inl (cL, 200, .inr (.inl f))), (h3, .inr (1, [.ref a3, .int (nI r)])), (a3, .inl (cI, 200, .inl g))] := hD
  have iX0 : ∀ w ∈ wsX00, w ∈ wsX2_addAll := by decide +kernel
  have iX1 : ∀ w ∈ wsX10, w ∈ wsX2_addAll := by decide +kernel
  have iX2 : ∀ w ∈ wsX20, w ∈ wsX2_addAll := by decide +kernel
  have k10 := hts (.fieldLink RX2 10 "HeapAndDeque" "numbers" "LHeapAndDeque$LeastFirst;") (by decide +kernel)
  have k22 := hts (.fieldLink RX2 22 "HeapAndDeque" "row" "LHeapAndDeque$Row;") (by decide +kernel)
  refine lv_aload_n hx hb dX2_addAll_0 rfl (lv_at hl 0 rfl) ?_
  refine va_get (D := D) (ci := 2) (v := .ref h1) (C := RX2) (T := TX2) (N := 3) hx hb hts iX2 hown hK hP 0 rfl rfl 0 (by decide) k10 (fun _ h9 => h9) rfl dX2_addAll_1 ?_
  refine va_getN (D := D) (ci := 0) (v := .int (nI c)) (C := RX0) (T := TX0) (N := 2) hx hb hts iX0 hown hK hP 1 rfl rfl 1 (by decide) (va_Nw.use rfl hv.2.2.2.2.1) (fun _ h9 => h9) rfl dX2_addAll_4 ?_
  refine lv_aload_n hx hb dX2_addAll_7 rfl (lv_at hl 0 rfl) ?_
  refine va_get (D := D) (ci := 2) (v := .ref h3) (C := RX2) (T := TX2) (N := 3) hx hb hts iX2 hown hK hP 0 rfl rfl 2 (by decide) k22 (fun _ h9 => h9) rfl dX2_addAll_8 ?_
  refine va_getN (D := D) (ci := 1) (v := .int (nI r)) (C := RX1) (T := TX1) (N := 2) hx hb hts iX1 hown hK hP 3 rfl rfl 1 (by decide) (va_Nw.use rfl hv.2.2.2.2.2.1) (fun _ h9 => h9) rfl dX2_addAll_11 ?_
  refine lv_iadd hx hb dX2_addAll_14 ?_
  refine hw_i (y := nI (c + r)) (nI_add _ _) ?_
  refine lv_sipush (v := nI 200) hx hb dX2_addAll_15 (by decide +kernel) ?_
  refine lv_icmp_le (tgt := 31) hx hb dX2_addAll_18 (by decide) (fun _ => ?_) (fun hn => absurd (nI_le hc (by decide)) hn)
  refine lv_iconst (v := nI 0) hx hb dX2_addAll_31 (by decide +kernel) ?_
  refine lv_istore_n (lv' := [(1, .int (nI 0)), (0, .ref x)]) hx hb dX2_addAll_32 rfl hl (by decide) rfl (fun ls hl => ?_)
  have loop : ∀ (n i : Nat), i + n = r → ∀ (H : Heap) (locs : List Loc) (ls : Array Slot), va_P D vwCl [(x, .inr (2, [.ref h1, .ref h2, .ref h3])), (h1, .inr (0, [.ref a1, .int (nI (c + i))])), (a1, .inl (cL, 200, .inr (.inl (s_xa g f c i)))), (h3, .inr (1, [.ref a3, .int (nI r)])), (a3, .inl (cI, 200, .inl g))] H → va_D A [(x, .inr (2, [.ref h1, .ref h2, .ref h3])), (h1, .inr (0, [.ref a1, .int (nI (c + i))])), (a1, .inl (cL, 200, .inr (.inl (s_xa g f c i)))), (h3, .inr (1, [.ref a3, .int (nI r)])), (a3, .inl (cI, 200, .inl g))] → va_S A s.heap H locs → lv_has ls 2 [(1, .int (nI i)), (0, .ref x)] → W p l e ({ frames := 1, cells := 0, slots := 0, locals := 23 }) s m ([.ref x] : List Value).toArray below meth cd H locs 0 0 Q (F0 m 33 ls []) := by
    intro n
    induction n with
    | zero =>
      intro i hn H locs ls hP hD hS hl
      refine lv_iload_n hx hb dX2_addAll_33 rfl (lv_at hl 0 rfl) ?_
      refine lv_aload_n hx hb dX2_addAll_34 rfl (lv_at hl 1 rfl) ?_
      refine va_get (D := D) (ci := 2) (v := .ref h3) (C := RX2) (T := TX2) (N := 3) hx hb hts iX2 hown hK hP 0 rfl rfl 2 (by decide) k22 (fun _ h9 => h9) rfl dX2_addAll_35 ?_
      refine va_getN (D := D) (ci := 1) (v := .int (nI r)) (C := RX1) (T := TX1) (N := 2) hx hb hts iX1 hown hK hP 3 rfl rfl 1 (by decide) (va_Nw.use rfl hv.2.2.2.2.2.1) (fun _ h9 => h9) rfl dX2_addAll_38 ?_
      refine lv_icmp_ge (tgt := 67) hx hb dX2_addAll_41 (by decide) (fun _ => ?_) (fun hn => absurd (nI_le (by omega) (by omega)) hn)
      have e8 : i = r := by omega
      subst e8
      refine lv_aload_n hx hb dX2_addAll_67 rfl (lv_at hl 1 rfl) ?_
      refine va_get (D := D) (ci := 2) (v := .ref h1) (C := RX2) (T := TX2) (N := 3) hx hb hts iX2 hown hK hP 0 rfl rfl 0 (by decide) k10 (fun _ h9 => h9) rfl dX2_addAll_68 ?_
      refine va_getN (D := D) (ci := 0) (v := .int (nI (c + i))) (C := RX0) (T := TX0) (N := 2) hx hb hts iX0 hown hK hP 1 rfl rfl 1 (by decide) (va_Nw.use rfl hv.2.2.2.2.1) (fun _ h9 => h9) rfl dX2_addAll_71 ?_
      exact hend _ _ _ _ _ hP hD hS (rfl) dX2_addAll_74
    | succ n ih =>
      intro i hn H locs ls hP hD hS hl
      refine lv_iload_n hx hb dX2_addAll_33 rfl (lv_at hl 0 rfl) ?_
      refine lv_aload_n hx hb dX2_addAll_34 rfl (lv_at hl 1 rfl) ?_
      refine va_get (D := D) (ci := 2) (v := .ref h3) (C := RX2) (T := TX2) (N := 3) hx hb hts iX2 hown hK hP 0 rfl rfl 2 (by decide) k22 (fun _ h9 => h9) rfl dX2_addAll_35 ?_
      refine va_getN (D := D) (ci := 1) (v := .int (nI r)) (C := RX1) (T := TX1) (N := 2) hx hb hts iX1 hown hK hP 3 rfl rfl 1 (by decide) (va_Nw.use rfl hv.2.2.2.2.2.1) (fun _ h9 => h9) rfl dX2_addAll_38 ?_
      refine lv_icmp_ge (tgt := 67) hx hb dX2_addAll_41 (by decide) (fun ht_ => absurd ht_ (nI_ge (by omega) (by omega))) (fun _ => ?_)
      refine lv_aload_n hx hb dX2_addAll_44 rfl (lv_at hl 1 rfl) ?_
      refine va_get (D := D) (ci := 2) (v := .ref h1) (C := RX2) (T := TX2) (N := 3) hx hb hts iX2 hown hK hP 0 rfl rfl 0 (by decide) k10 (fun _ h9 => h9) rfl dX2_addAll_45 ?_
      refine lv_aload_n hx hb dX2_addAll_48 rfl (lv_at hl 1 rfl) ?_
      refine va_get (D := D) (ci := 2) (v := .ref h3) (C := RX2) (T := TX2) (N := 3) hx hb hts iX2 hown hK hP 0 rfl rfl 2 (by decide) k22 (fun _ h9 => h9) rfl dX2_addAll_49 ?_
      refine lv_iload_n hx hb dX2_addAll_52 rfl (lv_at hl 0 rfl) ?_
      refine hc_iV (As := [.int (nI i)]) (rest := [.ref h1]) (wc := [(h3, .inr (1, [.ref a3, .int (nI r)])), (a3, .inl (cI, 200, .inl g))]) (wr := [(x, .inr (2, [.ref h1, .ref h2, .ref h3])), (h1, .inr (0, [.ref a1, .int (nI (c + i))])), (a1, .inl (cL, 200, .inr (.inl (s_xa g f c i))))]) (w1 := [(h3, .inr (1, [.ref a3, .int (nI r)])), (a3, .inl (cI, 200, .inl g))]) (w' := [(x, .inr (2, [.ref h1, .ref h2, .ref h3])), (h1, .inr (0, [.ref a1, .int (nI (c + i))])), (a1, .inl (cL, 200, .inr (.inl (s_xa g f c i)))), (h3, .inr (1, [.ref a3, .int (nI r)])), (a3, .inl (cI, 200, .inl g))]) hF (c_X1_numberAt l D h3 a3 cI g r i (by omega) (by omega)) (cwV 1 hts gX2_addAll_X1_numberAt rfl rfl rfl (by decide +kernel) ⟨Nat.le_of_ble_eq_true rfl, Nat.le_of_ble_eq_true rfl⟩) hP hK hD hS hA hv [3, 4] [0, 1, 2] [0, 1, 2, 3, 4] [1] ⟨rfl, rfl, rfl, rfl, ⟨by decide, by decide, by decide⟩, by decide⟩ 3 1 rfl rfl rfl rfl hl.1 rfl (Nat.le_of_ble_eq_true rfl) dX2_addAll_53 ⟨Nat.zero_le _, Nat.zero_le _⟩ (fun H locs hP hD hS => ?_)
      refine lv_i2l hx hb dX2_addAll_56 rfl ?_
      refine hc_iV (As := [.long ((g i).toInt64)]) (rest := []) (wc := [(h1, .inr (0, [.ref a1, .int (nI (c + i))])), (a1, .inl (cL, 200, .inr (.inl (s_xa g f c i))))]) (wr := [(x, .inr (2, [.ref h1, .ref h2, .ref h3])), (h3, .inr (1, [.ref a3, .int (nI r)])), (a3, .inl (cI, 200, .inl g))]) (w1 := [(h1, .inr (0, [.ref a1, .int (nI (c + i + 1))])), (a1, .inl (cL, 200, .inr (.inl (s_put (g i).toInt64 (c + i) (s_xa g f c i)))))]) (w' := [(x, .inr (2, [.ref h1, .ref h2, .ref h3])), (h1, .inr (0, [.ref a1, .int (nI (c + i + 1))])), (a1, .inl (cL, 200, .inr (.inl (s_put (g i).toInt64 (c + i) (s_xa g f c i))))), (h3, .inr (1, [.ref a3, .int (nI r)])), (a3, .inl (cI, 200, .inl g))]) hF (c_X0_put l D h1 a1 cL (s_xa g f c i) (c + i) (g i).toInt64 (by omega)) (cwV 1 hts gX2_addAll_X0_put rfl rfl rfl (by decide +kernel) ⟨Nat.le_of_ble_eq_true rfl, Nat.le_of_ble_eq_true rfl⟩) hP hK hD hS hA hv [1, 2] [0, 3, 4] [0, 3, 4, 1, 2] [0] ⟨rfl, rfl, rfl, rfl, ⟨by decide, by decide, by decide⟩, by decide⟩ 1 0 rfl rfl rfl rfl hl.1 rfl (Nat.le_of_ble_eq_true rfl) dX2_addAll_57 ⟨Nat.zero_le _, Nat.zero_le _⟩ (fun H locs hP hD hS => ?_)
      refine lv_pop hx hb dX2_addAll_60 rfl ?_
      refine lv_iinc (v := nI (i + 1)) (lv' := [(1, .int (nI (i + 1))), (0, .ref x)]) hx hb dX2_addAll_61 hl (k := 0) rfl (nI_1 _) (by decide) rfl (fun ls hl => ?_)
      refine lv_goto (tgt := 33) hx hb dX2_addAll_64 (by decide) ?_
      exact ih (i + 1) (by omega) _ _ _ hP hD hS (lv_sub hl [0, 1] rfl)
  exact loop r 0 (by omega) _ _ _ hP hD hS hl
set_option maxHeartbeats 4000000 in
set_option maxRecDepth 100000 in
theorem c_X2_addAll_x (l : Launch) (hfl : l.stackTraces = false) (D : va_G) (x h1 h2 h3 a1 a3 : Nat) (cL cI : ClassId) (f : Nat → Int64) (c : Nat) (g : Nat → Int32) (r : Nat) (hc : 200 < c + r) (hc1 : c ≤ 200) (hc2 : r ≤ 200) : mX l yX2_addAll wsX2_addAll ({ frames := 6, cells := 1, slots := 6, locals := 84 }) [.ref x] D [(cL, .long), (cI, .int)] [(x, .inr (2, [.ref h1, .ref h2, .ref h3])), (h1, .inr (0, [.ref a1, .int (nI c)])), (a1, .inl (cL, 200, .inr (.inl f))), (h3, .inr (1, [.ref a3, .int (nI r)])), (a3, .inl (cI, 200, .inl g))] "java/lang/IllegalStateException" := by
  refine hX_body (cc := cX2_addAll) (maxL := 2) (by decide) rfl (Nat.le_of_ble_eq_true rfl) ?_
  intro p e s m below meth cd ls hat hnt hZ hP hK hD hS hl
  obtain ⟨hF, hr, hlocks, hv⟩ := id hat
  obtain ⟨hx, hb, hml, hown, hts⟩ := id hF
  have hown : s.vm.findClass RX2 = some m.cls := hown
  have hl : lv_has ls 2 [(0, .ref x)] := hl
  have hP : va_P D vwCl [(x, .inr (2, [.ref h1, .ref h2, .ref h3])), (h1, .inr (0, [.ref a1, .int (nI c)])), (a1, .inl (cL, 200, .inr (.inl f))), (h3, .inr (1, [.ref a3, .int (nI r)])), (a3, .inl (cI, 200, .inl g))] s.heap := hP
  have hD : va_D (fun _ => True) [(x, .inr (2, [.ref h1, .ref h2, .ref h3])), (h1, .inr (0, [.ref a1, .int (nI c)])), (a1, .inl (cL, 200, .inr (.inl f))), (h3, .inr (1, [.ref a3, .int (nI r)])), (a3, .inl (cI, 200, .inl g))] := hD
  have iX0 : ∀ w ∈ wsX00, w ∈ wsX2_addAll := by decide +kernel
  have iX1 : ∀ w ∈ wsX10, w ∈ wsX2_addAll := by decide +kernel
  have iX2 : ∀ w ∈ wsX20, w ∈ wsX2_addAll := by decide +kernel
  have k10 := hts (.fieldLink RX2 10 "HeapAndDeque" "numbers" "LHeapAndDeque$LeastFirst;") (by decide +kernel)
  have k22 := hts (.fieldLink RX2 22 "HeapAndDeque" "row" "LHeapAndDeque$Row;") (by decide +kernel)
  refine lv_aload_n hx hb dX2_addAll_0 rfl (lv_at hl 0 rfl) ?_
  refine va_get (D := D) (ci := 2) (v := .ref h1) (C := RX2) (T := TX2) (N := 3) hx hb hts iX2 hown hK hP 0 rfl rfl 0 (by decide) k10 (fun _ h9 => h9) rfl dX2_addAll_1 ?_
  refine va_getN (D := D) (ci := 0) (v := .int (nI c)) (C := RX0) (T := TX0) (N := 2) hx hb hts iX0 hown hK hP 1 rfl rfl 1 (by decide) (va_Nw.use rfl hv.2.2.2.2.1) (fun _ h9 => h9) rfl dX2_addAll_4 ?_
  refine lv_aload_n hx hb dX2_addAll_7 rfl (lv_at hl 0 rfl) ?_
  refine va_get (D := D) (ci := 2) (v := .ref h3) (C := RX2) (T := TX2) (N := 3) hx hb hts iX2 hown hK hP 0 rfl rfl 2 (by decide) k22 (fun _ h9 => h9) rfl dX2_addAll_8 ?_
  refine va_getN (D := D) (ci := 1) (v := .int (nI r)) (C := RX1) (T := TX1) (N := 2) hx hb hts iX1 hown hK hP 3 rfl rfl 1 (by decide) (va_Nw.use rfl hv.2.2.2.2.2.1) (fun _ h9 => h9) rfl dX2_addAll_11 ?_
  refine lv_iadd hx hb dX2_addAll_14 ?_
  refine hw_i (y := nI (c + r)) (nI_add _ _) ?_
  refine lv_sipush (v := nI 200) hx hb dX2_addAll_15 (by decide +kernel) ?_
  refine lv_icmp_le (tgt := 31) hx hb dX2_addAll_18 (by decide) (fun ht_ => absurd ht_ (nI_ge hc (by omega))) (fun _ => ?_)
  exact hX_throw (E := "java/lang/IllegalStateException") (text := "the queue would hold more than 200") (names := ["java/lang/RuntimeException", "java/lang/Exception"]) (ik := 53) (is := 55) (ic := 57) hx hb hfl hown (by decide +kernel) (by decide +kernel) hts (by decide +kernel) hv.1 (by decide +kernel) hv (by decide +kernel) hZ.2.2.2.2.1 hZ hS (hl.1.trans hml.symm) dX2_addAll_21 dX2_addAll_24 dX2_addAll_25 dX2_addAll_27 dX2_addAll_30 hnt ⟨Nat.le_of_ble_eq_true rfl, Nat.le_of_ble_eq_true rfl, Nat.le_of_ble_eq_true rfl, Nat.le_of_ble_eq_true rfl⟩ hlocks
set_option maxHeartbeats 4000000 in
set_option maxRecDepth 100000 in
theorem c_X2_drain (l : Launch) (D : va_G) (x h1 h2 h3 a1 a3 : Nat) (cL cI : ClassId) (f : Nat → Int64) (c : Nat) (g : Nat → Int32) (r : Nat) (hc : r + c ≤ 200) : mI l yX2_drain wsX2_drain ({ frames := 2, cells := 0, slots := 0, locals := 42 }) [.ref x] D [(cL, .long), (cI, .int)] [(x, .inr (2, [.ref h1, .ref h2, .ref h3])), (h1, .inr (0, [.ref a1, .int (nI c)])), (a1, .inl (cL, 200, .inr (.inl f))), (h3, .inr (1, [.ref a3, .int (nI r)])), (a3, .inl (cI, 200, .inl g))] [(x, .inr (2, [.ref h1, .ref h2, .ref h3])), (h1, .inr (0, [.ref a1, .int (nI 0)])), (a1, .inl (cL, 200, .inr (.inl f))), (h3, .inr (1, [.ref a3, .int (nI (r + c))])), (a3, .inl (cI, 200, .inl (s_xd f c g r)))] (nI c) := by
  refine hI_body (cc := cX2_drain) (maxL := 3) (by decide) rfl (Nat.le_of_ble_eq_true rfl) (rfl) ?_
  intro p e s m below meth cd A ls Q hat hA hP hK hD hS hl hend
  obtain ⟨hF, hr, hlocks, hv⟩ := id hat
  obtain ⟨hx, hb, hml, hown, hts⟩ := id hF
  have hown : s.vm.findClass RX2 = some m.cls := hown
  have hl : lv_has ls 3 [(0, .ref x)] := hl
  have hP : va_P D vwCl [(x, .inr (2, [.ref h1, .ref h2, .ref h3])), (h1, .inr (0, [.ref a1, .int (nI c)])), (a1, .inl (cL, 200, .inr (.inl f))), (h3, .inr (1, [.ref a3, .int (nI r)])), (a3, .inl (cI, 200, .inl g))] s.heap := hP
  have hD : va_D A [(x, .inr (2, [.ref h1, .ref h2, .ref h3])), (h1, .inr (0, [.ref a1, .int (nI c)])), (a1, .inl (cL, 200, .inr (.inl f))), (h3, .inr (1, [.ref a3, .int (nI r)])), (a3, .inl (cI, 200, .inl g))] := hD
  have iX0 : ∀ w ∈ wsX00, w ∈ wsX2_drain := by decide +kernel
  have iX2 : ∀ w ∈ wsX20, w ∈ wsX2_drain := by decide +kernel
  have k10 := hts (.fieldLink RX2 10 "HeapAndDeque" "numbers" "LHeapAndDeque$LeastFirst;") (by decide +kernel)
  have k22 := hts (.fieldLink RX2 22 "HeapAndDeque" "row" "LHeapAndDeque$Row;") (by decide +kernel)
  refine lv_aload_n hx hb dX2_drain_0 rfl (lv_at hl 0 rfl) ?_
  refine lv_aload_n hx hb dX2_drain_1 rfl (lv_at hl 0 rfl) ?_
  refine va_get (D := D) (ci := 2) (v := .ref h1) (C := RX2) (T := TX2) (N := 3) hx hb hts iX2 hown hK hP 0 rfl rfl 0 (by decide) k10 (fun _ h9 => h9) rfl dX2_drain_2 ?_
  refine va_getN (D := D) (ci := 0) (v := .int (nI c)) (C := RX0) (T := TX0) (N := 2) hx hb hts iX0 hown hK hP 1 rfl rfl 1 (by decide) (va_Nw.use rfl hv.2.2.2.2.1) (fun _ h9 => h9) rfl dX2_drain_5 ?_
  refine hc_vV (As := [.int (nI c)]) (rest := []) (wc := [(x, .inr (2, [.ref h1, .ref h2, .ref h3])), (h3, .inr (1, [.ref a3, .int (nI r)])), (a3, .inl (cI, 200, .inl g))]) (wr := [(h1, .inr (0, [.ref a1, .int (nI c)])), (a1, .inl (cL, 200, .inr (.inl f)))]) (w1 := [(x, .inr (2, [.ref h1, .ref h2, .ref h3])), (h3, .inr (1, [.ref a3, .int (nI r)])), (a3, .inl (cI, 200, .inl g))]) (w' := [(x, .inr (2, [.ref h1, .ref h2, .ref h3])), (h1, .inr (0, [.ref a1, .int (nI c)])), (a1, .inl (cL, 200, .inr (.inl f))), (h3, .inr (1, [.ref a3, .int (nI r)])), (a3, .inl (cI, 200, .inl g))]) hF (c_X2_refuseAtRow l D x h1 h2 h3 a3 cI g r c hc) (cwV 1 hts gX2_drain_X2_refuseAtRow rfl rfl rfl (by decide +kernel) ⟨Nat.le_of_ble_eq_true rfl, Nat.le_of_ble_eq_true rfl⟩) hP hK hD hS hA hv [0, 3, 4] [1, 2] [2, 0, 1, 3, 4] [1] ⟨rfl, rfl, rfl, rfl, ⟨by decide, by decide, by decide⟩, by decide⟩ 0 2 rfl rfl rfl rfl hl.1 rfl (Nat.le_of_ble_eq_true rfl) dX2_drain_8 ⟨Nat.zero_le _, Nat.zero_le _⟩ (fun H locs hP hD hS => ?_)
  refine lv_aload_n hx hb dX2_drain_11 rfl (lv_at hl 0 rfl) ?_
  refine va_get (D := D) (ci := 2) (v := .ref h1) (C := RX2) (T := TX2) (N := 3) hx hb hts iX2 hown hK hP 0 rfl rfl 0 (by decide) k10 (fun _ h9 => h9) rfl dX2_drain_12 ?_
  refine va_getN (D := D) (ci := 0) (v := .int (nI c)) (C := RX0) (T := TX0) (N := 2) hx hb hts iX0 hown hK hP 1 rfl rfl 1 (by decide) (va_Nw.use rfl hv.2.2.2.2.1) (fun _ h9 => h9) rfl dX2_drain_15 ?_
  refine lv_istore_n (lv' := [(1, .int (nI c)), (0, .ref x)]) hx hb dX2_drain_18 rfl hl (by decide) rfl (fun ls hl => ?_)
  refine lv_iconst (v := nI 0) hx hb dX2_drain_19 (by decide +kernel) ?_
  refine lv_istore_n (lv' := [(2, .int (nI 0)), (1, .int (nI c)), (0, .ref x)]) hx hb dX2_drain_20 rfl hl (by decide) rfl (fun ls hl => ?_)
  have loop : ∀ (n i : Nat) (u : Nat → Int32), i + n = c → s_xd f n u (r + i) = s_xd f c g r → ∀ (H : Heap) (locs : List Loc) (ls : Array Slot), va_P D vwCl [(x, .inr (2, [.ref h1, .ref h2, .ref h3])), (h1, .inr (0, [.ref a1, .int (nI n)])), (a1, .inl (cL, 200, .inr (.inl f))), (h3, .inr (1, [.ref a3, .int (nI (r + i))])), (a3, .inl (cI, 200, .inl u))] H → va_D A [(x, .inr (2, [.ref h1, .ref h2, .ref h3])), (h1, .inr (0, [.ref a1, .int (nI n)])), (a1, .inl (cL, 200, .inr (.inl f))), (h3, .inr (1, [.ref a3, .int (nI (r + i))])), (a3, .inl (cI, 200, .inl u))] → va_S A s.heap H locs → lv_has ls 3 [(2, .int (nI i)), (1, .int (nI c)), (0, .ref x)] → W p l e ({ frames := 2, cells := 0, slots := 0, locals := 42 }) s m ([.ref x] : List Value).toArray below meth cd H locs 0 0 Q (F0 m 21 ls []) := by
    intro n
    induction n with
    | zero =>
      intro i u hn e9 H locs ls hP hD hS hl
      refine lv_iload_n hx hb dX2_drain_21 rfl (lv_at hl 0 rfl) ?_
      refine lv_iload_n hx hb dX2_drain_22 rfl (lv_at hl 1 rfl) ?_
      refine lv_icmp_ge (tgt := 48) hx hb dX2_drain_23 (by decide) (fun _ => ?_) (fun hn => absurd (nI_le (by omega) (by omega)) hn)
      have e8 : i = c := by omega
      refine lv_iload_n hx hb dX2_drain_48 rfl (lv_at hl 1 rfl) ?_
      exact hend _ _ _ _ _ (by rw [← e9, ← e8]; exact hP) (by rw [← e9, ← e8]; exact hD) hS (rfl) dX2_drain_49
    | succ n ih =>
      intro i u hn e9 H locs ls hP hD hS hl
      refine lv_iload_n hx hb dX2_drain_21 rfl (lv_at hl 0 rfl) ?_
      refine lv_iload_n hx hb dX2_drain_22 rfl (lv_at hl 1 rfl) ?_
      refine lv_icmp_ge (tgt := 48) hx hb dX2_drain_23 (by decide) (fun ht_ => absurd ht_ (nI_ge (by omega) (by omega))) (fun _ => ?_)
      refine lv_aload_n hx hb dX2_drain_26 rfl (lv_at hl 2 rfl) ?_
      refine va_get (D := D) (ci := 2) (v := .ref h3) (C := RX2) (T := TX2) (N := 3) hx hb hts iX2 hown hK hP 0 rfl rfl 2 (by decide) k22 (fun _ h9 => h9) rfl dX2_drain_27 ?_
      refine lv_aload_n hx hb dX2_drain_30 rfl (lv_at hl 2 rfl) ?_
      refine va_get (D := D) (ci := 2) (v := .ref h1) (C := RX2) (T := TX2) (N := 3) hx hb hts iX2 hown hK hP 0 rfl rfl 0 (by decide) k10 (fun _ h9 => h9) rfl dX2_drain_31 ?_
      refine hc_lV (As := []) (rest := [.ref h3]) (wc := [(h1, .inr (0, [.ref a1, .int (nI (n + 1))])), (a1, .inl (cL, 200, .inr (.inl f)))]) (wr := [(x, .inr (2, [.ref h1, .ref h2, .ref h3])), (h3, .inr (1, [.ref a3, .int (nI (r + i))])), (a3, .inl (cI, 200, .inl u))]) (w1 := [(h1, .inr (0, [.ref a1, .int (nI n)])), (a1, .inl (cL, 200, .inr (.inl f)))]) (w' := [(x, .inr (2, [.ref h1, .ref h2, .ref h3])), (h1, .inr (0, [.ref a1, .int (nI n)])), (a1, .inl (cL, 200, .inr (.inl f))), (h3, .inr (1, [.ref a3, .int (nI (r + i))])), (a3, .inl (cI, 200, .inl u))]) hF (c_X0_takeLeast l D h1 a1 cL f (n + 1) (by omega) (by omega)) (cwV 0 hts gX2_drain_X0_takeLeast rfl rfl rfl (by decide +kernel) ⟨Nat.le_of_ble_eq_true rfl, Nat.le_of_ble_eq_true rfl⟩) hP hK hD hS hA hv [1, 2] [0, 3, 4] [0, 3, 4, 1, 2] [0] ⟨rfl, rfl, rfl, rfl, ⟨by decide, by decide, by decide⟩, by decide⟩ 1 0 rfl rfl rfl rfl hl.1 rfl (Nat.le_of_ble_eq_true rfl) dX2_drain_34 ⟨Nat.zero_le _, Nat.zero_le _⟩ (fun H locs hP hD hS => ?_)
      refine lv_l2i hx hb dX2_drain_37 rfl ?_
      refine hc_iV (As := [.int ((f n).toInt32)]) (rest := []) (wc := [(h3, .inr (1, [.ref a3, .int (nI (r + i))])), (a3, .inl (cI, 200, .inl u))]) (wr := [(x, .inr (2, [.ref h1, .ref h2, .ref h3])), (h1, .inr (0, [.ref a1, .int (nI n)])), (a1, .inl (cL, 200, .inr (.inl f)))]) (w1 := [(h3, .inr (1, [.ref a3, .int (nI (r + i + 1))])), (a3, .inl (cI, 200, .inl (upd u (r + i) ((f n).toInt32))))]) (w' := [(x, .inr (2, [.ref h1, .ref h2, .ref h3])), (h1, .inr (0, [.ref a1, .int (nI n)])), (a1, .inl (cL, 200, .inr (.inl f))), (h3, .inr (1, [.ref a3, .int (nI (r + i + 1))])), (a3, .inl (cI, 200, .inl (upd u (r + i) ((f n).toInt32))))]) hF (c_X1_putLast l D h3 a3 cI u (r + i) ((f n).toInt32) (by omega)) (cwV 1 hts gX2_drain_X1_putLast rfl rfl rfl (by decide +kernel) ⟨Nat.le_of_ble_eq_true rfl, Nat.le_of_ble_eq_true rfl⟩) hP hK hD hS hA hv [3, 4] [0, 1, 2] [0, 1, 2, 3, 4] [1] ⟨rfl, rfl, rfl, rfl, ⟨by decide, by decide, by decide⟩, by decide⟩ 3 1 rfl rfl rfl rfl hl.1 rfl (Nat.le_of_ble_eq_true rfl) dX2_drain_38 ⟨Nat.zero_le _, Nat.zero_le _⟩ (fun H locs hP hD hS => ?_)
      refine lv_pop hx hb dX2_drain_41 rfl ?_
      refine lv_iinc (v := nI (i + 1)) (lv' := [(2, .int (nI (i + 1))), (1, .int (nI c)), (0, .ref x)]) hx hb dX2_drain_42 hl (k := 0) rfl (nI_1 _) (by decide) rfl (fun ls hl => ?_)
      refine lv_goto (tgt := 21) hx hb dX2_drain_45 (by decide) ?_
      exact ih (i + 1) _ (by omega) (by rw [← e9]; rfl) _ _ _ hP hD hS (lv_sub hl [0, 1, 2] rfl)
  exact loop c 0 g (by omega) rfl _ _ _ hP hD hS hl
set_option maxHeartbeats 4000000 in
set_option maxRecDepth 100000 in
theorem c_X2_drain_x (l : Launch) (hfl : l.stackTraces = false) (D : va_G) (x h1 h2 h3 a1 a3 : Nat) (cL cI : ClassId) (f : Nat → Int64) (c : Nat) (g : Nat → Int32) (r : Nat) (hc : 200 < r + c) (hc1 : r ≤ 200) (hc2 : c ≤ 200) : mX l yX2_drain wsX2_drain ({ frames := 7, cells := 1, slots := 6, locals := 105 }) [.ref x] D [(cL, .long), (cI, .int)] [(x, .inr (2, [.ref h1, .ref h2, .ref h3])), (h1, .inr (0, [.ref a1, .int (nI c)])), (a1, .inl (cL, 200, .inr (.inl f))), (h3, .inr (1, [.ref a3, .int (nI r)])), (a3, .inl (cI, 200, .inl g))] "java/lang/IllegalStateException" := by
  refine hX_body (cc := cX2_drain) (maxL := 3) (by decide) rfl (Nat.le_of_ble_eq_true rfl) ?_
  intro p e s m below meth cd ls hat hnt hZ hP hK hD hS hl
  obtain ⟨hF, hr, hlocks, hv⟩ := id hat
  obtain ⟨hx, hb, hml, hown, hts⟩ := id hF
  have hown : s.vm.findClass RX2 = some m.cls := hown
  have hl : lv_has ls 3 [(0, .ref x)] := hl
  have hP : va_P D vwCl [(x, .inr (2, [.ref h1, .ref h2, .ref h3])), (h1, .inr (0, [.ref a1, .int (nI c)])), (a1, .inl (cL, 200, .inr (.inl f))), (h3, .inr (1, [.ref a3, .int (nI r)])), (a3, .inl (cI, 200, .inl g))] s.heap := hP
  have hD : va_D (fun _ => True) [(x, .inr (2, [.ref h1, .ref h2, .ref h3])), (h1, .inr (0, [.ref a1, .int (nI c)])), (a1, .inl (cL, 200, .inr (.inl f))), (h3, .inr (1, [.ref a3, .int (nI r)])), (a3, .inl (cI, 200, .inl g))] := hD
  have iX0 : ∀ w ∈ wsX00, w ∈ wsX2_drain := by decide +kernel
  have iX2 : ∀ w ∈ wsX20, w ∈ wsX2_drain := by decide +kernel
  have k10 := hts (.fieldLink RX2 10 "HeapAndDeque" "numbers" "LHeapAndDeque$LeastFirst;") (by decide +kernel)
  have k22 := hts (.fieldLink RX2 22 "HeapAndDeque" "row" "LHeapAndDeque$Row;") (by decide +kernel)
  refine lv_aload_n hx hb dX2_drain_0 rfl (lv_at hl 0 rfl) ?_
  refine lv_aload_n hx hb dX2_drain_1 rfl (lv_at hl 0 rfl) ?_
  refine va_get (D := D) (ci := 2) (v := .ref h1) (C := RX2) (T := TX2) (N := 3) hx hb hts iX2 hown hK hP 0 rfl rfl 0 (by decide) k10 (fun _ h9 => h9) rfl dX2_drain_2 ?_
  refine va_getN (D := D) (ci := 0) (v := .int (nI c)) (C := RX0) (T := TX0) (N := 2) hx hb hts iX0 hown hK hP 1 rfl rfl 1 (by decide) (va_Nw.use rfl hv.2.2.2.2.1) (fun _ h9 => h9) rfl dX2_drain_5 ?_
  exact hX_thruV (As := [.int (nI c)]) (rest := []) (wc := [(x, .inr (2, [.ref h1, .ref h2, .ref h3])), (h3, .inr (1, [.ref a3, .int (nI r)])), (a3, .inl (cI, 200, .inl g))]) hF (c_X2_refuseAtRow_x l hfl D x h1 h2 h3 a3 cI g r c hc hc1 hc2) (cwV 1 hts gX2_drain_X2_refuseAtRow rfl rfl rfl (by decide +kernel) ⟨Nat.le_of_ble_eq_true rfl, Nat.le_of_ble_eq_true rfl⟩) hP hK hD hS hv hZ [0, 3, 4] [1] rfl (by decide) rfl 0 2 rfl rfl rfl rfl hl.1 rfl (Nat.le_of_ble_eq_true rfl) dX2_drain_8 ⟨Nat.le_of_ble_eq_true rfl, Nat.le_of_ble_eq_true rfl⟩ hnt hlocks
set_option maxHeartbeats 4000000 in
set_option maxRecDepth 100000 in
theorem c_X2_drainPairs (l : Launch) (D : va_G) (x h1 h2 h3 a2 a3 : Nat) (cL cI : ClassId) (f : Nat → Int64) (c : Nat) (g : Nat → Int32) (r : Nat) (hc : r + c ≤ 200) : mI l yX2_drainPairs wsX2_drainPairs ({ frames := 2, cells := 0, slots := 0, locals := 46 }) [.ref x] D [(cL, .long), (cI, .int)] [(x, .inr (2, [.ref h1, .ref h2, .ref h3])), (h2, .inr (0, [.ref a2, .int (nI c)])), (a2, .inl (cL, 200, .inr (.inl f))), (h3, .inr (1, [.ref a3, .int (nI r)])), (a3, .inl (cI, 200, .inl g))] [(x, .inr (2, [.ref h1, .ref h2, .ref h3])), (h2, .inr (0, [.ref a2, .int (nI 0)])), (a2, .inl (cL, 200, .inr (.inl f))), (h3, .inr (1, [.ref a3, .int (nI (r + c))])), (a3, .inl (cI, 200, .inl (s_xp f c g r)))] (nI c) := by
  refine hI_body (cc := cX2_drainPairs) (maxL := 3) (by decide) rfl (Nat.le_of_ble_eq_true rfl) (rfl) ?_
  intro p e s m below meth cd A ls Q hat hA hP hK hD hS hl hend
  obtain ⟨hF, hr, hlocks, hv⟩ := id hat
  obtain ⟨hx, hb, hml, hown, hts⟩ := id hF
  have hown : s.vm.findClass RX2 = some m.cls := hown
  have hl : lv_has ls 3 [(0, .ref x)] := hl
  have hP : va_P D vwCl [(x, .inr (2, [.ref h1, .ref h2, .ref h3])), (h2, .inr (0, [.ref a2, .int (nI c)])), (a2, .inl (cL, 200, .inr (.inl f))), (h3, .inr (1, [.ref a3, .int (nI r)])), (a3, .inl (cI, 200, .inl g))] s.heap := hP
  have hD : va_D A [(x, .inr (2, [.ref h1, .ref h2, .ref h3])), (h2, .inr (0, [.ref a2, .int (nI c)])), (a2, .inl (cL, 200, .inr (.inl f))), (h3, .inr (1, [.ref a3, .int (nI r)])), (a3, .inl (cI, 200, .inl g))] := hD
  have iX0 : ∀ w ∈ wsX00, w ∈ wsX2_drainPairs := by decide +kernel
  have iX2 : ∀ w ∈ wsX20, w ∈ wsX2_drainPairs := by decide +kernel
  have k16 := hts (.fieldLink RX2 16 "HeapAndDeque" "pairs" "LHeapAndDeque$LeastFirst;") (by decide +kernel)
  have k22 := hts (.fieldLink RX2 22 "HeapAndDeque" "row" "LHeapAndDeque$Row;") (by decide +kernel)
  refine lv_aload_n hx hb dX2_drainPairs_0 rfl (lv_at hl 0 rfl) ?_
  refine lv_aload_n hx hb dX2_drainPairs_1 rfl (lv_at hl 0 rfl) ?_
  refine va_get (D := D) (ci := 2) (v := .ref h2) (C := RX2) (T := TX2) (N := 3) hx hb hts iX2 hown hK hP 0 rfl rfl 1 (by decide) k16 (fun _ h9 => h9) rfl dX2_drainPairs_2 ?_
  refine va_getN (D := D) (ci := 0) (v := .int (nI c)) (C := RX0) (T := TX0) (N := 2) hx hb hts iX0 hown hK hP 1 rfl rfl 1 (by decide) (va_Nw.use rfl hv.2.2.2.2.1) (fun _ h9 => h9) rfl dX2_drainPairs_5 ?_
  refine hc_vV (As := [.int (nI c)]) (rest := []) (wc := [(x, .inr (2, [.ref h1, .ref h2, .ref h3])), (h3, .inr (1, [.ref a3, .int (nI r)])), (a3, .inl (cI, 200, .inl g))]) (wr := [(h2, .inr (0, [.ref a2, .int (nI c)])), (a2, .inl (cL, 200, .inr (.inl f)))]) (w1 := [(x, .inr (2, [.ref h1, .ref h2, .ref h3])), (h3, .inr (1, [.ref a3, .int (nI r)])), (a3, .inl (cI, 200, .inl g))]) (w' := [(x, .inr (2, [.ref h1, .ref h2, .ref h3])), (h2, .inr (0, [.ref a2, .int (nI c)])), (a2, .inl (cL, 200, .inr (.inl f))), (h3, .inr (1, [.ref a3, .int (nI r)])), (a3, .inl (cI, 200, .inl g))]) hF (c_X2_refuseAtRow l D x h1 h2 h3 a3 cI g r c hc) (cwV 1 hts gX2_drainPairs_X2_refuseAtRow rfl rfl rfl (by decide +kernel) ⟨Nat.le_of_ble_eq_true rfl, Nat.le_of_ble_eq_true rfl⟩) hP hK hD hS hA hv [0, 3, 4] [1, 2] [2, 0, 1, 3, 4] [1] ⟨rfl, rfl, rfl, rfl, ⟨by decide, by decide, by decide⟩, by decide⟩ 0 2 rfl rfl rfl rfl hl.1 rfl (Nat.le_of_ble_eq_true rfl) dX2_drainPairs_8 ⟨Nat.zero_le _, Nat.zero_le _⟩ (fun H locs hP hD hS => ?_)
  refine lv_aload_n hx hb dX2_drainPairs_11 rfl (lv_at hl 0 rfl) ?_
  refine va_get (D := D) (ci := 2) (v := .ref h2) (C := RX2) (T := TX2) (N := 3) hx hb hts iX2 hown hK hP 0 rfl rfl 1 (by decide) k16 (fun _ h9 => h9) rfl dX2_drainPairs_12 ?_
  refine va_getN (D := D) (ci := 0) (v := .int (nI c)) (C := RX0) (T := TX0) (N := 2) hx hb hts iX0 hown hK hP 1 rfl rfl 1 (by decide) (va_Nw.use rfl hv.2.2.2.2.1) (fun _ h9 => h9) rfl dX2_drainPairs_15 ?_
  refine lv_istore_n (lv' := [(1, .int (nI c)), (0, .ref x)]) hx hb dX2_drainPairs_18 rfl hl (by decide) rfl (fun ls hl => ?_)
  refine lv_iconst (v := nI 0) hx hb dX2_drainPairs_19 (by decide +kernel) ?_
  refine lv_istore_n (lv' := [(2, .int (nI 0)), (1, .int (nI c)), (0, .ref x)]) hx hb dX2_drainPairs_20 rfl hl (by decide) rfl (fun ls hl => ?_)
  have loop : ∀ (n i : Nat) (u : Nat → Int32), i + n = c → s_xp f n u (r + i) = s_xp f c g r → ∀ (H : Heap) (locs : List Loc) (ls : Array Slot), va_P D vwCl [(x, .inr (2, [.ref h1, .ref h2, .ref h3])), (h2, .inr (0, [.ref a2, .int (nI n)])), (a2, .inl (cL, 200, .inr (.inl f))), (h3, .inr (1, [.ref a3, .int (nI (r + i))])), (a3, .inl (cI, 200, .inl u))] H → va_D A [(x, .inr (2, [.ref h1, .ref h2, .ref h3])), (h2, .inr (0, [.ref a2, .int (nI n)])), (a2, .inl (cL, 200, .inr (.inl f))), (h3, .inr (1, [.ref a3, .int (nI (r + i))])), (a3, .inl (cI, 200, .inl u))] → va_S A s.heap H locs → lv_has ls 3 [(2, .int (nI i)), (1, .int (nI c)), (0, .ref x)] → W p l e ({ frames := 2, cells := 0, slots := 0, locals := 46 }) s m ([.ref x] : List Value).toArray below meth cd H locs 0 0 Q (F0 m 21 ls []) := by
    intro n
    induction n with
    | zero =>
      intro i u hn e9 H locs ls hP hD hS hl
      refine lv_iload_n hx hb dX2_drainPairs_21 rfl (lv_at hl 0 rfl) ?_
      refine lv_iload_n hx hb dX2_drainPairs_22 rfl (lv_at hl 1 rfl) ?_
      refine lv_icmp_ge (tgt := 50) hx hb dX2_drainPairs_23 (by decide) (fun _ => ?_) (fun hn => absurd (nI_le (by omega) (by omega)) hn)
      have e8 : i = c := by omega
      refine lv_iload_n hx hb dX2_drainPairs_50 rfl (lv_at hl 1 rfl) ?_
      exact hend _ _ _ _ _ (by rw [← e9, ← e8]; exact hP) (by rw [← e9, ← e8]; exact hD) hS (rfl) dX2_drainPairs_51
    | succ n ih =>
      intro i u hn e9 H locs ls hP hD hS hl
      refine lv_iload_n hx hb dX2_drainPairs_21 rfl (lv_at hl 0 rfl) ?_
      refine lv_iload_n hx hb dX2_drainPairs_22 rfl (lv_at hl 1 rfl) ?_
      refine lv_icmp_ge (tgt := 50) hx hb dX2_drainPairs_23 (by decide) (fun ht_ => absurd ht_ (nI_ge (by omega) (by omega))) (fun _ => ?_)
      refine lv_aload_n hx hb dX2_drainPairs_26 rfl (lv_at hl 2 rfl) ?_
      refine va_get (D := D) (ci := 2) (v := .ref h3) (C := RX2) (T := TX2) (N := 3) hx hb hts iX2 hown hK hP 0 rfl rfl 2 (by decide) k22 (fun _ h9 => h9) rfl dX2_drainPairs_27 ?_
      refine lv_aload_n hx hb dX2_drainPairs_30 rfl (lv_at hl 2 rfl) ?_
      refine va_get (D := D) (ci := 2) (v := .ref h2) (C := RX2) (T := TX2) (N := 3) hx hb hts iX2 hown hK hP 0 rfl rfl 1 (by decide) k16 (fun _ h9 => h9) rfl dX2_drainPairs_31 ?_
      refine hc_lV (As := []) (rest := [.ref h3]) (wc := [(h2, .inr (0, [.ref a2, .int (nI (n + 1))])), (a2, .inl (cL, 200, .inr (.inl f)))]) (wr := [(x, .inr (2, [.ref h1, .ref h2, .ref h3])), (h3, .inr (1, [.ref a3, .int (nI (r + i))])), (a3, .inl (cI, 200, .inl u))]) (w1 := [(h2, .inr (0, [.ref a2, .int (nI n)])), (a2, .inl (cL, 200, .inr (.inl f)))]) (w' := [(x, .inr (2, [.ref h1, .ref h2, .ref h3])), (h2, .inr (0, [.ref a2, .int (nI n)])), (a2, .inl (cL, 200, .inr (.inl f))), (h3, .inr (1, [.ref a3, .int (nI (r + i))])), (a3, .inl (cI, 200, .inl u))]) hF (c_X0_takeLeast l D h2 a2 cL f (n + 1) (by omega) (by omega)) (cwV 0 hts gX2_drainPairs_X0_takeLeast rfl rfl rfl (by decide +kernel) ⟨Nat.le_of_ble_eq_true rfl, Nat.le_of_ble_eq_true rfl⟩) hP hK hD hS hA hv [1, 2] [0, 3, 4] [0, 3, 4, 1, 2] [0] ⟨rfl, rfl, rfl, rfl, ⟨by decide, by decide, by decide⟩, by decide⟩ 1 0 rfl rfl rfl rfl hl.1 rfl (Nat.le_of_ble_eq_true rfl) dX2_drainPairs_34 ⟨Nat.zero_le _, Nat.zero_le _⟩ (fun H locs hP hD hS => ?_)
      refine hc_iS (As := [.long (f n)]) (rest := [.ref h3]) hF (c_X2_keyOf l D (f n)) (va_cwS 1 hts gX2_drainPairs_X2_keyOf rfl rfl rfl (by decide +kernel) ⟨Nat.le_of_ble_eq_true rfl, Nat.le_of_ble_eq_true rfl⟩) hK hS hA hv rfl hl.1 rfl (Nat.le_of_ble_eq_true rfl) dX2_drainPairs_37 ⟨Nat.zero_le _, Nat.zero_le _⟩ (fun H locs hPk hz9 hk9 hS => ?_)
      have hP := hPk _ hP
      refine hc_iV (As := [.int (s_key (f n))]) (rest := []) (wc := [(h3, .inr (1, [.ref a3, .int (nI (r + i))])), (a3, .inl (cI, 200, .inl u))]) (wr := [(x, .inr (2, [.ref h1, .ref h2, .ref h3])), (h2, .inr (0, [.ref a2, .int (nI n)])), (a2, .inl (cL, 200, .inr (.inl f)))]) (w1 := [(h3, .inr (1, [.ref a3, .int (nI (r + i + 1))])), (a3, .inl (cI, 200, .inl (upd u (r + i) (s_key (f n)))))]) (w' := [(x, .inr (2, [.ref h1, .ref h2, .ref h3])), (h2, .inr (0, [.ref a2, .int (nI n)])), (a2, .inl (cL, 200, .inr (.inl f))), (h3, .inr (1, [.ref a3, .int (nI (r + i + 1))])), (a3, .inl (cI, 200, .inl (upd u (r + i) (s_key (f n)))))]) hF (c_X1_putLast l D h3 a3 cI u (r + i) (s_key (f n)) (by omega)) (cwV 1 hts gX2_drainPairs_X1_putLast rfl rfl rfl (by decide +kernel) ⟨Nat.le_of_ble_eq_true rfl, Nat.le_of_ble_eq_true rfl⟩) hP hK hD hS hA hv [3, 4] [0, 1, 2] [0, 1, 2, 3, 4] [1] ⟨rfl, rfl, rfl, rfl, ⟨by decide, by decide, by decide⟩, by decide⟩ 3 1 rfl rfl rfl rfl hl.1 rfl (Nat.le_of_ble_eq_true rfl) dX2_drainPairs_40 ⟨Nat.zero_le _, Nat.zero_le _⟩ (fun H locs hP hD hS => ?_)
      refine lv_pop hx hb dX2_drainPairs_43 rfl ?_
      refine lv_iinc (v := nI (i + 1)) (lv' := [(2, .int (nI (i + 1))), (1, .int (nI c)), (0, .ref x)]) hx hb dX2_drainPairs_44 hl (k := 0) rfl (nI_1 _) (by decide) rfl (fun ls hl => ?_)
      refine lv_goto (tgt := 21) hx hb dX2_drainPairs_47 (by decide) ?_
      exact ih (i + 1) _ (by omega) (by rw [← e9]; rfl) _ _ _ hP hD hS (lv_sub hl [0, 1, 2] rfl)
  exact loop c 0 g (by omega) rfl _ _ _ hP hD hS hl
set_option maxHeartbeats 4000000 in
set_option maxRecDepth 100000 in
theorem c_X2_drainPairs_x (l : Launch) (hfl : l.stackTraces = false) (D : va_G) (x h1 h2 h3 a2 a3 : Nat) (cL cI : ClassId) (f : Nat → Int64) (c : Nat) (g : Nat → Int32) (r : Nat) (hc : 200 < r + c) (hc1 : r ≤ 200) (hc2 : c ≤ 200) : mX l yX2_drainPairs wsX2_drainPairs ({ frames := 7, cells := 1, slots := 6, locals := 105 }) [.ref x] D [(cL, .long), (cI, .int)] [(x, .inr (2, [.ref h1, .ref h2, .ref h3])), (h2, .inr (0, [.ref a2, .int (nI c)])), (a2, .inl (cL, 200, .inr (.inl f))), (h3, .inr (1, [.ref a3, .int (nI r)])), (a3, .inl (cI, 200, .inl g))] "java/lang/IllegalStateException" := by
  refine hX_body (cc := cX2_drainPairs) (maxL := 3) (by decide) rfl (Nat.le_of_ble_eq_true rfl) ?_
  intro p e s m below meth cd ls hat hnt hZ hP hK hD hS hl
  obtain ⟨hF, hr, hlocks, hv⟩ := id hat
  obtain ⟨hx, hb, hml, hown, hts⟩ := id hF
  have hown : s.vm.findClass RX2 = some m.cls := hown
  have hl : lv_has ls 3 [(0, .ref x)] := hl
  have hP : va_P D vwCl [(x, .inr (2, [.ref h1, .ref h2, .ref h3])), (h2, .inr (0, [.ref a2, .int (nI c)])), (a2, .inl (cL, 200, .inr (.inl f))), (h3, .inr (1, [.ref a3, .int (nI r)])), (a3, .inl (cI, 200, .inl g))] s.heap := hP
  have hD : va_D (fun _ => True) [(x, .inr (2, [.ref h1, .ref h2, .ref h3])), (h2, .inr (0, [.ref a2, .int (nI c)])), (a2, .inl (cL, 200, .inr (.inl f))), (h3, .inr (1, [.ref a3, .int (nI r)])), (a3, .inl (cI, 200, .inl g))] := hD
  have iX0 : ∀ w ∈ wsX00, w ∈ wsX2_drainPairs := by decide +kernel
  have iX2 : ∀ w ∈ wsX20, w ∈ wsX2_drainPairs := by decide +kernel
  have k16 := hts (.fieldLink RX2 16 "HeapAndDeque" "pairs" "LHeapAndDeque$LeastFirst;") (by decide +kernel)
  have k22 := hts (.fieldLink RX2 22 "HeapAndDeque" "row" "LHeapAndDeque$Row;") (by decide +kernel)
  refine lv_aload_n hx hb dX2_drainPairs_0 rfl (lv_at hl 0 rfl) ?_
  refine lv_aload_n hx hb dX2_drainPairs_1 rfl (lv_at hl 0 rfl) ?_
  refine va_get (D := D) (ci := 2) (v := .ref h2) (C := RX2) (T := TX2) (N := 3) hx hb hts iX2 hown hK hP 0 rfl rfl 1 (by decide) k16 (fun _ h9 => h9) rfl dX2_drainPairs_2 ?_
  refine va_getN (D := D) (ci := 0) (v := .int (nI c)) (C := RX0) (T := TX0) (N := 2) hx hb hts iX0 hown hK hP 1 rfl rfl 1 (by decide) (va_Nw.use rfl hv.2.2.2.2.1) (fun _ h9 => h9) rfl dX2_drainPairs_5 ?_
  exact hX_thruV (As := [.int (nI c)]) (rest := []) (wc := [(x, .inr (2, [.ref h1, .ref h2, .ref h3])), (h3, .inr (1, [.ref a3, .int (nI r)])), (a3, .inl (cI, 200, .inl g))]) hF (c_X2_refuseAtRow_x l hfl D x h1 h2 h3 a3 cI g r c hc hc1 hc2) (cwV 1 hts gX2_drainPairs_X2_refuseAtRow rfl rfl rfl (by decide +kernel) ⟨Nat.le_of_ble_eq_true rfl, Nat.le_of_ble_eq_true rfl⟩) hP hK hD hS hv hZ [0, 3, 4] [1] rfl (by decide) rfl 0 2 rfl rfl rfl rfl hl.1 rfl (Nat.le_of_ble_eq_true rfl) dX2_drainPairs_8 ⟨Nat.le_of_ble_eq_true rfl, Nat.le_of_ble_eq_true rfl⟩ hnt hlocks
