/-! HeapAndDequeModel, the second half -/
set_option maxHeartbeats 4000000 in
set_option maxRecDepth 100000 in
theorem c_X3_drain_x (l : Launch) (D : va_G) (mo b1 b2 b3 b4 : Nat) (cI : ClassId) (fh fo fk ft : Nat → Int32) (nh no np : Nat) (th : Int32) (hc : 200 < nh + no) (hc1 : nh ≤ 200) (hc2 : no ≤ 200) : mI l yX3_drain wsX3_drain ({ frames := 1, cells := 0, slots := 0, locals := 21 }) [.ref mo] D [(cI, .int)] [(mo, .inr (3, [.ref b1, .ref b2, .ref b3, .ref b4, .int (nI nh), .int (nI no), .int (nI np), .int th])), (b1, .inl (cI, 200, .inl fh)), (b2, .inl (cI, 200, .inl fo)), (b3, .inl (cI, 200, .inl fk)), (b4, .inl (cI, 200, .inl ft))] [(mo, .inr (3, [.ref b1, .ref b2, .ref b3, .ref b4, .int (nI nh), .int (nI no), .int (nI np), .int 1])), (b1, .inl (cI, 200, .inl fh)), (b2, .inl (cI, 200, .inl fo)), (b3, .inl (cI, 200, .inl fk)), (b4, .inl (cI, 200, .inl ft))] (0) := by
  refine hI_body (cc := cX3_drain) (maxL := 2) (by decide) rfl (Nat.le_of_ble_eq_true rfl) (rfl) ?_
  intro p e s m below meth cd A ls Q hat hA hP hK hD hS hl hend
  obtain ⟨hF, hr, hlocks, hv⟩ := id hat
  obtain ⟨hx, hb, hml, hown, hts⟩ := id hF
  have hown : s.vm.findClass RX3 = some m.cls := hown
  have hl : lv_has ls 2 [(0, .ref mo)] := hl
  have hP : va_P D vwCl [(mo, .inr (3, [.ref b1, .ref b2, .ref b3, .ref b4, .int (nI nh), .int (nI no), .int (nI np), .int th])), (b1, .inl (cI, 200, .inl fh)), (b2, .inl (cI, 200, .inl fo)), (b3, .inl (cI, 200, .inl fk)), (b4, .inl (cI, 200, .inl ft))] s.heap := hP
  have hD : va_D A [(mo, .inr (3, [.ref b1, .ref b2, .ref b3, .ref b4, .int (nI nh), .int (nI no), .int (nI np), .int th])), (b1, .inl (cI, 200, .inl fh)), (b2, .inl (cI, 200, .inl fo)), (b3, .inl (cI, 200, .inl fk)), (b4, .inl (cI, 200, .inl ft))] := hD
  have iX3 : ∀ w ∈ wsX30, w ∈ wsX3_drain := by decide +kernel
  have k13 := hts (.fieldLink RX3 13 "HeapAndDequeModel" "row" "[I") (by decide +kernel)
  have k26 := hts (.fieldLink RX3 26 "HeapAndDequeModel" "held" "I") (by decide +kernel)
  have k47 := hts (.fieldLink RX3 47 "HeapAndDequeModel" "many" "I") (by decide +kernel)
  refine lv_aload_n hx hb dX3_drain_0 rfl (lv_at hl 0 rfl) ?_
  refine lv_aload_n hx hb dX3_drain_1 rfl (lv_at hl 0 rfl) ?_
  refine va_get (D := D) (ci := 3) (v := .int (nI nh)) (C := RX3) (T := TX3) (N := 8) hx hb hts iX3 hown hK hP 0 rfl rfl 4 (by decide) k26 (fun _ h9 => h9) rfl dX3_drain_2 ?_
  refine lv_aload_n hx hb dX3_drain_5 rfl (lv_at hl 0 rfl) ?_
  refine va_get (D := D) (ci := 3) (v := .int (nI no)) (C := RX3) (T := TX3) (N := 8) hx hb hts iX3 hown hK hP 0 rfl rfl 5 (by decide) k47 (fun _ h9 => h9) rfl dX3_drain_6 ?_
  refine lv_iadd hx hb dX3_drain_9 ?_
  refine hw_i (y := nI (nh + no)) (nI_add _ _) ?_
  refine lv_sipush (v := nI 200) hx hb dX3_drain_10 (by decide +kernel) ?_
  refine lv_icmp_le (tgt := 20) hx hb dX3_drain_13 (by decide) (fun ht_ => absurd ht_ (nI_ge hc (by omega))) (fun _ => ?_)
  refine lv_iconst (v := 1) hx hb dX3_drain_16 (by decide) ?_
  refine lv_goto (tgt := 21) hx hb dX3_drain_17 (by decide) ?_
  refine hc_iV (As := [.int 1]) (rest := []) (wc := [(mo, .inr (3, [.ref b1, .ref b2, .ref b3, .ref b4, .int (nI nh), .int (nI no), .int (nI np), .int th])), (b1, .inl (cI, 200, .inl fh)), (b2, .inl (cI, 200, .inl fo)), (b3, .inl (cI, 200, .inl fk)), (b4, .inl (cI, 200, .inl ft))]) (wr := []) (w1 := [(mo, .inr (3, [.ref b1, .ref b2, .ref b3, .ref b4, .int (nI nh), .int (nI no), .int (nI np), .int 1])), (b1, .inl (cI, 200, .inl fh)), (b2, .inl (cI, 200, .inl fo)), (b3, .inl (cI, 200, .inl fk)), (b4, .inl (cI, 200, .inl ft))]) (w' := [(mo, .inr (3, [.ref b1, .ref b2, .ref b3, .ref b4, .int (nI nh), .int (nI no), .int (nI np), .int 1])), (b1, .inl (cI, 200, .inl fh)), (b2, .inl (cI, 200, .inl fo)), (b3, .inl (cI, 200, .inl fk)), (b4, .inl (cI, 200, .inl ft))]) hF (c_X3_isWrong_k l D mo b1 b2 b3 b4 cI fh fo fk ft nh no np th 1 (by decide)) (cwV 1 hts gX3_drain_X3_isWrong rfl rfl rfl (by decide +kernel) ⟨Nat.le_of_ble_eq_true rfl, Nat.le_of_ble_eq_true rfl⟩) hP hK hD hS hA hv [0, 1, 2, 3, 4] [] [0, 1, 2, 3, 4] [0] ⟨rfl, rfl, rfl, rfl, ⟨by decide, by decide, by decide⟩, by decide⟩ 0 3 rfl rfl rfl rfl hl.1 rfl (Nat.le_of_ble_eq_true rfl) dX3_drain_21 ⟨Nat.zero_le _, Nat.zero_le _⟩ (fun H locs hP hD hS => ?_)
  refine lv_if_eq (tgt := 29) hx hb dX3_drain_24 (by decide) (fun ht_ => absurd ht_ (by decide)) (fun _ => ?_)
  refine lv_iconst (v := 0) hx hb dX3_drain_27 (by decide) ?_
  exact hend _ _ _ _ _ hP hD hS (rfl) dX3_drain_28
set_option maxHeartbeats 4000000 in
set_option maxRecDepth 100000 in
theorem c_X3_drainPairs_x (l : Launch) (D : va_G) (mo b1 b2 b3 b4 : Nat) (cI : ClassId) (fh fo fk ft : Nat → Int32) (nh no np : Nat) (th : Int32) (hc : 200 < np + no) (hc1 : np ≤ 200) (hc2 : no ≤ 200) : mI l yX3_drainPairs wsX3_drainPairs ({ frames := 1, cells := 0, slots := 0, locals := 21 }) [.ref mo] D [(cI, .int)] [(mo, .inr (3, [.ref b1, .ref b2, .ref b3, .ref b4, .int (nI nh), .int (nI no), .int (nI np), .int th])), (b1, .inl (cI, 200, .inl fh)), (b2, .inl (cI, 200, .inl fo)), (b3, .inl (cI, 200, .inl fk)), (b4, .inl (cI, 200, .inl ft))] [(mo, .inr (3, [.ref b1, .ref b2, .ref b3, .ref b4, .int (nI nh), .int (nI no), .int (nI np), .int 1])), (b1, .inl (cI, 200, .inl fh)), (b2, .inl (cI, 200, .inl fo)), (b3, .inl (cI, 200, .inl fk)), (b4, .inl (cI, 200, .inl ft))] (0) := by
  refine hI_body (cc := cX3_drainPairs) (maxL := 3) (by decide) rfl (Nat.le_of_ble_eq_true rfl) (rfl) ?_
  intro p e s m below meth cd A ls Q hat hA hP hK hD hS hl hend
  obtain ⟨hF, hr, hlocks, hv⟩ := id hat
  obtain ⟨hx, hb, hml, hown, hts⟩ := id hF
  have hown : s.vm.findClass RX3 = some m.cls := hown
  have hl : lv_has ls 3 [(0, .ref mo)] := hl
  have hP : va_P D vwCl [(mo, .inr (3, [.ref b1, .ref b2, .ref b3, .ref b4, .int (nI nh), .int (nI no), .int (nI np), .int th])), (b1, .inl (cI, 200, .inl fh)), (b2, .inl (cI, 200, .inl fo)), (b3, .inl (cI, 200, .inl fk)), (b4, .inl (cI, 200, .inl ft))] s.heap := hP
  have hD : va_D A [(mo, .inr (3, [.ref b1, .ref b2, .ref b3, .ref b4, .int (nI nh), .int (nI no), .int (nI np), .int th])), (b1, .inl (cI, 200, .inl fh)), (b2, .inl (cI, 200, .inl fo)), (b3, .inl (cI, 200, .inl fk)), (b4, .inl (cI, 200, .inl ft))] := hD
  have iX3 : ∀ w ∈ wsX30, w ∈ wsX3_drainPairs := by decide +kernel
  have k13 := hts (.fieldLink RX3 13 "HeapAndDequeModel" "row" "[I") (by decide +kernel)
  have k16 := hts (.fieldLink RX3 16 "HeapAndDequeModel" "keys" "[I") (by decide +kernel)
  have k47 := hts (.fieldLink RX3 47 "HeapAndDequeModel" "many" "I") (by decide +kernel)
  have k50 := hts (.fieldLink RX3 50 "HeapAndDequeModel" "pairs" "I") (by decide +kernel)
  refine lv_aload_n hx hb dX3_drainPairs_0 rfl (lv_at hl 0 rfl) ?_
  refine lv_aload_n hx hb dX3_drainPairs_1 rfl (lv_at hl 0 rfl) ?_
  refine va_get (D := D) (ci := 3) (v := .int (nI np)) (C := RX3) (T := TX3) (N := 8) hx hb hts iX3 hown hK hP 0 rfl rfl 6 (by decide) k50 (fun _ h9 => h9) rfl dX3_drainPairs_2 ?_
  refine lv_aload_n hx hb dX3_drainPairs_5 rfl (lv_at hl 0 rfl) ?_
  refine va_get (D := D) (ci := 3) (v := .int (nI no)) (C := RX3) (T := TX3) (N := 8) hx hb hts iX3 hown hK hP 0 rfl rfl 5 (by decide) k47 (fun _ h9 => h9) rfl dX3_drainPairs_6 ?_
  refine lv_iadd hx hb dX3_drainPairs_9 ?_
  refine hw_i (y := nI (np + no)) (nI_add _ _) ?_
  refine lv_sipush (v := nI 200) hx hb dX3_drainPairs_10 (by decide +kernel) ?_
  refine lv_icmp_le (tgt := 20) hx hb dX3_drainPairs_13 (by decide) (fun ht_ => absurd ht_ (nI_ge hc (by omega))) (fun _ => ?_)
  refine lv_iconst (v := 1) hx hb dX3_drainPairs_16 (by decide) ?_
  refine lv_goto (tgt := 21) hx hb dX3_drainPairs_17 (by decide) ?_
  refine hc_iV (As := [.int 1]) (rest := []) (wc := [(mo, .inr (3, [.ref b1, .ref b2, .ref b3, .ref b4, .int (nI nh), .int (nI no), .int (nI np), .int th])), (b1, .inl (cI, 200, .inl fh)), (b2, .inl (cI, 200, .inl fo)), (b3, .inl (cI, 200, .inl fk)), (b4, .inl (cI, 200, .inl ft))]) (wr := []) (w1 := [(mo, .inr (3, [.ref b1, .ref b2, .ref b3, .ref b4, .int (nI nh), .int (nI no), .int (nI np), .int 1])), (b1, .inl (cI, 200, .inl fh)), (b2, .inl (cI, 200, .inl fo)), (b3, .inl (cI, 200, .inl fk)), (b4, .inl (cI, 200, .inl ft))]) (w' := [(mo, .inr (3, [.ref b1, .ref b2, .ref b3, .ref b4, .int (nI nh), .int (nI no), .int (nI np), .int 1])), (b1, .inl (cI, 200, .inl fh)), (b2, .inl (cI, 200, .inl fo)), (b3, .inl (cI, 200, .inl fk)), (b4, .inl (cI, 200, .inl ft))]) hF (c_X3_isWrong_k l D mo b1 b2 b3 b4 cI fh fo fk ft nh no np th 1 (by decide)) (cwV 1 hts gX3_drainPairs_X3_isWrong rfl rfl rfl (by decide +kernel) ⟨Nat.le_of_ble_eq_true rfl, Nat.le_of_ble_eq_true rfl⟩) hP hK hD hS hA hv [0, 1, 2, 3, 4] [] [0, 1, 2, 3, 4] [0] ⟨rfl, rfl, rfl, rfl, ⟨by decide, by decide, by decide⟩, by decide⟩ 0 3 rfl rfl rfl rfl hl.1 rfl (Nat.le_of_ble_eq_true rfl) dX3_drainPairs_21 ⟨Nat.zero_le _, Nat.zero_le _⟩ (fun H locs hP hD hS => ?_)
  refine lv_if_eq (tgt := 29) hx hb dX3_drainPairs_24 (by decide) (fun ht_ => absurd ht_ (by decide)) (fun _ => ?_)
  refine lv_iconst (v := 0) hx hb dX3_drainPairs_27 (by decide) ?_
  exact hend _ _ _ _ _ hP hD hS (rfl) dX3_drainPairs_28
set_option maxHeartbeats 4000000 in
set_option maxRecDepth 100000 in
theorem c_X3_drain (l : Launch) (D : va_G) (mo b1 b2 b3 b4 : Nat) (cI : ClassId) (fh fo fk ft : Nat → Int32) (nh no np : Nat) (th : Int32) (hc : nh + no ≤ 200) : mI l yX3_drain wsX3_drain ({ frames := 1, cells := 0, slots := 0, locals := 23 }) [.ref mo] D [(cI, .int)] [(mo, .inr (3, [.ref b1, .ref b2, .ref b3, .ref b4, .int (nI nh), .int (nI no), .int (nI np), .int th])), (b1, .inl (cI, 200, .inl fh)), (b2, .inl (cI, 200, .inl fo)), (b3, .inl (cI, 200, .inl fk)), (b4, .inl (cI, 200, .inl ft))] [(mo, .inr (3, [.ref b1, .ref b2, .ref b3, .ref b4, .int (nI 0), .int (nI (no + nh)), .int (nI np), .int (nI 0)])), (b1, .inl (cI, 200, .inl ((s_md nh fh fo no).1))), (b2, .inl (cI, 200, .inl ((s_md nh fh fo no).2))), (b3, .inl (cI, 200, .inl fk)), (b4, .inl (cI, 200, .inl ft))] (nI nh) := by
  refine hI_body (cc := cX3_drain) (maxL := 2) (by decide) rfl (Nat.le_of_ble_eq_true rfl) (rfl) ?_
  intro p e s m below meth cd A ls Q hat hA hP hK hD hS hl hend
  obtain ⟨hF, hr, hlocks, hv⟩ := id hat
  obtain ⟨hx, hb, hml, hown, hts⟩ := id hF
  have hown : s.vm.findClass RX3 = some m.cls := hown
  have hl : lv_has ls 2 [(0, .ref mo)] := hl
  have hP : va_P D vwCl [(mo, .inr (3, [.ref b1, .ref b2, .ref b3, .ref b4, .int (nI nh), .int (nI no), .int (nI np), .int th])), (b1, .inl (cI, 200, .inl fh)), (b2, .inl (cI, 200, .inl fo)), (b3, .inl (cI, 200, .inl fk)), (b4, .inl (cI, 200, .inl ft))] s.heap := hP
  have hD : va_D A [(mo, .inr (3, [.ref b1, .ref b2, .ref b3, .ref b4, .int (nI nh), .int (nI no), .int (nI np), .int th])), (b1, .inl (cI, 200, .inl fh)), (b2, .inl (cI, 200, .inl fo)), (b3, .inl (cI, 200, .inl fk)), (b4, .inl (cI, 200, .inl ft))] := hD
  have iX3 : ∀ w ∈ wsX30, w ∈ wsX3_drain := by decide +kernel
  have k13 := hts (.fieldLink RX3 13 "HeapAndDequeModel" "row" "[I") (by decide +kernel)
  have k26 := hts (.fieldLink RX3 26 "HeapAndDequeModel" "held" "I") (by decide +kernel)
  have k47 := hts (.fieldLink RX3 47 "HeapAndDequeModel" "many" "I") (by decide +kernel)
  refine lv_aload_n hx hb dX3_drain_0 rfl (lv_at hl 0 rfl) ?_
  refine lv_aload_n hx hb dX3_drain_1 rfl (lv_at hl 0 rfl) ?_
  refine va_get (D := D) (ci := 3) (v := .int (nI nh)) (C := RX3) (T := TX3) (N := 8) hx hb hts iX3 hown hK hP 0 rfl rfl 4 (by decide) k26 (fun _ h9 => h9) rfl dX3_drain_2 ?_
  refine lv_aload_n hx hb dX3_drain_5 rfl (lv_at hl 0 rfl) ?_
  refine va_get (D := D) (ci := 3) (v := .int (nI no)) (C := RX3) (T := TX3) (N := 8) hx hb hts iX3 hown hK hP 0 rfl rfl 5 (by decide) k47 (fun _ h9 => h9) rfl dX3_drain_6 ?_
  refine lv_iadd hx hb dX3_drain_9 ?_
  refine hw_i (y := nI (nh + no)) (nI_add _ _) ?_
  refine lv_sipush (v := nI 200) hx hb dX3_drain_10 (by decide +kernel) ?_
  refine lv_icmp_le (tgt := 20) hx hb dX3_drain_13 (by decide) (fun _ => ?_) (fun hn => absurd (nI_le hc (by decide)) hn)
  refine lv_iconst (v := nI 0) hx hb dX3_drain_20 (by decide +kernel) ?_
  refine hc_iV (As := [.int (nI 0)]) (rest := []) (wc := [(mo, .inr (3, [.ref b1, .ref b2, .ref b3, .ref b4, .int (nI nh), .int (nI no), .int (nI np), .int th])), (b1, .inl (cI, 200, .inl fh)), (b2, .inl (cI, 200, .inl fo)), (b3, .inl (cI, 200, .inl fk)), (b4, .inl (cI, 200, .inl ft))]) (wr := []) (w1 := [(mo, .inr (3, [.ref b1, .ref b2, .ref b3, .ref b4, .int (nI nh), .int (nI no), .int (nI np), .int (nI 0)])), (b1, .inl (cI, 200, .inl fh)), (b2, .inl (cI, 200, .inl fo)), (b3, .inl (cI, 200, .inl fk)), (b4, .inl (cI, 200, .inl ft))]) (w' := [(mo, .inr (3, [.ref b1, .ref b2, .ref b3, .ref b4, .int (nI nh), .int (nI no), .int (nI np), .int (nI 0)])), (b1, .inl (cI, 200, .inl fh)), (b2, .inl (cI, 200, .inl fo)), (b3, .inl (cI, 200, .inl fk)), (b4, .inl (cI, 200, .inl ft))]) hF (c_X3_isWrong_z l D mo b1 b2 b3 b4 cI fh fo fk ft nh no np th ) (cwV 1 hts gX3_drain_X3_isWrong rfl rfl rfl (by decide +kernel) ⟨Nat.le_of_ble_eq_true rfl, Nat.le_of_ble_eq_true rfl⟩) hP hK hD hS hA hv [0, 1, 2, 3, 4] [] [0, 1, 2, 3, 4] [0] ⟨rfl, rfl, rfl, rfl, ⟨by decide, by decide, by decide⟩, by decide⟩ 0 3 rfl rfl rfl rfl hl.1 rfl (Nat.le_of_ble_eq_true rfl) dX3_drain_21 ⟨Nat.zero_le _, Nat.zero_le _⟩ (fun H locs hP hD hS => ?_)
  refine lv_if_eq (tgt := 29) hx hb dX3_drain_24 (by decide) (fun _ => ?_) (fun hn => absurd (rfl) hn)
  refine lv_aload_n hx hb dX3_drain_29 rfl (lv_at hl 0 rfl) ?_
  refine va_get (D := D) (ci := 3) (v := .int (nI nh)) (C := RX3) (T := TX3) (N := 8) hx hb hts iX3 hown hK hP 0 rfl rfl 4 (by decide) k26 (fun _ h9 => h9) rfl dX3_drain_30 ?_
  refine lv_istore_n (lv' := [(1, .int (nI nh)), (0, .ref mo)]) hx hb dX3_drain_33 rfl hl (by decide) rfl (fun ls hl => ?_)
  have loop : ∀ (n i : Nat) (u v : Nat → Int32), i + n = nh → s_md n u v (no + i) = s_md nh fh fo no → ∀ (H : Heap) (locs : List Loc) (ls : Array Slot), va_P D vwCl [(mo, .inr (3, [.ref b1, .ref b2, .ref b3, .ref b4, .int (nI n), .int (nI (no + i)), .int (nI np), .int (nI 0)])), (b1, .inl (cI, 200, .inl u)), (b2, .inl (cI, 200, .inl v)), (b3, .inl (cI, 200, .inl fk)), (b4, .inl (cI, 200, .inl ft))] H → va_D A [(mo, .inr (3, [.ref b1, .ref b2, .ref b3, .ref b4, .int (nI n), .int (nI (no + i)), .int (nI np), .int (nI 0)])), (b1, .inl (cI, 200, .inl u)), (b2, .inl (cI, 200, .inl v)), (b3, .inl (cI, 200, .inl fk)), (b4, .inl (cI, 200, .inl ft))] → va_S A s.heap H locs → lv_has ls 2 [(1, .int (nI nh)), (0, .ref mo)] → W p l e ({ frames := 1, cells := 0, slots := 0, locals := 23 }) s m ([.ref mo] : List Value).toArray below meth cd H locs 0 0 Q (F0 m 34 ls []) := by
    intro n
    induction n with
    | zero =>
      intro i u v hn e9 H locs ls hP hD hS hl
      refine lv_aload_n hx hb dX3_drain_34 rfl (lv_at hl 1 rfl) ?_
      refine va_get (D := D) (ci := 3) (v := .int (nI 0)) (C := RX3) (T := TX3) (N := 8) hx hb hts iX3 hown hK hP 0 rfl rfl 4 (by decide) k26 (fun _ h9 => h9) rfl dX3_drain_35 ?_
      refine lv_if_le (tgt := 71) hx hb dX3_drain_38 (by decide) (fun _ => ?_) (fun hn => absurd (nI_le0) hn)
      have e8 : i = nh := by omega
      refine lv_iload_n hx hb dX3_drain_71 rfl (lv_at hl 0 rfl) ?_
      exact hend _ _ _ _ _ (by rw [← e9, ← e8]; exact hP) (by rw [← e9, ← e8]; exact hD) hS (rfl) dX3_drain_72
    | succ n ih =>
      intro i u v hn e9 H locs ls hP hD hS hl
      have hle := s_lp_le u n
      refine lv_aload_n hx hb dX3_drain_34 rfl (lv_at hl 1 rfl) ?_
      refine va_get (D := D) (ci := 3) (v := .int (nI (n + 1))) (C := RX3) (T := TX3) (N := 8) hx hb hts iX3 hown hK hP 0 rfl rfl 4 (by decide) k26 (fun _ h9 => h9) rfl dX3_drain_35 ?_
      refine lv_if_le (tgt := 71) hx hb dX3_drain_38 (by decide) (fun ht_ => absurd ht_ (nI_nle (Nat.succ_pos n) (by omega))) (fun _ => ?_)
      refine lv_aload_n hx hb dX3_drain_41 rfl (lv_at hl 1 rfl) ?_
      refine va_get (D := D) (ci := 3) (v := .ref b2) (C := RX3) (T := TX3) (N := 8) hx hb hts iX3 hown hK hP 0 rfl rfl 1 (by decide) k13 (fun _ h9 => h9) rfl dX3_drain_42 ?_
      refine lv_aload_n hx hb dX3_drain_45 rfl (lv_at hl 1 rfl) ?_
      refine va_get (D := D) (ci := 3) (v := .int (nI (no + i))) (C := RX3) (T := TX3) (N := 8) hx hb hts iX3 hown hK hP 0 rfl rfl 5 (by decide) k47 (fun _ h9 => h9) rfl dX3_drain_46 ?_
      refine lv_aload_n hx hb dX3_drain_49 rfl (lv_at hl 1 rfl) ?_
      refine lv_aload_n hx hb dX3_drain_50 rfl (lv_at hl 1 rfl) ?_
      refine hc_iV (As := []) (rest := [.ref mo, .int (nI (no + i)), .ref b2]) (wc := [(mo, .inr (3, [.ref b1, .ref b2, .ref b3, .ref b4, .int (nI (n + 1)), .int (nI (no + i)), .int (nI np), .int (nI 0)])), (b1, .inl (cI, 200, .inl u)), (b2, .inl (cI, 200, .inl v)), (b3, .inl (cI, 200, .inl fk)), (b4, .inl (cI, 200, .inl ft))]) (wr := []) (w1 := [(mo, .inr (3, [.ref b1, .ref b2, .ref b3, .ref b4, .int (nI (n + 1)), .int (nI (no + i)), .int (nI np), .int (nI 0)])), (b1, .inl (cI, 200, .inl u)), (b2, .inl (cI, 200, .inl v)), (b3, .inl (cI, 200, .inl fk)), (b4, .inl (cI, 200, .inl ft))]) (w' := [(mo, .inr (3, [.ref b1, .ref b2, .ref b3, .ref b4, .int (nI (n + 1)), .int (nI (no + i)), .int (nI np), .int (nI 0)])), (b1, .inl (cI, 200, .inl u)), (b2, .inl (cI, 200, .inl v)), (b3, .inl (cI, 200, .inl fk)), (b4, .inl (cI, 200, .inl ft))]) hF (c_X3_leastPlace l D mo b1 b2 b3 b4 cI u v fk ft (n + 1) (no + i) np (nI 0) (by omega)) (cwV 0 hts gX3_drain_X3_leastPlace rfl rfl rfl (by decide +kernel) ⟨Nat.le_of_ble_eq_true rfl, Nat.le_of_ble_eq_true rfl⟩) hP hK hD hS hA hv [0, 1, 2, 3, 4] [] [0, 1, 2, 3, 4] [0] ⟨rfl, rfl, rfl, rfl, ⟨by decide, by decide, by decide⟩, by decide⟩ 0 3 rfl rfl rfl rfl hl.1 rfl (Nat.le_of_ble_eq_true rfl) dX3_drain_51 ⟨Nat.zero_le _, Nat.zero_le _⟩ (fun H locs hP hD hS => ?_)
      refine hc_iV (As := [.int (nI (s_lp u n))]) (rest := [.int (nI (no + i)), .ref b2]) (wc := [(mo, .inr (3, [.ref b1, .ref b2, .ref b3, .ref b4, .int (nI (n + 1)), .int (nI (no + i)), .int (nI np), .int (nI 0)])), (b1, .inl (cI, 200, .inl u)), (b2, .inl (cI, 200, .inl v)), (b3, .inl (cI, 200, .inl fk)), (b4, .inl (cI, 200, .inl ft))]) (wr := []) (w1 := [(mo, .inr (3, [.ref b1, .ref b2, .ref b3, .ref b4, .int (nI n), .int (nI (no + i)), .int (nI np), .int (nI 0)])), (b1, .inl (cI, 200, .inl (s_rm u (s_lp u n) (n + 1)))), (b2, .inl (cI, 200, .inl v)), (b3, .inl (cI, 200, .inl fk)), (b4, .inl (cI, 200, .inl ft))]) (w' := [(mo, .inr (3, [.ref b1, .ref b2, .ref b3, .ref b4, .int (nI n), .int (nI (no + i)), .int (nI np), .int (nI 0)])), (b1, .inl (cI, 200, .inl (s_rm u (s_lp u n) (n + 1)))), (b2, .inl (cI, 200, .inl v)), (b3, .inl (cI, 200, .inl fk)), (b4, .inl (cI, 200, .inl ft))]) hF (c_X3_takeHeld l D mo b1 b2 b3 b4 cI u v fk ft (n + 1) (no + i) np (nI 0) (s_lp u n) (by omega) (by omega)) (cwV 1 hts gX3_drain_X3_takeHeld rfl rfl rfl (by decide +kernel) ⟨Nat.le_of_ble_eq_true rfl, Nat.le_of_ble_eq_true rfl⟩) hP hK hD hS hA hv [0, 1, 2, 3, 4] [] [0, 1, 2, 3, 4] [0] ⟨rfl, rfl, rfl, rfl, ⟨by decide, by decide, by decide⟩, by decide⟩ 0 3 rfl rfl rfl rfl hl.1 rfl (Nat.le_of_ble_eq_true rfl) dX3_drain_54 ⟨Nat.zero_le _, Nat.zero_le _⟩ (fun H locs hP hD hS => ?_)
      refine h_iast hx hb hK hP hD hS 2 0 rfl rfl (by decide) (by omega) dX3_drain_57 (fun H locs hP hD hS => ?_)
      have hP : va_P D vwCl [(mo, .inr (3, [.ref b1, .ref b2, .ref b3, .ref b4, .int (nI n), .int (nI (no + i)), .int (nI np), .int (nI 0)])), (b1, .inl (cI, 200, .inl (s_rm u (s_lp u n) (n + 1)))), (b2, .inl (cI, 200, .inl (upd v (no + i) (u (s_lp u n))))), (b3, .inl (cI, 200, .inl fk)), (b4, .inl (cI, 200, .inl ft))] H := hP
      have hD : va_D A [(mo, .inr (3, [.ref b1, .ref b2, .ref b3, .ref b4, .int (nI n), .int (nI (no + i)), .int (nI np), .int (nI 0)])), (b1, .inl (cI, 200, .inl (s_rm u (s_lp u n) (n + 1)))), (b2, .inl (cI, 200, .inl (upd v (no + i) (u (s_lp u n))))), (b3, .inl (cI, 200, .inl fk)), (b4, .inl (cI, 200, .inl ft))] := hD
      refine lv_aload_n hx hb dX3_drain_58 rfl (lv_at hl 1 rfl) ?_
      refine lv_dup hx hb dX3_drain_59 rfl ?_
      refine va_get (D := D) (ci := 3) (v := .int (nI (no + i))) (C := RX3) (T := TX3) (N := 8) hx hb hts iX3 hown hK hP 0 rfl rfl 5 (by decide) k47 (fun _ h9 => h9) rfl dX3_drain_60 ?_
      refine lv_iconst (v := 1) hx hb dX3_drain_63 (by decide) ?_
      refine lv_iadd hx hb dX3_drain_64 ?_
      refine hw_i (y := nI (no + i + 1)) (nI_1 _) ?_
      refine va_put (D := D) (ci := 3) (v := .int (nI (no + i + 1))) (ty := .int) (C := RX3) (T := TX3) (N := 8) hx hb hts iX3 tyX3 tyX3_ok nmX3 hown hK hP hD hS 0 rfl rfl 5 (by decide) k47 (fun _ h9 => h9) rfl (by decide +kernel) rfl rfl (Nat.le_of_ble_eq_true rfl) dX3_drain_65 (fun H locs hP hD hS => ?_)
      have hP : va_P D vwCl [(mo, .inr (3, [.ref b1, .ref b2, .ref b3, .ref b4, .int (nI n), .int (nI (no + i + 1)), .int (nI np), .int (nI 0)])), (b1, .inl (cI, 200, .inl (s_rm u (s_lp u n) (n + 1)))), (b2, .inl (cI, 200, .inl (upd v (no + i) (u (s_lp u n))))), (b3, .inl (cI, 200, .inl fk)), (b4, .inl (cI, 200, .inl ft))] H := hP
      have hD : va_D A [(mo, .inr (3, [.ref b1, .ref b2, .ref b3, .ref b4, .int (nI n), .int (nI (no + i + 1)), .int (nI np), .int (nI 0)])), (b1, .inl (cI, 200, .inl (s_rm u (s_lp u n) (n + 1)))), (b2, .inl (cI, 200, .inl (upd v (no + i) (u (s_lp u n))))), (b3, .inl (cI, 200, .inl fk)), (b4, .inl (cI, 200, .inl ft))] := hD
      refine lv_goto (tgt := 34) hx hb dX3_drain_68 (by decide) ?_
      exact ih (i + 1) _ _ (by omega) (by rw [← e9]; rfl) _ _ _ hP hD hS (lv_sub hl [0, 1] rfl)
  exact loop nh 0 fh fo (by omega) rfl _ _ _ hP hD hS hl
set_option maxHeartbeats 4000000 in
set_option maxRecDepth 100000 in
theorem c_X3_drainPairs (l : Launch) (D : va_G) (mo b1 b2 b3 b4 : Nat) (cI : ClassId) (fh fo fk ft : Nat → Int32) (nh no np : Nat) (th : Int32) (hc : np + no ≤ 200) : mI l yX3_drainPairs wsX3_drainPairs ({ frames := 1, cells := 0, slots := 0, locals := 22 }) [.ref mo] D [(cI, .int)] [(mo, .inr (3, [.ref b1, .ref b2, .ref b3, .ref b4, .int (nI nh), .int (nI no), .int (nI np), .int th])), (b1, .inl (cI, 200, .inl fh)), (b2, .inl (cI, 200, .inl fo)), (b3, .inl (cI, 200, .inl fk)), (b4, .inl (cI, 200, .inl ft))] [(mo, .inr (3, [.ref b1, .ref b2, .ref b3, .ref b4, .int (nI nh), .int (nI (no + np)), .int (nI 0), .int (nI 0)])), (b1, .inl (cI, 200, .inl fh)), (b2, .inl (cI, 200, .inl ((s_mp np fk ft fo no).2.2))), (b3, .inl (cI, 200, .inl ((s_mp np fk ft fo no).1))), (b4, .inl (cI, 200, .inl ((s_mp np fk ft fo no).2.1)))] (nI np) := by
  refine hI_body (cc := cX3_drainPairs) (maxL := 3) (by decide) rfl (Nat.le_of_ble_eq_true rfl) (rfl) ?_
  intro p e s m below meth cd A ls Q hat hA hP hK hD hS hl hend
  obtain ⟨hF, hr, hlocks, hv⟩ := id hat
  obtain ⟨hx, hb, hml, hown, hts⟩ := id hF
  have hown : s.vm.findClass RX3 = some m.cls := hown
  have hl : lv_has ls 3 [(0, .ref mo)] := hl
  have hP : va_P D vwCl [(mo, .inr (3, [.ref b1, .ref b2, .ref b3, .ref b4, .int (nI nh), .int (nI no), .int (nI np), .int th])), (b1, .inl (cI, 200, .inl fh)), (b2, .inl (cI, 200, .inl fo)), (b3, .inl (cI, 200, .inl fk)), (b4, .inl (cI, 200, .inl ft))] s.heap := hP
  have hD : va_D A [(mo, .inr (3, [.ref b1, .ref b2, .ref b3, .ref b4, .int (nI nh), .int (nI no), .int (nI np), .int th])), (b1, .inl (cI, 200, .inl fh)), (b2, .inl (cI, 200, .inl fo)), (b3, .inl (cI, 200, .inl fk)), (b4, .inl (cI, 200, .inl ft))] := hD
  have iX3 : ∀ w ∈ wsX30, w ∈ wsX3_drainPairs := by decide +kernel
  have k13 := hts (.fieldLink RX3 13 "HeapAndDequeModel" "row" "[I") (by decide +kernel)
  have k16 := hts (.fieldLink RX3 16 "HeapAndDequeModel" "keys" "[I") (by decide +kernel)
  have k47 := hts (.fieldLink RX3 47 "HeapAndDequeModel" "many" "I") (by decide +kernel)
  have k50 := hts (.fieldLink RX3 50 "HeapAndDequeModel" "pairs" "I") (by decide +kernel)
  refine lv_aload_n hx hb dX3_drainPairs_0 rfl (lv_at hl 0 rfl) ?_
  refine lv_aload_n hx hb dX3_drainPairs_1 rfl (lv_at hl 0 rfl) ?_
  refine va_get (D := D) (ci := 3) (v := .int (nI np)) (C := RX3) (T := TX3) (N := 8) hx hb hts iX3 hown hK hP 0 rfl rfl 6 (by decide) k50 (fun _ h9 => h9) rfl dX3_drainPairs_2 ?_
  refine lv_aload_n hx hb dX3_drainPairs_5 rfl (lv_at hl 0 rfl) ?_
  refine va_get (D := D) (ci := 3) (v := .int (nI no)) (C := RX3) (T := TX3) (N := 8) hx hb hts iX3 hown hK hP 0 rfl rfl 5 (by decide) k47 (fun _ h9 => h9) rfl dX3_drainPairs_6 ?_
  refine lv_iadd hx hb dX3_drainPairs_9 ?_
  refine hw_i (y := nI (np + no)) (nI_add _ _) ?_
  refine lv_sipush (v := nI 200) hx hb dX3_drainPairs_10 (by decide +kernel) ?_
  refine lv_icmp_le (tgt := 20) hx hb dX3_drainPairs_13 (by decide) (fun _ => ?_) (fun hn => absurd (nI_le hc (by decide)) hn)
  refine lv_iconst (v := nI 0) hx hb dX3_drainPairs_20 (by decide +kernel) ?_
  refine hc_iV (As := [.int (nI 0)]) (rest := []) (wc := [(mo, .inr (3, [.ref b1, .ref b2, .ref b3, .ref b4, .int (nI nh), .int (nI no), .int (nI np), .int th])), (b1, .inl (cI, 200, .inl fh)), (b2, .inl (cI, 200, .inl fo)), (b3, .inl (cI, 200, .inl fk)), (b4, .inl (cI, 200, .inl ft))]) (wr := []) (w1 := [(mo, .inr (3, [.ref b1, .ref b2, .ref b3, .ref b4, .int (nI nh), .int (nI no), .int (nI np), .int (nI 0)])), (b1, .inl (cI, 200, .inl fh)), (b2, .inl (cI, 200, .inl fo)), (b3, .inl (cI, 200, .inl fk)), (b4, .inl (cI, 200, .inl ft))]) (w' := [(mo, .inr (3, [.ref b1, .ref b2, .ref b3, .ref b4, .int (nI nh), .int (nI no), .int (nI np), .int (nI 0)])), (b1, .inl (cI, 200, .inl fh)), (b2, .inl (cI, 200, .inl fo)), (b3, .inl (cI, 200, .inl fk)), (b4, .inl (cI, 200, .inl ft))]) hF (c_X3_isWrong_z l D mo b1 b2 b3 b4 cI fh fo fk ft nh no np th ) (cwV 1 hts gX3_drainPairs_X3_isWrong rfl rfl rfl (by decide +kernel) ⟨Nat.le_of_ble_eq_true rfl, Nat.le_of_ble_eq_true rfl⟩) hP hK hD hS hA hv [0, 1, 2, 3, 4] [] [0, 1, 2, 3, 4] [0] ⟨rfl, rfl, rfl, rfl, ⟨by decide, by decide, by decide⟩, by decide⟩ 0 3 rfl rfl rfl rfl hl.1 rfl (Nat.le_of_ble_eq_true rfl) dX3_drainPairs_21 ⟨Nat.zero_le _, Nat.zero_le _⟩ (fun H locs hP hD hS => ?_)
  refine lv_if_eq (tgt := 29) hx hb dX3_drainPairs_24 (by decide) (fun _ => ?_) (fun hn => absurd (rfl) hn)
  refine lv_aload_n hx hb dX3_drainPairs_29 rfl (lv_at hl 0 rfl) ?_
  refine va_get (D := D) (ci := 3) (v := .int (nI np)) (C := RX3) (T := TX3) (N := 8) hx hb hts iX3 hown hK hP 0 rfl rfl 6 (by decide) k50 (fun _ h9 => h9) rfl dX3_drainPairs_30 ?_
  refine lv_istore_n (lv' := [(1, .int (nI np)), (0, .ref mo)]) hx hb dX3_drainPairs_33 rfl hl (by decide) rfl (fun ls hl => ?_)
  have loop : ∀ (n i : Nat) (u t v : Nat → Int32), i + n = np → s_mp n u t v (no + i) = s_mp np fk ft fo no → ∀ (H : Heap) (locs : List Loc) (ls : Array Slot), va_P D vwCl [(mo, .inr (3, [.ref b1, .ref b2, .ref b3, .ref b4, .int (nI nh), .int (nI (no + i)), .int (nI n), .int (nI 0)])), (b1, .inl (cI, 200, .inl fh)), (b2, .inl (cI, 200, .inl v)), (b3, .inl (cI, 200, .inl u)), (b4, .inl (cI, 200, .inl t))] H → va_D A [(mo, .inr (3, [.ref b1, .ref b2, .ref b3, .ref b4, .int (nI nh), .int (nI (no + i)), .int (nI n), .int (nI 0)])), (b1, .inl (cI, 200, .inl fh)), (b2, .inl (cI, 200, .inl v)), (b3, .inl (cI, 200, .inl u)), (b4, .inl (cI, 200, .inl t))] → va_S A s.heap H locs → lv_has ls 3 [(1, .int (nI np)), (0, .ref mo)] → W p l e ({ frames := 1, cells := 0, slots := 0, locals := 22 }) s m ([.ref mo] : List Value).toArray below meth cd H locs 0 0 Q (F0 m 34 ls []) := by
    intro n
    induction n with
    | zero =>
      intro i u t v hn e9 H locs ls hP hD hS hl
      refine lv_aload_n hx hb dX3_drainPairs_34 rfl (lv_at hl 1 rfl) ?_
      refine va_get (D := D) (ci := 3) (v := .int (nI 0)) (C := RX3) (T := TX3) (N := 8) hx hb hts iX3 hown hK hP 0 rfl rfl 6 (by decide) k50 (fun _ h9 => h9) rfl dX3_drainPairs_35 ?_
      refine lv_if_le (tgt := 79) hx hb dX3_drainPairs_38 (by decide) (fun _ => ?_) (fun hn => absurd (nI_le0) hn)
      have e8 : i = np := by omega
      refine lv_iload_n hx hb dX3_drainPairs_79 rfl (lv_at hl 0 rfl) ?_
      exact hend _ _ _ _ _ (by rw [← e9, ← e8]; exact hP) (by rw [← e9, ← e8]; exact hD) hS (rfl) dX3_drainPairs_80
    | succ n ih =>
      intro i u t v hn e9 H locs ls hP hD hS hl
      have hle := s_lq_le u t n
      refine lv_aload_n hx hb dX3_drainPairs_34 rfl (lv_at hl 1 rfl) ?_
      refine va_get (D := D) (ci := 3) (v := .int (nI (n + 1))) (C := RX3) (T := TX3) (N := 8) hx hb hts iX3 hown hK hP 0 rfl rfl 6 (by decide) k50 (fun _ h9 => h9) rfl dX3_drainPairs_35 ?_
      refine lv_if_le (tgt := 79) hx hb dX3_drainPairs_38 (by decide) (fun ht_ => absurd ht_ (nI_nle (Nat.succ_pos n) (by omega))) (fun _ => ?_)
      refine lv_aload_n hx hb dX3_drainPairs_41 rfl (lv_at hl 1 rfl) ?_
      refine hc_iV (As := []) (rest := []) (wc := [(mo, .inr (3, [.ref b1, .ref b2, .ref b3, .ref b4, .int (nI nh), .int (nI (no + i)), .int (nI (n + 1)), .int (nI 0)])), (b1, .inl (cI, 200, .inl fh)), (b2, .inl (cI, 200, .inl v)), (b3, .inl (cI, 200, .inl u)), (b4, .inl (cI, 200, .inl t))]) (wr := []) (w1 := [(mo, .inr (3, [.ref b1, .ref b2, .ref b3, .ref b4, .int (nI nh), .int (nI (no + i)), .int (nI (n + 1)), .int (nI 0)])), (b1, .inl (cI, 200, .inl fh)), (b2, .inl (cI, 200, .inl v)), (b3, .inl (cI, 200, .inl u)), (b4, .inl (cI, 200, .inl t))]) (w' := [(mo, .inr (3, [.ref b1, .ref b2, .ref b3, .ref b4, .int (nI nh), .int (nI (no + i)), .int (nI (n + 1)), .int (nI 0)])), (b1, .inl (cI, 200, .inl fh)), (b2, .inl (cI, 200, .inl v)), (b3, .inl (cI, 200, .inl u)), (b4, .inl (cI, 200, .inl t))]) hF (c_X3_leastPair l D mo b1 b2 b3 b4 cI fh v u t nh (no + i) (n + 1) (nI 0) (by omega)) (cwV 0 hts gX3_drainPairs_X3_leastPair rfl rfl rfl (by decide +kernel) ⟨Nat.le_of_ble_eq_true rfl, Nat.le_of_ble_eq_true rfl⟩) hP hK hD hS hA hv [0, 1, 2, 3, 4] [] [0, 1, 2, 3, 4] [0] ⟨rfl, rfl, rfl, rfl, ⟨by decide, by decide, by decide⟩, by decide⟩ 0 3 rfl rfl rfl rfl hl.1 rfl (Nat.le_of_ble_eq_true rfl) dX3_drainPairs_42 ⟨Nat.zero_le _, Nat.zero_le _⟩ (fun H locs hP hD hS => ?_)
      refine lv_istore_n (lv' := [(2, .int (nI (s_lq u t n))), (1, .int (nI np)), (0, .ref mo)]) hx hb dX3_drainPairs_45 rfl hl (by decide) rfl (fun ls hl => ?_)
      refine lv_aload_n hx hb dX3_drainPairs_46 rfl (lv_at hl 2 rfl) ?_
      refine va_get (D := D) (ci := 3) (v := .ref b2) (C := RX3) (T := TX3) (N := 8) hx hb hts iX3 hown hK hP 0 rfl rfl 1 (by decide) k13 (fun _ h9 => h9) rfl dX3_drainPairs_47 ?_
      refine lv_aload_n hx hb dX3_drainPairs_50 rfl (lv_at hl 2 rfl) ?_
      refine va_get (D := D) (ci := 3) (v := .int (nI (no + i))) (C := RX3) (T := TX3) (N := 8) hx hb hts iX3 hown hK hP 0 rfl rfl 5 (by decide) k47 (fun _ h9 => h9) rfl dX3_drainPairs_51 ?_
      refine lv_aload_n hx hb dX3_drainPairs_54 rfl (lv_at hl 2 rfl) ?_
      refine va_get (D := D) (ci := 3) (v := .ref b3) (C := RX3) (T := TX3) (N := 8) hx hb hts iX3 hown hK hP 0 rfl rfl 2 (by decide) k16 (fun _ h9 => h9) rfl dX3_drainPairs_55 ?_
      refine lv_iload_n hx hb dX3_drainPairs_58 rfl (lv_at hl 0 rfl) ?_
      refine h_iald hx hb hK hP 3 0 rfl rfl (by decide) (by omega) dX3_drainPairs_59 ?_
      refine h_iast hx hb hK hP hD hS 2 0 rfl rfl (by decide) (by omega) dX3_drainPairs_60 (fun H locs hP hD hS => ?_)
      have hP : va_P D vwCl [(mo, .inr (3, [.ref b1, .ref b2, .ref b3, .ref b4, .int (nI nh), .int (nI (no + i)), .int (nI (n + 1)), .int (nI 0)])), (b1, .inl (cI, 200, .inl fh)), (b2, .inl (cI, 200, .inl (upd v (no + i) (u (s_lq u t n))))), (b3, .inl (cI, 200, .inl u)), (b4, .inl (cI, 200, .inl t))] H := hP
      have hD : va_D A [(mo, .inr (3, [.ref b1, .ref b2, .ref b3, .ref b4, .int (nI nh), .int (nI (no + i)), .int (nI (n + 1)), .int (nI 0)])), (b1, .inl (cI, 200, .inl fh)), (b2, .inl (cI, 200, .inl (upd v (no + i) (u (s_lq u t n))))), (b3, .inl (cI, 200, .inl u)), (b4, .inl (cI, 200, .inl t))] := hD
      refine lv_aload_n hx hb dX3_drainPairs_61 rfl (lv_at hl 2 rfl) ?_
      refine lv_dup hx hb dX3_drainPairs_62 rfl ?_
      refine va_get (D := D) (ci := 3) (v := .int (nI (no + i))) (C := RX3) (T := TX3) (N := 8) hx hb hts iX3 hown hK hP 0 rfl rfl 5 (by decide) k47 (fun _ h9 => h9) rfl dX3_drainPairs_63 ?_
      refine lv_iconst (v := 1) hx hb dX3_drainPairs_66 (by decide) ?_
      refine lv_iadd hx hb dX3_drainPairs_67 ?_
      refine hw_i (y := nI (no + i + 1)) (nI_1 _) ?_
      refine va_put (D := D) (ci := 3) (v := .int (nI (no + i + 1))) (ty := .int) (C := RX3) (T := TX3) (N := 8) hx hb hts iX3 tyX3 tyX3_ok nmX3 hown hK hP hD hS 0 rfl rfl 5 (by decide) k47 (fun _ h9 => h9) rfl (by decide +kernel) rfl rfl (Nat.le_of_ble_eq_true rfl) dX3_drainPairs_68 (fun H locs hP hD hS => ?_)
      have hP : va_P D vwCl [(mo, .inr (3, [.ref b1, .ref b2, .ref b3, .ref b4, .int (nI nh), .int (nI (no + i + 1)), .int (nI (n + 1)), .int (nI 0)])), (b1, .inl (cI, 200, .inl fh)), (b2, .inl (cI, 200, .inl (upd v (no + i) (u (s_lq u t n))))), (b3, .inl (cI, 200, .inl u)), (b4, .inl (cI, 200, .inl t))] H := hP
      have hD : va_D A [(mo, .inr (3, [.ref b1, .ref b2, .ref b3, .ref b4, .int (nI nh), .int (nI (no + i + 1)), .int (nI (n + 1)), .int (nI 0)])), (b1, .inl (cI, 200, .inl fh)), (b2, .inl (cI, 200, .inl (upd v (no + i) (u (s_lq u t n))))), (b3, .inl (cI, 200, .inl u)), (b4, .inl (cI, 200, .inl t))] := hD
      refine lv_aload_n hx hb dX3_drainPairs_71 rfl (lv_at hl 2 rfl) ?_
      refine lv_iload_n hx hb dX3_drainPairs_72 rfl (lv_at hl 0 rfl) ?_
      refine hc_vV (As := [.int (nI (s_lq u t n))]) (rest := []) (wc := [(mo, .inr (3, [.ref b1, .ref b2, .ref b3, .ref b4, .int (nI nh), .int (nI (no + i + 1)), .int (nI (n + 1)), .int (nI 0)])), (b1, .inl (cI, 200, .inl fh)), (b2, .inl (cI, 200, .inl (upd v (no + i) (u (s_lq u t n))))), (b3, .inl (cI, 200, .inl u)), (b4, .inl (cI, 200, .inl t))]) (wr := []) (w1 := [(mo, .inr (3, [.ref b1, .ref b2, .ref b3, .ref b4, .int (nI nh), .int (nI (no + i + 1)), .int (nI n), .int (nI 0)])), (b1, .inl (cI, 200, .inl fh)), (b2, .inl (cI, 200, .inl (upd v (no + i) (u (s_lq u t n))))), (b3, .inl (cI, 200, .inl (s_rm u (s_lq u t n) (n + 1)))), (b4, .inl (cI, 200, .inl (s_rm t (s_lq u t n) (n + 1))))]) (w' := [(mo, .inr (3, [.ref b1, .ref b2, .ref b3, .ref b4, .int (nI nh), .int (nI (no + i + 1)), .int (nI n), .int (nI 0)])), (b1, .inl (cI, 200, .inl fh)), (b2, .inl (cI, 200, .inl (upd v (no + i) (u (s_lq u t n))))), (b3, .inl (cI, 200, .inl (s_rm u (s_lq u t n) (n + 1)))), (b4, .inl (cI, 200, .inl (s_rm t (s_lq u t n) (n + 1))))]) hF (c_X3_takePair l D mo b1 b2 b3 b4 cI fh (upd v (no + i) (u (s_lq u t n))) u t nh (no + i + 1) (n + 1) (nI 0) (s_lq u t n) (by omega) (by omega)) (cwV 1 hts gX3_drainPairs_X3_takePair rfl rfl rfl (by decide +kernel) ⟨Nat.le_of_ble_eq_true rfl, Nat.le_of_ble_eq_true rfl⟩) hP hK hD hS hA hv [0, 1, 2, 3, 4] [] [0, 1, 2, 3, 4] [0] ⟨rfl, rfl, rfl, rfl, ⟨by decide, by decide, by decide⟩, by decide⟩ 0 3 rfl rfl rfl rfl hl.1 rfl (Nat.le_of_ble_eq_true rfl) dX3_drainPairs_73 ⟨Nat.zero_le _, Nat.zero_le _⟩ (fun H locs hP hD hS => ?_)
      refine lv_goto (tgt := 34) hx hb dX3_drainPairs_76 (by decide) ?_
      exact ih (i + 1) _ _ _ (by omega) (by rw [← e9]; rfl) _ _ _ hP hD hS (lv_sub hl [1, 2] rfl)
  exact loop np 0 fk ft fo (by omega) rfl _ _ _ hP hD hS hl
set_option maxHeartbeats 4000000 in
set_option maxRecDepth 100000 in
theorem c_X3_offerPair (l : Launch) (D : va_G) (mo b1 b2 b3 b4 : Nat) (cI : ClassId) (fh fo fk ft : Nat → Int32) (nh no np : Nat) (th : Int32) (k t : Int32) (ht0 : ¬ t < 0) (ht1 : t ≤ nI 999) (hc : np < 200) : mI l yX3_offerPair wsX3_offerPair ({ frames := 2, cells := 0, slots := 0, locals := 42 }) [.ref mo, .int k, .int t] D [(cI, .int)] [(mo, .inr (3, [.ref b1, .ref b2, .ref b3, .ref b4, .int (nI nh), .int (nI no), .int (nI np), .int th])), (b1, .inl (cI, 200, .inl fh)), (b2, .inl (cI, 200, .inl fo)), (b3, .inl (cI, 200, .inl fk)), (b4, .inl (cI, 200, .inl ft))] [(mo, .inr (3, [.ref b1, .ref b2, .ref b3, .ref b4, .int (nI nh), .int (nI no), .int (nI (np + 1)), .int (nI 0)])), (b1, .inl (cI, 200, .inl fh)), (b2, .inl (cI, 200, .inl fo)), (b3, .inl (cI, 200, .inl (upd fk np k))), (b4, .inl (cI, 200, .inl (upd ft np t)))] (nI (np + 1)) := by
  refine hI_body (cc := cX3_offerPair) (maxL := 3) (by decide) rfl (Nat.le_of_ble_eq_true rfl) (rfl) ?_
  intro p e s m below meth cd A ls Q hat hA hP hK hD hS hl hend
  obtain ⟨hF, hr, hlocks, hv⟩ := id hat
  obtain ⟨hx, hb, hml, hown, hts⟩ := id hF
  have hown : s.vm.findClass RX3 = some m.cls := hown
  have hl : lv_has ls 3 [(0, .ref mo), (1, .int k), (2, .int t)] := hl
  have hP : va_P D vwCl [(mo, .inr (3, [.ref b1, .ref b2, .ref b3, .ref b4, .int (nI nh), .int (nI no), .int (nI np), .int th])), (b1, .inl (cI, 200, .inl fh)), (b2, .inl (cI, 200, .inl fo)), (b3, .inl (cI, 200, .inl fk)), (b4, .inl (cI, 200, .inl ft))] s.heap := hP
  have hD : va_D A [(mo, .inr (3, [.ref b1, .ref b2, .ref b3, .ref b4, .int (nI nh), .int (nI no), .int (nI np), .int th])), (b1, .inl (cI, 200, .inl fh)), (b2, .inl (cI, 200, .inl fo)), (b3, .inl (cI, 200, .inl fk)), (b4, .inl (cI, 200, .inl ft))] := hD
  have iX3 : ∀ w ∈ wsX30, w ∈ wsX3_offerPair := by decide +kernel
  have k16 := hts (.fieldLink RX3 16 "HeapAndDequeModel" "keys" "[I") (by decide +kernel)
  have k19 := hts (.fieldLink RX3 19 "HeapAndDequeModel" "tags" "[I") (by decide +kernel)
  have k50 := hts (.fieldLink RX3 50 "HeapAndDequeModel" "pairs" "I") (by decide +kernel)
  refine lv_aload_n hx hb dX3_offerPair_0 rfl (lv_at hl 0 rfl) ?_
  refine lv_iload_n hx hb dX3_offerPair_1 rfl (lv_at hl 2 rfl) ?_
  refine hc_iV (As := [.int t]) (rest := []) (wc := [(mo, .inr (3, [.ref b1, .ref b2, .ref b3, .ref b4, .int (nI nh), .int (nI no), .int (nI np), .int th])), (b1, .inl (cI, 200, .inl fh)), (b2, .inl (cI, 200, .inl fo)), (b3, .inl (cI, 200, .inl fk)), (b4, .inl (cI, 200, .inl ft))]) (wr := []) (w1 := [(mo, .inr (3, [.ref b1, .ref b2, .ref b3, .ref b4, .int (nI nh), .int (nI no), .int (nI np), .int (nI 0)])), (b1, .inl (cI, 200, .inl fh)), (b2, .inl (cI, 200, .inl fo)), (b3, .inl (cI, 200, .inl fk)), (b4, .inl (cI, 200, .inl ft))]) (w' := [(mo, .inr (3, [.ref b1, .ref b2, .ref b3, .ref b4, .int (nI nh), .int (nI no), .int (nI np), .int (nI 0)])), (b1, .inl (cI, 200, .inl fh)), (b2, .inl (cI, 200, .inl fo)), (b3, .inl (cI, 200, .inl fk)), (b4, .inl (cI, 200, .inl ft))]) hF (c_X3_isNoTag l D mo b1 b2 b3 b4 cI fh fo fk ft nh no np th t ht0 ht1) (cwV 1 hts gX3_offerPair_X3_isNoTag rfl rfl rfl (by decide +kernel) ⟨Nat.le_of_ble_eq_true rfl, Nat.le_of_ble_eq_true rfl⟩) hP hK hD hS hA hv [0, 1, 2, 3, 4] [] [0, 1, 2, 3, 4] [0] ⟨rfl, rfl, rfl, rfl, ⟨by decide, by decide, by decide⟩, by decide⟩ 0 3 rfl rfl rfl rfl hl.1 rfl (Nat.le_of_ble_eq_true rfl) dX3_offerPair_2 ⟨Nat.zero_le _, Nat.zero_le _⟩ (fun H locs hP hD hS => ?_)
  refine lv_if_ne (tgt := 30) hx hb dX3_offerPair_5 (by decide) (fun ht_ => absurd (rfl) ht_) (fun _ => ?_)
  refine lv_aload_n hx hb dX3_offerPair_8 rfl (lv_at hl 0 rfl) ?_
  refine lv_aload_n hx hb dX3_offerPair_9 rfl (lv_at hl 0 rfl) ?_
  refine va_get (D := D) (ci := 3) (v := .int (nI np)) (C := RX3) (T := TX3) (N := 8) hx hb hts iX3 hown hK hP 0 rfl rfl 6 (by decide) k50 (fun _ h9 => h9) rfl dX3_offerPair_10 ?_
  refine lv_sipush (v := nI 200) hx hb dX3_offerPair_13 (by decide +kernel) ?_
  refine lv_icmp_ne (tgt := 23) hx hb dX3_offerPair_16 (by decide) (fun _ => ?_) (fun hn => absurd hn (fun h => absurd ((nI_eq (by omega) (by decide)).mp h) (by omega)))
  refine lv_iconst (v := nI 0) hx hb dX3_offerPair_23 (by decide +kernel) ?_
  refine hc_iV (As := [.int (nI 0)]) (rest := []) (wc := [(mo, .inr (3, [.ref b1, .ref b2, .ref b3, .ref b4, .int (nI nh), .int (nI no), .int (nI np), .int (nI 0)])), (b1, .inl (cI, 200, .inl fh)), (b2, .inl (cI, 200, .inl fo)), (b3, .inl (cI, 200, .inl fk)), (b4, .inl (cI, 200, .inl ft))]) (wr := []) (w1 := [(mo, .inr (3, [.ref b1, .ref b2, .ref b3, .ref b4, .int (nI nh), .int (nI no), .int (nI np), .int (nI 0)])), (b1, .inl (cI, 200, .inl fh)), (b2, .inl (cI, 200, .inl fo)), (b3, .inl (cI, 200, .inl fk)), (b4, .inl (cI, 200, .inl ft))]) (w' := [(mo, .inr (3, [.ref b1, .ref b2, .ref b3, .ref b4, .int (nI nh), .int (nI no), .int (nI np), .int (nI 0)])), (b1, .inl (cI, 200, .inl fh)), (b2, .inl (cI, 200, .inl fo)), (b3, .inl (cI, 200, .inl fk)), (b4, .inl (cI, 200, .inl ft))]) hF (c_X3_isWrong_z l D mo b1 b2 b3 b4 cI fh fo fk ft nh no np (nI 0) ) (cwV 1 hts gX3_offerPair_X3_isWrong rfl rfl rfl (by decide +kernel) ⟨Nat.le_of_ble_eq_true rfl, Nat.le_of_ble_eq_true rfl⟩) hP hK hD hS hA hv [0, 1, 2, 3, 4] [] [0, 1, 2, 3, 4] [0] ⟨rfl, rfl, rfl, rfl, ⟨by decide, by decide, by decide⟩, by decide⟩ 0 3 rfl rfl rfl rfl hl.1 rfl (Nat.le_of_ble_eq_true rfl) dX3_offerPair_24 ⟨Nat.zero_le _, Nat.zero_le _⟩ (fun H locs hP hD hS => ?_)
  refine lv_if_eq (tgt := 32) hx hb dX3_offerPair_27 (by decide) (fun _ => ?_) (fun hn => absurd (rfl) hn)
  refine lv_aload_n hx hb dX3_offerPair_32 rfl (lv_at hl 0 rfl) ?_
  refine va_get (D := D) (ci := 3) (v := .ref b3) (C := RX3) (T := TX3) (N := 8) hx hb hts iX3 hown hK hP 0 rfl rfl 2 (by decide) k16 (fun _ h9 => h9) rfl dX3_offerPair_33 ?_
  refine lv_aload_n hx hb dX3_offerPair_36 rfl (lv_at hl 0 rfl) ?_
  refine va_get (D := D) (ci := 3) (v := .int (nI np)) (C := RX3) (T := TX3) (N := 8) hx hb hts iX3 hown hK hP 0 rfl rfl 6 (by decide) k50 (fun _ h9 => h9) rfl dX3_offerPair_37 ?_
  refine lv_iload_n hx hb dX3_offerPair_40 rfl (lv_at hl 1 rfl) ?_
  refine h_iast hx hb hK hP hD hS 3 0 rfl rfl (by decide) (by omega) dX3_offerPair_41 (fun H locs hP hD hS => ?_)
  have hP : va_P D vwCl [(mo, .inr (3, [.ref b1, .ref b2, .ref b3, .ref b4, .int (nI nh), .int (nI no), .int (nI np), .int (nI 0)])), (b1, .inl (cI, 200, .inl fh)), (b2, .inl (cI, 200, .inl fo)), (b3, .inl (cI, 200, .inl (upd fk np k))), (b4, .inl (cI, 200, .inl ft))] H := hP
  have hD : va_D A [(mo, .inr (3, [.ref b1, .ref b2, .ref b3, .ref b4, .int (nI nh), .int (nI no), .int (nI np), .int (nI 0)])), (b1, .inl (cI, 200, .inl fh)), (b2, .inl (cI, 200, .inl fo)), (b3, .inl (cI, 200, .inl (upd fk np k))), (b4, .inl (cI, 200, .inl ft))] := hD
  refine lv_aload_n hx hb dX3_offerPair_42 rfl (lv_at hl 0 rfl) ?_
  refine va_get (D := D) (ci := 3) (v := .ref b4) (C := RX3) (T := TX3) (N := 8) hx hb hts iX3 hown hK hP 0 rfl rfl 3 (by decide) k19 (fun _ h9 => h9) rfl dX3_offerPair_43 ?_
  refine lv_aload_n hx hb dX3_offerPair_46 rfl (lv_at hl 0 rfl) ?_
  refine va_get (D := D) (ci := 3) (v := .int (nI np)) (C := RX3) (T := TX3) (N := 8) hx hb hts iX3 hown hK hP 0 rfl rfl 6 (by decide) k50 (fun _ h9 => h9) rfl dX3_offerPair_47 ?_
  refine lv_iload_n hx hb dX3_offerPair_50 rfl (lv_at hl 2 rfl) ?_
  refine h_iast hx hb hK hP hD hS 4 0 rfl rfl (by decide) (by omega) dX3_offerPair_51 (fun H locs hP hD hS => ?_)
  have hP : va_P D vwCl [(mo, .inr (3, [.ref b1, .ref b2, .ref b3, .ref b4, .int (nI nh), .int (nI no), .int (nI np), .int (nI 0)])), (b1, .inl (cI, 200, .inl fh)), (b2, .inl (cI, 200, .inl fo)), (b3, .inl (cI, 200, .inl (upd fk np k))), (b4, .inl (cI, 200, .inl (upd ft np t)))] H := hP
  have hD : va_D A [(mo, .inr (3, [.ref b1, .ref b2, .ref b3, .ref b4, .int (nI nh), .int (nI no), .int (nI np), .int (nI 0)])), (b1, .inl (cI, 200, .inl fh)), (b2, .inl (cI, 200, .inl fo)), (b3, .inl (cI, 200, .inl (upd fk np k))), (b4, .inl (cI, 200, .inl (upd ft np t)))] := hD
  refine lv_aload_n hx hb dX3_offerPair_52 rfl (lv_at hl 0 rfl) ?_
  refine lv_dup hx hb dX3_offerPair_53 rfl ?_
  refine va_get (D := D) (ci := 3) (v := .int (nI np)) (C := RX3) (T := TX3) (N := 8) hx hb hts iX3 hown hK hP 0 rfl rfl 6 (by decide) k50 (fun _ h9 => h9) rfl dX3_offerPair_54 ?_
  refine lv_iconst (v := 1) hx hb dX3_offerPair_57 (by decide) ?_
  refine lv_iadd hx hb dX3_offerPair_58 ?_
  refine hw_i (y := nI (np + 1)) (nI_1 _) ?_
  refine va_put (D := D) (ci := 3) (v := .int (nI (np + 1))) (ty := .int) (C := RX3) (T := TX3) (N := 8) hx hb hts iX3 tyX3 tyX3_ok nmX3 hown hK hP hD hS 0 rfl rfl 6 (by decide) k50 (fun _ h9 => h9) rfl (by decide +kernel) rfl rfl (Nat.le_of_ble_eq_true rfl) dX3_offerPair_59 (fun H locs hP hD hS => ?_)
  have hP : va_P D vwCl [(mo, .inr (3, [.ref b1, .ref b2, .ref b3, .ref b4, .int (nI nh), .int (nI no), .int (nI (np + 1)), .int (nI 0)])), (b1, .inl (cI, 200, .inl fh)), (b2, .inl (cI, 200, .inl fo)), (b3, .inl (cI, 200, .inl (upd fk np k))), (b4, .inl (cI, 200, .inl (upd ft np t)))] H := hP
  have hD : va_D A [(mo, .inr (3, [.ref b1, .ref b2, .ref b3, .ref b4, .int (nI nh), .int (nI no), .int (nI (np + 1)), .int (nI 0)])), (b1, .inl (cI, 200, .inl fh)), (b2, .inl (cI, 200, .inl fo)), (b3, .inl (cI, 200, .inl (upd fk np k))), (b4, .inl (cI, 200, .inl (upd ft np t)))] := hD
  refine lv_aload_n hx hb dX3_offerPair_62 rfl (lv_at hl 0 rfl) ?_
  refine va_get (D := D) (ci := 3) (v := .int (nI (np + 1))) (C := RX3) (T := TX3) (N := 8) hx hb hts iX3 hown hK hP 0 rfl rfl 6 (by decide) k50 (fun _ h9 => h9) rfl dX3_offerPair_63 ?_
  exact hend _ _ _ _ _ hP hD hS (rfl) dX3_offerPair_66
set_option maxHeartbeats 4000000 in
set_option maxRecDepth 100000 in
theorem c_X3_offerPair_x (l : Launch) (D : va_G) (mo b1 b2 b3 b4 : Nat) (cI : ClassId) (fh fo fk ft : Nat → Int32) (nh no : Nat) (th : Int32) (k t : Int32) (ht0 : ¬ t < 0) (ht1 : t ≤ nI 999) : mI l yX3_offerPair wsX3_offerPair ({ frames := 2, cells := 0, slots := 0, locals := 42 }) [.ref mo, .int k, .int t] D [(cI, .int)] [(mo, .inr (3, [.ref b1, .ref b2, .ref b3, .ref b4, .int (nI nh), .int (nI no), .int (nI 200), .int th])), (b1, .inl (cI, 200, .inl fh)), (b2, .inl (cI, 200, .inl fo)), (b3, .inl (cI, 200, .inl fk)), (b4, .inl (cI, 200, .inl ft))] [(mo, .inr (3, [.ref b1, .ref b2, .ref b3, .ref b4, .int (nI nh), .int (nI no), .int (nI 200), .int 2])), (b1, .inl (cI, 200, .inl fh)), (b2, .inl (cI, 200, .inl fo)), (b3, .inl (cI, 200, .inl fk)), (b4, .inl (cI, 200, .inl ft))] (0) := by
  refine hI_body (cc := cX3_offerPair) (maxL := 3) (by decide) rfl (Nat.le_of_ble_eq_true rfl) (rfl) ?_
  intro p e s m below meth cd A ls Q hat hA hP hK hD hS hl hend
  obtain ⟨hF, hr, hlocks, hv⟩ := id hat
  obtain ⟨hx, hb, hml, hown, hts⟩ := id hF
  have hown : s.vm.findClass RX3 = some m.cls := hown
  have hl : lv_has ls 3 [(0, .ref mo), (1, .int k), (2, .int t)] := hl
  have hP : va_P D vwCl [(mo, .inr (3, [.ref b1, .ref b2, .ref b3, .ref b4, .int (nI nh), .int (nI no), .int (nI 200), .int th])), (b1, .inl (cI, 200, .inl fh)), (b2, .inl (cI, 200, .inl fo)), (b3, .inl (cI, 200, .inl fk)), (b4, .inl (cI, 200, .inl ft))] s.heap := hP
  have hD : va_D A [(mo, .inr (3, [.ref b1, .ref b2, .ref b3, .ref b4, .int (nI nh), .int (nI no), .int (nI 200), .int th])), (b1, .inl (cI, 200, .inl fh)), (b2, .inl (cI, 200, .inl fo)), (b3, .inl (cI, 200, .inl fk)), (b4, .inl (cI, 200, .inl ft))] := hD
  have iX3 : ∀ w ∈ wsX30, w ∈ wsX3_offerPair := by decide +kernel
  have k16 := hts (.fieldLink RX3 16 "HeapAndDequeModel" "keys" "[I") (by decide +kernel)
  have k19 := hts (.fieldLink RX3 19 "HeapAndDequeModel" "tags" "[I") (by decide +kernel)
  have k50 := hts (.fieldLink RX3 50 "HeapAndDequeModel" "pairs" "I") (by decide +kernel)
  refine lv_aload_n hx hb dX3_offerPair_0 rfl (lv_at hl 0 rfl) ?_
  refine lv_iload_n hx hb dX3_offerPair_1 rfl (lv_at hl 2 rfl) ?_
  refine hc_iV (As := [.int t]) (rest := []) (wc := [(mo, .inr (3, [.ref b1, .ref b2, .ref b3, .ref b4, .int (nI nh), .int (nI no), .int (nI 200), .int th])), (b1, .inl (cI, 200, .inl fh)), (b2, .inl (cI, 200, .inl fo)), (b3, .inl (cI, 200, .inl fk)), (b4, .inl (cI, 200, .inl ft))]) (wr := []) (w1 := [(mo, .inr (3, [.ref b1, .ref b2, .ref b3, .ref b4, .int (nI nh), .int (nI no), .int (nI 200), .int (nI 0)])), (b1, .inl (cI, 200, .inl fh)), (b2, .inl (cI, 200, .inl fo)), (b3, .inl (cI, 200, .inl fk)), (b4, .inl (cI, 200, .inl ft))]) (w' := [(mo, .inr (3, [.ref b1, .ref b2, .ref b3, .ref b4, .int (nI nh), .int (nI no), .int (nI 200), .int (nI 0)])), (b1, .inl (cI, 200, .inl fh)), (b2, .inl (cI, 200, .inl fo)), (b3, .inl (cI, 200, .inl fk)), (b4, .inl (cI, 200, .inl ft))]) hF (c_X3_isNoTag l D mo b1 b2 b3 b4 cI fh fo fk ft nh no 200 th t ht0 ht1) (cwV 1 hts gX3_offerPair_X3_isNoTag rfl rfl rfl (by decide +kernel) ⟨Nat.le_of_ble_eq_true rfl, Nat.le_of_ble_eq_true rfl⟩) hP hK hD hS hA hv [0, 1, 2, 3, 4] [] [0, 1, 2, 3, 4] [0] ⟨rfl, rfl, rfl, rfl, ⟨by decide, by decide, by decide⟩, by decide⟩ 0 3 rfl rfl rfl rfl hl.1 rfl (Nat.le_of_ble_eq_true rfl) dX3_offerPair_2 ⟨Nat.zero_le _, Nat.zero_le _⟩ (fun H locs hP hD hS => ?_)
  refine lv_if_ne (tgt := 30) hx hb dX3_offerPair_5 (by decide) (fun ht_ => absurd (rfl) ht_) (fun _ => ?_)
  refine lv_aload_n hx hb dX3_offerPair_8 rfl (lv_at hl 0 rfl) ?_
  refine lv_aload_n hx hb dX3_offerPair_9 rfl (lv_at hl 0 rfl) ?_
  refine va_get (D := D) (ci := 3) (v := .int (nI 200)) (C := RX3) (T := TX3) (N := 8) hx hb hts iX3 hown hK hP 0 rfl rfl 6 (by decide) k50 (fun _ h9 => h9) rfl dX3_offerPair_10 ?_
  refine lv_sipush (v := nI 200) hx hb dX3_offerPair_13 (by decide +kernel) ?_
  refine lv_icmp_ne (tgt := 23) hx hb dX3_offerPair_16 (by decide) (fun ht_ => absurd (rfl) ht_) (fun _ => ?_)
  refine lv_iconst (v := 2) hx hb dX3_offerPair_19 (by decide) ?_
  refine lv_goto (tgt := 24) hx hb dX3_offerPair_20 (by decide) ?_
  refine hc_iV (As := [.int 2]) (rest := []) (wc := [(mo, .inr (3, [.ref b1, .ref b2, .ref b3, .ref b4, .int (nI nh), .int (nI no), .int (nI 200), .int (nI 0)])), (b1, .inl (cI, 200, .inl fh)), (b2, .inl (cI, 200, .inl fo)), (b3, .inl (cI, 200, .inl fk)), (b4, .inl (cI, 200, .inl ft))]) (wr := []) (w1 := [(mo, .inr (3, [.ref b1, .ref b2, .ref b3, .ref b4, .int (nI nh), .int (nI no), .int (nI 200), .int 2])), (b1, .inl (cI, 200, .inl fh)), (b2, .inl (cI, 200, .inl fo)), (b3, .inl (cI, 200, .inl fk)), (b4, .inl (cI, 200, .inl ft))]) (w' := [(mo, .inr (3, [.ref b1, .ref b2, .ref b3, .ref b4, .int (nI nh), .int (nI no), .int (nI 200), .int 2])), (b1, .inl (cI, 200, .inl fh)), (b2, .inl (cI, 200, .inl fo)), (b3, .inl (cI, 200, .inl fk)), (b4, .inl (cI, 200, .inl ft))]) hF (c_X3_isWrong_k l D mo b1 b2 b3 b4 cI fh fo fk ft nh no 200 (nI 0) 2 (by decide)) (cwV 1 hts gX3_offerPair_X3_isWrong rfl rfl rfl (by decide +kernel) ⟨Nat.le_of_ble_eq_true rfl, Nat.le_of_ble_eq_true rfl⟩) hP hK hD hS hA hv [0, 1, 2, 3, 4] [] [0, 1, 2, 3, 4] [0] ⟨rfl, rfl, rfl, rfl, ⟨by decide, by decide, by decide⟩, by decide⟩ 0 3 rfl rfl rfl rfl hl.1 rfl (Nat.le_of_ble_eq_true rfl) dX3_offerPair_24 ⟨Nat.zero_le _, Nat.zero_le _⟩ (fun H locs hP hD hS => ?_)
  refine lv_if_eq (tgt := 32) hx hb dX3_offerPair_27 (by decide) (fun ht_ => absurd ht_ (by decide)) (fun _ => ?_)
  refine lv_iconst (v := 0) hx hb dX3_offerPair_30 (by decide) ?_
  exact hend _ _ _ _ _ hP hD hS (rfl) dX3_offerPair_31
set_option maxHeartbeats 4000000 in
set_option maxRecDepth 100000 in
theorem c_X3_offerPair_t (l : Launch) (D : va_G) (mo b1 b2 b3 b4 : Nat) (cI : ClassId) (fh fo fk ft : Nat → Int32) (nh no np : Nat) (th : Int32) (k t : Int32) (ht : t < 0 ∨ ¬ t ≤ nI 999) : mI l yX3_offerPair wsX3_offerPair ({ frames := 2, cells := 0, slots := 0, locals := 42 }) [.ref mo, .int k, .int t] D [(cI, .int)] [(mo, .inr (3, [.ref b1, .ref b2, .ref b3, .ref b4, .int (nI nh), .int (nI no), .int (nI np), .int th])), (b1, .inl (cI, 200, .inl fh)), (b2, .inl (cI, 200, .inl fo)), (b3, .inl (cI, 200, .inl fk)), (b4, .inl (cI, 200, .inl ft))] [(mo, .inr (3, [.ref b1, .ref b2, .ref b3, .ref b4, .int (nI nh), .int (nI no), .int (nI np), .int 1])), (b1, .inl (cI, 200, .inl fh)), (b2, .inl (cI, 200, .inl fo)), (b3, .inl (cI, 200, .inl fk)), (b4, .inl (cI, 200, .inl ft))] (0) := by
  refine hI_body (cc := cX3_offerPair) (maxL := 3) (by decide) rfl (Nat.le_of_ble_eq_true rfl) (rfl) ?_
  intro p e s m below meth cd A ls Q hat hA hP hK hD hS hl hend
  obtain ⟨hF, hr, hlocks, hv⟩ := id hat
  obtain ⟨hx, hb, hml, hown, hts⟩ := id hF
  have hown : s.vm.findClass RX3 = some m.cls := hown
  have hl : lv_has ls 3 [(0, .ref mo), (1, .int k), (2, .int t)] := hl
  have hP : va_P D vwCl [(mo, .inr (3, [.ref b1, .ref b2, .ref b3, .ref b4, .int (nI nh), .int (nI no), .int (nI np), .int th])), (b1, .inl (cI, 200, .inl fh)), (b2, .inl (cI, 200, .inl fo)), (b3, .inl (cI, 200, .inl fk)), (b4, .inl (cI, 200, .inl ft))] s.heap := hP
  have hD : va_D A [(mo, .inr (3, [.ref b1, .ref b2, .ref b3, .ref b4, .int (nI nh), .int (nI no), .int (nI np), .int th])), (b1, .inl (cI, 200, .inl fh)), (b2, .inl (cI, 200, .inl fo)), (b3, .inl (cI, 200, .inl fk)), (b4, .inl (cI, 200, .inl ft))] := hD
  have iX3 : ∀ w ∈ wsX30, w ∈ wsX3_offerPair := by decide +kernel
  have k16 := hts (.fieldLink RX3 16 "HeapAndDequeModel" "keys" "[I") (by decide +kernel)
  have k19 := hts (.fieldLink RX3 19 "HeapAndDequeModel" "tags" "[I") (by decide +kernel)
  have k50 := hts (.fieldLink RX3 50 "HeapAndDequeModel" "pairs" "I") (by decide +kernel)
  refine lv_aload_n hx hb dX3_offerPair_0 rfl (lv_at hl 0 rfl) ?_
  refine lv_iload_n hx hb dX3_offerPair_1 rfl (lv_at hl 2 rfl) ?_
  refine hc_iV (As := [.int t]) (rest := []) (wc := [(mo, .inr (3, [.ref b1, .ref b2, .ref b3, .ref b4, .int (nI nh), .int (nI no), .int (nI np), .int th])), (b1, .inl (cI, 200, .inl fh)), (b2, .inl (cI, 200, .inl fo)), (b3, .inl (cI, 200, .inl fk)), (b4, .inl (cI, 200, .inl ft))]) (wr := []) (w1 := [(mo, .inr (3, [.ref b1, .ref b2, .ref b3, .ref b4, .int (nI nh), .int (nI no), .int (nI np), .int 1])), (b1, .inl (cI, 200, .inl fh)), (b2, .inl (cI, 200, .inl fo)), (b3, .inl (cI, 200, .inl fk)), (b4, .inl (cI, 200, .inl ft))]) (w' := [(mo, .inr (3, [.ref b1, .ref b2, .ref b3, .ref b4, .int (nI nh), .int (nI no), .int (nI np), .int 1])), (b1, .inl (cI, 200, .inl fh)), (b2, .inl (cI, 200, .inl fo)), (b3, .inl (cI, 200, .inl fk)), (b4, .inl (cI, 200, .inl ft))]) hF (c_X3_isNoTag_x l D mo b1 b2 b3 b4 cI fh fo fk ft nh no np th t ht) (cwV 1 hts gX3_offerPair_X3_isNoTag rfl rfl rfl (by decide +kernel) ⟨Nat.le_of_ble_eq_true rfl, Nat.le_of_ble_eq_true rfl⟩) hP hK hD hS hA hv [0, 1, 2, 3, 4] [] [0, 1, 2, 3, 4] [0] ⟨rfl, rfl, rfl, rfl, ⟨by decide, by decide, by decide⟩, by decide⟩ 0 3 rfl rfl rfl rfl hl.1 rfl (Nat.le_of_ble_eq_true rfl) dX3_offerPair_2 ⟨Nat.zero_le _, Nat.zero_le _⟩ (fun H locs hP hD hS => ?_)
  refine lv_if_ne (tgt := 30) hx hb dX3_offerPair_5 (by decide) (fun _ => ?_) (fun hn => absurd hn (by decide))
  refine lv_iconst (v := 0) hx hb dX3_offerPair_30 (by decide) ?_
  exact hend _ _ _ _ _ hP hD hS (rfl) dX3_offerPair_31
set_option maxHeartbeats 4000000 in
set_option maxRecDepth 100000 in
theorem c_X3_removePair_t (l : Launch) (D : va_G) (mo b1 b2 b3 b4 : Nat) (cI : ClassId) (fh fo fk ft : Nat → Int32) (nh no np : Nat) (th : Int32) (k t : Int32) (ht : t < 0 ∨ ¬ t ≤ nI 999) : mI l yX3_removePair wsX3_removePair ({ frames := 2, cells := 0, slots := 0, locals := 42 }) [.ref mo, .int k, .int t] D [(cI, .int)] [(mo, .inr (3, [.ref b1, .ref b2, .ref b3, .ref b4, .int (nI nh), .int (nI no), .int (nI np), .int th])), (b1, .inl (cI, 200, .inl fh)), (b2, .inl (cI, 200, .inl fo)), (b3, .inl (cI, 200, .inl fk)), (b4, .inl (cI, 200, .inl ft))] [(mo, .inr (3, [.ref b1, .ref b2, .ref b3, .ref b4, .int (nI nh), .int (nI no), .int (nI np), .int 1])), (b1, .inl (cI, 200, .inl fh)), (b2, .inl (cI, 200, .inl fo)), (b3, .inl (cI, 200, .inl fk)), (b4, .inl (cI, 200, .inl ft))] (0) := by
  refine hI_body (cc := cX3_removePair) (maxL := 4) (by decide) rfl (Nat.le_of_ble_eq_true rfl) (by decide +kernel) ?_
  intro p e s m below meth cd A ls Q hat hA hP hK hD hS hl hend
  obtain ⟨hF, hr, hlocks, hv⟩ := id hat
  obtain ⟨hx, hb, hml, hown, hts⟩ := id hF
  have hown : s.vm.findClass RX3 = some m.cls := hown
  have hl : lv_has ls 4 [(0, .ref mo), (1, .int k), (2, .int t)] := hl
  have hP : va_P D vwCl [(mo, .inr (3, [.ref b1, .ref b2, .ref b3, .ref b4, .int (nI nh), .int (nI no), .int (nI np), .int th])), (b1, .inl (cI, 200, .inl fh)), (b2, .inl (cI, 200, .inl fo)), (b3, .inl (cI, 200, .inl fk)), (b4, .inl (cI, 200, .inl ft))] s.heap := hP
  have hD : va_D A [(mo, .inr (3, [.ref b1, .ref b2, .ref b3, .ref b4, .int (nI nh), .int (nI no), .int (nI np), .int th])), (b1, .inl (cI, 200, .inl fh)), (b2, .inl (cI, 200, .inl fo)), (b3, .inl (cI, 200, .inl fk)), (b4, .inl (cI, 200, .inl ft))] := hD
  refine lv_aload_n hx hb dX3_removePair_0 rfl (lv_at hl 0 rfl) ?_
  refine lv_iload_n hx hb dX3_removePair_1 rfl (lv_at hl 2 rfl) ?_
  refine hc_iV (As := [.int t]) (rest := []) (wc := [(mo, .inr (3, [.ref b1, .ref b2, .ref b3, .ref b4, .int (nI nh), .int (nI no), .int (nI np), .int th])), (b1, .inl (cI, 200, .inl fh)), (b2, .inl (cI, 200, .inl fo)), (b3, .inl (cI, 200, .inl fk)), (b4, .inl (cI, 200, .inl ft))]) (wr := []) (w1 := [(mo, .inr (3, [.ref b1, .ref b2, .ref b3, .ref b4, .int (nI nh), .int (nI no), .int (nI np), .int 1])), (b1, .inl (cI, 200, .inl fh)), (b2, .inl (cI, 200, .inl fo)), (b3, .inl (cI, 200, .inl fk)), (b4, .inl (cI, 200, .inl ft))]) (w' := [(mo, .inr (3, [.ref b1, .ref b2, .ref b3, .ref b4, .int (nI nh), .int (nI no), .int (nI np), .int 1])), (b1, .inl (cI, 200, .inl fh)), (b2, .inl (cI, 200, .inl fo)), (b3, .inl (cI, 200, .inl fk)), (b4, .inl (cI, 200, .inl ft))]) hF (c_X3_isNoTag_x l D mo b1 b2 b3 b4 cI fh fo fk ft nh no np th t ht) (cwV 1 hts gX3_removePair_X3_isNoTag rfl rfl rfl (by decide +kernel) ⟨Nat.le_of_ble_eq_true rfl, Nat.le_of_ble_eq_true rfl⟩) hP hK hD hS hA hv [0, 1, 2, 3, 4] [] [0, 1, 2, 3, 4] [0] ⟨rfl, rfl, rfl, rfl, ⟨by decide, by decide, by decide⟩, by decide⟩ 0 3 rfl rfl rfl rfl hl.1 rfl (Nat.le_of_ble_eq_true rfl) dX3_removePair_2 ⟨Nat.zero_le _, Nat.zero_le _⟩ (fun H locs hP hD hS => ?_)
  refine lv_if_eq (tgt := 10) hx hb dX3_removePair_5 (by decide) (fun ht_ => absurd ht_ (by decide)) (fun _ => ?_)
  refine lv_iconst (v := 0) hx hb dX3_removePair_8 (by decide) ?_
  exact hend _ _ _ _ _ hP hD hS (rfl) dX3_removePair_9
set_option maxHeartbeats 4000000 in
set_option maxRecDepth 100000 in
theorem c_X3_containsPair_t (l : Launch) (D : va_G) (mo b1 b2 b3 b4 : Nat) (cI : ClassId) (fh fo fk ft : Nat → Int32) (nh no np : Nat) (th : Int32) (k t : Int32) (ht : t < 0 ∨ ¬ t ≤ nI 999) : mI l yX3_containsPair wsX3_containsPair ({ frames := 2, cells := 0, slots := 0, locals := 42 }) [.ref mo, .int k, .int t] D [(cI, .int)] [(mo, .inr (3, [.ref b1, .ref b2, .ref b3, .ref b4, .int (nI nh), .int (nI no), .int (nI np), .int th])), (b1, .inl (cI, 200, .inl fh)), (b2, .inl (cI, 200, .inl fo)), (b3, .inl (cI, 200, .inl fk)), (b4, .inl (cI, 200, .inl ft))] [(mo, .inr (3, [.ref b1, .ref b2, .ref b3, .ref b4, .int (nI nh), .int (nI no), .int (nI np), .int 1])), (b1, .inl (cI, 200, .inl fh)), (b2, .inl (cI, 200, .inl fo)), (b3, .inl (cI, 200, .inl fk)), (b4, .inl (cI, 200, .inl ft))] (0) := by
  refine hI_body (cc := cX3_containsPair) (maxL := 3) (by decide) rfl (Nat.le_of_ble_eq_true rfl) (by decide +kernel) ?_
  intro p e s m below meth cd A ls Q hat hA hP hK hD hS hl hend
  obtain ⟨hF, hr, hlocks, hv⟩ := id hat
  obtain ⟨hx, hb, hml, hown, hts⟩ := id hF
  have hown : s.vm.findClass RX3 = some m.cls := hown
  have hl : lv_has ls 3 [(0, .ref mo), (1, .int k), (2, .int t)] := hl
  have hP : va_P D vwCl [(mo, .inr (3, [.ref b1, .ref b2, .ref b3, .ref b4, .int (nI nh), .int (nI no), .int (nI np), .int th])), (b1, .inl (cI, 200, .inl fh)), (b2, .inl (cI, 200, .inl fo)), (b3, .inl (cI, 200, .inl fk)), (b4, .inl (cI, 200, .inl ft))] s.heap := hP
  have hD : va_D A [(mo, .inr (3, [.ref b1, .ref b2, .ref b3, .ref b4, .int (nI nh), .int (nI no), .int (nI np), .int th])), (b1, .inl (cI, 200, .inl fh)), (b2, .inl (cI, 200, .inl fo)), (b3, .inl (cI, 200, .inl fk)), (b4, .inl (cI, 200, .inl ft))] := hD
  refine lv_aload_n hx hb dX3_containsPair_0 rfl (lv_at hl 0 rfl) ?_
  refine lv_iload_n hx hb dX3_containsPair_1 rfl (lv_at hl 2 rfl) ?_
  refine hc_iV (As := [.int t]) (rest := []) (wc := [(mo, .inr (3, [.ref b1, .ref b2, .ref b3, .ref b4, .int (nI nh), .int (nI no), .int (nI np), .int th])), (b1, .inl (cI, 200, .inl fh)), (b2, .inl (cI, 200, .inl fo)), (b3, .inl (cI, 200, .inl fk)), (b4, .inl (cI, 200, .inl ft))]) (wr := []) (w1 := [(mo, .inr (3, [.ref b1, .ref b2, .ref b3, .ref b4, .int (nI nh), .int (nI no), .int (nI np), .int 1])), (b1, .inl (cI, 200, .inl fh)), (b2, .inl (cI, 200, .inl fo)), (b3, .inl (cI, 200, .inl fk)), (b4, .inl (cI, 200, .inl ft))]) (w' := [(mo, .inr (3, [.ref b1, .ref b2, .ref b3, .ref b4, .int (nI nh), .int (nI no), .int (nI np), .int 1])), (b1, .inl (cI, 200, .inl fh)), (b2, .inl (cI, 200, .inl fo)), (b3, .inl (cI, 200, .inl fk)), (b4, .inl (cI, 200, .inl ft))]) hF (c_X3_isNoTag_x l D mo b1 b2 b3 b4 cI fh fo fk ft nh no np th t ht) (cwV 1 hts gX3_containsPair_X3_isNoTag rfl rfl rfl (by decide +kernel) ⟨Nat.le_of_ble_eq_true rfl, Nat.le_of_ble_eq_true rfl⟩) hP hK hD hS hA hv [0, 1, 2, 3, 4] [] [0, 1, 2, 3, 4] [0] ⟨rfl, rfl, rfl, rfl, ⟨by decide, by decide, by decide⟩, by decide⟩ 0 3 rfl rfl rfl rfl hl.1 rfl (Nat.le_of_ble_eq_true rfl) dX3_containsPair_2 ⟨Nat.zero_le _, Nat.zero_le _⟩ (fun H locs hP hD hS => ?_)
  refine lv_if_ne (tgt := 21) hx hb dX3_containsPair_5 (by decide) (fun _ => ?_) (fun hn => absurd hn (by decide))
  refine lv_iconst (v := 0) hx hb dX3_containsPair_21 (by decide) ?_
  exact hend _ _ _ _ _ hP hD hS (rfl) dX3_containsPair_22
set_option maxHeartbeats 4000000 in
set_option maxRecDepth 100000 in
theorem c_X3_peekPair (l : Launch) (D : va_G) (mo b1 b2 b3 b4 : Nat) (cI : ClassId) (fh fo fk ft : Nat → Int32) (nh no np : Nat) (th : Int32) (h1c : 1 ≤ np) (hn9 : np ≤ 200) : mL l yX3_peekPair wsX3_peekPair ({ frames := 1, cells := 0, slots := 0, locals := 22 }) [.ref mo] D [(cI, .int)] [(mo, .inr (3, [.ref b1, .ref b2, .ref b3, .ref b4, .int (nI nh), .int (nI no), .int (nI np), .int th])), (b1, .inl (cI, 200, .inl fh)), (b2, .inl (cI, 200, .inl fo)), (b3, .inl (cI, 200, .inl fk)), (b4, .inl (cI, 200, .inl ft))] [(mo, .inr (3, [.ref b1, .ref b2, .ref b3, .ref b4, .int (nI nh), .int (nI no), .int (nI np), .int (nI 0)])), (b1, .inl (cI, 200, .inl fh)), (b2, .inl (cI, 200, .inl fo)), (b3, .inl (cI, 200, .inl fk)), (b4, .inl (cI, 200, .inl ft))] (s_told fk ft (s_lq fk ft (np - 1))) := by
  refine hL_body (cc := cX3_peekPair) (maxL := 1) (by decide) rfl (Nat.le_of_ble_eq_true rfl) ?_
  intro p e s m below meth cd A ls Q hat hA hP hK hD hS hl hend
  obtain ⟨hF, hr, hlocks, hv⟩ := id hat
  obtain ⟨hx, hb, hml, hown, hts⟩ := id hF
  have hown : s.vm.findClass RX3 = some m.cls := hown
  have hl : lv_has ls 1 [(0, .ref mo)] := hl
  have hP : va_P D vwCl [(mo, .inr (3, [.ref b1, .ref b2, .ref b3, .ref b4, .int (nI nh), .int (nI no), .int (nI np), .int th])), (b1, .inl (cI, 200, .inl fh)), (b2, .inl (cI, 200, .inl fo)), (b3, .inl (cI, 200, .inl fk)), (b4, .inl (cI, 200, .inl ft))] s.heap := hP
  have hD : va_D A [(mo, .inr (3, [.ref b1, .ref b2, .ref b3, .ref b4, .int (nI nh), .int (nI no), .int (nI np), .int th])), (b1, .inl (cI, 200, .inl fh)), (b2, .inl (cI, 200, .inl fo)), (b3, .inl (cI, 200, .inl fk)), (b4, .inl (cI, 200, .inl ft))] := hD
  have iX3 : ∀ w ∈ wsX30, w ∈ wsX3_peekPair := by decide +kernel
  have k50 := hts (.fieldLink RX3 50 "HeapAndDequeModel" "pairs" "I") (by decide +kernel)
  refine lv_aload_n hx hb dX3_peekPair_0 rfl (lv_at hl 0 rfl) ?_
  refine lv_aload_n hx hb dX3_peekPair_1 rfl (lv_at hl 0 rfl) ?_
  refine va_get (D := D) (ci := 3) (v := .int (nI np)) (C := RX3) (T := TX3) (N := 8) hx hb hts iX3 hown hK hP 0 rfl rfl 6 (by decide) k50 (fun _ h9 => h9) rfl dX3_peekPair_2 ?_
  refine lv_if_ne (tgt := 12) hx hb dX3_peekPair_5 (by decide) (fun _ => ?_) (fun hn => absurd hn (nI_ne0 (by omega) (by omega)))
  refine lv_iconst (v := nI 0) hx hb dX3_peekPair_12 (by decide +kernel) ?_
  refine hc_iV (As := [.int (nI 0)]) (rest := []) (wc := [(mo, .inr (3, [.ref b1, .ref b2, .ref b3, .ref b4, .int (nI nh), .int (nI no), .int (nI np), .int th])), (b1, .inl (cI, 200, .inl fh)), (b2, .inl (cI, 200, .inl fo)), (b3, .inl (cI, 200, .inl fk)), (b4, .inl (cI, 200, .inl ft))]) (wr := []) (w1 := [(mo, .inr (3, [.ref b1, .ref b2, .ref b3, .ref b4, .int (nI nh), .int (nI no), .int (nI np), .int (nI 0)])), (b1, .inl (cI, 200, .inl fh)), (b2, .inl (cI, 200, .inl fo)), (b3, .inl (cI, 200, .inl fk)), (b4, .inl (cI, 200, .inl ft))]) (w' := [(mo, .inr (3, [.ref b1, .ref b2, .ref b3, .ref b4, .int (nI nh), .int (nI no), .int (nI np), .int (nI 0)])), (b1, .inl (cI, 200, .inl fh)), (b2, .inl (cI, 200, .inl fo)), (b3, .inl (cI, 200, .inl fk)), (b4, .inl (cI, 200, .inl ft))]) hF (c_X3_isWrong_z l D mo b1 b2 b3 b4 cI fh fo fk ft nh no np th ) (cwV 1 hts gX3_peekPair_X3_isWrong rfl rfl rfl (by decide +kernel) ⟨Nat.le_of_ble_eq_true rfl, Nat.le_of_ble_eq_true rfl⟩) hP hK hD hS hA hv [0, 1, 2, 3, 4] [] [0, 1, 2, 3, 4] [0] ⟨rfl, rfl, rfl, rfl, ⟨by decide, by decide, by decide⟩, by decide⟩ 0 3 rfl rfl rfl rfl hl.1 rfl (Nat.le_of_ble_eq_true rfl) dX3_peekPair_13 ⟨Nat.zero_le _, Nat.zero_le _⟩ (fun H locs hP hD hS => ?_)
  refine lv_if_eq (tgt := 23) hx hb dX3_peekPair_16 (by decide) (fun _ => ?_) (fun hn => absurd (rfl) hn)
  refine lv_aload_n hx hb dX3_peekPair_23 rfl (lv_at hl 0 rfl) ?_
  refine lv_aload_n hx hb dX3_peekPair_24 rfl (lv_at hl 0 rfl) ?_
  refine hc_iV (As := []) (rest := [.ref mo]) (wc := [(mo, .inr (3, [.ref b1, .ref b2, .ref b3, .ref b4, .int (nI nh), .int (nI no), .int (nI np), .int (nI 0)])), (b1, .inl (cI, 200, .inl fh)), (b2, .inl (cI, 200, .inl fo)), (b3, .inl (cI, 200, .inl fk)), (b4, .inl (cI, 200, .inl ft))]) (wr := []) (w1 := [(mo, .inr (3, [.ref b1, .ref b2, .ref b3, .ref b4, .int (nI nh), .int (nI no), .int (nI np), .int (nI 0)])), (b1, .inl (cI, 200, .inl fh)), (b2, .inl (cI, 200, .inl fo)), (b3, .inl (cI, 200, .inl fk)), (b4, .inl (cI, 200, .inl ft))]) (w' := [(mo, .inr (3, [.ref b1, .ref b2, .ref b3, .ref b4, .int (nI nh), .int (nI no), .int (nI np), .int (nI 0)])), (b1, .inl (cI, 200, .inl fh)), (b2, .inl (cI, 200, .inl fo)), (b3, .inl (cI, 200, .inl fk)), (b4, .inl (cI, 200, .inl ft))]) hF (c_X3_leastPair l D mo b1 b2 b3 b4 cI fh fo fk ft nh no np (nI 0) hn9) (cwV 0 hts gX3_peekPair_X3_leastPair rfl rfl rfl (by decide +kernel) ⟨Nat.le_of_ble_eq_true rfl, Nat.le_of_ble_eq_true rfl⟩) hP hK hD hS hA hv [0, 1, 2, 3, 4] [] [0, 1, 2, 3, 4] [0] ⟨rfl, rfl, rfl, rfl, ⟨by decide, by decide, by decide⟩, by decide⟩ 0 3 rfl rfl rfl rfl hl.1 rfl (Nat.le_of_ble_eq_true rfl) dX3_peekPair_25 ⟨Nat.zero_le _, Nat.zero_le _⟩ (fun H locs hP hD hS => ?_)
  refine hc_lV (As := [.int (nI (s_lq fk ft (np - 1)))]) (rest := []) (wc := [(mo, .inr (3, [.ref b1, .ref b2, .ref b3, .ref b4, .int (nI nh), .int (nI no), .int (nI np), .int (nI 0)])), (b1, .inl (cI, 200, .inl fh)), (b2, .inl (cI, 200, .inl fo)), (b3, .inl (cI, 200, .inl fk)), (b4, .inl (cI, 200, .inl ft))]) (wr := []) (w1 := [(mo, .inr (3, [.ref b1, .ref b2, .ref b3, .ref b4, .int (nI nh), .int (nI no), .int (nI np), .int (nI 0)])), (b1, .inl (cI, 200, .inl fh)), (b2, .inl (cI, 200, .inl fo)), (b3, .inl (cI, 200, .inl fk)), (b4, .inl (cI, 200, .inl ft))]) (w' := [(mo, .inr (3, [.ref b1, .ref b2, .ref b3, .ref b4, .int (nI nh), .int (nI no), .int (nI np), .int (nI 0)])), (b1, .inl (cI, 200, .inl fh)), (b2, .inl (cI, 200, .inl fo)), (b3, .inl (cI, 200, .inl fk)), (b4, .inl (cI, 200, .inl ft))]) hF (c_X3_told l D mo b1 b2 b3 b4 cI fh fo fk ft nh no np (nI 0) (s_lq fk ft (np - 1)) (by have := s_lq_le fk ft (np - 1); omega)) (cwV 1 hts gX3_peekPair_X3_told rfl rfl rfl (by decide +kernel) ⟨Nat.le_of_ble_eq_true rfl, Nat.le_of_ble_eq_true rfl⟩) hP hK hD hS hA hv [0, 1, 2, 3, 4] [] [0, 1, 2, 3, 4] [0] ⟨rfl, rfl, rfl, rfl, ⟨by decide, by decide, by decide⟩, by decide⟩ 0 3 rfl rfl rfl rfl hl.1 rfl (Nat.le_of_ble_eq_true rfl) dX3_peekPair_28 ⟨Nat.zero_le _, Nat.zero_le _⟩ (fun H locs hP hD hS => ?_)
  exact hend _ _ _ _ _ hP hD hS (rfl) dX3_peekPair_31
set_option maxHeartbeats 4000000 in
set_option maxRecDepth 100000 in
theorem c_X3_pollPair (l : Launch) (D : va_G) (mo b1 b2 b3 b4 : Nat) (cI : ClassId) (fh fo fk ft : Nat → Int32) (nh no np : Nat) (th : Int32) (h1c : 1 ≤ np) (hn9 : np ≤ 200) : mL l yX3_pollPair wsX3_pollPair ({ frames := 1, cells := 0, slots := 0, locals := 22 }) [.ref mo] D [(cI, .int)] [(mo, .inr (3, [.ref b1, .ref b2, .ref b3, .ref b4, .int (nI nh), .int (nI no), .int (nI np), .int th])), (b1, .inl (cI, 200, .inl fh)), (b2, .inl (cI, 200, .inl fo)), (b3, .inl (cI, 200, .inl fk)), (b4, .inl (cI, 200, .inl ft))] [(mo, .inr (3, [.ref b1, .ref b2, .ref b3, .ref b4, .int (nI nh), .int (nI no), .int (nI (np - 1)), .int (nI 0)])), (b1, .inl (cI, 200, .inl fh)), (b2, .inl (cI, 200, .inl fo)), (b3, .inl (cI, 200, .inl (s_rm fk (s_lq fk ft (np - 1)) np))), (b4, .inl (cI, 200, .inl (s_rm ft (s_lq fk ft (np - 1)) np)))] (s_told fk ft (s_lq fk ft (np - 1))) := by
  refine hL_body (cc := cX3_pollPair) (maxL := 4) (by decide) rfl (Nat.le_of_ble_eq_true rfl) ?_
  intro p e s m below meth cd A ls Q hat hA hP hK hD hS hl hend
  obtain ⟨hF, hr, hlocks, hv⟩ := id hat
  obtain ⟨hx, hb, hml, hown, hts⟩ := id hF
  have hown : s.vm.findClass RX3 = some m.cls := hown
  have hl : lv_has ls 4 [(0, .ref mo)] := hl
  have hP : va_P D vwCl [(mo, .inr (3, [.ref b1, .ref b2, .ref b3, .ref b4, .int (nI nh), .int (nI no), .int (nI np), .int th])), (b1, .inl (cI, 200, .inl fh)), (b2, .inl (cI, 200, .inl fo)), (b3, .inl (cI, 200, .inl fk)), (b4, .inl (cI, 200, .inl ft))] s.heap := hP
  have hD : va_D A [(mo, .inr (3, [.ref b1, .ref b2, .ref b3, .ref b4, .int (nI nh), .int (nI no), .int (nI np), .int th])), (b1, .inl (cI, 200, .inl fh)), (b2, .inl (cI, 200, .inl fo)), (b3, .inl (cI, 200, .inl fk)), (b4, .inl (cI, 200, .inl ft))] := hD
  have iX3 : ∀ w ∈ wsX30, w ∈ wsX3_pollPair := by decide +kernel
  have k50 := hts (.fieldLink RX3 50 "HeapAndDequeModel" "pairs" "I") (by decide +kernel)
  refine lv_aload_n hx hb dX3_pollPair_0 rfl (lv_at hl 0 rfl) ?_
  refine lv_aload_n hx hb dX3_pollPair_1 rfl (lv_at hl 0 rfl) ?_
  refine va_get (D := D) (ci := 3) (v := .int (nI np)) (C := RX3) (T := TX3) (N := 8) hx hb hts iX3 hown hK hP 0 rfl rfl 6 (by decide) k50 (fun _ h9 => h9) rfl dX3_pollPair_2 ?_
  refine lv_if_ne (tgt := 12) hx hb dX3_pollPair_5 (by decide) (fun _ => ?_) (fun hn => absurd hn (nI_ne0 (by omega) (by omega)))
  refine lv_iconst (v := nI 0) hx hb dX3_pollPair_12 (by decide +kernel) ?_
  refine hc_iV (As := [.int (nI 0)]) (rest := []) (wc := [(mo, .inr (3, [.ref b1, .ref b2, .ref b3, .ref b4, .int (nI nh), .int (nI no), .int (nI np), .int th])), (b1, .inl (cI, 200, .inl fh)), (b2, .inl (cI, 200, .inl fo)), (b3, .inl (cI, 200, .inl fk)), (b4, .inl (cI, 200, .inl ft))]) (wr := []) (w1 := [(mo, .inr (3, [.ref b1, .ref b2, .ref b3, .ref b4, .int (nI nh), .int (nI no), .int (nI np), .int (nI 0)])), (b1, .inl (cI, 200, .inl fh)), (b2, .inl (cI, 200, .inl fo)), (b3, .inl (cI, 200, .inl fk)), (b4, .inl (cI, 200, .inl ft))]) (w' := [(mo, .inr (3, [.ref b1, .ref b2, .ref b3, .ref b4, .int (nI nh), .int (nI no), .int (nI np), .int (nI 0)])), (b1, .inl (cI, 200, .inl fh)), (b2, .inl (cI, 200, .inl fo)), (b3, .inl (cI, 200, .inl fk)), (b4, .inl (cI, 200, .inl ft))]) hF (c_X3_isWrong_z l D mo b1 b2 b3 b4 cI fh fo fk ft nh no np th ) (cwV 1 hts gX3_pollPair_X3_isWrong rfl rfl rfl (by decide +kernel) ⟨Nat.le_of_ble_eq_true rfl, Nat.le_of_ble_eq_true rfl⟩) hP hK hD hS hA hv [0, 1, 2, 3, 4] [] [0, 1, 2, 3, 4] [0] ⟨rfl, rfl, rfl, rfl, ⟨by decide, by decide, by decide⟩, by decide⟩ 0 3 rfl rfl rfl rfl hl.1 rfl (Nat.le_of_ble_eq_true rfl) dX3_pollPair_13 ⟨Nat.zero_le _, Nat.zero_le _⟩ (fun H locs hP hD hS => ?_)
  refine lv_if_eq (tgt := 21) hx hb dX3_pollPair_16 (by decide) (fun _ => ?_) (fun hn => absurd (rfl) hn)
  refine lv_aload_n hx hb dX3_pollPair_21 rfl (lv_at hl 0 rfl) ?_
  refine hc_iV (As := []) (rest := []) (wc := [(mo, .inr (3, [.ref b1, .ref b2, .ref b3, .ref b4, .int (nI nh), .int (nI no), .int (nI np), .int (nI 0)])), (b1, .inl (cI, 200, .inl fh)), (b2, .inl (cI, 200, .inl fo)), (b3, .inl (cI, 200, .inl fk)), (b4, .inl (cI, 200, .inl ft))]) (wr := []) (w1 := [(mo, .inr (3, [.ref b1, .ref b2, .ref b3, .ref b4, .int (nI nh), .int (nI no), .int (nI np), .int (nI 0)])), (b1, .inl (cI, 200, .inl fh)), (b2, .inl (cI, 200, .inl fo)), (b3, .inl (cI, 200, .inl fk)), (b4, .inl (cI, 200, .inl ft))]) (w' := [(mo, .inr (3, [.ref b1, .ref b2, .ref b3, .ref b4, .int (nI nh), .int (nI no), .int (nI np), .int (nI 0)])), (b1, .inl (cI, 200, .inl fh)), (b2, .inl (cI, 200, .inl fo)), (b3, .inl (cI, 200, .inl fk)), (b4, .inl (cI, 200, .inl ft))]) hF (c_X3_leastPair l D mo b1 b2 b3 b4 cI fh fo fk ft nh no np (nI 0) hn9) (cwV 0 hts gX3_pollPair_X3_leastPair rfl rfl rfl (by decide +kernel) ⟨Nat.le_of_ble_eq_true rfl, Nat.le_of_ble_eq_true rfl⟩) hP hK hD hS hA hv [0, 1, 2, 3, 4] [] [0, 1, 2, 3, 4] [0] ⟨rfl, rfl, rfl, rfl, ⟨by decide, by decide, by decide⟩, by decide⟩ 0 3 rfl rfl rfl rfl hl.1 rfl (Nat.le_of_ble_eq_true rfl) dX3_pollPair_22 ⟨Nat.zero_le _, Nat.zero_le _⟩ (fun H locs hP hD hS => ?_)
  refine lv_istore_n (lv' := [(1, .int (nI (s_lq fk ft (np - 1)))), (0, .ref mo)]) hx hb dX3_pollPair_25 rfl hl (by decide) rfl (fun ls hl => ?_)
  refine lv_aload_n hx hb dX3_pollPair_26 rfl (lv_at hl 1 rfl) ?_
  refine lv_iload_n hx hb dX3_pollPair_27 rfl (lv_at hl 0 rfl) ?_
  refine hc_lV (As := [.int (nI (s_lq fk ft (np - 1)))]) (rest := []) (wc := [(mo, .inr (3, [.ref b1, .ref b2, .ref b3, .ref b4, .int (nI nh), .int (nI no), .int (nI np), .int (nI 0)])), (b1, .inl (cI, 200, .inl fh)), (b2, .inl (cI, 200, .inl fo)), (b3, .inl (cI, 200, .inl fk)), (b4, .inl (cI, 200, .inl ft))]) (wr := []) (w1 := [(mo, .inr (3, [.ref b1, .ref b2, .ref b3, .ref b4, .int (nI nh), .int (nI no), .int (nI np), .int (nI 0)])), (b1, .inl (cI, 200, .inl fh)), (b2, .inl (cI, 200, .inl fo)), (b3, .inl (cI, 200, .inl fk)), (b4, .inl (cI, 200, .inl ft))]) (w' := [(mo, .inr (3, [.ref b1, .ref b2, .ref b3, .ref b4, .int (nI nh), .int (nI no), .int (nI np), .int (nI 0)])), (b1, .inl (cI, 200, .inl fh)), (b2, .inl (cI, 200, .inl fo)), (b3, .inl (cI, 200, .inl fk)), (b4, .inl (cI, 200, .inl ft))]) hF (c_X3_told l D mo b1 b2 b3 b4 cI fh fo fk ft nh no np (nI 0) (s_lq fk ft (np - 1)) (by have := s_lq_le fk ft (np - 1); omega)) (cwV 1 hts gX3_pollPair_X3_told rfl rfl rfl (by decide +kernel) ⟨Nat.le_of_ble_eq_true rfl, Nat.le_of_ble_eq_true rfl⟩) hP hK hD hS hA hv [0, 1, 2, 3, 4] [] [0, 1, 2, 3, 4] [0] ⟨rfl, rfl, rfl, rfl, ⟨by decide, by decide, by decide⟩, by decide⟩ 0 3 rfl rfl rfl rfl hl.1 rfl (Nat.le_of_ble_eq_true rfl) dX3_pollPair_28 ⟨Nat.zero_le _, Nat.zero_le _⟩ (fun H locs hP hD hS => ?_)
  refine lv_lstore_n (lv' := [(2, .long (s_told fk ft (s_lq fk ft (np - 1)))), (1, .int (nI (s_lq fk ft (np - 1)))), (0, .ref mo)]) hx hb dX3_pollPair_31 rfl hl (by decide) rfl (fun ls hl => ?_)
  refine lv_aload_n hx hb dX3_pollPair_32 rfl (lv_at hl 2 rfl) ?_
  refine lv_iload_n hx hb dX3_pollPair_33 rfl (lv_at hl 1 rfl) ?_
  refine hc_vV (As := [.int (nI (s_lq fk ft (np - 1)))]) (rest := []) (wc := [(mo, .inr (3, [.ref b1, .ref b2, .ref b3, .ref b4, .int (nI nh), .int (nI no), .int (nI np), .int (nI 0)])), (b1, .inl (cI, 200, .inl fh)), (b2, .inl (cI, 200, .inl fo)), (b3, .inl (cI, 200, .inl fk)), (b4, .inl (cI, 200, .inl ft))]) (wr := []) (w1 := [(mo, .inr (3, [.ref b1, .ref b2, .ref b3, .ref b4, .int (nI nh), .int (nI no), .int (nI (np - 1)), .int (nI 0)])), (b1, .inl (cI, 200, .inl fh)), (b2, .inl (cI, 200, .inl fo)), (b3, .inl (cI, 200, .inl (s_rm fk (s_lq fk ft (np - 1)) np))), (b4, .inl (cI, 200, .inl (s_rm ft (s_lq fk ft (np - 1)) np)))]) (w' := [(mo, .inr (3, [.ref b1, .ref b2, .ref b3, .ref b4, .int (nI nh), .int (nI no), .int (nI (np - 1)), .int (nI 0)])), (b1, .inl (cI, 200, .inl fh)), (b2, .inl (cI, 200, .inl fo)), (b3, .inl (cI, 200, .inl (s_rm fk (s_lq fk ft (np - 1)) np))), (b4, .inl (cI, 200, .inl (s_rm ft (s_lq fk ft (np - 1)) np)))]) hF (c_X3_takePair l D mo b1 b2 b3 b4 cI fh fo fk ft nh no np (nI 0) (s_lq fk ft (np - 1)) (by have := s_lq_le fk ft (np - 1); omega) hn9) (cwV 1 hts gX3_pollPair_X3_takePair rfl rfl rfl (by decide +kernel) ⟨Nat.le_of_ble_eq_true rfl, Nat.le_of_ble_eq_true rfl⟩) hP hK hD hS hA hv [0, 1, 2, 3, 4] [] [0, 1, 2, 3, 4] [0] ⟨rfl, rfl, rfl, rfl, ⟨by decide, by decide, by decide⟩, by decide⟩ 0 3 rfl rfl rfl rfl hl.1 rfl (Nat.le_of_ble_eq_true rfl) dX3_pollPair_34 ⟨Nat.zero_le _, Nat.zero_le _⟩ (fun H locs hP hD hS => ?_)
  refine lv_lload_n hx hb dX3_pollPair_37 rfl (lv_at hl 0 rfl) ?_
  exact hend _ _ _ _ _ hP hD hS (rfl) dX3_pollPair_38
set_option maxHeartbeats 4000000 in
set_option maxRecDepth 100000 in
theorem c_X3_peekPair_x (l : Launch) (D : va_G) (mo b1 b2 b3 b4 : Nat) (cI : ClassId) (fh fo fk ft : Nat → Int32) (nh no : Nat) (th : Int32) : mL l yX3_peekPair wsX3_peekPair ({ frames := 1, cells := 0, slots := 0, locals := 21 }) [.ref mo] D [(cI, .int)] [(mo, .inr (3, [.ref b1, .ref b2, .ref b3, .ref b4, .int (nI nh), .int (nI no), .int (nI 0), .int th])), (b1, .inl (cI, 200, .inl fh)), (b2, .inl (cI, 200, .inl fo)), (b3, .inl (cI, 200, .inl fk)), (b4, .inl (cI, 200, .inl ft))] [(mo, .inr (3, [.ref b1, .ref b2, .ref b3, .ref b4, .int (nI nh), .int (nI no), .int (nI 0), .int 1])), (b1, .inl (cI, 200, .inl fh)), (b2, .inl (cI, 200, .inl fo)), (b3, .inl (cI, 200, .inl fk)), (b4, .inl (cI, 200, .inl ft))] (0) := by
  refine hL_body (cc := cX3_peekPair) (maxL := 1) (by decide) rfl (Nat.le_of_ble_eq_true rfl) ?_
  intro p e s m below meth cd A ls Q hat hA hP hK hD hS hl hend
  obtain ⟨hF, hr, hlocks, hv⟩ := id hat
  obtain ⟨hx, hb, hml, hown, hts⟩ := id hF
  have hown : s.vm.findClass RX3 = some m.cls := hown
  have hl : lv_has ls 1 [(0, .ref mo)] := hl
  have hP : va_P D vwCl [(mo, .inr (3, [.ref b1, .ref b2, .ref b3, .ref b4, .int (nI nh), .int (nI no), .int (nI 0), .int th])), (b1, .inl (cI, 200, .inl fh)), (b2, .inl (cI, 200, .inl fo)), (b3, .inl (cI, 200, .inl fk)), (b4, .inl (cI, 200, .inl ft))] s.heap := hP
  have hD : va_D A [(mo, .inr (3, [.ref b1, .ref b2, .ref b3, .ref b4, .int (nI nh), .int (nI no), .int (nI 0), .int th])), (b1, .inl (cI, 200, .inl fh)), (b2, .inl (cI, 200, .inl fo)), (b3, .inl (cI, 200, .inl fk)), (b4, .inl (cI, 200, .inl ft))] := hD
  have iX3 : ∀ w ∈ wsX30, w ∈ wsX3_peekPair := by decide +kernel
  have k50 := hts (.fieldLink RX3 50 "HeapAndDequeModel" "pairs" "I") (by decide +kernel)
  refine lv_aload_n hx hb dX3_peekPair_0 rfl (lv_at hl 0 rfl) ?_
  refine lv_aload_n hx hb dX3_peekPair_1 rfl (lv_at hl 0 rfl) ?_
  refine va_get (D := D) (ci := 3) (v := .int (nI 0)) (C := RX3) (T := TX3) (N := 8) hx hb hts iX3 hown hK hP 0 rfl rfl 6 (by decide) k50 (fun _ h9 => h9) rfl dX3_peekPair_2 ?_
  refine lv_if_ne (tgt := 12) hx hb dX3_peekPair_5 (by decide) (fun ht_ => absurd (nI_0) ht_) (fun _ => ?_)
  refine lv_iconst (v := 1) hx hb dX3_peekPair_8 (by decide) ?_
  refine lv_goto (tgt := 13) hx hb dX3_peekPair_9 (by decide) ?_
  refine hc_iV (As := [.int 1]) (rest := []) (wc := [(mo, .inr (3, [.ref b1, .ref b2, .ref b3, .ref b4, .int (nI nh), .int (nI no), .int (nI 0), .int th])), (b1, .inl (cI, 200, .inl fh)), (b2, .inl (cI, 200, .inl fo)), (b3, .inl (cI, 200, .inl fk)), (b4, .inl (cI, 200, .inl ft))]) (wr := []) (w1 := [(mo, .inr (3, [.ref b1, .ref b2, .ref b3, .ref b4, .int (nI nh), .int (nI no), .int (nI 0), .int 1])), (b1, .inl (cI, 200, .inl fh)), (b2, .inl (cI, 200, .inl fo)), (b3, .inl (cI, 200, .inl fk)), (b4, .inl (cI, 200, .inl ft))]) (w' := [(mo, .inr (3, [.ref b1, .ref b2, .ref b3, .ref b4, .int (nI nh), .int (nI no), .int (nI 0), .int 1])), (b1, .inl (cI, 200, .inl fh)), (b2, .inl (cI, 200, .inl fo)), (b3, .inl (cI, 200, .inl fk)), (b4, .inl (cI, 200, .inl ft))]) hF (c_X3_isWrong_k l D mo b1 b2 b3 b4 cI fh fo fk ft nh no 0 th 1 (by decide)) (cwV 1 hts gX3_peekPair_X3_isWrong rfl rfl rfl (by decide +kernel) ⟨Nat.le_of_ble_eq_true rfl, Nat.le_of_ble_eq_true rfl⟩) hP hK hD hS hA hv [0, 1, 2, 3, 4] [] [0, 1, 2, 3, 4] [0] ⟨rfl, rfl, rfl, rfl, ⟨by decide, by decide, by decide⟩, by decide⟩ 0 3 rfl rfl rfl rfl hl.1 rfl (Nat.le_of_ble_eq_true rfl) dX3_peekPair_13 ⟨Nat.zero_le _, Nat.zero_le _⟩ (fun H locs hP hD hS => ?_)
  refine lv_if_eq (tgt := 23) hx hb dX3_peekPair_16 (by decide) (fun ht_ => absurd ht_ (by decide)) (fun _ => ?_)
  refine lv_lconst (v := 0) hx hb dX3_peekPair_19 (by decide) ?_
  refine lv_goto (tgt := 31) hx hb dX3_peekPair_20 (by decide) ?_
  exact hend _ _ _ _ _ hP hD hS (rfl) dX3_peekPair_31
set_option maxHeartbeats 4000000 in
set_option maxRecDepth 100000 in
theorem c_X3_pollPair_x (l : Launch) (D : va_G) (mo b1 b2 b3 b4 : Nat) (cI : ClassId) (fh fo fk ft : Nat → Int32) (nh no : Nat) (th : Int32) : mL l yX3_pollPair wsX3_pollPair ({ frames := 1, cells := 0, slots := 0, locals := 21 }) [.ref mo] D [(cI, .int)] [(mo, .inr (3, [.ref b1, .ref b2, .ref b3, .ref b4, .int (nI nh), .int (nI no), .int (nI 0), .int th])), (b1, .inl (cI, 200, .inl fh)), (b2, .inl (cI, 200, .inl fo)), (b3, .inl (cI, 200, .inl fk)), (b4, .inl (cI, 200, .inl ft))] [(mo, .inr (3, [.ref b1, .ref b2, .ref b3, .ref b4, .int (nI nh), .int (nI no), .int (nI 0), .int 1])), (b1, .inl (cI, 200, .inl fh)), (b2, .inl (cI, 200, .inl fo)), (b3, .inl (cI, 200, .inl fk)), (b4, .inl (cI, 200, .inl ft))] (0) := by
  refine hL_body (cc := cX3_pollPair) (maxL := 4) (by decide) rfl (Nat.le_of_ble_eq_true rfl) ?_
  intro p e s m below meth cd A ls Q hat hA hP hK hD hS hl hend
  obtain ⟨hF, hr, hlocks, hv⟩ := id hat
  obtain ⟨hx, hb, hml, hown, hts⟩ := id hF
  have hown : s.vm.findClass RX3 = some m.cls := hown
  have hl : lv_has ls 4 [(0, .ref mo)] := hl
  have hP : va_P D vwCl [(mo, .inr (3, [.ref b1, .ref b2, .ref b3, .ref b4, .int (nI nh), .int (nI no), .int (nI 0), .int th])), (b1, .inl (cI, 200, .inl fh)), (b2, .inl (cI, 200, .inl fo)), (b3, .inl (cI, 200, .inl fk)), (b4, .inl (cI, 200, .inl ft))] s.heap := hP
  have hD : va_D A [(mo, .inr (3, [.ref b1, .ref b2, .ref b3, .ref b4, .int (nI nh), .int (nI no), .int (nI 0), .int th])), (b1, .inl (cI, 200, .inl fh)), (b2, .inl (cI, 200, .inl fo)), (b3, .inl (cI, 200, .inl fk)), (b4, .inl (cI, 200, .inl ft))] := hD
  have iX3 : ∀ w ∈ wsX30, w ∈ wsX3_pollPair := by decide +kernel
  have k50 := hts (.fieldLink RX3 50 "HeapAndDequeModel" "pairs" "I") (by decide +kernel)
  refine lv_aload_n hx hb dX3_pollPair_0 rfl (lv_at hl 0 rfl) ?_
  refine lv_aload_n hx hb dX3_pollPair_1 rfl (lv_at hl 0 rfl) ?_
  refine va_get (D := D) (ci := 3) (v := .int (nI 0)) (C := RX3) (T := TX3) (N := 8) hx hb hts iX3 hown hK hP 0 rfl rfl 6 (by decide) k50 (fun _ h9 => h9) rfl dX3_pollPair_2 ?_
  refine lv_if_ne (tgt := 12) hx hb dX3_pollPair_5 (by decide) (fun ht_ => absurd (nI_0) ht_) (fun _ => ?_)
  refine lv_iconst (v := 1) hx hb dX3_pollPair_8 (by decide) ?_
  refine lv_goto (tgt := 13) hx hb dX3_pollPair_9 (by decide) ?_
  refine hc_iV (As := [.int 1]) (rest := []) (wc := [(mo, .inr (3, [.ref b1, .ref b2, .ref b3, .ref b4, .int (nI nh), .int (nI no), .int (nI 0), .int th])), (b1, .inl (cI, 200, .inl fh)), (b2, .inl (cI, 200, .inl fo)), (b3, .inl (cI, 200, .inl fk)), (b4, .inl (cI, 200, .inl ft))]) (wr := []) (w1 := [(mo, .inr (3, [.ref b1, .ref b2, .ref b3, .ref b4, .int (nI nh), .int (nI no), .int (nI 0), .int 1])), (b1, .inl (cI, 200, .inl fh)), (b2, .inl (cI, 200, .inl fo)), (b3, .inl (cI, 200, .inl fk)), (b4, .inl (cI, 200, .inl ft))]) (w' := [(mo, .inr (3, [.ref b1, .ref b2, .ref b3, .ref b4, .int (nI nh), .int (nI no), .int (nI 0), .int 1])), (b1, .inl (cI, 200, .inl fh)), (b2, .inl (cI, 200, .inl fo)), (b3, .inl (cI, 200, .inl fk)), (b4, .inl (cI, 200, .inl ft))]) hF (c_X3_isWrong_k l D mo b1 b2 b3 b4 cI fh fo fk ft nh no 0 th 1 (by decide)) (cwV 1 hts gX3_pollPair_X3_isWrong rfl rfl rfl (by decide +kernel) ⟨Nat.le_of_ble_eq_true rfl, Nat.le_of_ble_eq_true rfl⟩) hP hK hD hS hA hv [0, 1, 2, 3, 4] [] [0, 1, 2, 3, 4] [0] ⟨rfl, rfl, rfl, rfl, ⟨by decide, by decide, by decide⟩, by decide⟩ 0 3 rfl rfl rfl rfl hl.1 rfl (Nat.le_of_ble_eq_true rfl) dX3_pollPair_13 ⟨Nat.zero_le _, Nat.zero_le _⟩ (fun H locs hP hD hS => ?_)
  refine lv_if_eq (tgt := 21) hx hb dX3_pollPair_16 (by decide) (fun ht_ => absurd ht_ (by decide)) (fun _ => ?_)
  refine lv_lconst (v := 0) hx hb dX3_pollPair_19 (by decide) ?_
  exact hend _ _ _ _ _ hP hD hS (rfl) dX3_pollPair_20
set_option maxHeartbeats 4000000 in
set_option maxRecDepth 100000 in
theorem c_X3_removePair_n (l : Launch) (D : va_G) (mo b1 b2 b3 b4 : Nat) (cI : ClassId) (fh fo fk ft : Nat → Int32) (nh no np : Nat) (th : Int32) (k t : Int32) (ht0 : ¬ t < 0) (ht1 : t ≤ nI 999) (hn9 : np ≤ 200) (hf : s_fP fk ft k t np 0 = none) : mI l yX3_removePair wsX3_removePair ({ frames := 2, cells := 0, slots := 0, locals := 42 }) [.ref mo, .int k, .int t] D [(cI, .int)] [(mo, .inr (3, [.ref b1, .ref b2, .ref b3, .ref b4, .int (nI nh), .int (nI no), .int (nI np), .int th])), (b1, .inl (cI, 200, .inl fh)), (b2, .inl (cI, 200, .inl fo)), (b3, .inl (cI, 200, .inl fk)), (b4, .inl (cI, 200, .inl ft))] [(mo, .inr (3, [.ref b1, .ref b2, .ref b3, .ref b4, .int (nI nh), .int (nI no), .int (nI np), .int (nI 0)])), (b1, .inl (cI, 200, .inl fh)), (b2, .inl (cI, 200, .inl fo)), (b3, .inl (cI, 200, .inl fk)), (b4, .inl (cI, 200, .inl ft))] (0) := by
  refine hI_body (cc := cX3_removePair) (maxL := 4) (by decide) rfl (Nat.le_of_ble_eq_true rfl) (by decide +kernel) ?_
  intro p e s m below meth cd A ls Q hat hA hP hK hD hS hl hend
  obtain ⟨hF, hr, hlocks, hv⟩ := id hat
  obtain ⟨hx, hb, hml, hown, hts⟩ := id hF
  have hown : s.vm.findClass RX3 = some m.cls := hown
  have hl : lv_has ls 4 [(0, .ref mo), (1, .int k), (2, .int t)] := hl
  have hP : va_P D vwCl [(mo, .inr (3, [.ref b1, .ref b2, .ref b3, .ref b4, .int (nI nh), .int (nI no), .int (nI np), .int th])), (b1, .inl (cI, 200, .inl fh)), (b2, .inl (cI, 200, .inl fo)), (b3, .inl (cI, 200, .inl fk)), (b4, .inl (cI, 200, .inl ft))] s.heap := hP
  have hD : va_D A [(mo, .inr (3, [.ref b1, .ref b2, .ref b3, .ref b4, .int (nI nh), .int (nI no), .int (nI np), .int th])), (b1, .inl (cI, 200, .inl fh)), (b2, .inl (cI, 200, .inl fo)), (b3, .inl (cI, 200, .inl fk)), (b4, .inl (cI, 200, .inl ft))] := hD
  refine lv_aload_n hx hb dX3_removePair_0 rfl (lv_at hl 0 rfl) ?_
  refine lv_iload_n hx hb dX3_removePair_1 rfl (lv_at hl 2 rfl) ?_
  refine hc_iV (As := [.int t]) (rest := []) (wc := [(mo, .inr (3, [.ref b1, .ref b2, .ref b3, .ref b4, .int (nI nh), .int (nI no), .int (nI np), .int th])), (b1, .inl (cI, 200, .inl fh)), (b2, .inl (cI, 200, .inl fo)), (b3, .inl (cI, 200, .inl fk)), (b4, .inl (cI, 200, .inl ft))]) (wr := []) (w1 := [(mo, .inr (3, [.ref b1, .ref b2, .ref b3, .ref b4, .int (nI nh), .int (nI no), .int (nI np), .int (nI 0)])), (b1, .inl (cI, 200, .inl fh)), (b2, .inl (cI, 200, .inl fo)), (b3, .inl (cI, 200, .inl fk)), (b4, .inl (cI, 200, .inl ft))]) (w' := [(mo, .inr (3, [.ref b1, .ref b2, .ref b3, .ref b4, .int (nI nh), .int (nI no), .int (nI np), .int (nI 0)])), (b1, .inl (cI, 200, .inl fh)), (b2, .inl (cI, 200, .inl fo)), (b3, .inl (cI, 200, .inl fk)), (b4, .inl (cI, 200, .inl ft))]) hF (c_X3_isNoTag l D mo b1 b2 b3 b4 cI fh fo fk ft nh no np th t ht0 ht1) (cwV 1 hts gX3_removePair_X3_isNoTag rfl rfl rfl (by decide +kernel) ⟨Nat.le_of_ble_eq_true rfl, Nat.le_of_ble_eq_true rfl⟩) hP hK hD hS hA hv [0, 1, 2, 3, 4] [] [0, 1, 2, 3, 4] [0] ⟨rfl, rfl, rfl, rfl, ⟨by decide, by decide, by decide⟩, by decide⟩ 0 3 rfl rfl rfl rfl hl.1 rfl (Nat.le_of_ble_eq_true rfl) dX3_removePair_2 ⟨Nat.zero_le _, Nat.zero_le _⟩ (fun H locs hP hD hS => ?_)
  refine lv_if_eq (tgt := 10) hx hb dX3_removePair_5 (by decide) (fun _ => ?_) (fun hn => absurd (rfl) hn)
  refine lv_aload_n hx hb dX3_removePair_10 rfl (lv_at hl 0 rfl) ?_
  refine lv_iload_n hx hb dX3_removePair_11 rfl (lv_at hl 1 rfl) ?_
  refine lv_iload_n hx hb dX3_removePair_12 rfl (lv_at hl 2 rfl) ?_
  refine hc_iV (As := [.int k, .int t]) (rest := []) (wc := [(mo, .inr (3, [.ref b1, .ref b2, .ref b3, .ref b4, .int (nI nh), .int (nI no), .int (nI np), .int (nI 0)])), (b1, .inl (cI, 200, .inl fh)), (b2, .inl (cI, 200, .inl fo)), (b3, .inl (cI, 200, .inl fk)), (b4, .inl (cI, 200, .inl ft))]) (wr := []) (w1 := [(mo, .inr (3, [.ref b1, .ref b2, .ref b3, .ref b4, .int (nI nh), .int (nI no), .int (nI np), .int (nI 0)])), (b1, .inl (cI, 200, .inl fh)), (b2, .inl (cI, 200, .inl fo)), (b3, .inl (cI, 200, .inl fk)), (b4, .inl (cI, 200, .inl ft))]) (w' := [(mo, .inr (3, [.ref b1, .ref b2, .ref b3, .ref b4, .int (nI nh), .int (nI no), .int (nI np), .int (nI 0)])), (b1, .inl (cI, 200, .inl fh)), (b2, .inl (cI, 200, .inl fo)), (b3, .inl (cI, 200, .inl fk)), (b4, .inl (cI, 200, .inl ft))]) hF (c_X3_pairPlace l D mo b1 b2 b3 b4 cI fh fo fk ft nh no np (nI 0) k t hn9) (cwV 2 hts gX3_removePair_X3_pairPlace rfl rfl rfl (by decide +kernel) ⟨Nat.le_of_ble_eq_true rfl, Nat.le_of_ble_eq_true rfl⟩) hP hK hD hS hA hv [0, 1, 2, 3, 4] [] [0, 1, 2, 3, 4] [0] ⟨rfl, rfl, rfl, rfl, ⟨by decide, by decide, by decide⟩, by decide⟩ 0 3 rfl rfl rfl rfl hl.1 rfl (Nat.le_of_ble_eq_true rfl) dX3_removePair_13 ⟨Nat.zero_le _, Nat.zero_le _⟩ (fun H locs hP hD hS => ?_)
  refine hw_i (y := s_o none) (by rw [hf]) ?_
  refine lv_istore_n (lv' := [(3, .int (s_o none)), (0, .ref mo), (1, .int k), (2, .int t)]) hx hb dX3_removePair_16 rfl hl (by decide) rfl (fun ls hl => ?_)
  refine lv_iload_n hx hb dX3_removePair_17 rfl (lv_at hl 0 rfl) ?_
  refine lv_if_ge (tgt := 23) hx hb dX3_removePair_18 (by decide) (fun ht_ => absurd ht_ (by decide +kernel)) (fun _ => ?_)
  refine lv_iconst (v := 0) hx hb dX3_removePair_21 (by decide) ?_
  exact hend _ _ _ _ _ hP hD hS (rfl) dX3_removePair_22
set_option maxHeartbeats 4000000 in
set_option maxRecDepth 100000 in
theorem c_X3_removePair_s (l : Launch) (D : va_G) (mo b1 b2 b3 b4 : Nat) (cI : ClassId) (fh fo fk ft : Nat → Int32) (nh no np : Nat) (th : Int32) (k t : Int32) (q9 : Nat) (ht0 : ¬ t < 0) (ht1 : t ≤ nI 999) (hn9 : np ≤ 200) (hf : s_fP fk ft k t np 0 = some q9) : mI l yX3_removePair wsX3_removePair ({ frames := 2, cells := 0, slots := 0, locals := 42 }) [.ref mo, .int k, .int t] D [(cI, .int)] [(mo, .inr (3, [.ref b1, .ref b2, .ref b3, .ref b4, .int (nI nh), .int (nI no), .int (nI np), .int th])), (b1, .inl (cI, 200, .inl fh)), (b2, .inl (cI, 200, .inl fo)), (b3, .inl (cI, 200, .inl fk)), (b4, .inl (cI, 200, .inl ft))] [(mo, .inr (3, [.ref b1, .ref b2, .ref b3, .ref b4, .int (nI nh), .int (nI no), .int (nI (np - 1)), .int (nI 0)])), (b1, .inl (cI, 200, .inl fh)), (b2, .inl (cI, 200, .inl fo)), (b3, .inl (cI, 200, .inl (s_rm fk q9 np))), (b4, .inl (cI, 200, .inl (s_rm ft q9 np)))] (1) := by
  refine hI_body (cc := cX3_removePair) (maxL := 4) (by decide) rfl (Nat.le_of_ble_eq_true rfl) (by decide +kernel) ?_
  intro p e s m below meth cd A ls Q hat hA hP hK hD hS hl hend
  obtain ⟨hF, hr, hlocks, hv⟩ := id hat
  obtain ⟨hx, hb, hml, hown, hts⟩ := id hF
  have hown : s.vm.findClass RX3 = some m.cls := hown
  have hl : lv_has ls 4 [(0, .ref mo), (1, .int k), (2, .int t)] := hl
  have hP : va_P D vwCl [(mo, .inr (3, [.ref b1, .ref b2, .ref b3, .ref b4, .int (nI nh), .int (nI no), .int (nI np), .int th])), (b1, .inl (cI, 200, .inl fh)), (b2, .inl (cI, 200, .inl fo)), (b3, .inl (cI, 200, .inl fk)), (b4, .inl (cI, 200, .inl ft))] s.heap := hP
  have hD : va_D A [(mo, .inr (3, [.ref b1, .ref b2, .ref b3, .ref b4, .int (nI nh), .int (nI no), .int (nI np), .int th])), (b1, .inl (cI, 200, .inl fh)), (b2, .inl (cI, 200, .inl fo)), (b3, .inl (cI, 200, .inl fk)), (b4, .inl (cI, 200, .inl ft))] := hD
  refine lv_aload_n hx hb dX3_removePair_0 rfl (lv_at hl 0 rfl) ?_
  refine lv_iload_n hx hb dX3_removePair_1 rfl (lv_at hl 2 rfl) ?_
  refine hc_iV (As := [.int t]) (rest := []) (wc := [(mo, .inr (3, [.ref b1, .ref b2, .ref b3, .ref b4, .int (nI nh), .int (nI no), .int (nI np), .int th])), (b1, .inl (cI, 200, .inl fh)), (b2, .inl (cI, 200, .inl fo)), (b3, .inl (cI, 200, .inl fk)), (b4, .inl (cI, 200, .inl ft))]) (wr := []) (w1 := [(mo, .inr (3, [.ref b1, .ref b2, .ref b3, .ref b4, .int (nI nh), .int (nI no), .int (nI np), .int (nI 0)])), (b1, .inl (cI, 200, .inl fh)), (b2, .inl (cI, 200, .inl fo)), (b3, .inl (cI, 200, .inl fk)), (b4, .inl (cI, 200, .inl ft))]) (w' := [(mo, .inr (3, [.ref b1, .ref b2, .ref b3, .ref b4, .int (nI nh), .int (nI no), .int (nI np), .int (nI 0)])), (b1, .inl (cI, 200, .inl fh)), (b2, .inl (cI, 200, .inl fo)), (b3, .inl (cI, 200, .inl fk)), (b4, .inl (cI, 200, .inl ft))]) hF (c_X3_isNoTag l D mo b1 b2 b3 b4 cI fh fo fk ft nh no np th t ht0 ht1) (cwV 1 hts gX3_removePair_X3_isNoTag rfl rfl rfl (by decide +kernel) ⟨Nat.le_of_ble_eq_true rfl, Nat.le_of_ble_eq_true rfl⟩) hP hK hD hS hA hv [0, 1, 2, 3, 4] [] [0, 1, 2, 3, 4] [0] ⟨rfl, rfl, rfl, rfl, ⟨by decide, by decide, by decide⟩, by decide⟩ 0 3 rfl rfl rfl rfl hl.1 rfl (Nat.le_of_ble_eq_true rfl) dX3_removePair_2 ⟨Nat.zero_le _, Nat.zero_le _⟩ (fun H locs hP hD hS => ?_)
  refine lv_if_eq (tgt := 10) hx hb dX3_removePair_5 (by decide) (fun _ => ?_) (fun hn => absurd (rfl) hn)
  refine lv_aload_n hx hb dX3_removePair_10 rfl (lv_at hl 0 rfl) ?_
  refine lv_iload_n hx hb dX3_removePair_11 rfl (lv_at hl 1 rfl) ?_
  refine lv_iload_n hx hb dX3_removePair_12 rfl (lv_at hl 2 rfl) ?_
  refine hc_iV (As := [.int k, .int t]) (rest := []) (wc := [(mo, .inr (3, [.ref b1, .ref b2, .ref b3, .ref b4, .int (nI nh), .int (nI no), .int (nI np), .int (nI 0)])), (b1, .inl (cI, 200, .inl fh)), (b2, .inl (cI, 200, .inl fo)), (b3, .inl (cI, 200, .inl fk)), (b4, .inl (cI, 200, .inl ft))]) (wr := []) (w1 := [(mo, .inr (3, [.ref b1, .ref b2, .ref b3, .ref b4, .int (nI nh), .int (nI no), .int (nI np), .int (nI 0)])), (b1, .inl (cI, 200, .inl fh)), (b2, .inl (cI, 200, .inl fo)), (b3, .inl (cI, 200, .inl fk)), (b4, .inl (cI, 200, .inl ft))]) (w' := [(mo, .inr (3, [.ref b1, .ref b2, .ref b3, .ref b4, .int (nI nh), .int (nI no), .int (nI np), .int (nI 0)])), (b1, .inl (cI, 200, .inl fh)), (b2, .inl (cI, 200, .inl fo)), (b3, .inl (cI, 200, .inl fk)), (b4, .inl (cI, 200, .inl ft))]) hF (c_X3_pairPlace l D mo b1 b2 b3 b4 cI fh fo fk ft nh no np (nI 0) k t hn9) (cwV 2 hts gX3_removePair_X3_pairPlace rfl rfl rfl (by decide +kernel) ⟨Nat.le_of_ble_eq_true rfl, Nat.le_of_ble_eq_true rfl⟩) hP hK hD hS hA hv [0, 1, 2, 3, 4] [] [0, 1, 2, 3, 4] [0] ⟨rfl, rfl, rfl, rfl, ⟨by decide, by decide, by decide⟩, by decide⟩ 0 3 rfl rfl rfl rfl hl.1 rfl (Nat.le_of_ble_eq_true rfl) dX3_removePair_13 ⟨Nat.zero_le _, Nat.zero_le _⟩ (fun H locs hP hD hS => ?_)
  have hq : q9 < np := by have := (s_fP_spec hf).2.1; omega
  refine hw_i (y := nI q9) (by rw [hf]; rfl) ?_
  refine lv_istore_n (lv' := [(3, .int (nI q9)), (0, .ref mo), (1, .int k), (2, .int t)]) hx hb dX3_removePair_16 rfl hl (by decide) rfl (fun ls hl => ?_)
  refine lv_iload_n hx hb dX3_removePair_17 rfl (lv_at hl 0 rfl) ?_
  refine lv_if_ge (tgt := 23) hx hb dX3_removePair_18 (by decide) (fun _ => ?_) (fun hn => absurd (nI_pos' (by omega)) hn)
  refine lv_aload_n hx hb dX3_removePair_23 rfl (lv_at hl 1 rfl) ?_
  refine lv_iload_n hx hb dX3_removePair_24 rfl (lv_at hl 0 rfl) ?_
  refine hc_vV (As := [.int (nI q9)]) (rest := []) (wc := [(mo, .inr (3, [.ref b1, .ref b2, .ref b3, .ref b4, .int (nI nh), .int (nI no), .int (nI np), .int (nI 0)])), (b1, .inl (cI, 200, .inl fh)), (b2, .inl (cI, 200, .inl fo)), (b3, .inl (cI, 200, .inl fk)), (b4, .inl (cI, 200, .inl ft))]) (wr := []) (w1 := [(mo, .inr (3, [.ref b1, .ref b2, .ref b3, .ref b4, .int (nI nh), .int (nI no), .int (nI (np - 1)), .int (nI 0)])), (b1, .inl (cI, 200, .inl fh)), (b2, .inl (cI, 200, .inl fo)), (b3, .inl (cI, 200, .inl (s_rm fk q9 np))), (b4, .inl (cI, 200, .inl (s_rm ft q9 np)))]) (w' := [(mo, .inr (3, [.ref b1, .ref b2, .ref b3, .ref b4, .int (nI nh), .int (nI no), .int (nI (np - 1)), .int (nI 0)])), (b1, .inl (cI, 200, .inl fh)), (b2, .inl (cI, 200, .inl fo)), (b3, .inl (cI, 200, .inl (s_rm fk q9 np))), (b4, .inl (cI, 200, .inl (s_rm ft q9 np)))]) hF (c_X3_takePair l D mo b1 b2 b3 b4 cI fh fo fk ft nh no np (nI 0) q9 hq hn9) (cwV 1 hts gX3_removePair_X3_takePair rfl rfl rfl (by decide +kernel) ⟨Nat.le_of_ble_eq_true rfl, Nat.le_of_ble_eq_true rfl⟩) hP hK hD hS hA hv [0, 1, 2, 3, 4] [] [0, 1, 2, 3, 4] [0] ⟨rfl, rfl, rfl, rfl, ⟨by decide, by decide, by decide⟩, by decide⟩ 0 3 rfl rfl rfl rfl hl.1 rfl (Nat.le_of_ble_eq_true rfl) dX3_removePair_25 ⟨Nat.zero_le _, Nat.zero_le _⟩ (fun H locs hP hD hS => ?_)
  refine lv_iconst (v := 1) hx hb dX3_removePair_28 (by decide) ?_
  exact hend _ _ _ _ _ hP hD hS (rfl) dX3_removePair_29
set_option maxHeartbeats 4000000 in
set_option maxRecDepth 100000 in
theorem c_X3_containsPair (l : Launch) (D : va_G) (mo b1 b2 b3 b4 : Nat) (cI : ClassId) (fh fo fk ft : Nat → Int32) (nh no np : Nat) (th : Int32) (k t : Int32) (ht0 : ¬ t < 0) (ht1 : t ≤ nI 999) (hn9 : np ≤ 200) : mI l yX3_containsPair wsX3_containsPair ({ frames := 2, cells := 0, slots := 0, locals := 42 }) [.ref mo, .int k, .int t] D [(cI, .int)] [(mo, .inr (3, [.ref b1, .ref b2, .ref b3, .ref b4, .int (nI nh), .int (nI no), .int (nI np), .int th])), (b1, .inl (cI, 200, .inl fh)), (b2, .inl (cI, 200, .inl fo)), (b3, .inl (cI, 200, .inl fk)), (b4, .inl (cI, 200, .inl ft))] [(mo, .inr (3, [.ref b1, .ref b2, .ref b3, .ref b4, .int (nI nh), .int (nI no), .int (nI np), .int (nI 0)])), (b1, .inl (cI, 200, .inl fh)), (b2, .inl (cI, 200, .inl fo)), (b3, .inl (cI, 200, .inl fk)), (b4, .inl (cI, 200, .inl ft))] (s_b (s_fP fk ft k t np 0).isSome) := by
  refine hI_body (cc := cX3_containsPair) (maxL := 3) (by decide) rfl (Nat.le_of_ble_eq_true rfl) (s_b_n _) ?_
  intro p e s m below meth cd A ls Q hat hA hP hK hD hS hl hend
  obtain ⟨hF, hr, hlocks, hv⟩ := id hat
  obtain ⟨hx, hb, hml, hown, hts⟩ := id hF
  have hown : s.vm.findClass RX3 = some m.cls := hown
  have hl : lv_has ls 3 [(0, .ref mo), (1, .int k), (2, .int t)] := hl
  have hP : va_P D vwCl [(mo, .inr (3, [.ref b1, .ref b2, .ref b3, .ref b4, .int (nI nh), .int (nI no), .int (nI np), .int th])), (b1, .inl (cI, 200, .inl fh)), (b2, .inl (cI, 200, .inl fo)), (b3, .inl (cI, 200, .inl fk)), (b4, .inl (cI, 200, .inl ft))] s.heap := hP
  have hD : va_D A [(mo, .inr (3, [.ref b1, .ref b2, .ref b3, .ref b4, .int (nI nh), .int (nI no), .int (nI np), .int th])), (b1, .inl (cI, 200, .inl fh)), (b2, .inl (cI, 200, .inl fo)), (b3, .inl (cI, 200, .inl fk)), (b4, .inl (cI, 200, .inl ft))] := hD
  refine lv_aload_n hx hb dX3_containsPair_0 rfl (lv_at hl 0 rfl) ?_
  refine lv_iload_n hx hb dX3_containsPair_1 rfl (lv_at hl 2 rfl) ?_
  refine hc_iV (As := [.int t]) (rest := []) (wc := [(mo, .inr (3, [.ref b1, .ref b2, .ref b3, .ref b4, .int (nI nh), .int (nI no), .int (nI np), .int th])), (b1, .inl (cI, 200, .inl fh)), (b2, .inl (cI, 200, .inl fo)), (b3, .inl (cI, 200, .inl fk)), (b4, .inl (cI, 200, .inl ft))]) (wr := []) (w1 := [(mo, .inr (3, [.ref b1, .ref b2, .ref b3, .ref b4, .int (nI nh), .int (nI no), .int (nI np), .int (nI 0)])), (b1, .inl (cI, 200, .inl fh)), (b2, .inl (cI, 200, .inl fo)), (b3, .inl (cI, 200, .inl fk)), (b4, .inl (cI, 200, .inl ft))]) (w' := [(mo, .inr (3, [.ref b1, .ref b2, .ref b3, .ref b4, .int (nI nh), .int (nI no), .int (nI np), .int (nI 0)])), (b1, .inl (cI, 200, .inl fh)), (b2, .inl (cI, 200, .inl fo)), (b3, .inl (cI, 200, .inl fk)), (b4, .inl (cI, 200, .inl ft))]) hF (c_X3_isNoTag l D mo b1 b2 b3 b4 cI fh fo fk ft nh no np th t ht0 ht1) (cwV 1 hts gX3_containsPair_X3_isNoTag rfl rfl rfl (by decide +kernel) ⟨Nat.le_of_ble_eq_true rfl, Nat.le_of_ble_eq_true rfl⟩) hP hK hD hS hA hv [0, 1, 2, 3, 4] [] [0, 1, 2, 3, 4] [0] ⟨rfl, rfl, rfl, rfl, ⟨by decide, by decide, by decide⟩, by decide⟩ 0 3 rfl rfl rfl rfl hl.1 rfl (Nat.le_of_ble_eq_true rfl) dX3_containsPair_2 ⟨Nat.zero_le _, Nat.zero_le _⟩ (fun H locs hP hD hS => ?_)
  refine lv_if_ne (tgt := 21) hx hb dX3_containsPair_5 (by decide) (fun ht_ => absurd (rfl) ht_) (fun _ => ?_)
  refine lv_aload_n hx hb dX3_containsPair_8 rfl (lv_at hl 0 rfl) ?_
  refine lv_iload_n hx hb dX3_containsPair_9 rfl (lv_at hl 1 rfl) ?_
  refine lv_iload_n hx hb dX3_containsPair_10 rfl (lv_at hl 2 rfl) ?_
  refine hc_iV (As := [.int k, .int t]) (rest := []) (wc := [(mo, .inr (3, [.ref b1, .ref b2, .ref b3, .ref b4, .int (nI nh), .int (nI no), .int (nI np), .int (nI 0)])), (b1, .inl (cI, 200, .inl fh)), (b2, .inl (cI, 200, .inl fo)), (b3, .inl (cI, 200, .inl fk)), (b4, .inl (cI, 200, .inl ft))]) (wr := []) (w1 := [(mo, .inr (3, [.ref b1, .ref b2, .ref b3, .ref b4, .int (nI nh), .int (nI no), .int (nI np), .int (nI 0)])), (b1, .inl (cI, 200, .inl fh)), (b2, .inl (cI, 200, .inl fo)), (b3, .inl (cI, 200, .inl fk)), (b4, .inl (cI, 200, .inl ft))]) (w' := [(mo, .inr (3, [.ref b1, .ref b2, .ref b3, .ref b4, .int (nI nh), .int (nI no), .int (nI np), .int (nI 0)])), (b1, .inl (cI, 200, .inl fh)), (b2, .inl (cI, 200, .inl fo)), (b3, .inl (cI, 200, .inl fk)), (b4, .inl (cI, 200, .inl ft))]) hF (c_X3_pairPlace l D mo b1 b2 b3 b4 cI fh fo fk ft nh no np (nI 0) k t hn9) (cwV 2 hts gX3_containsPair_X3_pairPlace rfl rfl rfl (by decide +kernel) ⟨Nat.le_of_ble_eq_true rfl, Nat.le_of_ble_eq_true rfl⟩) hP hK hD hS hA hv [0, 1, 2, 3, 4] [] [0, 1, 2, 3, 4] [0] ⟨rfl, rfl, rfl, rfl, ⟨by decide, by decide, by decide⟩, by decide⟩ 0 3 rfl rfl rfl rfl hl.1 rfl (Nat.le_of_ble_eq_true rfl) dX3_containsPair_11 ⟨Nat.zero_le _, Nat.zero_le _⟩ (fun H locs hP hD hS => ?_)
  rcases hf : s_fP fk ft k t np 0 with _ | q9
  · refine lv_if_lt (tgt := 21) hx hb dX3_containsPair_14 (by decide) (fun _ => ?_) (fun hn => absurd (s_o_lt) hn)
    refine lv_iconst (v := 0) hx hb dX3_containsPair_21 (by decide) ?_
    exact hend _ _ _ _ _ hP hD hS (by rw [hf]; rfl) dX3_containsPair_22
  · refine lv_if_lt (tgt := 21) hx hb dX3_containsPair_14 (by decide) (fun ht_ => absurd ht_ (s_o_ge q9 (by have := (s_fP_spec hf).2.1; omega))) (fun _ => ?_)
    refine lv_iconst (v := 1) hx hb dX3_containsPair_17 (by decide) ?_
    refine lv_goto (tgt := 22) hx hb dX3_containsPair_18 (by decide) ?_
    exact hend _ _ _ _ _ hP hD hS (by rw [hf]; rfl) dX3_containsPair_22
set_option maxHeartbeats 4000000 in
set_option maxRecDepth 100000 in
theorem c_X3_addFirst (l : Launch) (D : va_G) (mo b1 b2 b3 b4 : Nat) (cI : ClassId) (fh fo fk ft : Nat → Int32) (nh no np : Nat) (th : Int32) (x : Int32) (hc : no < 200) : mI l yX3_addFirst wsX3_addFirst ({ frames := 1, cells := 0, slots := 0, locals := 21 }) [.ref mo, .int x] D [(cI, .int)] [(mo, .inr (3, [.ref b1, .ref b2, .ref b3, .ref b4, .int (nI nh), .int (nI no), .int (nI np), .int th])), (b1, .inl (cI, 200, .inl fh)), (b2, .inl (cI, 200, .inl fo)), (b3, .inl (cI, 200, .inl fk)), (b4, .inl (cI, 200, .inl ft))] [(mo, .inr (3, [.ref b1, .ref b2, .ref b3, .ref b4, .int (nI nh), .int (nI (no + 1)), .int (nI np), .int (nI 0)])), (b1, .inl (cI, 200, .inl fh)), (b2, .inl (cI, 200, .inl (s_ins fo x no))), (b3, .inl (cI, 200, .inl fk)), (b4, .inl (cI, 200, .inl ft))] (nI (no + 1)) := by
  refine hI_body (cc := cX3_addFirst) (maxL := 3) (by decide) rfl (Nat.le_of_ble_eq_true rfl) (rfl) ?_
  intro p e s m below meth cd A ls Q hat hA hP hK hD hS hl hend
  obtain ⟨hF, hr, hlocks, hv⟩ := id hat
  obtain ⟨hx, hb, hml, hown, hts⟩ := id hF
  have hown : s.vm.findClass RX3 = some m.cls := hown
  have hl : lv_has ls 3 [(0, .ref mo), (1, .int x)] := hl
  have hP : va_P D vwCl [(mo, .inr (3, [.ref b1, .ref b2, .ref b3, .ref b4, .int (nI nh), .int (nI no), .int (nI np), .int th])), (b1, .inl (cI, 200, .inl fh)), (b2, .inl (cI, 200, .inl fo)), (b3, .inl (cI, 200, .inl fk)), (b4, .inl (cI, 200, .inl ft))] s.heap := hP
  have hD : va_D A [(mo, .inr (3, [.ref b1, .ref b2, .ref b3, .ref b4, .int (nI nh), .int (nI no), .int (nI np), .int th])), (b1, .inl (cI, 200, .inl fh)), (b2, .inl (cI, 200, .inl fo)), (b3, .inl (cI, 200, .inl fk)), (b4, .inl (cI, 200, .inl ft))] := hD
  have iX3 : ∀ w ∈ wsX30, w ∈ wsX3_addFirst := by decide +kernel
  have k13 := hts (.fieldLink RX3 13 "HeapAndDequeModel" "row" "[I") (by decide +kernel)
  have k47 := hts (.fieldLink RX3 47 "HeapAndDequeModel" "many" "I") (by decide +kernel)
  refine lv_aload_n hx hb dX3_addFirst_0 rfl (lv_at hl 0 rfl) ?_
  refine lv_aload_n hx hb dX3_addFirst_1 rfl (lv_at hl 0 rfl) ?_
  refine va_get (D := D) (ci := 3) (v := .int (nI no)) (C := RX3) (T := TX3) (N := 8) hx hb hts iX3 hown hK hP 0 rfl rfl 5 (by decide) k47 (fun _ h9 => h9) rfl dX3_addFirst_2 ?_
  refine lv_sipush (v := nI 200) hx hb dX3_addFirst_5 (by decide +kernel) ?_
  refine lv_icmp_ne (tgt := 15) hx hb dX3_addFirst_8 (by decide) (fun _ => ?_) (fun hn => absurd hn (fun h => absurd ((nI_eq (by omega) (by decide)).mp h) (by omega)))
  refine lv_iconst (v := nI 0) hx hb dX3_addFirst_15 (by decide +kernel) ?_
  refine hc_iV (As := [.int (nI 0)]) (rest := []) (wc := [(mo, .inr (3, [.ref b1, .ref b2, .ref b3, .ref b4, .int (nI nh), .int (nI no), .int (nI np), .int th])), (b1, .inl (cI, 200, .inl fh)), (b2, .inl (cI, 200, .inl fo)), (b3, .inl (cI, 200, .inl fk)), (b4, .inl (cI, 200, .inl ft))]) (wr := []) (w1 := [(mo, .inr (3, [.ref b1, .ref b2, .ref b3, .ref b4, .int (nI nh), .int (nI no), .int (nI np), .int (nI 0)])), (b1, .inl (cI, 200, .inl fh)), (b2, .inl (cI, 200, .inl fo)), (b3, .inl (cI, 200, .inl fk)), (b4, .inl (cI, 200, .inl ft))]) (w' := [(mo, .inr (3, [.ref b1, .ref b2, .ref b3, .ref b4, .int (nI nh), .int (nI no), .int (nI np), .int (nI 0)])), (b1, .inl (cI, 200, .inl fh)), (b2, .inl (cI, 200, .inl fo)), (b3, .inl (cI, 200, .inl fk)), (b4, .inl (cI, 200, .inl ft))]) hF (c_X3_isWrong_z l D mo b1 b2 b3 b4 cI fh fo fk ft nh no np th ) (cwV 1 hts gX3_addFirst_X3_isWrong rfl rfl rfl (by decide +kernel) ⟨Nat.le_of_ble_eq_true rfl, Nat.le_of_ble_eq_true rfl⟩) hP hK hD hS hA hv [0, 1, 2, 3, 4] [] [0, 1, 2, 3, 4] [0] ⟨rfl, rfl, rfl, rfl, ⟨by decide, by decide, by decide⟩, by decide⟩ 0 3 rfl rfl rfl rfl hl.1 rfl (Nat.le_of_ble_eq_true rfl) dX3_addFirst_16 ⟨Nat.zero_le _, Nat.zero_le _⟩ (fun H locs hP hD hS => ?_)
  refine lv_if_eq (tgt := 24) hx hb dX3_addFirst_19 (by decide) (fun _ => ?_) (fun hn => absurd (rfl) hn)
  refine lv_aload_n hx hb dX3_addFirst_24 rfl (lv_at hl 0 rfl) ?_
  refine va_get (D := D) (ci := 3) (v := .int (nI no)) (C := RX3) (T := TX3) (N := 8) hx hb hts iX3 hown hK hP 0 rfl rfl 5 (by decide) k47 (fun _ h9 => h9) rfl dX3_addFirst_25 ?_
  refine lv_istore_n (lv' := [(2, .int (nI no)), (0, .ref mo), (1, .int x)]) hx hb dX3_addFirst_28 rfl hl (by decide) rfl (fun ls hl => ?_)
  have loop : ∀ (n : Nat), n ≤ no → ∀ (H : Heap) (locs : List Loc) (ls : Array Slot), va_P D vwCl [(mo, .inr (3, [.ref b1, .ref b2, .ref b3, .ref b4, .int (nI nh), .int (nI no), .int (nI np), .int (nI 0)])), (b1, .inl (cI, 200, .inl fh)), (b2, .inl (cI, 200, .inl (s_sh fo n no))), (b3, .inl (cI, 200, .inl fk)), (b4, .inl (cI, 200, .inl ft))] H → va_D A [(mo, .inr (3, [.ref b1, .ref b2, .ref b3, .ref b4, .int (nI nh), .int (nI no), .int (nI np), .int (nI 0)])), (b1, .inl (cI, 200, .inl fh)), (b2, .inl (cI, 200, .inl (s_sh fo n no))), (b3, .inl (cI, 200, .inl fk)), (b4, .inl (cI, 200, .inl ft))] → va_S A s.heap H locs → lv_has ls 3 [(2, .int (nI n)), (0, .ref mo), (1, .int x)] → W p l e ({ frames := 1, cells := 0, slots := 0, locals := 21 }) s m ([.ref mo, .int x] : List Value).toArray below meth cd H locs 0 0 Q (F0 m 29 ls []) := by
    intro n
    induction n with
    | zero =>
      intro hn H locs ls hP hD hS hl
      refine lv_iload_n hx hb dX3_addFirst_29 rfl (lv_at hl 0 rfl) ?_
      refine lv_if_le (tgt := 53) hx hb dX3_addFirst_30 (by decide) (fun _ => ?_) (fun hn => absurd (nI_le0) hn)
      refine lv_aload_n hx hb dX3_addFirst_53 rfl (lv_at hl 1 rfl) ?_
      refine va_get (D := D) (ci := 3) (v := .ref b2) (C := RX3) (T := TX3) (N := 8) hx hb hts iX3 hown hK hP 0 rfl rfl 1 (by decide) k13 (fun _ h9 => h9) rfl dX3_addFirst_54 ?_
      refine lv_iconst (v := nI 0) hx hb dX3_addFirst_57 (by decide +kernel) ?_
      refine lv_iload_n hx hb dX3_addFirst_58 rfl (lv_at hl 2 rfl) ?_
      refine h_iast hx hb hK hP hD hS 2 0 rfl rfl (by decide) (by omega) dX3_addFirst_59 (fun H locs hP hD hS => ?_)
      have hP : va_P D vwCl [(mo, .inr (3, [.ref b1, .ref b2, .ref b3, .ref b4, .int (nI nh), .int (nI no), .int (nI np), .int (nI 0)])), (b1, .inl (cI, 200, .inl fh)), (b2, .inl (cI, 200, .inl (upd (s_sh fo 0 no) 0 x))), (b3, .inl (cI, 200, .inl fk)), (b4, .inl (cI, 200, .inl ft))] H := hP
      have hD : va_D A [(mo, .inr (3, [.ref b1, .ref b2, .ref b3, .ref b4, .int (nI nh), .int (nI no), .int (nI np), .int (nI 0)])), (b1, .inl (cI, 200, .inl fh)), (b2, .inl (cI, 200, .inl (upd (s_sh fo 0 no) 0 x))), (b3, .inl (cI, 200, .inl fk)), (b4, .inl (cI, 200, .inl ft))] := hD
      refine lv_aload_n hx hb dX3_addFirst_60 rfl (lv_at hl 1 rfl) ?_
      refine lv_dup hx hb dX3_addFirst_61 rfl ?_
      refine va_get (D := D) (ci := 3) (v := .int (nI no)) (C := RX3) (T := TX3) (N := 8) hx hb hts iX3 hown hK hP 0 rfl rfl 5 (by decide) k47 (fun _ h9 => h9) rfl dX3_addFirst_62 ?_
      refine lv_iconst (v := 1) hx hb dX3_addFirst_65 (by decide) ?_
      refine lv_iadd hx hb dX3_addFirst_66 ?_
      refine hw_i (y := nI (no + 1)) (nI_1 _) ?_
      refine va_put (D := D) (ci := 3) (v := .int (nI (no + 1))) (ty := .int) (C := RX3) (T := TX3) (N := 8) hx hb hts iX3 tyX3 tyX3_ok nmX3 hown hK hP hD hS 0 rfl rfl 5 (by decide) k47 (fun _ h9 => h9) rfl (by decide +kernel) rfl rfl (Nat.le_of_ble_eq_true rfl) dX3_addFirst_67 (fun H locs hP hD hS => ?_)
      have hP : va_P D vwCl [(mo, .inr (3, [.ref b1, .ref b2, .ref b3, .ref b4, .int (nI nh), .int (nI (no + 1)), .int (nI np), .int (nI 0)])), (b1, .inl (cI, 200, .inl fh)), (b2, .inl (cI, 200, .inl (upd (s_sh fo 0 no) 0 x))), (b3, .inl (cI, 200, .inl fk)), (b4, .inl (cI, 200, .inl ft))] H := hP
      have hD : va_D A [(mo, .inr (3, [.ref b1, .ref b2, .ref b3, .ref b4, .int (nI nh), .int (nI (no + 1)), .int (nI np), .int (nI 0)])), (b1, .inl (cI, 200, .inl fh)), (b2, .inl (cI, 200, .inl (upd (s_sh fo 0 no) 0 x))), (b3, .inl (cI, 200, .inl fk)), (b4, .inl (cI, 200, .inl ft))] := hD
      refine lv_aload_n hx hb dX3_addFirst_70 rfl (lv_at hl 1 rfl) ?_
      refine va_get (D := D) (ci := 3) (v := .int (nI (no + 1))) (C := RX3) (T := TX3) (N := 8) hx hb hts iX3 hown hK hP 0 rfl rfl 5 (by decide) k47 (fun _ h9 => h9) rfl dX3_addFirst_71 ?_
      exact hend _ _ _ _ _ (by rw [← s_ins_sh]; exact hP) (by rw [← s_ins_sh]; exact hD) hS (rfl) dX3_addFirst_74
    | succ n ih =>
      intro hn H locs ls hP hD hS hl
      refine lv_iload_n hx hb dX3_addFirst_29 rfl (lv_at hl 0 rfl) ?_
      refine lv_if_le (tgt := 53) hx hb dX3_addFirst_30 (by decide) (fun ht_ => absurd ht_ (nI_nle (Nat.succ_pos n) (by omega))) (fun _ => ?_)
      refine lv_aload_n hx hb dX3_addFirst_33 rfl (lv_at hl 1 rfl) ?_
      refine va_get (D := D) (ci := 3) (v := .ref b2) (C := RX3) (T := TX3) (N := 8) hx hb hts iX3 hown hK hP 0 rfl rfl 1 (by decide) k13 (fun _ h9 => h9) rfl dX3_addFirst_34 ?_
      refine lv_iload_n hx hb dX3_addFirst_37 rfl (lv_at hl 0 rfl) ?_
      refine lv_aload_n hx hb dX3_addFirst_38 rfl (lv_at hl 1 rfl) ?_
      refine va_get (D := D) (ci := 3) (v := .ref b2) (C := RX3) (T := TX3) (N := 8) hx hb hts iX3 hown hK hP 0 rfl rfl 1 (by decide) k13 (fun _ h9 => h9) rfl dX3_addFirst_39 ?_
      refine lv_iload_n hx hb dX3_addFirst_42 rfl (lv_at hl 0 rfl) ?_
      refine lv_iconst (v := 1) hx hb dX3_addFirst_43 (by decide) ?_
      refine lv_isub hx hb dX3_addFirst_44 ?_
      refine hw_i (y := nI n) (nI_pred _) ?_
      refine h_iald hx hb hK hP 2 0 rfl rfl (by decide) (by omega) dX3_addFirst_45 ?_
      refine h_iast hx hb hK hP hD hS 2 0 rfl rfl (by decide) (by omega) dX3_addFirst_46 (fun H locs hP hD hS => ?_)
      have hP : va_P D vwCl [(mo, .inr (3, [.ref b1, .ref b2, .ref b3, .ref b4, .int (nI nh), .int (nI no), .int (nI np), .int (nI 0)])), (b1, .inl (cI, 200, .inl fh)), (b2, .inl (cI, 200, .inl (upd (s_sh fo (n + 1) no) (n + 1) ((s_sh fo (n + 1) no) n)))), (b3, .inl (cI, 200, .inl fk)), (b4, .inl (cI, 200, .inl ft))] H := hP
      have hD : va_D A [(mo, .inr (3, [.ref b1, .ref b2, .ref b3, .ref b4, .int (nI nh), .int (nI no), .int (nI np), .int (nI 0)])), (b1, .inl (cI, 200, .inl fh)), (b2, .inl (cI, 200, .inl (upd (s_sh fo (n + 1) no) (n + 1) ((s_sh fo (n + 1) no) n)))), (b3, .inl (cI, 200, .inl fk)), (b4, .inl (cI, 200, .inl ft))] := hD
      have hP : va_P D vwCl [(mo, .inr (3, [.ref b1, .ref b2, .ref b3, .ref b4, .int (nI nh), .int (nI no), .int (nI np), .int (nI 0)])), (b1, .inl (cI, 200, .inl fh)), (b2, .inl (cI, 200, .inl (s_sh fo n no))), (b3, .inl (cI, 200, .inl fk)), (b4, .inl (cI, 200, .inl ft))] H := by rw [← s_sh_s fo (show n < no by omega)]; exact hP
      have hD : va_D A [(mo, .inr (3, [.ref b1, .ref b2, .ref b3, .ref b4, .int (nI nh), .int (nI no), .int (nI np), .int (nI 0)])), (b1, .inl (cI, 200, .inl fh)), (b2, .inl (cI, 200, .inl (s_sh fo n no))), (b3, .inl (cI, 200, .inl fk)), (b4, .inl (cI, 200, .inl ft))] := by rw [← s_sh_s fo (show n < no by omega)]; exact hD
      refine lv_iinc (v := nI n) (lv' := [(2, .int (nI n)), (0, .ref mo), (1, .int x)]) hx hb dX3_addFirst_47 hl (k := 0) rfl (pk_m1 _) (by decide) rfl (fun ls hl => ?_)
      refine lv_goto (tgt := 29) hx hb dX3_addFirst_50 (by decide) ?_
      exact ih (by omega) _ _ _ hP hD hS (lv_sub hl [0, 1, 2] rfl)
  exact loop no (Nat.le_refl no) _ _ _ (by rw [s_sh_0]; exact hP) (by rw [s_sh_0]; exact hD) hS hl
set_option maxHeartbeats 4000000 in
set_option maxRecDepth 100000 in
theorem c_X3_addFirst_x (l : Launch) (D : va_G) (mo b1 b2 b3 b4 : Nat) (cI : ClassId) (fh fo fk ft : Nat → Int32) (nh np : Nat) (th : Int32) (x : Int32) : mI l yX3_addFirst wsX3_addFirst ({ frames := 1, cells := 0, slots := 0, locals := 21 }) [.ref mo, .int x] D [(cI, .int)] [(mo, .inr (3, [.ref b1, .ref b2, .ref b3, .ref b4, .int (nI nh), .int (nI 200), .int (nI np), .int th])), (b1, .inl (cI, 200, .inl fh)), (b2, .inl (cI, 200, .inl fo)), (b3, .inl (cI, 200, .inl fk)), (b4, .inl (cI, 200, .inl ft))] [(mo, .inr (3, [.ref b1, .ref b2, .ref b3, .ref b4, .int (nI nh), .int (nI 200), .int (nI np), .int 1])), (b1, .inl (cI, 200, .inl fh)), (b2, .inl (cI, 200, .inl fo)), (b3, .inl (cI, 200, .inl fk)), (b4, .inl (cI, 200, .inl ft))] (0) := by
  refine hI_body (cc := cX3_addFirst) (maxL := 3) (by decide) rfl (Nat.le_of_ble_eq_true rfl) (rfl) ?_
  intro p e s m below meth cd A ls Q hat hA hP hK hD hS hl hend
  obtain ⟨hF, hr, hlocks, hv⟩ := id hat
  obtain ⟨hx, hb, hml, hown, hts⟩ := id hF
  have hown : s.vm.findClass RX3 = some m.cls := hown
  have hl : lv_has ls 3 [(0, .ref mo), (1, .int x)] := hl
  have hP : va_P D vwCl [(mo, .inr (3, [.ref b1, .ref b2, .ref b3, .ref b4, .int (nI nh), .int (nI 200), .int (nI np), .int th])), (b1, .inl (cI, 200, .inl fh)), (b2, .inl (cI, 200, .inl fo)), (b3, .inl (cI, 200, .inl fk)), (b4, .inl (cI, 200, .inl ft))] s.heap := hP
  have hD : va_D A [(mo, .inr (3, [.ref b1, .ref b2, .ref b3, .ref b4, .int (nI nh), .int (nI 200), .int (nI np), .int th])), (b1, .inl (cI, 200, .inl fh)), (b2, .inl (cI, 200, .inl fo)), (b3, .inl (cI, 200, .inl fk)), (b4, .inl (cI, 200, .inl ft))] := hD
  have iX3 : ∀ w ∈ wsX30, w ∈ wsX3_addFirst := by decide +kernel
  have k13 := hts (.fieldLink RX3 13 "HeapAndDequeModel" "row" "[I") (by decide +kernel)
  have k47 := hts (.fieldLink RX3 47 "HeapAndDequeModel" "many" "I") (by decide +kernel)
  refine lv_aload_n hx hb dX3_addFirst_0 rfl (lv_at hl 0 rfl) ?_
  refine lv_aload_n hx hb dX3_addFirst_1 rfl (lv_at hl 0 rfl) ?_
  refine va_get (D := D) (ci := 3) (v := .int (nI 200)) (C := RX3) (T := TX3) (N := 8) hx hb hts iX3 hown hK hP 0 rfl rfl 5 (by decide) k47 (fun _ h9 => h9) rfl dX3_addFirst_2 ?_
  refine lv_sipush (v := nI 200) hx hb dX3_addFirst_5 (by decide +kernel) ?_
  refine lv_icmp_ne (tgt := 15) hx hb dX3_addFirst_8 (by decide) (fun ht_ => absurd (rfl) ht_) (fun _ => ?_)
  refine lv_iconst (v := 1) hx hb dX3_addFirst_11 (by decide) ?_
  refine lv_goto (tgt := 16) hx hb dX3_addFirst_12 (by decide) ?_
  refine hc_iV (As := [.int 1]) (rest := []) (wc := [(mo, .inr (3, [.ref b1, .ref b2, .ref b3, .ref b4, .int (nI nh), .int (nI 200), .int (nI np), .int th])), (b1, .inl (cI, 200, .inl fh)), (b2, .inl (cI, 200, .inl fo)), (b3, .inl (cI, 200, .inl fk)), (b4, .inl (cI, 200, .inl ft))]) (wr := []) (w1 := [(mo, .inr (3, [.ref b1, .ref b2, .ref b3, .ref b4, .int (nI nh), .int (nI 200), .int (nI np), .int 1])), (b1, .inl (cI, 200, .inl fh)), (b2, .inl (cI, 200, .inl fo)), (b3, .inl (cI, 200, .inl fk)), (b4, .inl (cI, 200, .inl ft))]) (w' := [(mo, .inr (3, [.ref b1, .ref b2, .ref b3, .ref b4, .int (nI nh), .int (nI 200), .int (nI np), .int 1])), (b1, .inl (cI, 200, .inl fh)), (b2, .inl (cI, 200, .inl fo)), (b3, .inl (cI, 200, .inl fk)), (b4, .inl (cI, 200, .inl ft))]) hF (c_X3_isWrong_k l D mo b1 b2 b3 b4 cI fh fo fk ft nh 200 np th 1 (by decide)) (cwV 1 hts gX3_addFirst_X3_isWrong rfl rfl rfl (by decide +kernel) ⟨Nat.le_of_ble_eq_true rfl, Nat.le_of_ble_eq_true rfl⟩) hP hK hD hS hA hv [0, 1, 2, 3, 4] [] [0, 1, 2, 3, 4] [0] ⟨rfl, rfl, rfl, rfl, ⟨by decide, by decide, by decide⟩, by decide⟩ 0 3 rfl rfl rfl rfl hl.1 rfl (Nat.le_of_ble_eq_true rfl) dX3_addFirst_16 ⟨Nat.zero_le _, Nat.zero_le _⟩ (fun H locs hP hD hS => ?_)
  refine lv_if_eq (tgt := 24) hx hb dX3_addFirst_19 (by decide) (fun ht_ => absurd ht_ (by decide)) (fun _ => ?_)
  refine lv_iconst (v := 0) hx hb dX3_addFirst_22 (by decide) ?_
  exact hend _ _ _ _ _ hP hD hS (rfl) dX3_addFirst_23
set_option maxHeartbeats 4000000 in
set_option maxRecDepth 100000 in
theorem c_X3_addLast (l : Launch) (D : va_G) (mo b1 b2 b3 b4 : Nat) (cI : ClassId) (fh fo fk ft : Nat → Int32) (nh no np : Nat) (th : Int32) (x : Int32) (hc : no < 200) : mI l yX3_addLast wsX3_addLast ({ frames := 1, cells := 0, slots := 0, locals := 21 }) [.ref mo, .int x] D [(cI, .int)] [(mo, .inr (3, [.ref b1, .ref b2, .ref b3, .ref b4, .int (nI nh), .int (nI no), .int (nI np), .int th])), (b1, .inl (cI, 200, .inl fh)), (b2, .inl (cI, 200, .inl fo)), (b3, .inl (cI, 200, .inl fk)), (b4, .inl (cI, 200, .inl ft))] [(mo, .inr (3, [.ref b1, .ref b2, .ref b3, .ref b4, .int (nI nh), .int (nI (no + 1)), .int (nI np), .int (nI 0)])), (b1, .inl (cI, 200, .inl fh)), (b2, .inl (cI, 200, .inl (upd fo no x))), (b3, .inl (cI, 200, .inl fk)), (b4, .inl (cI, 200, .inl ft))] (nI (no + 1)) := by
  refine hI_body (cc := cX3_addLast) (maxL := 2) (by decide) rfl (Nat.le_of_ble_eq_true rfl) (rfl) ?_
  intro p e s m below meth cd A ls Q hat hA hP hK hD hS hl hend
  obtain ⟨hF, hr, hlocks, hv⟩ := id hat
  obtain ⟨hx, hb, hml, hown, hts⟩ := id hF
  have hown : s.vm.findClass RX3 = some m.cls := hown
  have hl : lv_has ls 2 [(0, .ref mo), (1, .int x)] := hl
  have hP : va_P D vwCl [(mo, .inr (3, [.ref b1, .ref b2, .ref b3, .ref b4, .int (nI nh), .int (nI no), .int (nI np), .int th])), (b1, .inl (cI, 200, .inl fh)), (b2, .inl (cI, 200, .inl fo)), (b3, .inl (cI, 200, .inl fk)), (b4, .inl (cI, 200, .inl ft))] s.heap := hP
  have hD : va_D A [(mo, .inr (3, [.ref b1, .ref b2, .ref b3, .ref b4, .int (nI nh), .int (nI no), .int (nI np), .int th])), (b1, .inl (cI, 200, .inl fh)), (b2, .inl (cI, 200, .inl fo)), (b3, .inl (cI, 200, .inl fk)), (b4, .inl (cI, 200, .inl ft))] := hD
  have iX3 : ∀ w ∈ wsX30, w ∈ wsX3_addLast := by decide +kernel
  have k13 := hts (.fieldLink RX3 13 "HeapAndDequeModel" "row" "[I") (by decide +kernel)
  have k47 := hts (.fieldLink RX3 47 "HeapAndDequeModel" "many" "I") (by decide +kernel)
  refine lv_aload_n hx hb dX3_addLast_0 rfl (lv_at hl 0 rfl) ?_
  refine lv_aload_n hx hb dX3_addLast_1 rfl (lv_at hl 0 rfl) ?_
  refine va_get (D := D) (ci := 3) (v := .int (nI no)) (C := RX3) (T := TX3) (N := 8) hx hb hts iX3 hown hK hP 0 rfl rfl 5 (by decide) k47 (fun _ h9 => h9) rfl dX3_addLast_2 ?_
  refine lv_sipush (v := nI 200) hx hb dX3_addLast_5 (by decide +kernel) ?_
  refine lv_icmp_ne (tgt := 15) hx hb dX3_addLast_8 (by decide) (fun _ => ?_) (fun hn => absurd hn (fun h => absurd ((nI_eq (by omega) (by decide)).mp h) (by omega)))
  refine lv_iconst (v := nI 0) hx hb dX3_addLast_15 (by decide +kernel) ?_
  refine hc_iV (As := [.int (nI 0)]) (rest := []) (wc := [(mo, .inr (3, [.ref b1, .ref b2, .ref b3, .ref b4, .int (nI nh), .int (nI no), .int (nI np), .int th])), (b1, .inl (cI, 200, .inl fh)), (b2, .inl (cI, 200, .inl fo)), (b3, .inl (cI, 200, .inl fk)), (b4, .inl (cI, 200, .inl ft))]) (wr := []) (w1 := [(mo, .inr (3, [.ref b1, .ref b2, .ref b3, .ref b4, .int (nI nh), .int (nI no), .int (nI np), .int (nI 0)])), (b1, .inl (cI, 200, .inl fh)), (b2, .inl (cI, 200, .inl fo)), (b3, .inl (cI, 200, .inl fk)), (b4, .inl (cI, 200, .inl ft))]) (w' := [(mo, .inr (3, [.ref b1, .ref b2, .ref b3, .ref b4, .int (nI nh), .int (nI no), .int (nI np), .int (nI 0)])), (b1, .inl (cI, 200, .inl fh)), (b2, .inl (cI, 200, .inl fo)), (b3, .inl (cI, 200, .inl fk)), (b4, .inl (cI, 200, .inl ft))]) hF (c_X3_isWrong_z l D mo b1 b2 b3 b4 cI fh fo fk ft nh no np th ) (cwV 1 hts gX3_addLast_X3_isWrong rfl rfl rfl (by decide +kernel) ⟨Nat.le_of_ble_eq_true rfl, Nat.le_of_ble_eq_true rfl⟩) hP hK hD hS hA hv [0, 1, 2, 3, 4] [] [0, 1, 2, 3, 4] [0] ⟨rfl, rfl, rfl, rfl, ⟨by decide, by decide, by decide⟩, by decide⟩ 0 3 rfl rfl rfl rfl hl.1 rfl (Nat.le_of_ble_eq_true rfl) dX3_addLast_16 ⟨Nat.zero_le _, Nat.zero_le _⟩ (fun H locs hP hD hS => ?_)
  refine lv_if_eq (tgt := 24) hx hb dX3_addLast_19 (by decide) (fun _ => ?_) (fun hn => absurd (rfl) hn)
  refine lv_aload_n hx hb dX3_addLast_24 rfl (lv_at hl 0 rfl) ?_
  refine va_get (D := D) (ci := 3) (v := .ref b2) (C := RX3) (T := TX3) (N := 8) hx hb hts iX3 hown hK hP 0 rfl rfl 1 (by decide) k13 (fun _ h9 => h9) rfl dX3_addLast_25 ?_
  refine lv_aload_n hx hb dX3_addLast_28 rfl (lv_at hl 0 rfl) ?_
  refine va_get (D := D) (ci := 3) (v := .int (nI no)) (C := RX3) (T := TX3) (N := 8) hx hb hts iX3 hown hK hP 0 rfl rfl 5 (by decide) k47 (fun _ h9 => h9) rfl dX3_addLast_29 ?_
  refine lv_iload_n hx hb dX3_addLast_32 rfl (lv_at hl 1 rfl) ?_
  refine h_iast hx hb hK hP hD hS 2 0 rfl rfl (by decide) (by omega) dX3_addLast_33 (fun H locs hP hD hS => ?_)
  have hP : va_P D vwCl [(mo, .inr (3, [.ref b1, .ref b2, .ref b3, .ref b4, .int (nI nh), .int (nI no), .int (nI np), .int (nI 0)])), (b1, .inl (cI, 200, .inl fh)), (b2, .inl (cI, 200, .inl (upd fo no x))), (b3, .inl (cI, 200, .inl fk)), (b4, .inl (cI, 200, .inl ft))] H := hP
  have hD : va_D A [(mo, .inr (3, [.ref b1, .ref b2, .ref b3, .ref b4, .int (nI nh), .int (nI no), .int (nI np), .int (nI 0)])), (b1, .inl (cI, 200, .inl fh)), (b2, .inl (cI, 200, .inl (upd fo no x))), (b3, .inl (cI, 200, .inl fk)), (b4, .inl (cI, 200, .inl ft))] := hD
  refine lv_aload_n hx hb dX3_addLast_34 rfl (lv_at hl 0 rfl) ?_
  refine lv_dup hx hb dX3_addLast_35 rfl ?_
  refine va_get (D := D) (ci := 3) (v := .int (nI no)) (C := RX3) (T := TX3) (N := 8) hx hb hts iX3 hown hK hP 0 rfl rfl 5 (by decide) k47 (fun _ h9 => h9) rfl dX3_addLast_36 ?_
  refine lv_iconst (v := 1) hx hb dX3_addLast_39 (by decide) ?_
  refine lv_iadd hx hb dX3_addLast_40 ?_
  refine hw_i (y := nI (no + 1)) (nI_1 _) ?_
  refine va_put (D := D) (ci := 3) (v := .int (nI (no + 1))) (ty := .int) (C := RX3) (T := TX3) (N := 8) hx hb hts iX3 tyX3 tyX3_ok nmX3 hown hK hP hD hS 0 rfl rfl 5 (by decide) k47 (fun _ h9 => h9) rfl (by decide +kernel) rfl rfl (Nat.le_of_ble_eq_true rfl) dX3_addLast_41 (fun H locs hP hD hS => ?_)
  have hP : va_P D vwCl [(mo, .inr (3, [.ref b1, .ref b2, .ref b3, .ref b4, .int (nI nh), .int (nI (no + 1)), .int (nI np), .int (nI 0)])), (b1, .inl (cI, 200, .inl fh)), (b2, .inl (cI, 200, .inl (upd fo no x))), (b3, .inl (cI, 200, .inl fk)), (b4, .inl (cI, 200, .inl ft))] H := hP
  have hD : va_D A [(mo, .inr (3, [.ref b1, .ref b2, .ref b3, .ref b4, .int (nI nh), .int (nI (no + 1)), .int (nI np), .int (nI 0)])), (b1, .inl (cI, 200, .inl fh)), (b2, .inl (cI, 200, .inl (upd fo no x))), (b3, .inl (cI, 200, .inl fk)), (b4, .inl (cI, 200, .inl ft))] := hD
  refine lv_aload_n hx hb dX3_addLast_44 rfl (lv_at hl 0 rfl) ?_
  refine va_get (D := D) (ci := 3) (v := .int (nI (no + 1))) (C := RX3) (T := TX3) (N := 8) hx hb hts iX3 hown hK hP 0 rfl rfl 5 (by decide) k47 (fun _ h9 => h9) rfl dX3_addLast_45 ?_
  exact hend _ _ _ _ _ hP hD hS (rfl) dX3_addLast_48
set_option maxHeartbeats 4000000 in
set_option maxRecDepth 100000 in
theorem c_X3_addLast_x (l : Launch) (D : va_G) (mo b1 b2 b3 b4 : Nat) (cI : ClassId) (fh fo fk ft : Nat → Int32) (nh np : Nat) (th : Int32) (x : Int32) : mI l yX3_addLast wsX3_addLast ({ frames := 1, cells := 0, slots := 0, locals := 21 }) [.ref mo, .int x] D [(cI, .int)] [(mo, .inr (3, [.ref b1, .ref b2, .ref b3, .ref b4, .int (nI nh), .int (nI 200), .int (nI np), .int th])), (b1, .inl (cI, 200, .inl fh)), (b2, .inl (cI, 200, .inl fo)), (b3, .inl (cI, 200, .inl fk)), (b4, .inl (cI, 200, .inl ft))] [(mo, .inr (3, [.ref b1, .ref b2, .ref b3, .ref b4, .int (nI nh), .int (nI 200), .int (nI np), .int 1])), (b1, .inl (cI, 200, .inl fh)), (b2, .inl (cI, 200, .inl fo)), (b3, .inl (cI, 200, .inl fk)), (b4, .inl (cI, 200, .inl ft))] (0) := by
  refine hI_body (cc := cX3_addLast) (maxL := 2) (by decide) rfl (Nat.le_of_ble_eq_true rfl) (rfl) ?_
  intro p e s m below meth cd A ls Q hat hA hP hK hD hS hl hend
  obtain ⟨hF, hr, hlocks, hv⟩ := id hat
  obtain ⟨hx, hb, hml, hown, hts⟩ := id hF
  have hown : s.vm.findClass RX3 = some m.cls := hown
  have hl : lv_has ls 2 [(0, .ref mo), (1, .int x)] := hl
  have hP : va_P D vwCl [(mo, .inr (3, [.ref b1, .ref b2, .ref b3, .ref b4, .int (nI nh), .int (nI 200), .int (nI np), .int th])), (b1, .inl (cI, 200, .inl fh)), (b2, .inl (cI, 200, .inl fo)), (b3, .inl (cI, 200, .inl fk)), (b4, .inl (cI, 200, .inl ft))] s.heap := hP
  have hD : va_D A [(mo, .inr (3, [.ref b1, .ref b2, .ref b3, .ref b4, .int (nI nh), .int (nI 200), .int (nI np), .int th])), (b1, .inl (cI, 200, .inl fh)), (b2, .inl (cI, 200, .inl fo)), (b3, .inl (cI, 200, .inl fk)), (b4, .inl (cI, 200, .inl ft))] := hD
  have iX3 : ∀ w ∈ wsX30, w ∈ wsX3_addLast := by decide +kernel
  have k13 := hts (.fieldLink RX3 13 "HeapAndDequeModel" "row" "[I") (by decide +kernel)
  have k47 := hts (.fieldLink RX3 47 "HeapAndDequeModel" "many" "I") (by decide +kernel)
  refine lv_aload_n hx hb dX3_addLast_0 rfl (lv_at hl 0 rfl) ?_
  refine lv_aload_n hx hb dX3_addLast_1 rfl (lv_at hl 0 rfl) ?_
  refine va_get (D := D) (ci := 3) (v := .int (nI 200)) (C := RX3) (T := TX3) (N := 8) hx hb hts iX3 hown hK hP 0 rfl rfl 5 (by decide) k47 (fun _ h9 => h9) rfl dX3_addLast_2 ?_
  refine lv_sipush (v := nI 200) hx hb dX3_addLast_5 (by decide +kernel) ?_
  refine lv_icmp_ne (tgt := 15) hx hb dX3_addLast_8 (by decide) (fun ht_ => absurd (rfl) ht_) (fun _ => ?_)
  refine lv_iconst (v := 1) hx hb dX3_addLast_11 (by decide) ?_
  refine lv_goto (tgt := 16) hx hb dX3_addLast_12 (by decide) ?_
  refine hc_iV (As := [.int 1]) (rest := []) (wc := [(mo, .inr (3, [.ref b1, .ref b2, .ref b3, .ref b4, .int (nI nh), .int (nI 200), .int (nI np), .int th])), (b1, .inl (cI, 200, .inl fh)), (b2, .inl (cI, 200, .inl fo)), (b3, .inl (cI, 200, .inl fk)), (b4, .inl (cI, 200, .inl ft))]) (wr := []) (w1 := [(mo, .inr (3, [.ref b1, .ref b2, .ref b3, .ref b4, .int (nI nh), .int (nI 200), .int (nI np), .int 1])), (b1, .inl (cI, 200, .inl fh)), (b2, .inl (cI, 200, .inl fo)), (b3, .inl (cI, 200, .inl fk)), (b4, .inl (cI, 200, .inl ft))]) (w' := [(mo, .inr (3, [.ref b1, .ref b2, .ref b3, .ref b4, .int (nI nh), .int (nI 200), .int (nI np), .int 1])), (b1, .inl (cI, 200, .inl fh)), (b2, .inl (cI, 200, .inl fo)), (b3, .inl (cI, 200, .inl fk)), (b4, .inl (cI, 200, .inl ft))]) hF (c_X3_isWrong_k l D mo b1 b2 b3 b4 cI fh fo fk ft nh 200 np th 1 (by decide)) (cwV 1 hts gX3_addLast_X3_isWrong rfl rfl rfl (by decide +kernel) ⟨Nat.le_of_ble_eq_true rfl, Nat.le_of_ble_eq_true rfl⟩) hP hK hD hS hA hv [0, 1, 2, 3, 4] [] [0, 1, 2, 3, 4] [0] ⟨rfl, rfl, rfl, rfl, ⟨by decide, by decide, by decide⟩, by decide⟩ 0 3 rfl rfl rfl rfl hl.1 rfl (Nat.le_of_ble_eq_true rfl) dX3_addLast_16 ⟨Nat.zero_le _, Nat.zero_le _⟩ (fun H locs hP hD hS => ?_)
  refine lv_if_eq (tgt := 24) hx hb dX3_addLast_19 (by decide) (fun ht_ => absurd ht_ (by decide)) (fun _ => ?_)
  refine lv_iconst (v := 0) hx hb dX3_addLast_22 (by decide) ?_
  exact hend _ _ _ _ _ hP hD hS (rfl) dX3_addLast_23
set_option maxHeartbeats 4000000 in
set_option maxRecDepth 100000 in
theorem c_X3_push (l : Launch) (D : va_G) (mo b1 b2 b3 b4 : Nat) (cI : ClassId) (fh fo fk ft : Nat → Int32) (nh no np : Nat) (th : Int32) (x : Int32) (hc : no < 200) : mI l yX3_push wsX3_push ({ frames := 2, cells := 0, slots := 0, locals := 43 }) [.ref mo, .int x] D [(cI, .int)] [(mo, .inr (3, [.ref b1, .ref b2, .ref b3, .ref b4, .int (nI nh), .int (nI no), .int (nI np), .int th])), (b1, .inl (cI, 200, .inl fh)), (b2, .inl (cI, 200, .inl fo)), (b3, .inl (cI, 200, .inl fk)), (b4, .inl (cI, 200, .inl ft))] [(mo, .inr (3, [.ref b1, .ref b2, .ref b3, .ref b4, .int (nI nh), .int (nI (no + 1)), .int (nI np), .int (nI 0)])), (b1, .inl (cI, 200, .inl fh)), (b2, .inl (cI, 200, .inl (s_ins fo x no))), (b3, .inl (cI, 200, .inl fk)), (b4, .inl (cI, 200, .inl ft))] (nI (no + 1)) := by
  refine hI_body (cc := cX3_push) (maxL := 2) (by decide) rfl (Nat.le_of_ble_eq_true rfl) (rfl) ?_
  intro p e s m below meth cd A ls Q hat hA hP hK hD hS hl hend
  obtain ⟨hF, hr, hlocks, hv⟩ := id hat
  obtain ⟨hx, hb, hml, hown, hts⟩ := id hF
  have hown : s.vm.findClass RX3 = some m.cls := hown
  have hl : lv_has ls 2 [(0, .ref mo), (1, .int x)] := hl
  have hP : va_P D vwCl [(mo, .inr (3, [.ref b1, .ref b2, .ref b3, .ref b4, .int (nI nh), .int (nI no), .int (nI np), .int th])), (b1, .inl (cI, 200, .inl fh)), (b2, .inl (cI, 200, .inl fo)), (b3, .inl (cI, 200, .inl fk)), (b4, .inl (cI, 200, .inl ft))] s.heap := hP
  have hD : va_D A [(mo, .inr (3, [.ref b1, .ref b2, .ref b3, .ref b4, .int (nI nh), .int (nI no), .int (nI np), .int th])), (b1, .inl (cI, 200, .inl fh)), (b2, .inl (cI, 200, .inl fo)), (b3, .inl (cI, 200, .inl fk)), (b4, .inl (cI, 200, .inl ft))] := hD
  refine lv_aload_n hx hb dX3_push_0 rfl (lv_at hl 0 rfl) ?_
  refine lv_iload_n hx hb dX3_push_1 rfl (lv_at hl 1 rfl) ?_
  refine hc_iV (As := [.int x]) (rest := []) (wc := [(mo, .inr (3, [.ref b1, .ref b2, .ref b3, .ref b4, .int (nI nh), .int (nI no), .int (nI np), .int th])), (b1, .inl (cI, 200, .inl fh)), (b2, .inl (cI, 200, .inl fo)), (b3, .inl (cI, 200, .inl fk)), (b4, .inl (cI, 200, .inl ft))]) (wr := []) (w1 := [(mo, .inr (3, [.ref b1, .ref b2, .ref b3, .ref b4, .int (nI nh), .int (nI (no + 1)), .int (nI np), .int (nI 0)])), (b1, .inl (cI, 200, .inl fh)), (b2, .inl (cI, 200, .inl (s_ins fo x no))), (b3, .inl (cI, 200, .inl fk)), (b4, .inl (cI, 200, .inl ft))]) (w' := [(mo, .inr (3, [.ref b1, .ref b2, .ref b3, .ref b4, .int (nI nh), .int (nI (no + 1)), .int (nI np), .int (nI 0)])), (b1, .inl (cI, 200, .inl fh)), (b2, .inl (cI, 200, .inl (s_ins fo x no))), (b3, .inl (cI, 200, .inl fk)), (b4, .inl (cI, 200, .inl ft))]) hF (c_X3_addFirst l D mo b1 b2 b3 b4 cI fh fo fk ft nh no np th x hc) (cwV 1 hts gX3_push_X3_addFirst rfl rfl rfl (by decide +kernel) ⟨Nat.le_of_ble_eq_true rfl, Nat.le_of_ble_eq_true rfl⟩) hP hK hD hS hA hv [0, 1, 2, 3, 4] [] [0, 1, 2, 3, 4] [0] ⟨rfl, rfl, rfl, rfl, ⟨by decide, by decide, by decide⟩, by decide⟩ 0 3 rfl rfl rfl rfl hl.1 rfl (Nat.le_of_ble_eq_true rfl) dX3_push_2 ⟨Nat.zero_le _, Nat.zero_le _⟩ (fun H locs hP hD hS => ?_)
  exact hend _ _ _ _ _ hP hD hS (rfl) dX3_push_5
set_option maxHeartbeats 4000000 in
set_option maxRecDepth 100000 in
theorem c_X3_push_x (l : Launch) (D : va_G) (mo b1 b2 b3 b4 : Nat) (cI : ClassId) (fh fo fk ft : Nat → Int32) (nh np : Nat) (th : Int32) (x : Int32) : mI l yX3_push wsX3_push ({ frames := 2, cells := 0, slots := 0, locals := 43 }) [.ref mo, .int x] D [(cI, .int)] [(mo, .inr (3, [.ref b1, .ref b2, .ref b3, .ref b4, .int (nI nh), .int (nI 200), .int (nI np), .int th])), (b1, .inl (cI, 200, .inl fh)), (b2, .inl (cI, 200, .inl fo)), (b3, .inl (cI, 200, .inl fk)), (b4, .inl (cI, 200, .inl ft))] [(mo, .inr (3, [.ref b1, .ref b2, .ref b3, .ref b4, .int (nI nh), .int (nI 200), .int (nI np), .int 1])), (b1, .inl (cI, 200, .inl fh)), (b2, .inl (cI, 200, .inl fo)), (b3, .inl (cI, 200, .inl fk)), (b4, .inl (cI, 200, .inl ft))] (0) := by
  refine hI_body (cc := cX3_push) (maxL := 2) (by decide) rfl (Nat.le_of_ble_eq_true rfl) (rfl) ?_
  intro p e s m below meth cd A ls Q hat hA hP hK hD hS hl hend
  obtain ⟨hF, hr, hlocks, hv⟩ := id hat
  obtain ⟨hx, hb, hml, hown, hts⟩ := id hF
  have hown : s.vm.findClass RX3 = some m.cls := hown
  have hl : lv_has ls 2 [(0, .ref mo), (1, .int x)] := hl
  have hP : va_P D vwCl [(mo, .inr (3, [.ref b1, .ref b2, .ref b3, .ref b4, .int (nI nh), .int (nI 200), .int (nI np), .int th])), (b1, .inl (cI, 200, .inl fh)), (b2, .inl (cI, 200, .inl fo)), (b3, .inl (cI, 200, .inl fk)), (b4, .inl (cI, 200, .inl ft))] s.heap := hP
  have hD : va_D A [(mo, .inr (3, [.ref b1, .ref b2, .ref b3, .ref b4, .int (nI nh), .int (nI 200), .int (nI np), .int th])), (b1, .inl (cI, 200, .inl fh)), (b2, .inl (cI, 200, .inl fo)), (b3, .inl (cI, 200, .inl fk)), (b4, .inl (cI, 200, .inl ft))] := hD
  refine lv_aload_n hx hb dX3_push_0 rfl (lv_at hl 0 rfl) ?_
  refine lv_iload_n hx hb dX3_push_1 rfl (lv_at hl 1 rfl) ?_
  refine hc_iV (As := [.int x]) (rest := []) (wc := [(mo, .inr (3, [.ref b1, .ref b2, .ref b3, .ref b4, .int (nI nh), .int (nI 200), .int (nI np), .int th])), (b1, .inl (cI, 200, .inl fh)), (b2, .inl (cI, 200, .inl fo)), (b3, .inl (cI, 200, .inl fk)), (b4, .inl (cI, 200, .inl ft))]) (wr := []) (w1 := [(mo, .inr (3, [.ref b1, .ref b2, .ref b3, .ref b4, .int (nI nh), .int (nI 200), .int (nI np), .int 1])), (b1, .inl (cI, 200, .inl fh)), (b2, .inl (cI, 200, .inl fo)), (b3, .inl (cI, 200, .inl fk)), (b4, .inl (cI, 200, .inl ft))]) (w' := [(mo, .inr (3, [.ref b1, .ref b2, .ref b3, .ref b4, .int (nI nh), .int (nI 200), .int (nI np), .int 1])), (b1, .inl (cI, 200, .inl fh)), (b2, .inl (cI, 200, .inl fo)), (b3, .inl (cI, 200, .inl fk)), (b4, .inl (cI, 200, .inl ft))]) hF (c_X3_addFirst_x l D mo b1 b2 b3 b4 cI fh fo fk ft nh np th x) (cwV 1 hts gX3_push_X3_addFirst rfl rfl rfl (by decide +kernel) ⟨Nat.le_of_ble_eq_true rfl, Nat.le_of_ble_eq_true rfl⟩) hP hK hD hS hA hv [0, 1, 2, 3, 4] [] [0, 1, 2, 3, 4] [0] ⟨rfl, rfl, rfl, rfl, ⟨by decide, by decide, by decide⟩, by decide⟩ 0 3 rfl rfl rfl rfl hl.1 rfl (Nat.le_of_ble_eq_true rfl) dX3_push_2 ⟨Nat.zero_le _, Nat.zero_le _⟩ (fun H locs hP hD hS => ?_)
  exact hend _ _ _ _ _ hP hD hS (rfl) dX3_push_5
set_option maxHeartbeats 4000000 in
set_option maxRecDepth 100000 in
theorem c_X3_getFirst (l : Launch) (D : va_G) (mo b1 b2 b3 b4 : Nat) (cI : ClassId) (fh fo fk ft : Nat → Int32) (nh no np : Nat) (th : Int32) (h1c : 1 ≤ no) (hn9 : no ≤ 200) : mI l yX3_getFirst wsX3_getFirst ({ frames := 2, cells := 0, slots := 0, locals := 41 }) [.ref mo] D [(cI, .int)] [(mo, .inr (3, [.ref b1, .ref b2, .ref b3, .ref b4, .int (nI nh), .int (nI no), .int (nI np), .int th])), (b1, .inl (cI, 200, .inl fh)), (b2, .inl (cI, 200, .inl fo)), (b3, .inl (cI, 200, .inl fk)), (b4, .inl (cI, 200, .inl ft))] [(mo, .inr (3, [.ref b1, .ref b2, .ref b3, .ref b4, .int (nI nh), .int (nI no), .int (nI np), .int (nI 0)])), (b1, .inl (cI, 200, .inl fh)), (b2, .inl (cI, 200, .inl fo)), (b3, .inl (cI, 200, .inl fk)), (b4, .inl (cI, 200, .inl ft))] (fo 0) := by
  refine hI_body (cc := cX3_getFirst) (maxL := 1) (by decide) rfl (Nat.le_of_ble_eq_true rfl) (rfl) ?_
  intro p e s m below meth cd A ls Q hat hA hP hK hD hS hl hend
  obtain ⟨hF, hr, hlocks, hv⟩ := id hat
  obtain ⟨hx, hb, hml, hown, hts⟩ := id hF
  have hown : s.vm.findClass RX3 = some m.cls := hown
  have hl : lv_has ls 1 [(0, .ref mo)] := hl
  have hP : va_P D vwCl [(mo, .inr (3, [.ref b1, .ref b2, .ref b3, .ref b4, .int (nI nh), .int (nI no), .int (nI np), .int th])), (b1, .inl (cI, 200, .inl fh)), (b2, .inl (cI, 200, .inl fo)), (b3, .inl (cI, 200, .inl fk)), (b4, .inl (cI, 200, .inl ft))] s.heap := hP
  have hD : va_D A [(mo, .inr (3, [.ref b1, .ref b2, .ref b3, .ref b4, .int (nI nh), .int (nI no), .int (nI np), .int th])), (b1, .inl (cI, 200, .inl fh)), (b2, .inl (cI, 200, .inl fo)), (b3, .inl (cI, 200, .inl fk)), (b4, .inl (cI, 200, .inl ft))] := hD
  have iX3 : ∀ w ∈ wsX30, w ∈ wsX3_getFirst := by decide +kernel
  have k13 := hts (.fieldLink RX3 13 "HeapAndDequeModel" "row" "[I") (by decide +kernel)
  refine lv_aload_n hx hb dX3_getFirst_0 rfl (lv_at hl 0 rfl) ?_
  refine hc_iV (As := []) (rest := []) (wc := [(mo, .inr (3, [.ref b1, .ref b2, .ref b3, .ref b4, .int (nI nh), .int (nI no), .int (nI np), .int th])), (b1, .inl (cI, 200, .inl fh)), (b2, .inl (cI, 200, .inl fo)), (b3, .inl (cI, 200, .inl fk)), (b4, .inl (cI, 200, .inl ft))]) (wr := []) (w1 := [(mo, .inr (3, [.ref b1, .ref b2, .ref b3, .ref b4, .int (nI nh), .int (nI no), .int (nI np), .int (nI 0)])), (b1, .inl (cI, 200, .inl fh)), (b2, .inl (cI, 200, .inl fo)), (b3, .inl (cI, 200, .inl fk)), (b4, .inl (cI, 200, .inl ft))]) (w' := [(mo, .inr (3, [.ref b1, .ref b2, .ref b3, .ref b4, .int (nI nh), .int (nI no), .int (nI np), .int (nI 0)])), (b1, .inl (cI, 200, .inl fh)), (b2, .inl (cI, 200, .inl fo)), (b3, .inl (cI, 200, .inl fk)), (b4, .inl (cI, 200, .inl ft))]) hF (c_X3_isNone l D mo b1 b2 b3 b4 cI fh fo fk ft nh no np th h1c hn9) (cwV 0 hts gX3_getFirst_X3_isNone rfl rfl rfl (by decide +kernel) ⟨Nat.le_of_ble_eq_true rfl, Nat.le_of_ble_eq_true rfl⟩) hP hK hD hS hA hv [0, 1, 2, 3, 4] [] [0, 1, 2, 3, 4] [0] ⟨rfl, rfl, rfl, rfl, ⟨by decide, by decide, by decide⟩, by decide⟩ 0 3 rfl rfl rfl rfl hl.1 rfl (Nat.le_of_ble_eq_true rfl) dX3_getFirst_1 ⟨Nat.zero_le _, Nat.zero_le _⟩ (fun H locs hP hD hS => ?_)
  refine lv_if_eq (tgt := 11) hx hb dX3_getFirst_4 (by decide) (fun _ => ?_) (fun hn => absurd (rfl) hn)
  refine lv_aload_n hx hb dX3_getFirst_11 rfl (lv_at hl 0 rfl) ?_
  refine va_get (D := D) (ci := 3) (v := .ref b2) (C := RX3) (T := TX3) (N := 8) hx hb hts iX3 hown hK hP 0 rfl rfl 1 (by decide) k13 (fun _ h9 => h9) rfl dX3_getFirst_12 ?_
  refine lv_iconst (v := nI 0) hx hb dX3_getFirst_15 (by decide +kernel) ?_
  refine h_iald hx hb hK hP 2 0 rfl rfl (by decide) (by omega) dX3_getFirst_16 ?_
  exact hend _ _ _ _ _ hP hD hS (rfl) dX3_getFirst_17
set_option maxHeartbeats 4000000 in
set_option maxRecDepth 100000 in
theorem c_X3_getLast (l : Launch) (D : va_G) (mo b1 b2 b3 b4 : Nat) (cI : ClassId) (fh fo fk ft : Nat → Int32) (nh no np : Nat) (th : Int32) (h1c : 1 ≤ no) (hn9 : no ≤ 200) : mI l yX3_getLast wsX3_getLast ({ frames := 2, cells := 0, slots := 0, locals := 41 }) [.ref mo] D [(cI, .int)] [(mo, .inr (3, [.ref b1, .ref b2, .ref b3, .ref b4, .int (nI nh), .int (nI no), .int (nI np), .int th])), (b1, .inl (cI, 200, .inl fh)), (b2, .inl (cI, 200, .inl fo)), (b3, .inl (cI, 200, .inl fk)), (b4, .inl (cI, 200, .inl ft))] [(mo, .inr (3, [.ref b1, .ref b2, .ref b3, .ref b4, .int (nI nh), .int (nI no), .int (nI np), .int (nI 0)])), (b1, .inl (cI, 200, .inl fh)), (b2, .inl (cI, 200, .inl fo)), (b3, .inl (cI, 200, .inl fk)), (b4, .inl (cI, 200, .inl ft))] (fo (no - 1)) := by
  refine hI_body (cc := cX3_getLast) (maxL := 1) (by decide) rfl (Nat.le_of_ble_eq_true rfl) (rfl) ?_
  intro p e s m below meth cd A ls Q hat hA hP hK hD hS hl hend
  obtain ⟨hF, hr, hlocks, hv⟩ := id hat
  obtain ⟨hx, hb, hml, hown, hts⟩ := id hF
  have hown : s.vm.findClass RX3 = some m.cls := hown
  have hl : lv_has ls 1 [(0, .ref mo)] := hl
  have hP : va_P D vwCl [(mo, .inr (3, [.ref b1, .ref b2, .ref b3, .ref b4, .int (nI nh), .int (nI no), .int (nI np), .int th])), (b1, .inl (cI, 200, .inl fh)), (b2, .inl (cI, 200, .inl fo)), (b3, .inl (cI, 200, .inl fk)), (b4, .inl (cI, 200, .inl ft))] s.heap := hP
  have hD : va_D A [(mo, .inr (3, [.ref b1, .ref b2, .ref b3, .ref b4, .int (nI nh), .int (nI no), .int (nI np), .int th])), (b1, .inl (cI, 200, .inl fh)), (b2, .inl (cI, 200, .inl fo)), (b3, .inl (cI, 200, .inl fk)), (b4, .inl (cI, 200, .inl ft))] := hD
  have iX3 : ∀ w ∈ wsX30, w ∈ wsX3_getLast := by decide +kernel
  have k13 := hts (.fieldLink RX3 13 "HeapAndDequeModel" "row" "[I") (by decide +kernel)
  have k47 := hts (.fieldLink RX3 47 "HeapAndDequeModel" "many" "I") (by decide +kernel)
  refine lv_aload_n hx hb dX3_getLast_0 rfl (lv_at hl 0 rfl) ?_
  refine hc_iV (As := []) (rest := []) (wc := [(mo, .inr (3, [.ref b1, .ref b2, .ref b3, .ref b4, .int (nI nh), .int (nI no), .int (nI np), .int th])), (b1, .inl (cI, 200, .inl fh)), (b2, .inl (cI, 200, .inl fo)), (b3, .inl (cI, 200, .inl fk)), (b4, .inl (cI, 200, .inl ft))]) (wr := []) (w1 := [(mo, .inr (3, [.ref b1, .ref b2, .ref b3, .ref b4, .int (nI nh), .int (nI no), .int (nI np), .int (nI 0)])), (b1, .inl (cI, 200, .inl fh)), (b2, .inl (cI, 200, .inl fo)), (b3, .inl (cI, 200, .inl fk)), (b4, .inl (cI, 200, .inl ft))]) (w' := [(mo, .inr (3, [.ref b1, .ref b2, .ref b3, .ref b4, .int (nI nh), .int (nI no), .int (nI np), .int (nI 0)])), (b1, .inl (cI, 200, .inl fh)), (b2, .inl (cI, 200, .inl fo)), (b3, .inl (cI, 200, .inl fk)), (b4, .inl (cI, 200, .inl ft))]) hF (c_X3_isNone l D mo b1 b2 b3 b4 cI fh fo fk ft nh no np th h1c hn9) (cwV 0 hts gX3_getLast_X3_isNone rfl rfl rfl (by decide +kernel) ⟨Nat.le_of_ble_eq_true rfl, Nat.le_of_ble_eq_true rfl⟩) hP hK hD hS hA hv [0, 1, 2, 3, 4] [] [0, 1, 2, 3, 4] [0] ⟨rfl, rfl, rfl, rfl, ⟨by decide, by decide, by decide⟩, by decide⟩ 0 3 rfl rfl rfl rfl hl.1 rfl (Nat.le_of_ble_eq_true rfl) dX3_getLast_1 ⟨Nat.zero_le _, Nat.zero_le _⟩ (fun H locs hP hD hS => ?_)
  refine lv_if_eq (tgt := 11) hx hb dX3_getLast_4 (by decide) (fun _ => ?_) (fun hn => absurd (rfl) hn)
  refine lv_aload_n hx hb dX3_getLast_11 rfl (lv_at hl 0 rfl) ?_
  refine va_get (D := D) (ci := 3) (v := .ref b2) (C := RX3) (T := TX3) (N := 8) hx hb hts iX3 hown hK hP 0 rfl rfl 1 (by decide) k13 (fun _ h9 => h9) rfl dX3_getLast_12 ?_
  refine lv_aload_n hx hb dX3_getLast_15 rfl (lv_at hl 0 rfl) ?_
  refine va_get (D := D) (ci := 3) (v := .int (nI no)) (C := RX3) (T := TX3) (N := 8) hx hb hts iX3 hown hK hP 0 rfl rfl 5 (by decide) k47 (fun _ h9 => h9) rfl dX3_getLast_16 ?_
  refine lv_iconst (v := 1) hx hb dX3_getLast_19 (by decide) ?_
  refine lv_isub hx hb dX3_getLast_20 ?_
  refine hw_i (y := nI (no - 1)) (h_sub1 (by omega)) ?_
  refine h_iald hx hb hK hP 2 0 rfl rfl (by decide) (by omega) dX3_getLast_21 ?_
  exact hend _ _ _ _ _ hP hD hS (rfl) dX3_getLast_22
set_option maxHeartbeats 4000000 in
set_option maxRecDepth 100000 in
theorem c_X3_removeFirst (l : Launch) (D : va_G) (mo b1 b2 b3 b4 : Nat) (cI : ClassId) (fh fo fk ft : Nat → Int32) (nh no np : Nat) (th : Int32) (h1c : 1 ≤ no) (hn9 : no ≤ 200) : mI l yX3_removeFirst wsX3_removeFirst ({ frames := 2, cells := 0, slots := 0, locals := 41 }) [.ref mo] D [(cI, .int)] [(mo, .inr (3, [.ref b1, .ref b2, .ref b3, .ref b4, .int (nI nh), .int (nI no), .int (nI np), .int th])), (b1, .inl (cI, 200, .inl fh)), (b2, .inl (cI, 200, .inl fo)), (b3, .inl (cI, 200, .inl fk)), (b4, .inl (cI, 200, .inl ft))] [(mo, .inr (3, [.ref b1, .ref b2, .ref b3, .ref b4, .int (nI nh), .int (nI (no - 1)), .int (nI np), .int (nI 0)])), (b1, .inl (cI, 200, .inl fh)), (b2, .inl (cI, 200, .inl (s_rm fo 0 no))), (b3, .inl (cI, 200, .inl fk)), (b4, .inl (cI, 200, .inl ft))] (fo 0) := by
  refine hI_body (cc := cX3_removeFirst) (maxL := 1) (by decide) rfl (Nat.le_of_ble_eq_true rfl) (rfl) ?_
  intro p e s m below meth cd A ls Q hat hA hP hK hD hS hl hend
  obtain ⟨hF, hr, hlocks, hv⟩ := id hat
  obtain ⟨hx, hb, hml, hown, hts⟩ := id hF
  have hown : s.vm.findClass RX3 = some m.cls := hown
  have hl : lv_has ls 1 [(0, .ref mo)] := hl
  have hP : va_P D vwCl [(mo, .inr (3, [.ref b1, .ref b2, .ref b3, .ref b4, .int (nI nh), .int (nI no), .int (nI np), .int th])), (b1, .inl (cI, 200, .inl fh)), (b2, .inl (cI, 200, .inl fo)), (b3, .inl (cI, 200, .inl fk)), (b4, .inl (cI, 200, .inl ft))] s.heap := hP
  have hD : va_D A [(mo, .inr (3, [.ref b1, .ref b2, .ref b3, .ref b4, .int (nI nh), .int (nI no), .int (nI np), .int th])), (b1, .inl (cI, 200, .inl fh)), (b2, .inl (cI, 200, .inl fo)), (b3, .inl (cI, 200, .inl fk)), (b4, .inl (cI, 200, .inl ft))] := hD
  refine lv_aload_n hx hb dX3_removeFirst_0 rfl (lv_at hl 0 rfl) ?_
  refine hc_iV (As := []) (rest := []) (wc := [(mo, .inr (3, [.ref b1, .ref b2, .ref b3, .ref b4, .int (nI nh), .int (nI no), .int (nI np), .int th])), (b1, .inl (cI, 200, .inl fh)), (b2, .inl (cI, 200, .inl fo)), (b3, .inl (cI, 200, .inl fk)), (b4, .inl (cI, 200, .inl ft))]) (wr := []) (w1 := [(mo, .inr (3, [.ref b1, .ref b2, .ref b3, .ref b4, .int (nI nh), .int (nI no), .int (nI np), .int (nI 0)])), (b1, .inl (cI, 200, .inl fh)), (b2, .inl (cI, 200, .inl fo)), (b3, .inl (cI, 200, .inl fk)), (b4, .inl (cI, 200, .inl ft))]) (w' := [(mo, .inr (3, [.ref b1, .ref b2, .ref b3, .ref b4, .int (nI nh), .int (nI no), .int (nI np), .int (nI 0)])), (b1, .inl (cI, 200, .inl fh)), (b2, .inl (cI, 200, .inl fo)), (b3, .inl (cI, 200, .inl fk)), (b4, .inl (cI, 200, .inl ft))]) hF (c_X3_isNone l D mo b1 b2 b3 b4 cI fh fo fk ft nh no np th h1c hn9) (cwV 0 hts gX3_removeFirst_X3_isNone rfl rfl rfl (by decide +kernel) ⟨Nat.le_of_ble_eq_true rfl, Nat.le_of_ble_eq_true rfl⟩) hP hK hD hS hA hv [0, 1, 2, 3, 4] [] [0, 1, 2, 3, 4] [0] ⟨rfl, rfl, rfl, rfl, ⟨by decide, by decide, by decide⟩, by decide⟩ 0 3 rfl rfl rfl rfl hl.1 rfl (Nat.le_of_ble_eq_true rfl) dX3_removeFirst_1 ⟨Nat.zero_le _, Nat.zero_le _⟩ (fun H locs hP hD hS => ?_)
  refine lv_if_eq (tgt := 11) hx hb dX3_removeFirst_4 (by decide) (fun _ => ?_) (fun hn => absurd (rfl) hn)
  refine lv_aload_n hx hb dX3_removeFirst_11 rfl (lv_at hl 0 rfl) ?_
  refine lv_iconst (v := nI 0) hx hb dX3_removeFirst_12 (by decide +kernel) ?_
  refine hc_iV (As := [.int (nI 0)]) (rest := []) (wc := [(mo, .inr (3, [.ref b1, .ref b2, .ref b3, .ref b4, .int (nI nh), .int (nI no), .int (nI np), .int (nI 0)])), (b1, .inl (cI, 200, .inl fh)), (b2, .inl (cI, 200, .inl fo)), (b3, .inl (cI, 200, .inl fk)), (b4, .inl (cI, 200, .inl ft))]) (wr := []) (w1 := [(mo, .inr (3, [.ref b1, .ref b2, .ref b3, .ref b4, .int (nI nh), .int (nI (no - 1)), .int (nI np), .int (nI 0)])), (b1, .inl (cI, 200, .inl fh)), (b2, .inl (cI, 200, .inl (s_rm fo 0 no))), (b3, .inl (cI, 200, .inl fk)), (b4, .inl (cI, 200, .inl ft))]) (w' := [(mo, .inr (3, [.ref b1, .ref b2, .ref b3, .ref b4, .int (nI nh), .int (nI (no - 1)), .int (nI np), .int (nI 0)])), (b1, .inl (cI, 200, .inl fh)), (b2, .inl (cI, 200, .inl (s_rm fo 0 no))), (b3, .inl (cI, 200, .inl fk)), (b4, .inl (cI, 200, .inl ft))]) hF (c_X3_takeRow l D mo b1 b2 b3 b4 cI fh fo fk ft nh no np (nI 0) 0 h1c hn9) (cwV 1 hts gX3_removeFirst_X3_takeRow rfl rfl rfl (by decide +kernel) ⟨Nat.le_of_ble_eq_true rfl, Nat.le_of_ble_eq_true rfl⟩) hP hK hD hS hA hv [0, 1, 2, 3, 4] [] [0, 1, 2, 3, 4] [0] ⟨rfl, rfl, rfl, rfl, ⟨by decide, by decide, by decide⟩, by decide⟩ 0 3 rfl rfl rfl rfl hl.1 rfl (Nat.le_of_ble_eq_true rfl) dX3_removeFirst_13 ⟨Nat.zero_le _, Nat.zero_le _⟩ (fun H locs hP hD hS => ?_)
  exact hend _ _ _ _ _ hP hD hS (rfl) dX3_removeFirst_16
set_option maxHeartbeats 4000000 in
set_option maxRecDepth 100000 in
theorem c_X3_removeLast (l : Launch) (D : va_G) (mo b1 b2 b3 b4 : Nat) (cI : ClassId) (fh fo fk ft : Nat → Int32) (nh no np : Nat) (th : Int32) (h1c : 1 ≤ no) (hn9 : no ≤ 200) : mI l yX3_removeLast wsX3_removeLast ({ frames := 2, cells := 0, slots := 0, locals := 41 }) [.ref mo] D [(cI, .int)] [(mo, .inr (3, [.ref b1, .ref b2, .ref b3, .ref b4, .int (nI nh), .int (nI no), .int (nI np), .int th])), (b1, .inl (cI, 200, .inl fh)), (b2, .inl (cI, 200, .inl fo)), (b3, .inl (cI, 200, .inl fk)), (b4, .inl (cI, 200, .inl ft))] [(mo, .inr (3, [.ref b1, .ref b2, .ref b3, .ref b4, .int (nI nh), .int (nI (no - 1)), .int (nI np), .int (nI 0)])), (b1, .inl (cI, 200, .inl fh)), (b2, .inl (cI, 200, .inl (s_rm fo (no - 1) no))), (b3, .inl (cI, 200, .inl fk)), (b4, .inl (cI, 200, .inl ft))] (fo (no - 1)) := by
  refine hI_body (cc := cX3_removeLast) (maxL := 1) (by decide) rfl (Nat.le_of_ble_eq_true rfl) (rfl) ?_
  intro p e s m below meth cd A ls Q hat hA hP hK hD hS hl hend
  obtain ⟨hF, hr, hlocks, hv⟩ := id hat
  obtain ⟨hx, hb, hml, hown, hts⟩ := id hF
  have hown : s.vm.findClass RX3 = some m.cls := hown
  have hl : lv_has ls 1 [(0, .ref mo)] := hl
  have hP : va_P D vwCl [(mo, .inr (3, [.ref b1, .ref b2, .ref b3, .ref b4, .int (nI nh), .int (nI no), .int (nI np), .int th])), (b1, .inl (cI, 200, .inl fh)), (b2, .inl (cI, 200, .inl fo)), (b3, .inl (cI, 200, .inl fk)), (b4, .inl (cI, 200, .inl ft))] s.heap := hP
  have hD : va_D A [(mo, .inr (3, [.ref b1, .ref b2, .ref b3, .ref b4, .int (nI nh), .int (nI no), .int (nI np), .int th])), (b1, .inl (cI, 200, .inl fh)), (b2, .inl (cI, 200, .inl fo)), (b3, .inl (cI, 200, .inl fk)), (b4, .inl (cI, 200, .inl ft))] := hD
  have iX3 : ∀ w ∈ wsX30, w ∈ wsX3_removeLast := by decide +kernel
  have k47 := hts (.fieldLink RX3 47 "HeapAndDequeModel" "many" "I") (by decide +kernel)
  refine lv_aload_n hx hb dX3_removeLast_0 rfl (lv_at hl 0 rfl) ?_
  refine hc_iV (As := []) (rest := []) (wc := [(mo, .inr (3, [.ref b1, .ref b2, .ref b3, .ref b4, .int (nI nh), .int (nI no), .int (nI np), .int th])), (b1, .inl (cI, 200, .inl fh)), (b2, .inl (cI, 200, .inl fo)), (b3, .inl (cI, 200, .inl fk)), (b4, .inl (cI, 200, .inl ft))]) (wr := []) (w1 := [(mo, .inr (3, [.ref b1, .ref b2, .ref b3, .ref b4, .int (nI nh), .int (nI no), .int (nI np), .int (nI 0)])), (b1, .inl (cI, 200, .inl fh)), (b2, .inl (cI, 200, .inl fo)), (b3, .inl (cI, 200, .inl fk)), (b4, .inl (cI, 200, .inl ft))]) (w' := [(mo, .inr (3, [.ref b1, .ref b2, .ref b3, .ref b4, .int (nI nh), .int (nI no), .int (nI np), .int (nI 0)])), (b1, .inl (cI, 200, .inl fh)), (b2, .inl (cI, 200, .inl fo)), (b3, .inl (cI, 200, .inl fk)), (b4, .inl (cI, 200, .inl ft))]) hF (c_X3_isNone l D mo b1 b2 b3 b4 cI fh fo fk ft nh no np th h1c hn9) (cwV 0 hts gX3_removeLast_X3_isNone rfl rfl rfl (by decide +kernel) ⟨Nat.le_of_ble_eq_true rfl, Nat.le_of_ble_eq_true rfl⟩) hP hK hD hS hA hv [0, 1, 2, 3, 4] [] [0, 1, 2, 3, 4] [0] ⟨rfl, rfl, rfl, rfl, ⟨by decide, by decide, by decide⟩, by decide⟩ 0 3 rfl rfl rfl rfl hl.1 rfl (Nat.le_of_ble_eq_true rfl) dX3_removeLast_1 ⟨Nat.zero_le _, Nat.zero_le _⟩ (fun H locs hP hD hS => ?_)
  refine lv_if_eq (tgt := 11) hx hb dX3_removeLast_4 (by decide) (fun _ => ?_) (fun hn => absurd (rfl) hn)
  refine lv_aload_n hx hb dX3_removeLast_11 rfl (lv_at hl 0 rfl) ?_
  refine lv_aload_n hx hb dX3_removeLast_12 rfl (lv_at hl 0 rfl) ?_
  refine va_get (D := D) (ci := 3) (v := .int (nI no)) (C := RX3) (T := TX3) (N := 8) hx hb hts iX3 hown hK hP 0 rfl rfl 5 (by decide) k47 (fun _ h9 => h9) rfl dX3_removeLast_13 ?_
  refine lv_iconst (v := 1) hx hb dX3_removeLast_16 (by decide) ?_
  refine lv_isub hx hb dX3_removeLast_17 ?_
  refine hw_i (y := nI (no - 1)) (h_sub1 (by omega)) ?_
  refine hc_iV (As := [.int (nI (no - 1))]) (rest := []) (wc := [(mo, .inr (3, [.ref b1, .ref b2, .ref b3, .ref b4, .int (nI nh), .int (nI no), .int (nI np), .int (nI 0)])), (b1, .inl (cI, 200, .inl fh)), (b2, .inl (cI, 200, .inl fo)), (b3, .inl (cI, 200, .inl fk)), (b4, .inl (cI, 200, .inl ft))]) (wr := []) (w1 := [(mo, .inr (3, [.ref b1, .ref b2, .ref b3, .ref b4, .int (nI nh), .int (nI (no - 1)), .int (nI np), .int (nI 0)])), (b1, .inl (cI, 200, .inl fh)), (b2, .inl (cI, 200, .inl (s_rm fo (no - 1) no))), (b3, .inl (cI, 200, .inl fk)), (b4, .inl (cI, 200, .inl ft))]) (w' := [(mo, .inr (3, [.ref b1, .ref b2, .ref b3, .ref b4, .int (nI nh), .int (nI (no - 1)), .int (nI np), .int (nI 0)])), (b1, .inl (cI, 200, .inl fh)), (b2, .inl (cI, 200, .inl (s_rm fo (no - 1) no))), (b3, .inl (cI, 200, .inl fk)), (b4, .inl (cI, 200, .inl ft))]) hF (c_X3_takeRow l D mo b1 b2 b3 b4 cI fh fo fk ft nh no np (nI 0) (no - 1) (by omega) hn9) (cwV 1 hts gX3_removeLast_X3_takeRow rfl rfl rfl (by decide +kernel) ⟨Nat.le_of_ble_eq_true rfl, Nat.le_of_ble_eq_true rfl⟩) hP hK hD hS hA hv [0, 1, 2, 3, 4] [] [0, 1, 2, 3, 4] [0] ⟨rfl, rfl, rfl, rfl, ⟨by decide, by decide, by decide⟩, by decide⟩ 0 3 rfl rfl rfl rfl hl.1 rfl (Nat.le_of_ble_eq_true rfl) dX3_removeLast_18 ⟨Nat.zero_le _, Nat.zero_le _⟩ (fun H locs hP hD hS => ?_)
  exact hend _ _ _ _ _ hP hD hS (rfl) dX3_removeLast_21
set_option maxHeartbeats 4000000 in
set_option maxRecDepth 100000 in
theorem c_X3_getFirst_x (l : Launch) (D : va_G) (mo b1 b2 b3 b4 : Nat) (cI : ClassId) (fh fo fk ft : Nat → Int32) (nh np : Nat) (th : Int32) : mI l yX3_getFirst wsX3_getFirst ({ frames := 2, cells := 0, slots := 0, locals := 41 }) [.ref mo] D [(cI, .int)] [(mo, .inr (3, [.ref b1, .ref b2, .ref b3, .ref b4, .int (nI nh), .int (nI 0), .int (nI np), .int th])), (b1, .inl (cI, 200, .inl fh)), (b2, .inl (cI, 200, .inl fo)), (b3, .inl (cI, 200, .inl fk)), (b4, .inl (cI, 200, .inl ft))] [(mo, .inr (3, [.ref b1, .ref b2, .ref b3, .ref b4, .int (nI nh), .int (nI 0), .int (nI np), .int 1])), (b1, .inl (cI, 200, .inl fh)), (b2, .inl (cI, 200, .inl fo)), (b3, .inl (cI, 200, .inl fk)), (b4, .inl (cI, 200, .inl ft))] (0) := by
  refine hI_body (cc := cX3_getFirst) (maxL := 1) (by decide) rfl (Nat.le_of_ble_eq_true rfl) (rfl) ?_
  intro p e s m below meth cd A ls Q hat hA hP hK hD hS hl hend
  obtain ⟨hF, hr, hlocks, hv⟩ := id hat
  obtain ⟨hx, hb, hml, hown, hts⟩ := id hF
  have hown : s.vm.findClass RX3 = some m.cls := hown
  have hl : lv_has ls 1 [(0, .ref mo)] := hl
  have hP : va_P D vwCl [(mo, .inr (3, [.ref b1, .ref b2, .ref b3, .ref b4, .int (nI nh), .int (nI 0), .int (nI np), .int th])), (b1, .inl (cI, 200, .inl fh)), (b2, .inl (cI, 200, .inl fo)), (b3, .inl (cI, 200, .inl fk)), (b4, .inl (cI, 200, .inl ft))] s.heap := hP
  have hD : va_D A [(mo, .inr (3, [.ref b1, .ref b2, .ref b3, .ref b4, .int (nI nh), .int (nI 0), .int (nI np), .int th])), (b1, .inl (cI, 200, .inl fh)), (b2, .inl (cI, 200, .inl fo)), (b3, .inl (cI, 200, .inl fk)), (b4, .inl (cI, 200, .inl ft))] := hD
  have iX3 : ∀ w ∈ wsX30, w ∈ wsX3_getFirst := by decide +kernel
  have k13 := hts (.fieldLink RX3 13 "HeapAndDequeModel" "row" "[I") (by decide +kernel)
  refine lv_aload_n hx hb dX3_getFirst_0 rfl (lv_at hl 0 rfl) ?_
  refine hc_iV (As := []) (rest := []) (wc := [(mo, .inr (3, [.ref b1, .ref b2, .ref b3, .ref b4, .int (nI nh), .int (nI 0), .int (nI np), .int th])), (b1, .inl (cI, 200, .inl fh)), (b2, .inl (cI, 200, .inl fo)), (b3, .inl (cI, 200, .inl fk)), (b4, .inl (cI, 200, .inl ft))]) (wr := []) (w1 := [(mo, .inr (3, [.ref b1, .ref b2, .ref b3, .ref b4, .int (nI nh), .int (nI 0), .int (nI np), .int 1])), (b1, .inl (cI, 200, .inl fh)), (b2, .inl (cI, 200, .inl fo)), (b3, .inl (cI, 200, .inl fk)), (b4, .inl (cI, 200, .inl ft))]) (w' := [(mo, .inr (3, [.ref b1, .ref b2, .ref b3, .ref b4, .int (nI nh), .int (nI 0), .int (nI np), .int 1])), (b1, .inl (cI, 200, .inl fh)), (b2, .inl (cI, 200, .inl fo)), (b3, .inl (cI, 200, .inl fk)), (b4, .inl (cI, 200, .inl ft))]) hF (c_X3_isNone_x l D mo b1 b2 b3 b4 cI fh fo fk ft nh np th ) (cwV 0 hts gX3_getFirst_X3_isNone rfl rfl rfl (by decide +kernel) ⟨Nat.le_of_ble_eq_true rfl, Nat.le_of_ble_eq_true rfl⟩) hP hK hD hS hA hv [0, 1, 2, 3, 4] [] [0, 1, 2, 3, 4] [0] ⟨rfl, rfl, rfl, rfl, ⟨by decide, by decide, by decide⟩, by decide⟩ 0 3 rfl rfl rfl rfl hl.1 rfl (Nat.le_of_ble_eq_true rfl) dX3_getFirst_1 ⟨Nat.zero_le _, Nat.zero_le _⟩ (fun H locs hP hD hS => ?_)
  refine lv_if_eq (tgt := 11) hx hb dX3_getFirst_4 (by decide) (fun ht_ => absurd ht_ (by decide)) (fun _ => ?_)
  refine lv_iconst (v := 0) hx hb dX3_getFirst_7 (by decide) ?_
  refine lv_goto (tgt := 17) hx hb dX3_getFirst_8 (by decide) ?_
  exact hend _ _ _ _ _ hP hD hS (rfl) dX3_getFirst_17
set_option maxHeartbeats 4000000 in
set_option maxRecDepth 100000 in
theorem c_X3_getLast_x (l : Launch) (D : va_G) (mo b1 b2 b3 b4 : Nat) (cI : ClassId) (fh fo fk ft : Nat → Int32) (nh np : Nat) (th : Int32) : mI l yX3_getLast wsX3_getLast ({ frames := 2, cells := 0, slots := 0, locals := 41 }) [.ref mo] D [(cI, .int)] [(mo, .inr (3, [.ref b1, .ref b2, .ref b3, .ref b4, .int (nI nh), .int (nI 0), .int (nI np), .int th])), (b1, .inl (cI, 200, .inl fh)), (b2, .inl (cI, 200, .inl fo)), (b3, .inl (cI, 200, .inl fk)), (b4, .inl (cI, 200, .inl ft))] [(mo, .inr (3, [.ref b1, .ref b2, .ref b3, .ref b4, .int (nI nh), .int (nI 0), .int (nI np), .int 1])), (b1, .inl (cI, 200, .inl fh)), (b2, .inl (cI, 200, .inl fo)), (b3, .inl (cI, 200, .inl fk)), (b4, .inl (cI, 200, .inl ft))] (0) := by
  refine hI_body (cc := cX3_getLast) (maxL := 1) (by decide) rfl (Nat.le_of_ble_eq_true rfl) (rfl) ?_
  intro p e s m below meth cd A ls Q hat hA hP hK hD hS hl hend
  obtain ⟨hF, hr, hlocks, hv⟩ := id hat
  obtain ⟨hx, hb, hml, hown, hts⟩ := id hF
  have hown : s.vm.findClass RX3 = some m.cls := hown
  have hl : lv_has ls 1 [(0, .ref mo)] := hl
  have hP : va_P D vwCl [(mo, .inr (3, [.ref b1, .ref b2, .ref b3, .ref b4, .int (nI nh), .int (nI 0), .int (nI np), .int th])), (b1, .inl (cI, 200, .inl fh)), (b2, .inl (cI, 200, .inl fo)), (b3, .inl (cI, 200, .inl fk)), (b4, .inl (cI, 200, .inl ft))] s.heap := hP
  have hD : va_D A [(mo, .inr (3, [.ref b1, .ref b2, .ref b3, .ref b4, .int (nI nh), .int (nI 0), .int (nI np), .int th])), (b1, .inl (cI, 200, .inl fh)), (b2, .inl (cI, 200, .inl fo)), (b3, .inl (cI, 200, .inl fk)), (b4, .inl (cI, 200, .inl ft))] := hD
  have iX3 : ∀ w ∈ wsX30, w ∈ wsX3_getLast := by decide +kernel
  have k13 := hts (.fieldLink RX3 13 "HeapAndDequeModel" "row" "[I") (by decide +kernel)
  have k47 := hts (.fieldLink RX3 47 "HeapAndDequeModel" "many" "I") (by decide +kernel)
  refine lv_aload_n hx hb dX3_getLast_0 rfl (lv_at hl 0 rfl) ?_
  refine hc_iV (As := []) (rest := []) (wc := [(mo, .inr (3, [.ref b1, .ref b2, .ref b3, .ref b4, .int (nI nh), .int (nI 0), .int (nI np), .int th])), (b1, .inl (cI, 200, .inl fh)), (b2, .inl (cI, 200, .inl fo)), (b3, .inl (cI, 200, .inl fk)), (b4, .inl (cI, 200, .inl ft))]) (wr := []) (w1 := [(mo, .inr (3, [.ref b1, .ref b2, .ref b3, .ref b4, .int (nI nh), .int (nI 0), .int (nI np), .int 1])), (b1, .inl (cI, 200, .inl fh)), (b2, .inl (cI, 200, .inl fo)), (b3, .inl (cI, 200, .inl fk)), (b4, .inl (cI, 200, .inl ft))]) (w' := [(mo, .inr (3, [.ref b1, .ref b2, .ref b3, .ref b4, .int (nI nh), .int (nI 0), .int (nI np), .int 1])), (b1, .inl (cI, 200, .inl fh)), (b2, .inl (cI, 200, .inl fo)), (b3, .inl (cI, 200, .inl fk)), (b4, .inl (cI, 200, .inl ft))]) hF (c_X3_isNone_x l D mo b1 b2 b3 b4 cI fh fo fk ft nh np th ) (cwV 0 hts gX3_getLast_X3_isNone rfl rfl rfl (by decide +kernel) ⟨Nat.le_of_ble_eq_true rfl, Nat.le_of_ble_eq_true rfl⟩) hP hK hD hS hA hv [0, 1, 2, 3, 4] [] [0, 1, 2, 3, 4] [0] ⟨rfl, rfl, rfl, rfl, ⟨by decide, by decide, by decide⟩, by decide⟩ 0 3 rfl rfl rfl rfl hl.1 rfl (Nat.le_of_ble_eq_true rfl) dX3_getLast_1 ⟨Nat.zero_le _, Nat.zero_le _⟩ (fun H locs hP hD hS => ?_)
  refine lv_if_eq (tgt := 11) hx hb dX3_getLast_4 (by decide) (fun ht_ => absurd ht_ (by decide)) (fun _ => ?_)
  refine lv_iconst (v := 0) hx hb dX3_getLast_7 (by decide) ?_
  refine lv_goto (tgt := 22) hx hb dX3_getLast_8 (by decide) ?_
  exact hend _ _ _ _ _ hP hD hS (rfl) dX3_getLast_22
set_option maxHeartbeats 4000000 in
set_option maxRecDepth 100000 in
theorem c_X3_removeFirst_x (l : Launch) (D : va_G) (mo b1 b2 b3 b4 : Nat) (cI : ClassId) (fh fo fk ft : Nat → Int32) (nh np : Nat) (th : Int32) : mI l yX3_removeFirst wsX3_removeFirst ({ frames := 2, cells := 0, slots := 0, locals := 41 }) [.ref mo] D [(cI, .int)] [(mo, .inr (3, [.ref b1, .ref b2, .ref b3, .ref b4, .int (nI nh), .int (nI 0), .int (nI np), .int th])), (b1, .inl (cI, 200, .inl fh)), (b2, .inl (cI, 200, .inl fo)), (b3, .inl (cI, 200, .inl fk)), (b4, .inl (cI, 200, .inl ft))] [(mo, .inr (3, [.ref b1, .ref b2, .ref b3, .ref b4, .int (nI nh), .int (nI 0), .int (nI np), .int 1])), (b1, .inl (cI, 200, .inl fh)), (b2, .inl (cI, 200, .inl fo)), (b3, .inl (cI, 200, .inl fk)), (b4, .inl (cI, 200, .inl ft))] (0) := by
  refine hI_body (cc := cX3_removeFirst) (maxL := 1) (by decide) rfl (Nat.le_of_ble_eq_true rfl) (rfl) ?_
  intro p e s m below meth cd A ls Q hat hA hP hK hD hS hl hend
  obtain ⟨hF, hr, hlocks, hv⟩ := id hat
  obtain ⟨hx, hb, hml, hown, hts⟩ := id hF
  have hown : s.vm.findClass RX3 = some m.cls := hown
  have hl : lv_has ls 1 [(0, .ref mo)] := hl
  have hP : va_P D vwCl [(mo, .inr (3, [.ref b1, .ref b2, .ref b3, .ref b4, .int (nI nh), .int (nI 0), .int (nI np), .int th])), (b1, .inl (cI, 200, .inl fh)), (b2, .inl (cI, 200, .inl fo)), (b3, .inl (cI, 200, .inl fk)), (b4, .inl (cI, 200, .inl ft))] s.heap := hP
  have hD : va_D A [(mo, .inr (3, [.ref b1, .ref b2, .ref b3, .ref b4, .int (nI nh), .int (nI 0), .int (nI np), .int th])), (b1, .inl (cI, 200, .inl fh)), (b2, .inl (cI, 200, .inl fo)), (b3, .inl (cI, 200, .inl fk)), (b4, .inl (cI, 200, .inl ft))] := hD
  refine lv_aload_n hx hb dX3_removeFirst_0 rfl (lv_at hl 0 rfl) ?_
  refine hc_iV (As := []) (rest := []) (wc := [(mo, .inr (3, [.ref b1, .ref b2, .ref b3, .ref b4, .int (nI nh), .int (nI 0), .int (nI np), .int th])), (b1, .inl (cI, 200, .inl fh)), (b2, .inl (cI, 200, .inl fo)), (b3, .inl (cI, 200, .inl fk)), (b4, .inl (cI, 200, .inl ft))]) (wr := []) (w1 := [(mo, .inr (3, [.ref b1, .ref b2, .ref b3, .ref b4, .int (nI nh), .int (nI 0), .int (nI np), .int 1])), (b1, .inl (cI, 200, .inl fh)), (b2, .inl (cI, 200, .inl fo)), (b3, .inl (cI, 200, .inl fk)), (b4, .inl (cI, 200, .inl ft))]) (w' := [(mo, .inr (3, [.ref b1, .ref b2, .ref b3, .ref b4, .int (nI nh), .int (nI 0), .int (nI np), .int 1])), (b1, .inl (cI, 200, .inl fh)), (b2, .inl (cI, 200, .inl fo)), (b3, .inl (cI, 200, .inl fk)), (b4, .inl (cI, 200, .inl ft))]) hF (c_X3_isNone_x l D mo b1 b2 b3 b4 cI fh fo fk ft nh np th ) (cwV 0 hts gX3_removeFirst_X3_isNone rfl rfl rfl (by decide +kernel) ⟨Nat.le_of_ble_eq_true rfl, Nat.le_of_ble_eq_true rfl⟩) hP hK hD hS hA hv [0, 1, 2, 3, 4] [] [0, 1, 2, 3, 4] [0] ⟨rfl, rfl, rfl, rfl, ⟨by decide, by decide, by decide⟩, by decide⟩ 0 3 rfl rfl rfl rfl hl.1 rfl (Nat.le_of_ble_eq_true rfl) dX3_removeFirst_1 ⟨Nat.zero_le _, Nat.zero_le _⟩ (fun H locs hP hD hS => ?_)
  refine lv_if_eq (tgt := 11) hx hb dX3_removeFirst_4 (by decide) (fun ht_ => absurd ht_ (by decide)) (fun _ => ?_)
  refine lv_iconst (v := 0) hx hb dX3_removeFirst_7 (by decide) ?_
  refine lv_goto (tgt := 16) hx hb dX3_removeFirst_8 (by decide) ?_
  exact hend _ _ _ _ _ hP hD hS (rfl) dX3_removeFirst_16
set_option maxHeartbeats 4000000 in
set_option maxRecDepth 100000 in
theorem c_X3_removeLast_x (l : Launch) (D : va_G) (mo b1 b2 b3 b4 : Nat) (cI : ClassId) (fh fo fk ft : Nat → Int32) (nh np : Nat) (th : Int32) : mI l yX3_removeLast wsX3_removeLast ({ frames := 2, cells := 0, slots := 0, locals := 41 }) [.ref mo] D [(cI, .int)] [(mo, .inr (3, [.ref b1, .ref b2, .ref b3, .ref b4, .int (nI nh), .int (nI 0), .int (nI np), .int th])), (b1, .inl (cI, 200, .inl fh)), (b2, .inl (cI, 200, .inl fo)), (b3, .inl (cI, 200, .inl fk)), (b4, .inl (cI, 200, .inl ft))] [(mo, .inr (3, [.ref b1, .ref b2, .ref b3, .ref b4, .int (nI nh), .int (nI 0), .int (nI np), .int 1])), (b1, .inl (cI, 200, .inl fh)), (b2, .inl (cI, 200, .inl fo)), (b3, .inl (cI, 200, .inl fk)), (b4, .inl (cI, 200, .inl ft))] (0) := by
  refine hI_body (cc := cX3_removeLast) (maxL := 1) (by decide) rfl (Nat.le_of_ble_eq_true rfl) (rfl) ?_
  intro p e s m below meth cd A ls Q hat hA hP hK hD hS hl hend
  obtain ⟨hF, hr, hlocks, hv⟩ := id hat
  obtain ⟨hx, hb, hml, hown, hts⟩ := id hF
  have hown : s.vm.findClass RX3 = some m.cls := hown
  have hl : lv_has ls 1 [(0, .ref mo)] := hl
  have hP : va_P D vwCl [(mo, .inr (3, [.ref b1, .ref b2, .ref b3, .ref b4, .int (nI nh), .int (nI 0), .int (nI np), .int th])), (b1, .inl (cI, 200, .inl fh)), (b2, .inl (cI, 200, .inl fo)), (b3, .inl (cI, 200, .inl fk)), (b4, .inl (cI, 200, .inl ft))] s.heap := hP
  have hD : va_D A [(mo, .inr (3, [.ref b1, .ref b2, .ref b3, .ref b4, .int (nI nh), .int (nI 0), .int (nI np), .int th])), (b1, .inl (cI, 200, .inl fh)), (b2, .inl (cI, 200, .inl fo)), (b3, .inl (cI, 200, .inl fk)), (b4, .inl (cI, 200, .inl ft))] := hD
  have iX3 : ∀ w ∈ wsX30, w ∈ wsX3_removeLast := by decide +kernel
  have k47 := hts (.fieldLink RX3 47 "HeapAndDequeModel" "many" "I") (by decide +kernel)
  refine lv_aload_n hx hb dX3_removeLast_0 rfl (lv_at hl 0 rfl) ?_
  refine hc_iV (As := []) (rest := []) (wc := [(mo, .inr (3, [.ref b1, .ref b2, .ref b3, .ref b4, .int (nI nh), .int (nI 0), .int (nI np), .int th])), (b1, .inl (cI, 200, .inl fh)), (b2, .inl (cI, 200, .inl fo)), (b3, .inl (cI, 200, .inl fk)), (b4, .inl (cI, 200, .inl ft))]) (wr := []) (w1 := [(mo, .inr (3, [.ref b1, .ref b2, .ref b3, .ref b4, .int (nI nh), .int (nI 0), .int (nI np), .int 1])), (b1, .inl (cI, 200, .inl fh)), (b2, .inl (cI, 200, .inl fo)), (b3, .inl (cI, 200, .inl fk)), (b4, .inl (cI, 200, .inl ft))]) (w' := [(mo, .inr (3, [.ref b1, .ref b2, .ref b3, .ref b4, .int (nI nh), .int (nI 0), .int (nI np), .int 1])), (b1, .inl (cI, 200, .inl fh)), (b2, .inl (cI, 200, .inl fo)), (b3, .inl (cI, 200, .inl fk)), (b4, .inl (cI, 200, .inl ft))]) hF (c_X3_isNone_x l D mo b1 b2 b3 b4 cI fh fo fk ft nh np th ) (cwV 0 hts gX3_removeLast_X3_isNone rfl rfl rfl (by decide +kernel) ⟨Nat.le_of_ble_eq_true rfl, Nat.le_of_ble_eq_true rfl⟩) hP hK hD hS hA hv [0, 1, 2, 3, 4] [] [0, 1, 2, 3, 4] [0] ⟨rfl, rfl, rfl, rfl, ⟨by decide, by decide, by decide⟩, by decide⟩ 0 3 rfl rfl rfl rfl hl.1 rfl (Nat.le_of_ble_eq_true rfl) dX3_removeLast_1 ⟨Nat.zero_le _, Nat.zero_le _⟩ (fun H locs hP hD hS => ?_)
  refine lv_if_eq (tgt := 11) hx hb dX3_removeLast_4 (by decide) (fun ht_ => absurd ht_ (by decide)) (fun _ => ?_)
  refine lv_iconst (v := 0) hx hb dX3_removeLast_7 (by decide) ?_
  refine lv_goto (tgt := 21) hx hb dX3_removeLast_8 (by decide) ?_
  exact hend _ _ _ _ _ hP hD hS (rfl) dX3_removeLast_21
set_option maxHeartbeats 4000000 in
set_option maxRecDepth 100000 in
theorem c_X3_pop (l : Launch) (D : va_G) (mo b1 b2 b3 b4 : Nat) (cI : ClassId) (fh fo fk ft : Nat → Int32) (nh no np : Nat) (th : Int32) (h1c : 1 ≤ no) (hn9 : no ≤ 200) : mI l yX3_pop wsX3_pop ({ frames := 3, cells := 0, slots := 0, locals := 61 }) [.ref mo] D [(cI, .int)] [(mo, .inr (3, [.ref b1, .ref b2, .ref b3, .ref b4, .int (nI nh), .int (nI no), .int (nI np), .int th])), (b1, .inl (cI, 200, .inl fh)), (b2, .inl (cI, 200, .inl fo)), (b3, .inl (cI, 200, .inl fk)), (b4, .inl (cI, 200, .inl ft))] [(mo, .inr (3, [.ref b1, .ref b2, .ref b3, .ref b4, .int (nI nh), .int (nI (no - 1)), .int (nI np), .int (nI 0)])), (b1, .inl (cI, 200, .inl fh)), (b2, .inl (cI, 200, .inl (s_rm fo 0 no))), (b3, .inl (cI, 200, .inl fk)), (b4, .inl (cI, 200, .inl ft))] (fo 0) := by
  refine hI_body (cc := cX3_pop) (maxL := 1) (by decide) rfl (Nat.le_of_ble_eq_true rfl) (rfl) ?_
  intro p e s m below meth cd A ls Q hat hA hP hK hD hS hl hend
  obtain ⟨hF, hr, hlocks, hv⟩ := id hat
  obtain ⟨hx, hb, hml, hown, hts⟩ := id hF
  have hown : s.vm.findClass RX3 = some m.cls := hown
  have hl : lv_has ls 1 [(0, .ref mo)] := hl
  have hP : va_P D vwCl [(mo, .inr (3, [.ref b1, .ref b2, .ref b3, .ref b4, .int (nI nh), .int (nI no), .int (nI np), .int th])), (b1, .inl (cI, 200, .inl fh)), (b2, .inl (cI, 200, .inl fo)), (b3, .inl (cI, 200, .inl fk)), (b4, .inl (cI, 200, .inl ft))] s.heap := hP
  have hD : va_D A [(mo, .inr (3, [.ref b1, .ref b2, .ref b3, .ref b4, .int (nI nh), .int (nI no), .int (nI np), .int th])), (b1, .inl (cI, 200, .inl fh)), (b2, .inl (cI, 200, .inl fo)), (b3, .inl (cI, 200, .inl fk)), (b4, .inl (cI, 200, .inl ft))] := hD
  refine lv_aload_n hx hb dX3_pop_0 rfl (lv_at hl 0 rfl) ?_
  refine hc_iV (As := []) (rest := []) (wc := [(mo, .inr (3, [.ref b1, .ref b2, .ref b3, .ref b4, .int (nI nh), .int (nI no), .int (nI np), .int th])), (b1, .inl (cI, 200, .inl fh)), (b2, .inl (cI, 200, .inl fo)), (b3, .inl (cI, 200, .inl fk)), (b4, .inl (cI, 200, .inl ft))]) (wr := []) (w1 := [(mo, .inr (3, [.ref b1, .ref b2, .ref b3, .ref b4, .int (nI nh), .int (nI (no - 1)), .int (nI np), .int (nI 0)])), (b1, .inl (cI, 200, .inl fh)), (b2, .inl (cI, 200, .inl (s_rm fo 0 no))), (b3, .inl (cI, 200, .inl fk)), (b4, .inl (cI, 200, .inl ft))]) (w' := [(mo, .inr (3, [.ref b1, .ref b2, .ref b3, .ref b4, .int (nI nh), .int (nI (no - 1)), .int (nI np), .int (nI 0)])), (b1, .inl (cI, 200, .inl fh)), (b2, .inl (cI, 200, .inl (s_rm fo 0 no))), (b3, .inl (cI, 200, .inl fk)), (b4, .inl (cI, 200, .inl ft))]) hF (c_X3_removeFirst l D mo b1 b2 b3 b4 cI fh fo fk ft nh no np th h1c hn9) (cwV 0 hts gX3_pop_X3_removeFirst rfl rfl rfl (by decide +kernel) ⟨Nat.le_of_ble_eq_true rfl, Nat.le_of_ble_eq_true rfl⟩) hP hK hD hS hA hv [0, 1, 2, 3, 4] [] [0, 1, 2, 3, 4] [0] ⟨rfl, rfl, rfl, rfl, ⟨by decide, by decide, by decide⟩, by decide⟩ 0 3 rfl rfl rfl rfl hl.1 rfl (Nat.le_of_ble_eq_true rfl) dX3_pop_1 ⟨Nat.zero_le _, Nat.zero_le _⟩ (fun H locs hP hD hS => ?_)
  exact hend _ _ _ _ _ hP hD hS (rfl) dX3_pop_4
set_option maxHeartbeats 4000000 in
set_option maxRecDepth 100000 in
theorem c_X3_pop_x (l : Launch) (D : va_G) (mo b1 b2 b3 b4 : Nat) (cI : ClassId) (fh fo fk ft : Nat → Int32) (nh np : Nat) (th : Int32) : mI l yX3_pop wsX3_pop ({ frames := 3, cells := 0, slots := 0, locals := 61 }) [.ref mo] D [(cI, .int)] [(mo, .inr (3, [.ref b1, .ref b2, .ref b3, .ref b4, .int (nI nh), .int (nI 0), .int (nI np), .int th])), (b1, .inl (cI, 200, .inl fh)), (b2, .inl (cI, 200, .inl fo)), (b3, .inl (cI, 200, .inl fk)), (b4, .inl (cI, 200, .inl ft))] [(mo, .inr (3, [.ref b1, .ref b2, .ref b3, .ref b4, .int (nI nh), .int (nI 0), .int (nI np), .int 1])), (b1, .inl (cI, 200, .inl fh)), (b2, .inl (cI, 200, .inl fo)), (b3, .inl (cI, 200, .inl fk)), (b4, .inl (cI, 200, .inl ft))] (0) := by
  refine hI_body (cc := cX3_pop) (maxL := 1) (by decide) rfl (Nat.le_of_ble_eq_true rfl) (rfl) ?_
  intro p e s m below meth cd A ls Q hat hA hP hK hD hS hl hend
  obtain ⟨hF, hr, hlocks, hv⟩ := id hat
  obtain ⟨hx, hb, hml, hown, hts⟩ := id hF
  have hown : s.vm.findClass RX3 = some m.cls := hown
  have hl : lv_has ls 1 [(0, .ref mo)] := hl
  have hP : va_P D vwCl [(mo, .inr (3, [.ref b1, .ref b2, .ref b3, .ref b4, .int (nI nh), .int (nI 0), .int (nI np), .int th])), (b1, .inl (cI, 200, .inl fh)), (b2, .inl (cI, 200, .inl fo)), (b3, .inl (cI, 200, .inl fk)), (b4, .inl (cI, 200, .inl ft))] s.heap := hP
  have hD : va_D A [(mo, .inr (3, [.ref b1, .ref b2, .ref b3, .ref b4, .int (nI nh), .int (nI 0), .int (nI np), .int th])), (b1, .inl (cI, 200, .inl fh)), (b2, .inl (cI, 200, .inl fo)), (b3, .inl (cI, 200, .inl fk)), (b4, .inl (cI, 200, .inl ft))] := hD
  refine lv_aload_n hx hb dX3_pop_0 rfl (lv_at hl 0 rfl) ?_
  refine hc_iV (As := []) (rest := []) (wc := [(mo, .inr (3, [.ref b1, .ref b2, .ref b3, .ref b4, .int (nI nh), .int (nI 0), .int (nI np), .int th])), (b1, .inl (cI, 200, .inl fh)), (b2, .inl (cI, 200, .inl fo)), (b3, .inl (cI, 200, .inl fk)), (b4, .inl (cI, 200, .inl ft))]) (wr := []) (w1 := [(mo, .inr (3, [.ref b1, .ref b2, .ref b3, .ref b4, .int (nI nh), .int (nI 0), .int (nI np), .int 1])), (b1, .inl (cI, 200, .inl fh)), (b2, .inl (cI, 200, .inl fo)), (b3, .inl (cI, 200, .inl fk)), (b4, .inl (cI, 200, .inl ft))]) (w' := [(mo, .inr (3, [.ref b1, .ref b2, .ref b3, .ref b4, .int (nI nh), .int (nI 0), .int (nI np), .int 1])), (b1, .inl (cI, 200, .inl fh)), (b2, .inl (cI, 200, .inl fo)), (b3, .inl (cI, 200, .inl fk)), (b4, .inl (cI, 200, .inl ft))]) hF (c_X3_removeFirst_x l D mo b1 b2 b3 b4 cI fh fo fk ft nh np th ) (cwV 0 hts gX3_pop_X3_removeFirst rfl rfl rfl (by decide +kernel) ⟨Nat.le_of_ble_eq_true rfl, Nat.le_of_ble_eq_true rfl⟩) hP hK hD hS hA hv [0, 1, 2, 3, 4] [] [0, 1, 2, 3, 4] [0] ⟨rfl, rfl, rfl, rfl, ⟨by decide, by decide, by decide⟩, by decide⟩ 0 3 rfl rfl rfl rfl hl.1 rfl (Nat.le_of_ble_eq_true rfl) dX3_pop_1 ⟨Nat.zero_le _, Nat.zero_le _⟩ (fun H locs hP hD hS => ?_)
  exact hend _ _ _ _ _ hP hD hS (rfl) dX3_pop_4
set_option maxHeartbeats 4000000 in
set_option maxRecDepth 100000 in
theorem c_X3_removeLastOccurrence_n (l : Launch) (D : va_G) (mo b1 b2 b3 b4 : Nat) (cI : ClassId) (fh fo fk ft : Nat → Int32) (nh no np : Nat) (th : Int32) (x : Int32) (hn9 : no ≤ 200) (hf : s_last fo x no = none) : mI l yX3_removeLastOccurrence wsX3_removeLastOccurrence ({ frames := 1, cells := 0, slots := 0, locals := 23 }) [.ref mo, .int x] D [(cI, .int)] [(mo, .inr (3, [.ref b1, .ref b2, .ref b3, .ref b4, .int (nI nh), .int (nI no), .int (nI np), .int th])), (b1, .inl (cI, 200, .inl fh)), (b2, .inl (cI, 200, .inl fo)), (b3, .inl (cI, 200, .inl fk)), (b4, .inl (cI, 200, .inl ft))] [(mo, .inr (3, [.ref b1, .ref b2, .ref b3, .ref b4, .int (nI nh), .int (nI no), .int (nI np), .int (nI 0)])), (b1, .inl (cI, 200, .inl fh)), (b2, .inl (cI, 200, .inl fo)), (b3, .inl (cI, 200, .inl fk)), (b4, .inl (cI, 200, .inl ft))] (0) := by
  refine hI_body (cc := cX3_removeLastOccurrence) (maxL := 3) (by decide) rfl (Nat.le_of_ble_eq_true rfl) (by decide +kernel) ?_
  intro p e s m below meth cd A ls Q hat hA hP hK hD hS hl hend
  obtain ⟨hF, hr, hlocks, hv⟩ := id hat
  obtain ⟨hx, hb, hml, hown, hts⟩ := id hF
  have hown : s.vm.findClass RX3 = some m.cls := hown
  have hl : lv_has ls 3 [(0, .ref mo), (1, .int x)] := hl
  have hP : va_P D vwCl [(mo, .inr (3, [.ref b1, .ref b2, .ref b3, .ref b4, .int (nI nh), .int (nI no), .int (nI np), .int th])), (b1, .inl (cI, 200, .inl fh)), (b2, .inl (cI, 200, .inl fo)), (b3, .inl (cI, 200, .inl fk)), (b4, .inl (cI, 200, .inl ft))] s.heap := hP
  have hD : va_D A [(mo, .inr (3, [.ref b1, .ref b2, .ref b3, .ref b4, .int (nI nh), .int (nI no), .int (nI np), .int th])), (b1, .inl (cI, 200, .inl fh)), (b2, .inl (cI, 200, .inl fo)), (b3, .inl (cI, 200, .inl fk)), (b4, .inl (cI, 200, .inl ft))] := hD
  have iX3 : ∀ w ∈ wsX30, w ∈ wsX3_removeLastOccurrence := by decide +kernel
  have k13 := hts (.fieldLink RX3 13 "HeapAndDequeModel" "row" "[I") (by decide +kernel)
  have k22 := hts (.fieldLink RX3 22 "HeapAndDequeModel" "thrown" "I") (by decide +kernel)
  have k47 := hts (.fieldLink RX3 47 "HeapAndDequeModel" "many" "I") (by decide +kernel)
  refine lv_aload_n hx hb dX3_removeLastOccurrence_0 rfl (lv_at hl 0 rfl) ?_
  refine lv_iconst (v := nI 0) hx hb dX3_removeLastOccurrence_1 (by decide +kernel) ?_
  refine va_put (D := D) (ci := 3) (v := .int (nI 0)) (ty := .int) (C := RX3) (T := TX3) (N := 8) hx hb hts iX3 tyX3 tyX3_ok nmX3 hown hK hP hD hS 0 rfl rfl 7 (by decide) k22 (fun _ h9 => h9) rfl (by decide +kernel) rfl rfl (Nat.le_of_ble_eq_true rfl) dX3_removeLastOccurrence_2 (fun H locs hP hD hS => ?_)
  have hP : va_P D vwCl [(mo, .inr (3, [.ref b1, .ref b2, .ref b3, .ref b4, .int (nI nh), .int (nI no), .int (nI np), .int (nI 0)])), (b1, .inl (cI, 200, .inl fh)), (b2, .inl (cI, 200, .inl fo)), (b3, .inl (cI, 200, .inl fk)), (b4, .inl (cI, 200, .inl ft))] H := hP
  have hD : va_D A [(mo, .inr (3, [.ref b1, .ref b2, .ref b3, .ref b4, .int (nI nh), .int (nI no), .int (nI np), .int (nI 0)])), (b1, .inl (cI, 200, .inl fh)), (b2, .inl (cI, 200, .inl fo)), (b3, .inl (cI, 200, .inl fk)), (b4, .inl (cI, 200, .inl ft))] := hD
  refine lv_aload_n hx hb dX3_removeLastOccurrence_5 rfl (lv_at hl 0 rfl) ?_
  refine va_get (D := D) (ci := 3) (v := .int (nI no)) (C := RX3) (T := TX3) (N := 8) hx hb hts iX3 hown hK hP 0 rfl rfl 5 (by decide) k47 (fun _ h9 => h9) rfl dX3_removeLastOccurrence_6 ?_
  refine lv_iconst (v := 1) hx hb dX3_removeLastOccurrence_9 (by decide) ?_
  refine lv_isub hx hb dX3_removeLastOccurrence_10 ?_
  refine lv_istore_n (lv' := [(2, .int (nI no - 1)), (0, .ref mo), (1, .int x)]) hx hb dX3_removeLastOccurrence_11 rfl hl (by decide) rfl (fun ls hl => ?_)
  have loop : ∀ (n : Nat), n ≤ no → s_last fo x n = none → ∀ (H : Heap) (locs : List Loc) (ls : Array Slot), va_P D vwCl [(mo, .inr (3, [.ref b1, .ref b2, .ref b3, .ref b4, .int (nI nh), .int (nI no), .int (nI np), .int (nI 0)])), (b1, .inl (cI, 200, .inl fh)), (b2, .inl (cI, 200, .inl fo)), (b3, .inl (cI, 200, .inl fk)), (b4, .inl (cI, 200, .inl ft))] H → va_D A [(mo, .inr (3, [.ref b1, .ref b2, .ref b3, .ref b4, .int (nI nh), .int (nI no), .int (nI np), .int (nI 0)])), (b1, .inl (cI, 200, .inl fh)), (b2, .inl (cI, 200, .inl fo)), (b3, .inl (cI, 200, .inl fk)), (b4, .inl (cI, 200, .inl ft))] → va_S A s.heap H locs → lv_has ls 3 [(2, .int (nI n - 1)), (0, .ref mo), (1, .int x)] → W p l e ({ frames := 1, cells := 0, slots := 0, locals := 23 }) s m ([.ref mo, .int x] : List Value).toArray below meth cd H locs 0 0 Q (F0 m 12 ls []) := by
    intro n
    induction n with
    | zero =>
      intro hn e9 H locs ls hP hD hS hl
      refine lv_iload_n hx hb dX3_removeLastOccurrence_12 rfl (lv_at hl 0 rfl) ?_
      refine lv_if_lt (tgt := 32) hx hb dX3_removeLastOccurrence_13 (by decide) (fun _ => ?_) (fun hn => absurd (by decide +kernel) hn)
      refine lv_iload_n hx hb dX3_removeLastOccurrence_32 rfl (lv_at hl 0 rfl) ?_
      refine lv_if_ge (tgt := 38) hx hb dX3_removeLastOccurrence_33 (by decide) (fun ht_ => absurd ht_ (by decide +kernel)) (fun _ => ?_)
      refine lv_iconst (v := 0) hx hb dX3_removeLastOccurrence_36 (by decide) ?_
      exact hend _ _ _ _ _ hP hD hS (rfl) dX3_removeLastOccurrence_37
    | succ n ih =>
      intro hn e9 H locs ls hP hD hS hl
      have hl : lv_has ls 3 [(2, .int (nI n)), (0, .ref mo), (1, .int x)] := by rw [← nI_pred n]; exact hl
      refine lv_iload_n hx hb dX3_removeLastOccurrence_12 rfl (lv_at hl 0 rfl) ?_
      refine lv_if_lt (tgt := 32) hx hb dX3_removeLastOccurrence_13 (by decide) (fun ht_ => absurd ht_ (nI_pos (by omega))) (fun _ => ?_)
      refine lv_aload_n hx hb dX3_removeLastOccurrence_16 rfl (lv_at hl 1 rfl) ?_
      refine va_get (D := D) (ci := 3) (v := .ref b2) (C := RX3) (T := TX3) (N := 8) hx hb hts iX3 hown hK hP 0 rfl rfl 1 (by decide) k13 (fun _ h9 => h9) rfl dX3_removeLastOccurrence_17 ?_
      refine lv_iload_n hx hb dX3_removeLastOccurrence_20 rfl (lv_at hl 0 rfl) ?_
      refine h_iald hx hb hK hP 2 0 rfl rfl (by decide) (by omega) dX3_removeLastOccurrence_21 ?_
      refine lv_iload_n hx hb dX3_removeLastOccurrence_22 rfl (lv_at hl 2 rfl) ?_
      refine lv_icmp_eq (tgt := 32) hx hb dX3_removeLastOccurrence_23 (by decide) (fun c9 => ?_) (fun c9 => ?_)
      · rw [s_last, if_pos c9] at e9
        cases e9
      · refine lv_iinc (v := nI n - 1) (lv' := [(2, .int (nI n - 1)), (0, .ref mo), (1, .int x)]) hx hb dX3_removeLastOccurrence_26 hl (k := 0) rfl (h_m1 _) (by decide) rfl (fun ls hl => ?_)
        refine lv_goto (tgt := 12) hx hb dX3_removeLastOccurrence_29 (by decide) ?_
        exact ih (by omega) (by rw [← e9, s_last, if_neg c9]) _ _ _ hP hD hS (lv_sub hl [0, 1, 2] rfl)
  exact loop no (Nat.le_refl no) hf _ _ _ hP hD hS hl
set_option maxHeartbeats 4000000 in
set_option maxRecDepth 100000 in
theorem c_X3_removeLastOccurrence_s (l : Launch) (D : va_G) (mo b1 b2 b3 b4 : Nat) (cI : ClassId) (fh fo fk ft : Nat → Int32) (nh no np : Nat) (th : Int32) (x : Int32) (q9 : Nat) (hn9 : no ≤ 200) (hf : s_last fo x no = some q9) : mI l yX3_removeLastOccurrence wsX3_removeLastOccurrence ({ frames := 1, cells := 0, slots := 0, locals := 23 }) [.ref mo, .int x] D [(cI, .int)] [(mo, .inr (3, [.ref b1, .ref b2, .ref b3, .ref b4, .int (nI nh), .int (nI no), .int (nI np), .int th])), (b1, .inl (cI, 200, .inl fh)), (b2, .inl (cI, 200, .inl fo)), (b3, .inl (cI, 200, .inl fk)), (b4, .inl (cI, 200, .inl ft))] [(mo, .inr (3, [.ref b1, .ref b2, .ref b3, .ref b4, .int (nI nh), .int (nI (no - 1)), .int (nI np), .int (nI 0)])), (b1, .inl (cI, 200, .inl fh)), (b2, .inl (cI, 200, .inl (s_rm fo q9 no))), (b3, .inl (cI, 200, .inl fk)), (b4, .inl (cI, 200, .inl ft))] (1) := by
  refine hI_body (cc := cX3_removeLastOccurrence) (maxL := 3) (by decide) rfl (Nat.le_of_ble_eq_true rfl) (by decide +kernel) ?_
  intro p e s m below meth cd A ls Q hat hA hP hK hD hS hl hend
  obtain ⟨hF, hr, hlocks, hv⟩ := id hat
  obtain ⟨hx, hb, hml, hown, hts⟩ := id hF
  have hown : s.vm.findClass RX3 = some m.cls := hown
  have hl : lv_has ls 3 [(0, .ref mo), (1, .int x)] := hl
  have hP : va_P D vwCl [(mo, .inr (3, [.ref b1, .ref b2, .ref b3, .ref b4, .int (nI nh), .int (nI no), .int (nI np), .int th])), (b1, .inl (cI, 200, .inl fh)), (b2, .inl (cI, 200, .inl fo)), (b3, .inl (cI, 200, .inl fk)), (b4, .inl (cI, 200, .inl ft))] s.heap := hP
  have hD : va_D A [(mo, .inr (3, [.ref b1, .ref b2, .ref b3, .ref b4, .int (nI nh), .int (nI no), .int (nI np), .int th])), (b1, .inl (cI, 200, .inl fh)), (b2, .inl (cI, 200, .inl fo)), (b3, .inl (cI, 200, .inl fk)), (b4, .inl (cI, 200, .inl ft))] := hD
  have iX3 : ∀ w ∈ wsX30, w ∈ wsX3_removeLastOccurrence := by decide +kernel
  have k13 := hts (.fieldLink RX3 13 "HeapAndDequeModel" "row" "[I") (by decide +kernel)
  have k22 := hts (.fieldLink RX3 22 "HeapAndDequeModel" "thrown" "I") (by decide +kernel)
  have k47 := hts (.fieldLink RX3 47 "HeapAndDequeModel" "many" "I") (by decide +kernel)
  refine lv_aload_n hx hb dX3_removeLastOccurrence_0 rfl (lv_at hl 0 rfl) ?_
  refine lv_iconst (v := nI 0) hx hb dX3_removeLastOccurrence_1 (by decide +kernel) ?_
  refine va_put (D := D) (ci := 3) (v := .int (nI 0)) (ty := .int) (C := RX3) (T := TX3) (N := 8) hx hb hts iX3 tyX3 tyX3_ok nmX3 hown hK hP hD hS 0 rfl rfl 7 (by decide) k22 (fun _ h9 => h9) rfl (by decide +kernel) rfl rfl (Nat.le_of_ble_eq_true rfl) dX3_removeLastOccurrence_2 (fun H locs hP hD hS => ?_)
  have hP : va_P D vwCl [(mo, .inr (3, [.ref b1, .ref b2, .ref b3, .ref b4, .int (nI nh), .int (nI no), .int (nI np), .int (nI 0)])), (b1, .inl (cI, 200, .inl fh)), (b2, .inl (cI, 200, .inl fo)), (b3, .inl (cI, 200, .inl fk)), (b4, .inl (cI, 200, .inl ft))] H := hP
  have hD : va_D A [(mo, .inr (3, [.ref b1, .ref b2, .ref b3, .ref b4, .int (nI nh), .int (nI no), .int (nI np), .int (nI 0)])), (b1, .inl (cI, 200, .inl fh)), (b2, .inl (cI, 200, .inl fo)), (b3, .inl (cI, 200, .inl fk)), (b4, .inl (cI, 200, .inl ft))] := hD
  refine lv_aload_n hx hb dX3_removeLastOccurrence_5 rfl (lv_at hl 0 rfl) ?_
  refine va_get (D := D) (ci := 3) (v := .int (nI no)) (C := RX3) (T := TX3) (N := 8) hx hb hts iX3 hown hK hP 0 rfl rfl 5 (by decide) k47 (fun _ h9 => h9) rfl dX3_removeLastOccurrence_6 ?_
  refine lv_iconst (v := 1) hx hb dX3_removeLastOccurrence_9 (by decide) ?_
  refine lv_isub hx hb dX3_removeLastOccurrence_10 ?_
  refine lv_istore_n (lv' := [(2, .int (nI no - 1)), (0, .ref mo), (1, .int x)]) hx hb dX3_removeLastOccurrence_11 rfl hl (by decide) rfl (fun ls hl => ?_)
  have loop : ∀ (n : Nat), n ≤ no → s_last fo x n = some q9 → ∀ (H : Heap) (locs : List Loc) (ls : Array Slot), va_P D vwCl [(mo, .inr (3, [.ref b1, .ref b2, .ref b3, .ref b4, .int (nI nh), .int (nI no), .int (nI np), .int (nI 0)])), (b1, .inl (cI, 200, .inl fh)), (b2, .inl (cI, 200, .inl fo)), (b3, .inl (cI, 200, .inl fk)), (b4, .inl (cI, 200, .inl ft))] H → va_D A [(mo, .inr (3, [.ref b1, .ref b2, .ref b3, .ref b4, .int (nI nh), .int (nI no), .int (nI np), .int (nI 0)])), (b1, .inl (cI, 200, .inl fh)), (b2, .inl (cI, 200, .inl fo)), (b3, .inl (cI, 200, .inl fk)), (b4, .inl (cI, 200, .inl ft))] → va_S A s.heap H locs → lv_has ls 3 [(2, .int (nI n - 1)), (0, .ref mo), (1, .int x)] → W p l e ({ frames := 1, cells := 0, slots := 0, locals := 23 }) s m ([.ref mo, .int x] : List Value).toArray below meth cd H locs 0 0 Q (F0 m 12 ls []) := by
    intro n
    induction n with
    | zero =>
      intro hn e9 H locs ls hP hD hS hl
      have e8 : (none : Option Nat) = some q9 := e9
      cases e8
    | succ n ih =>
      intro hn e9 H locs ls hP hD hS hl
      have hl : lv_has ls 3 [(2, .int (nI n)), (0, .ref mo), (1, .int x)] := by rw [← nI_pred n]; exact hl
      refine lv_iload_n hx hb dX3_removeLastOccurrence_12 rfl (lv_at hl 0 rfl) ?_
      refine lv_if_lt (tgt := 32) hx hb dX3_removeLastOccurrence_13 (by decide) (fun ht_ => absurd ht_ (nI_pos (by omega))) (fun _ => ?_)
      refine lv_aload_n hx hb dX3_removeLastOccurrence_16 rfl (lv_at hl 1 rfl) ?_
      refine va_get (D := D) (ci := 3) (v := .ref b2) (C := RX3) (T := TX3) (N := 8) hx hb hts iX3 hown hK hP 0 rfl rfl 1 (by decide) k13 (fun _ h9 => h9) rfl dX3_removeLastOccurrence_17 ?_
      refine lv_iload_n hx hb dX3_removeLastOccurrence_20 rfl (lv_at hl 0 rfl) ?_
      refine h_iald hx hb hK hP 2 0 rfl rfl (by decide) (by omega) dX3_removeLastOccurrence_21 ?_
      refine lv_iload_n hx hb dX3_removeLastOccurrence_22 rfl (lv_at hl 2 rfl) ?_
      refine lv_icmp_eq (tgt := 32) hx hb dX3_removeLastOccurrence_23 (by decide) (fun c9 => ?_) (fun c9 => ?_)
      · rw [s_last, if_pos c9] at e9
        have e7 : n = q9 := Option.some.inj e9
        refine lv_iload_n hx hb dX3_removeLastOccurrence_32 rfl (lv_at hl 0 rfl) ?_
        refine lv_if_ge (tgt := 38) hx hb dX3_removeLastOccurrence_33 (by decide) (fun _ => ?_) (fun hn => absurd (nI_pos' (by omega)) hn)
        refine lv_aload_n hx hb dX3_removeLastOccurrence_38 rfl (lv_at hl 1 rfl) ?_
        refine lv_iload_n hx hb dX3_removeLastOccurrence_39 rfl (lv_at hl 0 rfl) ?_
        refine hc_iV (As := [.int (nI n)]) (rest := []) (wc := [(mo, .inr (3, [.ref b1, .ref b2, .ref b3, .ref b4, .int (nI nh), .int (nI no), .int (nI np), .int (nI 0)])), (b1, .inl (cI, 200, .inl fh)), (b2, .inl (cI, 200, .inl fo)), (b3, .inl (cI, 200, .inl fk)), (b4, .inl (cI, 200, .inl ft))]) (wr := []) (w1 := [(mo, .inr (3, [.ref b1, .ref b2, .ref b3, .ref b4, .int (nI nh), .int (nI (no - 1)), .int (nI np), .int (nI 0)])), (b1, .inl (cI, 200, .inl fh)), (b2, .inl (cI, 200, .inl (s_rm fo n no))), (b3, .inl (cI, 200, .inl fk)), (b4, .inl (cI, 200, .inl ft))]) (w' := [(mo, .inr (3, [.ref b1, .ref b2, .ref b3, .ref b4, .int (nI nh), .int (nI (no - 1)), .int (nI np), .int (nI 0)])), (b1, .inl (cI, 200, .inl fh)), (b2, .inl (cI, 200, .inl (s_rm fo n no))), (b3, .inl (cI, 200, .inl fk)), (b4, .inl (cI, 200, .inl ft))]) hF (c_X3_takeRow l D mo b1 b2 b3 b4 cI fh fo fk ft nh no np (nI 0) n (by omega) hn9) (cwV 1 hts gX3_removeLastOccurrence_X3_takeRow rfl rfl rfl (by decide +kernel) ⟨Nat.le_of_ble_eq_true rfl, Nat.le_of_ble_eq_true rfl⟩) hP hK hD hS hA hv [0, 1, 2, 3, 4] [] [0, 1, 2, 3, 4] [0] ⟨rfl, rfl, rfl, rfl, ⟨by decide, by decide, by decide⟩, by decide⟩ 0 3 rfl rfl rfl rfl hl.1 rfl (Nat.le_of_ble_eq_true rfl) dX3_removeLastOccurrence_40 ⟨Nat.zero_le _, Nat.zero_le _⟩ (fun H locs hP hD hS => ?_)
        refine lv_pop hx hb dX3_removeLastOccurrence_43 rfl ?_
        refine lv_iconst (v := 1) hx hb dX3_removeLastOccurrence_44 (by decide) ?_
        exact hend _ _ _ _ _ (by rw [← e7]; exact hP) (by rw [← e7]; exact hD) hS (rfl) dX3_removeLastOccurrence_45
      · refine lv_iinc (v := nI n - 1) (lv' := [(2, .int (nI n - 1)), (0, .ref mo), (1, .int x)]) hx hb dX3_removeLastOccurrence_26 hl (k := 0) rfl (h_m1 _) (by decide) rfl (fun ls hl => ?_)
        refine lv_goto (tgt := 12) hx hb dX3_removeLastOccurrence_29 (by decide) ?_
        exact ih (by omega) (by rw [← e9, s_last, if_neg c9]) _ _ _ hP hD hS (lv_sub hl [0, 1, 2] rfl)
  exact loop no (Nat.le_refl no) hf _ _ _ hP hD hS hl
set_option maxHeartbeats 4000000 in
set_option maxRecDepth 100000 in
theorem c_X3_at (l : Launch) (D : va_G) (mo b1 b2 b3 b4 : Nat) (cI : ClassId) (fh fo fk ft : Nat → Int32) (nh no np : Nat) (th : Int32) (q9 : Nat) (hq : q9 < no) (hn9 : no ≤ 200) : mI l yX3_at wsX3_at ({ frames := 2, cells := 0, slots := 0, locals := 42 }) [.ref mo, .int (nI q9)] D [(cI, .int)] [(mo, .inr (3, [.ref b1, .ref b2, .ref b3, .ref b4, .int (nI nh), .int (nI no), .int (nI np), .int th])), (b1, .inl (cI, 200, .inl fh)), (b2, .inl (cI, 200, .inl fo)), (b3, .inl (cI, 200, .inl fk)), (b4, .inl (cI, 200, .inl ft))] [(mo, .inr (3, [.ref b1, .ref b2, .ref b3, .ref b4, .int (nI nh), .int (nI no), .int (nI np), .int (nI 0)])), (b1, .inl (cI, 200, .inl fh)), (b2, .inl (cI, 200, .inl fo)), (b3, .inl (cI, 200, .inl fk)), (b4, .inl (cI, 200, .inl ft))] (fo q9) := by
  refine hI_body (cc := cX3_at) (maxL := 2) (by decide) rfl (Nat.le_of_ble_eq_true rfl) (rfl) ?_
  intro p e s m below meth cd A ls Q hat hA hP hK hD hS hl hend
  obtain ⟨hF, hr, hlocks, hv⟩ := id hat
  obtain ⟨hx, hb, hml, hown, hts⟩ := id hF
  have hown : s.vm.findClass RX3 = some m.cls := hown
  have hl : lv_has ls 2 [(0, .ref mo), (1, .int (nI q9))] := hl
  have hP : va_P D vwCl [(mo, .inr (3, [.ref b1, .ref b2, .ref b3, .ref b4, .int (nI nh), .int (nI no), .int (nI np), .int th])), (b1, .inl (cI, 200, .inl fh)), (b2, .inl (cI, 200, .inl fo)), (b3, .inl (cI, 200, .inl fk)), (b4, .inl (cI, 200, .inl ft))] s.heap := hP
  have hD : va_D A [(mo, .inr (3, [.ref b1, .ref b2, .ref b3, .ref b4, .int (nI nh), .int (nI no), .int (nI np), .int th])), (b1, .inl (cI, 200, .inl fh)), (b2, .inl (cI, 200, .inl fo)), (b3, .inl (cI, 200, .inl fk)), (b4, .inl (cI, 200, .inl ft))] := hD
  have iX3 : ∀ w ∈ wsX30, w ∈ wsX3_at := by decide +kernel
  have k13 := hts (.fieldLink RX3 13 "HeapAndDequeModel" "row" "[I") (by decide +kernel)
  refine lv_aload_n hx hb dX3_at_0 rfl (lv_at hl 0 rfl) ?_
  refine lv_iload_n hx hb dX3_at_1 rfl (lv_at hl 1 rfl) ?_
  refine hc_iV (As := [.int (nI q9)]) (rest := []) (wc := [(mo, .inr (3, [.ref b1, .ref b2, .ref b3, .ref b4, .int (nI nh), .int (nI no), .int (nI np), .int th])), (b1, .inl (cI, 200, .inl fh)), (b2, .inl (cI, 200, .inl fo)), (b3, .inl (cI, 200, .inl fk)), (b4, .inl (cI, 200, .inl ft))]) (wr := []) (w1 := [(mo, .inr (3, [.ref b1, .ref b2, .ref b3, .ref b4, .int (nI nh), .int (nI no), .int (nI np), .int (nI 0)])), (b1, .inl (cI, 200, .inl fh)), (b2, .inl (cI, 200, .inl fo)), (b3, .inl (cI, 200, .inl fk)), (b4, .inl (cI, 200, .inl ft))]) (w' := [(mo, .inr (3, [.ref b1, .ref b2, .ref b3, .ref b4, .int (nI nh), .int (nI no), .int (nI np), .int (nI 0)])), (b1, .inl (cI, 200, .inl fh)), (b2, .inl (cI, 200, .inl fo)), (b3, .inl (cI, 200, .inl fk)), (b4, .inl (cI, 200, .inl ft))]) hF (c_X3_isNoPlace l D mo b1 b2 b3 b4 cI fh fo fk ft nh no np th q9 hq hn9) (cwV 1 hts gX3_at_X3_isNoPlace rfl rfl rfl (by decide +kernel) ⟨Nat.le_of_ble_eq_true rfl, Nat.le_of_ble_eq_true rfl⟩) hP hK hD hS hA hv [0, 1, 2, 3, 4] [] [0, 1, 2, 3, 4] [0] ⟨rfl, rfl, rfl, rfl, ⟨by decide, by decide, by decide⟩, by decide⟩ 0 3 rfl rfl rfl rfl hl.1 rfl (Nat.le_of_ble_eq_true rfl) dX3_at_2 ⟨Nat.zero_le _, Nat.zero_le _⟩ (fun H locs hP hD hS => ?_)
  refine lv_if_eq (tgt := 12) hx hb dX3_at_5 (by decide) (fun _ => ?_) (fun hn => absurd (rfl) hn)
  refine lv_aload_n hx hb dX3_at_12 rfl (lv_at hl 0 rfl) ?_
  refine va_get (D := D) (ci := 3) (v := .ref b2) (C := RX3) (T := TX3) (N := 8) hx hb hts iX3 hown hK hP 0 rfl rfl 1 (by decide) k13 (fun _ h9 => h9) rfl dX3_at_13 ?_
  refine lv_iload_n hx hb dX3_at_16 rfl (lv_at hl 1 rfl) ?_
  refine h_iald hx hb hK hP 2 0 rfl rfl (by decide) (by omega) dX3_at_17 ?_
  exact hend _ _ _ _ _ hP hD hS (rfl) dX3_at_18
set_option maxHeartbeats 4000000 in
set_option maxRecDepth 100000 in
theorem c_X3_at_x (l : Launch) (D : va_G) (mo b1 b2 b3 b4 : Nat) (cI : ClassId) (fh fo fk ft : Nat → Int32) (nh no np : Nat) (th : Int32) (x : Int32) (hq : x < 0 ∨ nI no ≤ x) : mI l yX3_at wsX3_at ({ frames := 2, cells := 0, slots := 0, locals := 42 }) [.ref mo, .int x] D [(cI, .int)] [(mo, .inr (3, [.ref b1, .ref b2, .ref b3, .ref b4, .int (nI nh), .int (nI no), .int (nI np), .int th])), (b1, .inl (cI, 200, .inl fh)), (b2, .inl (cI, 200, .inl fo)), (b3, .inl (cI, 200, .inl fk)), (b4, .inl (cI, 200, .inl ft))] [(mo, .inr (3, [.ref b1, .ref b2, .ref b3, .ref b4, .int (nI nh), .int (nI no), .int (nI np), .int 1])), (b1, .inl (cI, 200, .inl fh)), (b2, .inl (cI, 200, .inl fo)), (b3, .inl (cI, 200, .inl fk)), (b4, .inl (cI, 200, .inl ft))] (0) := by
  refine hI_body (cc := cX3_at) (maxL := 2) (by decide) rfl (Nat.le_of_ble_eq_true rfl) (rfl) ?_
  intro p e s m below meth cd A ls Q hat hA hP hK hD hS hl hend
  obtain ⟨hF, hr, hlocks, hv⟩ := id hat
  obtain ⟨hx, hb, hml, hown, hts⟩ := id hF
  have hown : s.vm.findClass RX3 = some m.cls := hown
  have hl : lv_has ls 2 [(0, .ref mo), (1, .int x)] := hl
  have hP : va_P D vwCl [(mo, .inr (3, [.ref b1, .ref b2, .ref b3, .ref b4, .int (nI nh), .int (nI no), .int (nI np), .int th])), (b1, .inl (cI, 200, .inl fh)), (b2, .inl (cI, 200, .inl fo)), (b3, .inl (cI, 200, .inl fk)), (b4, .inl (cI, 200, .inl ft))] s.heap := hP
  have hD : va_D A [(mo, .inr (3, [.ref b1, .ref b2, .ref b3, .ref b4, .int (nI nh), .int (nI no), .int (nI np), .int th])), (b1, .inl (cI, 200, .inl fh)), (b2, .inl (cI, 200, .inl fo)), (b3, .inl (cI, 200, .inl fk)), (b4, .inl (cI, 200, .inl ft))] := hD
  have iX3 : ∀ w ∈ wsX30, w ∈ wsX3_at := by decide +kernel
  have k13 := hts (.fieldLink RX3 13 "HeapAndDequeModel" "row" "[I") (by decide +kernel)
  refine lv_aload_n hx hb dX3_at_0 rfl (lv_at hl 0 rfl) ?_
  refine lv_iload_n hx hb dX3_at_1 rfl (lv_at hl 1 rfl) ?_
  refine hc_iV (As := [.int x]) (rest := []) (wc := [(mo, .inr (3, [.ref b1, .ref b2, .ref b3, .ref b4, .int (nI nh), .int (nI no), .int (nI np), .int th])), (b1, .inl (cI, 200, .inl fh)), (b2, .inl (cI, 200, .inl fo)), (b3, .inl (cI, 200, .inl fk)), (b4, .inl (cI, 200, .inl ft))]) (wr := []) (w1 := [(mo, .inr (3, [.ref b1, .ref b2, .ref b3, .ref b4, .int (nI nh), .int (nI no), .int (nI np), .int 1])), (b1, .inl (cI, 200, .inl fh)), (b2, .inl (cI, 200, .inl fo)), (b3, .inl (cI, 200, .inl fk)), (b4, .inl (cI, 200, .inl ft))]) (w' := [(mo, .inr (3, [.ref b1, .ref b2, .ref b3, .ref b4, .int (nI nh), .int (nI no), .int (nI np), .int 1])), (b1, .inl (cI, 200, .inl fh)), (b2, .inl (cI, 200, .inl fo)), (b3, .inl (cI, 200, .inl fk)), (b4, .inl (cI, 200, .inl ft))]) hF (c_X3_isNoPlace_x l D mo b1 b2 b3 b4 cI fh fo fk ft nh no np th x hq) (cwV 1 hts gX3_at_X3_isNoPlace rfl rfl rfl (by decide +kernel) ⟨Nat.le_of_ble_eq_true rfl, Nat.le_of_ble_eq_true rfl⟩) hP hK hD hS hA hv [0, 1, 2, 3, 4] [] [0, 1, 2, 3, 4] [0] ⟨rfl, rfl, rfl, rfl, ⟨by decide, by decide, by decide⟩, by decide⟩ 0 3 rfl rfl rfl rfl hl.1 rfl (Nat.le_of_ble_eq_true rfl) dX3_at_2 ⟨Nat.zero_le _, Nat.zero_le _⟩ (fun H locs hP hD hS => ?_)
  refine lv_if_eq (tgt := 12) hx hb dX3_at_5 (by decide) (fun ht_ => absurd ht_ (by decide)) (fun _ => ?_)
  refine lv_iconst (v := 0) hx hb dX3_at_8 (by decide) ?_
  refine lv_goto (tgt := 18) hx hb dX3_at_9 (by decide) ?_
  exact hend _ _ _ _ _ hP hD hS (rfl) dX3_at_18
set_option maxHeartbeats 4000000 in
set_option maxRecDepth 100000 in
theorem c_X3_back (l : Launch) (D : va_G) (mo b1 b2 b3 b4 : Nat) (cI : ClassId) (fh fo fk ft : Nat → Int32) (nh no np : Nat) (th : Int32) (q9 : Nat) (hq : q9 < no) (hn9 : no ≤ 200) : mI l yX3_back wsX3_back ({ frames := 2, cells := 0, slots := 0, locals := 42 }) [.ref mo, .int (nI q9)] D [(cI, .int)] [(mo, .inr (3, [.ref b1, .ref b2, .ref b3, .ref b4, .int (nI nh), .int (nI no), .int (nI np), .int th])), (b1, .inl (cI, 200, .inl fh)), (b2, .inl (cI, 200, .inl fo)), (b3, .inl (cI, 200, .inl fk)), (b4, .inl (cI, 200, .inl ft))] [(mo, .inr (3, [.ref b1, .ref b2, .ref b3, .ref b4, .int (nI nh), .int (nI no), .int (nI np), .int (nI 0)])), (b1, .inl (cI, 200, .inl fh)), (b2, .inl (cI, 200, .inl fo)), (b3, .inl (cI, 200, .inl fk)), (b4, .inl (cI, 200, .inl ft))] (fo (no - 1 - q9)) := by
  refine hI_body (cc := cX3_back) (maxL := 2) (by decide) rfl (Nat.le_of_ble_eq_true rfl) (rfl) ?_
  intro p e s m below meth cd A ls Q hat hA hP hK hD hS hl hend
  obtain ⟨hF, hr, hlocks, hv⟩ := id hat
  obtain ⟨hx, hb, hml, hown, hts⟩ := id hF
  have hown : s.vm.findClass RX3 = some m.cls := hown
  have hl : lv_has ls 2 [(0, .ref mo), (1, .int (nI q9))] := hl
  have hP : va_P D vwCl [(mo, .inr (3, [.ref b1, .ref b2, .ref b3, .ref b4, .int (nI nh), .int (nI no), .int (nI np), .int th])), (b1, .inl (cI, 200, .inl fh)), (b2, .inl (cI, 200, .inl fo)), (b3, .inl (cI, 200, .inl fk)), (b4, .inl (cI, 200, .inl ft))] s.heap := hP
  have hD : va_D A [(mo, .inr (3, [.ref b1, .ref b2, .ref b3, .ref b4, .int (nI nh), .int (nI no), .int (nI np), .int th])), (b1, .inl (cI, 200, .inl fh)), (b2, .inl (cI, 200, .inl fo)), (b3, .inl (cI, 200, .inl fk)), (b4, .inl (cI, 200, .inl ft))] := hD
  have iX3 : ∀ w ∈ wsX30, w ∈ wsX3_back := by decide +kernel
  have k13 := hts (.fieldLink RX3 13 "HeapAndDequeModel" "row" "[I") (by decide +kernel)
  have k47 := hts (.fieldLink RX3 47 "HeapAndDequeModel" "many" "I") (by decide +kernel)
  refine lv_aload_n hx hb dX3_back_0 rfl (lv_at hl 0 rfl) ?_
  refine lv_iload_n hx hb dX3_back_1 rfl (lv_at hl 1 rfl) ?_
  refine hc_iV (As := [.int (nI q9)]) (rest := []) (wc := [(mo, .inr (3, [.ref b1, .ref b2, .ref b3, .ref b4, .int (nI nh), .int (nI no), .int (nI np), .int th])), (b1, .inl (cI, 200, .inl fh)), (b2, .inl (cI, 200, .inl fo)), (b3, .inl (cI, 200, .inl fk)), (b4, .inl (cI, 200, .inl ft))]) (wr := []) (w1 := [(mo, .inr (3, [.ref b1, .ref b2, .ref b3, .ref b4, .int (nI nh), .int (nI no), .int (nI np), .int (nI 0)])), (b1, .inl (cI, 200, .inl fh)), (b2, .inl (cI, 200, .inl fo)), (b3, .inl (cI, 200, .inl fk)), (b4, .inl (cI, 200, .inl ft))]) (w' := [(mo, .inr (3, [.ref b1, .ref b2, .ref b3, .ref b4, .int (nI nh), .int (nI no), .int (nI np), .int (nI 0)])), (b1, .inl (cI, 200, .inl fh)), (b2, .inl (cI, 200, .inl fo)), (b3, .inl (cI, 200, .inl fk)), (b4, .inl (cI, 200, .inl ft))]) hF (c_X3_isNoPlace l D mo b1 b2 b3 b4 cI fh fo fk ft nh no np th q9 hq hn9) (cwV 1 hts gX3_back_X3_isNoPlace rfl rfl rfl (by decide +kernel) ⟨Nat.le_of_ble_eq_true rfl, Nat.le_of_ble_eq_true rfl⟩) hP hK hD hS hA hv [0, 1, 2, 3, 4] [] [0, 1, 2, 3, 4] [0] ⟨rfl, rfl, rfl, rfl, ⟨by decide, by decide, by decide⟩, by decide⟩ 0 3 rfl rfl rfl rfl hl.1 rfl (Nat.le_of_ble_eq_true rfl) dX3_back_2 ⟨Nat.zero_le _, Nat.zero_le _⟩ (fun H locs hP hD hS => ?_)
  refine lv_if_eq (tgt := 12) hx hb dX3_back_5 (by decide) (fun _ => ?_) (fun hn => absurd (rfl) hn)
  refine lv_aload_n hx hb dX3_back_12 rfl (lv_at hl 0 rfl) ?_
  refine va_get (D := D) (ci := 3) (v := .ref b2) (C := RX3) (T := TX3) (N := 8) hx hb hts iX3 hown hK hP 0 rfl rfl 1 (by decide) k13 (fun _ h9 => h9) rfl dX3_back_13 ?_
  refine lv_aload_n hx hb dX3_back_16 rfl (lv_at hl 0 rfl) ?_
  refine va_get (D := D) (ci := 3) (v := .int (nI no)) (C := RX3) (T := TX3) (N := 8) hx hb hts iX3 hown hK hP 0 rfl rfl 5 (by decide) k47 (fun _ h9 => h9) rfl dX3_back_17 ?_
  refine lv_iconst (v := 1) hx hb dX3_back_20 (by decide) ?_
  refine lv_isub hx hb dX3_back_21 ?_
  refine hw_i (y := nI (no - 1)) (h_sub1 (by omega)) ?_
  refine lv_iload_n hx hb dX3_back_22 rfl (lv_at hl 1 rfl) ?_
  refine lv_isub hx hb dX3_back_23 ?_
  refine hw_i (y := nI (no - 1 - q9)) (pk_sub (by omega)) ?_
  refine h_iald hx hb hK hP 2 0 rfl rfl (by decide) (by omega) dX3_back_24 ?_
  exact hend _ _ _ _ _ hP hD hS (rfl) dX3_back_25
set_option maxHeartbeats 4000000 in
set_option maxRecDepth 100000 in
theorem c_X3_back_x (l : Launch) (D : va_G) (mo b1 b2 b3 b4 : Nat) (cI : ClassId) (fh fo fk ft : Nat → Int32) (nh no np : Nat) (th : Int32) (x : Int32) (hq : x < 0 ∨ nI no ≤ x) : mI l yX3_back wsX3_back ({ frames := 2, cells := 0, slots := 0, locals := 42 }) [.ref mo, .int x] D [(cI, .int)] [(mo, .inr (3, [.ref b1, .ref b2, .ref b3, .ref b4, .int (nI nh), .int (nI no), .int (nI np), .int th])), (b1, .inl (cI, 200, .inl fh)), (b2, .inl (cI, 200, .inl fo)), (b3, .inl (cI, 200, .inl fk)), (b4, .inl (cI, 200, .inl ft))] [(mo, .inr (3, [.ref b1, .ref b2, .ref b3, .ref b4, .int (nI nh), .int (nI no), .int (nI np), .int 1])), (b1, .inl (cI, 200, .inl fh)), (b2, .inl (cI, 200, .inl fo)), (b3, .inl (cI, 200, .inl fk)), (b4, .inl (cI, 200, .inl ft))] (0) := by
  refine hI_body (cc := cX3_back) (maxL := 2) (by decide) rfl (Nat.le_of_ble_eq_true rfl) (rfl) ?_
  intro p e s m below meth cd A ls Q hat hA hP hK hD hS hl hend
  obtain ⟨hF, hr, hlocks, hv⟩ := id hat
  obtain ⟨hx, hb, hml, hown, hts⟩ := id hF
  have hown : s.vm.findClass RX3 = some m.cls := hown
  have hl : lv_has ls 2 [(0, .ref mo), (1, .int x)] := hl
  have hP : va_P D vwCl [(mo, .inr (3, [.ref b1, .ref b2, .ref b3, .ref b4, .int (nI nh), .int (nI no), .int (nI np), .int th])), (b1, .inl (cI, 200, .inl fh)), (b2, .inl (cI, 200, .inl fo)), (b3, .inl (cI, 200, .inl fk)), (b4, .inl (cI, 200, .inl ft))] s.heap := hP
  have hD : va_D A [(mo, .inr (3, [.ref b1, .ref b2, .ref b3, .ref b4, .int (nI nh), .int (nI no), .int (nI np), .int th])), (b1, .inl (cI, 200, .inl fh)), (b2, .inl (cI, 200, .inl fo)), (b3, .inl (cI, 200, .inl fk)), (b4, .inl (cI, 200, .inl ft))] := hD
  have iX3 : ∀ w ∈ wsX30, w ∈ wsX3_back := by decide +kernel
  have k13 := hts (.fieldLink RX3 13 "HeapAndDequeModel" "row" "[I") (by decide +kernel)
  have k47 := hts (.fieldLink RX3 47 "HeapAndDequeModel" "many" "I") (by decide +kernel)
  refine lv_aload_n hx hb dX3_back_0 rfl (lv_at hl 0 rfl) ?_
  refine lv_iload_n hx hb dX3_back_1 rfl (lv_at hl 1 rfl) ?_
  refine hc_iV (As := [.int x]) (rest := []) (wc := [(mo, .inr (3, [.ref b1, .ref b2, .ref b3, .ref b4, .int (nI nh), .int (nI no), .int (nI np), .int th])), (b1, .inl (cI, 200, .inl fh)), (b2, .inl (cI, 200, .inl fo)), (b3, .inl (cI, 200, .inl fk)), (b4, .inl (cI, 200, .inl ft))]) (wr := []) (w1 := [(mo, .inr (3, [.ref b1, .ref b2, .ref b3, .ref b4, .int (nI nh), .int (nI no), .int (nI np), .int 1])), (b1, .inl (cI, 200, .inl fh)), (b2, .inl (cI, 200, .inl fo)), (b3, .inl (cI, 200, .inl fk)), (b4, .inl (cI, 200, .inl ft))]) (w' := [(mo, .inr (3, [.ref b1, .ref b2, .ref b3, .ref b4, .int (nI nh), .int (nI no), .int (nI np), .int 1])), (b1, .inl (cI, 200, .inl fh)), (b2, .inl (cI, 200, .inl fo)), (b3, .inl (cI, 200, .inl fk)), (b4, .inl (cI, 200, .inl ft))]) hF (c_X3_isNoPlace_x l D mo b1 b2 b3 b4 cI fh fo fk ft nh no np th x hq) (cwV 1 hts gX3_back_X3_isNoPlace rfl rfl rfl (by decide +kernel) ⟨Nat.le_of_ble_eq_true rfl, Nat.le_of_ble_eq_true rfl⟩) hP hK hD hS hA hv [0, 1, 2, 3, 4] [] [0, 1, 2, 3, 4] [0] ⟨rfl, rfl, rfl, rfl, ⟨by decide, by decide, by decide⟩, by decide⟩ 0 3 rfl rfl rfl rfl hl.1 rfl (Nat.le_of_ble_eq_true rfl) dX3_back_2 ⟨Nat.zero_le _, Nat.zero_le _⟩ (fun H locs hP hD hS => ?_)
  refine lv_if_eq (tgt := 12) hx hb dX3_back_5 (by decide) (fun ht_ => absurd ht_ (by decide)) (fun _ => ?_)
  refine lv_iconst (v := 0) hx hb dX3_back_8 (by decide) ?_
  refine lv_goto (tgt := 25) hx hb dX3_back_9 (by decide) ?_
  exact hend _ _ _ _ _ hP hD hS (rfl) dX3_back_25
set_option maxHeartbeats 4000000 in
set_option maxRecDepth 100000 in
theorem c_X3_dropLike (l : Launch) (D : va_G) (mo b1 b2 b3 b4 : Nat) (cI : ClassId) (fh fo fk ft : Nat → Int32) (nh no np : Nat) (th : Int32) (x : Int32) (hn9 : no ≤ 200) : mI l yX3_dropLike wsX3_dropLike ({ frames := 1, cells := 0, slots := 0, locals := 23 }) [.ref mo, .int x] D [(cI, .int)] [(mo, .inr (3, [.ref b1, .ref b2, .ref b3, .ref b4, .int (nI nh), .int (nI no), .int (nI np), .int th])), (b1, .inl (cI, 200, .inl fh)), (b2, .inl (cI, 200, .inl fo)), (b3, .inl (cI, 200, .inl fk)), (b4, .inl (cI, 200, .inl ft))] [(mo, .inr (3, [.ref b1, .ref b2, .ref b3, .ref b4, .int (nI nh), .int (nI ((s_dl x no fo).2)), .int (nI np), .int (nI 0)])), (b1, .inl (cI, 200, .inl fh)), (b2, .inl (cI, 200, .inl ((s_dl x no fo).1))), (b3, .inl (cI, 200, .inl fk)), (b4, .inl (cI, 200, .inl ft))] (nI (no - (s_dl x no fo).2)) := by
  refine hI_body (cc := cX3_dropLike) (maxL := 4) (by decide) rfl (Nat.le_of_ble_eq_true rfl) (rfl) ?_
  intro p e s m below meth cd A ls Q hat hA hP hK hD hS hl hend
  obtain ⟨hF, hr, hlocks, hv⟩ := id hat
  obtain ⟨hx, hb, hml, hown, hts⟩ := id hF
  have hown : s.vm.findClass RX3 = some m.cls := hown
  have hl : lv_has ls 4 [(0, .ref mo), (1, .int x)] := hl
  have hP : va_P D vwCl [(mo, .inr (3, [.ref b1, .ref b2, .ref b3, .ref b4, .int (nI nh), .int (nI no), .int (nI np), .int th])), (b1, .inl (cI, 200, .inl fh)), (b2, .inl (cI, 200, .inl fo)), (b3, .inl (cI, 200, .inl fk)), (b4, .inl (cI, 200, .inl ft))] s.heap := hP
  have hD : va_D A [(mo, .inr (3, [.ref b1, .ref b2, .ref b3, .ref b4, .int (nI nh), .int (nI no), .int (nI np), .int th])), (b1, .inl (cI, 200, .inl fh)), (b2, .inl (cI, 200, .inl fo)), (b3, .inl (cI, 200, .inl fk)), (b4, .inl (cI, 200, .inl ft))] := hD
  have iX3 : ∀ w ∈ wsX30, w ∈ wsX3_dropLike := by decide +kernel
  have k22 := hts (.fieldLink RX3 22 "HeapAndDequeModel" "thrown" "I") (by decide +kernel)
  have k47 := hts (.fieldLink RX3 47 "HeapAndDequeModel" "many" "I") (by decide +kernel)
  refine lv_aload_n hx hb dX3_dropLike_0 rfl (lv_at hl 0 rfl) ?_
  refine lv_iconst (v := nI 0) hx hb dX3_dropLike_1 (by decide +kernel) ?_
  refine va_put (D := D) (ci := 3) (v := .int (nI 0)) (ty := .int) (C := RX3) (T := TX3) (N := 8) hx hb hts iX3 tyX3 tyX3_ok nmX3 hown hK hP hD hS 0 rfl rfl 7 (by decide) k22 (fun _ h9 => h9) rfl (by decide +kernel) rfl rfl (Nat.le_of_ble_eq_true rfl) dX3_dropLike_2 (fun H locs hP hD hS => ?_)
  have hP : va_P D vwCl [(mo, .inr (3, [.ref b1, .ref b2, .ref b3, .ref b4, .int (nI nh), .int (nI no), .int (nI np), .int (nI 0)])), (b1, .inl (cI, 200, .inl fh)), (b2, .inl (cI, 200, .inl fo)), (b3, .inl (cI, 200, .inl fk)), (b4, .inl (cI, 200, .inl ft))] H := hP
  have hD : va_D A [(mo, .inr (3, [.ref b1, .ref b2, .ref b3, .ref b4, .int (nI nh), .int (nI no), .int (nI np), .int (nI 0)])), (b1, .inl (cI, 200, .inl fh)), (b2, .inl (cI, 200, .inl fo)), (b3, .inl (cI, 200, .inl fk)), (b4, .inl (cI, 200, .inl ft))] := hD
  refine lv_aload_n hx hb dX3_dropLike_5 rfl (lv_at hl 0 rfl) ?_
  refine va_get (D := D) (ci := 3) (v := .int (nI no)) (C := RX3) (T := TX3) (N := 8) hx hb hts iX3 hown hK hP 0 rfl rfl 5 (by decide) k47 (fun _ h9 => h9) rfl dX3_dropLike_6 ?_
  refine lv_istore_n (lv' := [(2, .int (nI no)), (0, .ref mo), (1, .int x)]) hx hb dX3_dropLike_9 rfl hl (by decide) rfl (fun ls hl => ?_)
  refine lv_aload_n hx hb dX3_dropLike_10 rfl (lv_at hl 1 rfl) ?_
  refine lv_iload_n hx hb dX3_dropLike_11 rfl (lv_at hl 2 rfl) ?_
  refine hc_iV (As := [.int x]) (rest := []) (wc := [(mo, .inr (3, [.ref b1, .ref b2, .ref b3, .ref b4, .int (nI nh), .int (nI no), .int (nI np), .int (nI 0)])), (b1, .inl (cI, 200, .inl fh)), (b2, .inl (cI, 200, .inl fo)), (b3, .inl (cI, 200, .inl fk)), (b4, .inl (cI, 200, .inl ft))]) (wr := []) (w1 := [(mo, .inr (3, [.ref b1, .ref b2, .ref b3, .ref b4, .int (nI nh), .int (nI no), .int (nI np), .int (nI 0)])), (b1, .inl (cI, 200, .inl fh)), (b2, .inl (cI, 200, .inl fo)), (b3, .inl (cI, 200, .inl fk)), (b4, .inl (cI, 200, .inl ft))]) (w' := [(mo, .inr (3, [.ref b1, .ref b2, .ref b3, .ref b4, .int (nI nh), .int (nI no), .int (nI np), .int (nI 0)])), (b1, .inl (cI, 200, .inl fh)), (b2, .inl (cI, 200, .inl fo)), (b3, .inl (cI, 200, .inl fk)), (b4, .inl (cI, 200, .inl ft))]) hF (c_X3_firstPlace l D mo b1 b2 b3 b4 cI fh fo fk ft nh no np (nI 0) x hn9) (cwV 1 hts gX3_dropLike_X3_firstPlace rfl rfl rfl (by decide +kernel) ⟨Nat.le_of_ble_eq_true rfl, Nat.le_of_ble_eq_true rfl⟩) hP hK hD hS hA hv [0, 1, 2, 3, 4] [] [0, 1, 2, 3, 4] [0] ⟨rfl, rfl, rfl, rfl, ⟨by decide, by decide, by decide⟩, by decide⟩ 0 3 rfl rfl rfl rfl hl.1 rfl (Nat.le_of_ble_eq_true rfl) dX3_dropLike_12 ⟨Nat.zero_le _, Nat.zero_le _⟩ (fun H locs hP hD hS => ?_)
  refine lv_istore_n (lv' := [(3, .int (s_o (s_fI fo x no 0))), (2, .int (nI no)), (0, .ref mo), (1, .int x)]) hx hb dX3_dropLike_15 rfl hl (by decide) rfl (fun ls hl => ?_)
  have loop : ∀ (n : Nat) (v : Nat → Int32), n ≤ no → s_dl x n v = s_dl x no fo → ∀ (H : Heap) (locs : List Loc) (ls : Array Slot), va_P D vwCl [(mo, .inr (3, [.ref b1, .ref b2, .ref b3, .ref b4, .int (nI nh), .int (nI n), .int (nI np), .int (nI 0)])), (b1, .inl (cI, 200, .inl fh)), (b2, .inl (cI, 200, .inl v)), (b3, .inl (cI, 200, .inl fk)), (b4, .inl (cI, 200, .inl ft))] H → va_D A [(mo, .inr (3, [.ref b1, .ref b2, .ref b3, .ref b4, .int (nI nh), .int (nI n), .int (nI np), .int (nI 0)])), (b1, .inl (cI, 200, .inl fh)), (b2, .inl (cI, 200, .inl v)), (b3, .inl (cI, 200, .inl fk)), (b4, .inl (cI, 200, .inl ft))] → va_S A s.heap H locs → lv_has ls 4 [(3, .int (s_o (s_fI v x n 0))), (2, .int (nI no)), (0, .ref mo), (1, .int x)] → W p l e ({ frames := 1, cells := 0, slots := 0, locals := 23 }) s m ([.ref mo, .int x] : List Value).toArray below meth cd H locs 0 0 Q (F0 m 16 ls []) := by
    intro n
    induction n with
    | zero =>
      intro v hn e9 H locs ls hP hD hS hl
      refine lv_iload_n hx hb dX3_dropLike_16 rfl (lv_at hl 0 rfl) ?_
      refine lv_if_lt (tgt := 35) hx hb dX3_dropLike_17 (by decide) (fun _ => ?_) (fun hn => absurd (s_o_lt) hn)
      refine lv_iload_n hx hb dX3_dropLike_35 rfl (lv_at hl 1 rfl) ?_
      refine lv_aload_n hx hb dX3_dropLike_36 rfl (lv_at hl 2 rfl) ?_
      refine va_get (D := D) (ci := 3) (v := .int (nI 0)) (C := RX3) (T := TX3) (N := 8) hx hb hts iX3 hown hK hP 0 rfl rfl 5 (by decide) k47 (fun _ h9 => h9) rfl dX3_dropLike_37 ?_
      refine lv_isub hx hb dX3_dropLike_40 ?_
      refine hw_i (y := nI (no - 0)) (pk_sub (a := no) (b := 0) (by omega)) ?_
      exact hend _ _ _ _ _ (by rw [← e9]; exact hP) (by rw [← e9]; exact hD) hS (by rw [← e9]; rfl) dX3_dropLike_41
    | succ n ih =>
      intro v hn e9 H locs ls hP hD hS hl
      rcases hf : s_fI v x (n + 1) 0 with _ | q9
      · rw [hf] at hl
        have e8 : s_dl x no fo = (v, n + 1) := by rw [← e9, s_dl, hf]
        refine lv_iload_n hx hb dX3_dropLike_16 rfl (lv_at hl 0 rfl) ?_
        refine lv_if_lt (tgt := 35) hx hb dX3_dropLike_17 (by decide) (fun _ => ?_) (fun hn => absurd (s_o_lt) hn)
        refine lv_iload_n hx hb dX3_dropLike_35 rfl (lv_at hl 1 rfl) ?_
        refine lv_aload_n hx hb dX3_dropLike_36 rfl (lv_at hl 2 rfl) ?_
        refine va_get (D := D) (ci := 3) (v := .int (nI (n + 1))) (C := RX3) (T := TX3) (N := 8) hx hb hts iX3 hown hK hP 0 rfl rfl 5 (by decide) k47 (fun _ h9 => h9) rfl dX3_dropLike_37 ?_
        refine lv_isub hx hb dX3_dropLike_40 ?_
        refine hw_i (y := nI (no - (n + 1))) (pk_sub (by omega)) ?_
        exact hend _ _ _ _ _ (by rw [e8]; exact hP) (by rw [e8]; exact hD) hS (by rw [e8]) dX3_dropLike_41
      · rw [hf] at hl
        have hq : q9 < n + 1 := by have := (s_fI_spec hf).2.1; omega
        have hl : lv_has ls 4 [(3, .int (nI q9)), (2, .int (nI no)), (0, .ref mo), (1, .int x)] := hl
        refine lv_iload_n hx hb dX3_dropLike_16 rfl (lv_at hl 0 rfl) ?_
        refine lv_if_lt (tgt := 35) hx hb dX3_dropLike_17 (by decide) (fun ht_ => absurd ht_ (nI_pos (by omega))) (fun _ => ?_)
        refine lv_aload_n hx hb dX3_dropLike_20 rfl (lv_at hl 2 rfl) ?_
        refine lv_iload_n hx hb dX3_dropLike_21 rfl (lv_at hl 0 rfl) ?_
        refine hc_iV (As := [.int (nI q9)]) (rest := []) (wc := [(mo, .inr (3, [.ref b1, .ref b2, .ref b3, .ref b4, .int (nI nh), .int (nI (n + 1)), .int (nI np), .int (nI 0)])), (b1, .inl (cI, 200, .inl fh)), (b2, .inl (cI, 200, .inl v)), (b3, .inl (cI, 200, .inl fk)), (b4, .inl (cI, 200, .inl ft))]) (wr := []) (w1 := [(mo, .inr (3, [.ref b1, .ref b2, .ref b3, .ref b4, .int (nI nh), .int (nI n), .int (nI np), .int (nI 0)])), (b1, .inl (cI, 200, .inl fh)), (b2, .inl (cI, 200, .inl (s_rm v q9 (n + 1)))), (b3, .inl (cI, 200, .inl fk)), (b4, .inl (cI, 200, .inl ft))]) (w' := [(mo, .inr (3, [.ref b1, .ref b2, .ref b3, .ref b4, .int (nI nh), .int (nI n), .int (nI np), .int (nI 0)])), (b1, .inl (cI, 200, .inl fh)), (b2, .inl (cI, 200, .inl (s_rm v q9 (n + 1)))), (b3, .inl (cI, 200, .inl fk)), (b4, .inl (cI, 200, .inl ft))]) hF (c_X3_takeRow l D mo b1 b2 b3 b4 cI fh v fk ft nh (n + 1) np (nI 0) q9 hq (by omega)) (cwV 1 hts gX3_dropLike_X3_takeRow rfl rfl rfl (by decide +kernel) ⟨Nat.le_of_ble_eq_true rfl, Nat.le_of_ble_eq_true rfl⟩) hP hK hD hS hA hv [0, 1, 2, 3, 4] [] [0, 1, 2, 3, 4] [0] ⟨rfl, rfl, rfl, rfl, ⟨by decide, by decide, by decide⟩, by decide⟩ 0 3 rfl rfl rfl rfl hl.1 rfl (Nat.le_of_ble_eq_true rfl) dX3_dropLike_22 ⟨Nat.zero_le _, Nat.zero_le _⟩ (fun H locs hP hD hS => ?_)
        refine lv_pop hx hb dX3_dropLike_25 rfl ?_
        refine lv_aload_n hx hb dX3_dropLike_26 rfl (lv_at hl 2 rfl) ?_
        refine lv_iload_n hx hb dX3_dropLike_27 rfl (lv_at hl 3 rfl) ?_
        refine hc_iV (As := [.int x]) (rest := []) (wc := [(mo, .inr (3, [.ref b1, .ref b2, .ref b3, .ref b4, .int (nI nh), .int (nI n), .int (nI np), .int (nI 0)])), (b1, .inl (cI, 200, .inl fh)), (b2, .inl (cI, 200, .inl (s_rm v q9 (n + 1)))), (b3, .inl (cI, 200, .inl fk)), (b4, .inl (cI, 200, .inl ft))]) (wr := []) (w1 := [(mo, .inr (3, [.ref b1, .ref b2, .ref b3, .ref b4, .int (nI nh), .int (nI n), .int (nI np), .int (nI 0)])), (b1, .inl (cI, 200, .inl fh)), (b2, .inl (cI, 200, .inl (s_rm v q9 (n + 1)))), (b3, .inl (cI, 200, .inl fk)), (b4, .inl (cI, 200, .inl ft))]) (w' := [(mo, .inr (3, [.ref b1, .ref b2, .ref b3, .ref b4, .int (nI nh), .int (nI n), .int (nI np), .int (nI 0)])), (b1, .inl (cI, 200, .inl fh)), (b2, .inl (cI, 200, .inl (s_rm v q9 (n + 1)))), (b3, .inl (cI, 200, .inl fk)), (b4, .inl (cI, 200, .inl ft))]) hF (c_X3_firstPlace l D mo b1 b2 b3 b4 cI fh (s_rm v q9 (n + 1)) fk ft nh n np (nI 0) x (by omega)) (cwV 1 hts gX3_dropLike_X3_firstPlace rfl rfl rfl (by decide +kernel) ⟨Nat.le_of_ble_eq_true rfl, Nat.le_of_ble_eq_true rfl⟩) hP hK hD hS hA hv [0, 1, 2, 3, 4] [] [0, 1, 2, 3, 4] [0] ⟨rfl, rfl, rfl, rfl, ⟨by decide, by decide, by decide⟩, by decide⟩ 0 3 rfl rfl rfl rfl hl.1 rfl (Nat.le_of_ble_eq_true rfl) dX3_dropLike_28 ⟨Nat.zero_le _, Nat.zero_le _⟩ (fun H locs hP hD hS => ?_)
        refine lv_istore_n (lv' := [(3, .int (s_o (s_fI (s_rm v q9 (n + 1)) x n 0))), (2, .int (nI no)), (0, .ref mo), (1, .int x)]) hx hb dX3_dropLike_31 rfl hl (by decide) rfl (fun ls hl => ?_)
        refine lv_goto (tgt := 16) hx hb dX3_dropLike_32 (by decide) ?_
        exact ih _ (by omega) (by rw [← e9, s_dl, hf]) _ _ _ hP hD hS (lv_sub hl [0, 1, 2, 3] rfl)
  exact loop no fo (Nat.le_refl no) rfl _ _ _ hP hD hS hl
set_option maxHeartbeats 4000000 in
set_option maxRecDepth 100000 in
theorem c_X3_walk (l : Launch) (D : va_G) (mo b1 b2 b3 b4 : Nat) (cI : ClassId) (fh fo fk ft : Nat → Int32) (nh no np : Nat) (th : Int32) (hn9 : no ≤ 200) : mL l yX3_walk wsX3_walk ({ frames := 0, cells := 0, slots := 0, locals := 0 }) [.ref mo] D [(cI, .int)] [(mo, .inr (3, [.ref b1, .ref b2, .ref b3, .ref b4, .int (nI nh), .int (nI no), .int (nI np), .int th])), (b1, .inl (cI, 200, .inl fh)), (b2, .inl (cI, 200, .inl fo)), (b3, .inl (cI, 200, .inl fk)), (b4, .inl (cI, 200, .inl ft))] [(mo, .inr (3, [.ref b1, .ref b2, .ref b3, .ref b4, .int (nI nh), .int (nI no), .int (nI np), .int (nI 0)])), (b1, .inl (cI, 200, .inl fh)), (b2, .inl (cI, 200, .inl fo)), (b3, .inl (cI, 200, .inl fk)), (b4, .inl (cI, 200, .inl ft))] (s_up fo no) := by
  refine hL_body (cc := cX3_walk) (maxL := 4) (by decide) rfl (Nat.le_of_ble_eq_true rfl) ?_
  intro p e s m below meth cd A ls Q hat hA hP hK hD hS hl hend
  obtain ⟨hF, hr, hlocks, hv⟩ := id hat
  obtain ⟨hx, hb, hml, hown, hts⟩ := id hF
  have hown : s.vm.findClass RX3 = some m.cls := hown
  have hl : lv_has ls 4 [(0, .ref mo)] := hl
  have hP : va_P D vwCl [(mo, .inr (3, [.ref b1, .ref b2, .ref b3, .ref b4, .int (nI nh), .int (nI no), .int (nI np), .int th])), (b1, .inl (cI, 200, .inl fh)), (b2, .inl (cI, 200, .inl fo)), (b3, .inl (cI, 200, .inl fk)), (b4, .inl (cI, 200, .inl ft))] s.heap := hP
  have hD : va_D A [(mo, .inr (3, [.ref b1, .ref b2, .ref b3, .ref b4, .int (nI nh), .int (nI no), .int (nI np), .int th])), (b1, .inl (cI, 200, .inl fh)), (b2, .inl (cI, 200, .inl fo)), (b3, .inl (cI, 200, .inl fk)), (b4, .inl (cI, 200, .inl ft))] := hD
  have iX3 : ∀ w ∈ wsX30, w ∈ wsX3_walk := by decide +kernel
  have k13 := hts (.fieldLink RX3 13 "HeapAndDequeModel" "row" "[I") (by decide +kernel)
  have k22 := hts (.fieldLink RX3 22 "HeapAndDequeModel" "thrown" "I") (by decide +kernel)
  have k47 := hts (.fieldLink RX3 47 "HeapAndDequeModel" "many" "I") (by decide +kernel)
  refine lv_aload_n hx hb dX3_walk_0 rfl (lv_at hl 0 rfl) ?_
  refine lv_iconst (v := nI 0) hx hb dX3_walk_1 (by decide +kernel) ?_
  refine va_put (D := D) (ci := 3) (v := .int (nI 0)) (ty := .int) (C := RX3) (T := TX3) (N := 8) hx hb hts iX3 tyX3 tyX3_ok nmX3 hown hK hP hD hS 0 rfl rfl 7 (by decide) k22 (fun _ h9 => h9) rfl (by decide +kernel) rfl rfl (Nat.le_of_ble_eq_true rfl) dX3_walk_2 (fun H locs hP hD hS => ?_)
  have hP : va_P D vwCl [(mo, .inr (3, [.ref b1, .ref b2, .ref b3, .ref b4, .int (nI nh), .int (nI no), .int (nI np), .int (nI 0)])), (b1, .inl (cI, 200, .inl fh)), (b2, .inl (cI, 200, .inl fo)), (b3, .inl (cI, 200, .inl fk)), (b4, .inl (cI, 200, .inl ft))] H := hP
  have hD : va_D A [(mo, .inr (3, [.ref b1, .ref b2, .ref b3, .ref b4, .int (nI nh), .int (nI no), .int (nI np), .int (nI 0)])), (b1, .inl (cI, 200, .inl fh)), (b2, .inl (cI, 200, .inl fo)), (b3, .inl (cI, 200, .inl fk)), (b4, .inl (cI, 200, .inl ft))] := hD
  refine lv_ldc2 hx hb hown (hts (.constantLong RX3 92 (7)) (by decide +kernel)) dX3_walk_5 ?_
  refine lv_lstore_n (lv' := [(1, .long 7), (0, .ref mo)]) hx hb dX3_walk_8 rfl hl (by decide) rfl (fun ls hl => ?_)
  refine lv_iconst (v := nI 0) hx hb dX3_walk_9 (by decide +kernel) ?_
  refine lv_istore_n (lv' := [(3, .int (nI 0)), (1, .long 7), (0, .ref mo)]) hx hb dX3_walk_10 rfl hl (by decide) rfl (fun ls hl => ?_)
  have loop : ∀ (n i : Nat), i + n = no → ∀ (H : Heap) (locs : List Loc) (ls : Array Slot), va_P D vwCl [(mo, .inr (3, [.ref b1, .ref b2, .ref b3, .ref b4, .int (nI nh), .int (nI no), .int (nI np), .int (nI 0)])), (b1, .inl (cI, 200, .inl fh)), (b2, .inl (cI, 200, .inl fo)), (b3, .inl (cI, 200, .inl fk)), (b4, .inl (cI, 200, .inl ft))] H → va_D A [(mo, .inr (3, [.ref b1, .ref b2, .ref b3, .ref b4, .int (nI nh), .int (nI no), .int (nI np), .int (nI 0)])), (b1, .inl (cI, 200, .inl fh)), (b2, .inl (cI, 200, .inl fo)), (b3, .inl (cI, 200, .inl fk)), (b4, .inl (cI, 200, .inl ft))] → va_S A s.heap H locs → lv_has ls 4 [(3, .int (nI i)), (1, .long (s_up fo i)), (0, .ref mo)] → W p l e ({ frames := 0, cells := 0, slots := 0, locals := 0 }) s m ([.ref mo] : List Value).toArray below meth cd H locs 0 0 Q (F0 m 11 ls []) := by
    intro n
    induction n with
    | zero =>
      intro i hn H locs ls hP hD hS hl
      refine lv_iload_n hx hb dX3_walk_11 rfl (lv_at hl 0 rfl) ?_
      refine lv_aload_n hx hb dX3_walk_12 rfl (lv_at hl 2 rfl) ?_
      refine va_get (D := D) (ci := 3) (v := .int (nI no)) (C := RX3) (T := TX3) (N := 8) hx hb hts iX3 hown hK hP 0 rfl rfl 5 (by decide) k47 (fun _ h9 => h9) rfl dX3_walk_13 ?_
      refine lv_icmp_ge (tgt := 39) hx hb dX3_walk_16 (by decide) (fun _ => ?_) (fun hn => absurd (nI_le (by omega) (by omega)) hn)
      refine lv_lload_n hx hb dX3_walk_39 rfl (lv_at hl 1 rfl) ?_
      exact hend _ _ _ _ _ hP hD hS (by rw [show i = no by omega]) dX3_walk_40
    | succ n ih =>
      intro i hn H locs ls hP hD hS hl
      refine lv_iload_n hx hb dX3_walk_11 rfl (lv_at hl 0 rfl) ?_
      refine lv_aload_n hx hb dX3_walk_12 rfl (lv_at hl 2 rfl) ?_
      refine va_get (D := D) (ci := 3) (v := .int (nI no)) (C := RX3) (T := TX3) (N := 8) hx hb hts iX3 hown hK hP 0 rfl rfl 5 (by decide) k47 (fun _ h9 => h9) rfl dX3_walk_13 ?_
      refine lv_icmp_ge (tgt := 39) hx hb dX3_walk_16 (by decide) (fun ht_ => absurd ht_ (nI_ge (by omega) (by omega))) (fun _ => ?_)
      refine lv_ldc2 hx hb hown (hts (.constantLong RX3 94 (31)) (by decide +kernel)) dX3_walk_19 ?_
      refine lv_lload_n hx hb dX3_walk_22 rfl (lv_at hl 1 rfl) ?_
      refine lv_lmul hx hb dX3_walk_23 ?_
      refine lv_aload_n hx hb dX3_walk_24 rfl (lv_at hl 2 rfl) ?_
      refine va_get (D := D) (ci := 3) (v := .ref b2) (C := RX3) (T := TX3) (N := 8) hx hb hts iX3 hown hK hP 0 rfl rfl 1 (by decide) k13 (fun _ h9 => h9) rfl dX3_walk_25 ?_
      refine lv_iload_n hx hb dX3_walk_28 rfl (lv_at hl 0 rfl) ?_
      refine h_iald hx hb hK hP 2 0 rfl rfl (by decide) (by omega) dX3_walk_29 ?_
      refine lv_i2l hx hb dX3_walk_30 rfl ?_
      refine lv_ladd hx hb dX3_walk_31 ?_
      refine lv_lstore_n (lv' := [(1, .long ((31 * (s_up fo i)) + ((fo i).toInt64))), (3, .int (nI i)), (0, .ref mo)]) hx hb dX3_walk_32 rfl hl (by decide) rfl (fun ls hl => ?_)
      refine lv_iinc (v := nI (i + 1)) (lv' := [(3, .int (nI (i + 1))), (1, .long ((31 * (s_up fo i)) + ((fo i).toInt64))), (0, .ref mo)]) hx hb dX3_walk_33 hl (k := 1) rfl (nI_1 _) (by decide) rfl (fun ls hl => ?_)
      refine lv_goto (tgt := 11) hx hb dX3_walk_36 (by decide) ?_
      exact ih _ (by omega) _ _ _ hP hD hS (lv_sub hl [0, 1, 2] rfl)
  exact loop no 0 (by omega) _ _ _ hP hD hS hl
set_option maxHeartbeats 4000000 in
set_option maxRecDepth 100000 in
theorem c_X3_walkBack (l : Launch) (D : va_G) (mo b1 b2 b3 b4 : Nat) (cI : ClassId) (fh fo fk ft : Nat → Int32) (nh no np : Nat) (th : Int32) (hn9 : no ≤ 200) : mL l yX3_walkBack wsX3_walkBack ({ frames := 0, cells := 0, slots := 0, locals := 0 }) [.ref mo] D [(cI, .int)] [(mo, .inr (3, [.ref b1, .ref b2, .ref b3, .ref b4, .int (nI nh), .int (nI no), .int (nI np), .int th])), (b1, .inl (cI, 200, .inl fh)), (b2, .inl (cI, 200, .inl fo)), (b3, .inl (cI, 200, .inl fk)), (b4, .inl (cI, 200, .inl ft))] [(mo, .inr (3, [.ref b1, .ref b2, .ref b3, .ref b4, .int (nI nh), .int (nI no), .int (nI np), .int (nI 0)])), (b1, .inl (cI, 200, .inl fh)), (b2, .inl (cI, 200, .inl fo)), (b3, .inl (cI, 200, .inl fk)), (b4, .inl (cI, 200, .inl ft))] (s_dn fo no 7) := by
  refine hL_body (cc := cX3_walkBack) (maxL := 4) (by decide) rfl (Nat.le_of_ble_eq_true rfl) ?_
  intro p e s m below meth cd A ls Q hat hA hP hK hD hS hl hend
  obtain ⟨hF, hr, hlocks, hv⟩ := id hat
  obtain ⟨hx, hb, hml, hown, hts⟩ := id hF
  have hown : s.vm.findClass RX3 = some m.cls := hown
  have hl : lv_has ls 4 [(0, .ref mo)] := hl
  have hP : va_P D vwCl [(mo, .inr (3, [.ref b1, .ref b2, .ref b3, .ref b4, .int (nI nh), .int (nI no), .int (nI np), .int th])), (b1, .inl (cI, 200, .inl fh)), (b2, .inl (cI, 200, .inl fo)), (b3, .inl (cI, 200, .inl fk)), (b4, .inl (cI, 200, .inl ft))] s.heap := hP
  have hD : va_D A [(mo, .inr (3, [.ref b1, .ref b2, .ref b3, .ref b4, .int (nI nh), .int (nI no), .int (nI np), .int th])), (b1, .inl (cI, 200, .inl fh)), (b2, .inl (cI, 200, .inl fo)), (b3, .inl (cI, 200, .inl fk)), (b4, .inl (cI, 200, .inl ft))] := hD
  have iX3 : ∀ w ∈ wsX30, w ∈ wsX3_walkBack := by decide +kernel
  have k13 := hts (.fieldLink RX3 13 "HeapAndDequeModel" "row" "[I") (by decide +kernel)
  have k22 := hts (.fieldLink RX3 22 "HeapAndDequeModel" "thrown" "I") (by decide +kernel)
  have k47 := hts (.fieldLink RX3 47 "HeapAndDequeModel" "many" "I") (by decide +kernel)
  refine lv_aload_n hx hb dX3_walkBack_0 rfl (lv_at hl 0 rfl) ?_
  refine lv_iconst (v := nI 0) hx hb dX3_walkBack_1 (by decide +kernel) ?_
  refine va_put (D := D) (ci := 3) (v := .int (nI 0)) (ty := .int) (C := RX3) (T := TX3) (N := 8) hx hb hts iX3 tyX3 tyX3_ok nmX3 hown hK hP hD hS 0 rfl rfl 7 (by decide) k22 (fun _ h9 => h9) rfl (by decide +kernel) rfl rfl (Nat.le_of_ble_eq_true rfl) dX3_walkBack_2 (fun H locs hP hD hS => ?_)
  have hP : va_P D vwCl [(mo, .inr (3, [.ref b1, .ref b2, .ref b3, .ref b4, .int (nI nh), .int (nI no), .int (nI np), .int (nI 0)])), (b1, .inl (cI, 200, .inl fh)), (b2, .inl (cI, 200, .inl fo)), (b3, .inl (cI, 200, .inl fk)), (b4, .inl (cI, 200, .inl ft))] H := hP
  have hD : va_D A [(mo, .inr (3, [.ref b1, .ref b2, .ref b3, .ref b4, .int (nI nh), .int (nI no), .int (nI np), .int (nI 0)])), (b1, .inl (cI, 200, .inl fh)), (b2, .inl (cI, 200, .inl fo)), (b3, .inl (cI, 200, .inl fk)), (b4, .inl (cI, 200, .inl ft))] := hD
  refine lv_ldc2 hx hb hown (hts (.constantLong RX3 92 (7)) (by decide +kernel)) dX3_walkBack_5 ?_
  refine lv_lstore_n (lv' := [(1, .long 7), (0, .ref mo)]) hx hb dX3_walkBack_8 rfl hl (by decide) rfl (fun ls hl => ?_)
  refine lv_aload_n hx hb dX3_walkBack_9 rfl (lv_at hl 1 rfl) ?_
  refine va_get (D := D) (ci := 3) (v := .int (nI no)) (C := RX3) (T := TX3) (N := 8) hx hb hts iX3 hown hK hP 0 rfl rfl 5 (by decide) k47 (fun _ h9 => h9) rfl dX3_walkBack_10 ?_
  refine lv_iconst (v := 1) hx hb dX3_walkBack_13 (by decide) ?_
  refine lv_isub hx hb dX3_walkBack_14 ?_
  refine lv_istore_n (lv' := [(3, .int (nI no - 1)), (1, .long 7), (0, .ref mo)]) hx hb dX3_walkBack_15 rfl hl (by decide) rfl (fun ls hl => ?_)
  have loop : ∀ (n : Nat) (y : Int64), n ≤ no → s_dn fo n y = s_dn fo no 7 → ∀ (H : Heap) (locs : List Loc) (ls : Array Slot), va_P D vwCl [(mo, .inr (3, [.ref b1, .ref b2, .ref b3, .ref b4, .int (nI nh), .int (nI no), .int (nI np), .int (nI 0)])), (b1, .inl (cI, 200, .inl fh)), (b2, .inl (cI, 200, .inl fo)), (b3, .inl (cI, 200, .inl fk)), (b4, .inl (cI, 200, .inl ft))] H → va_D A [(mo, .inr (3, [.ref b1, .ref b2, .ref b3, .ref b4, .int (nI nh), .int (nI no), .int (nI np), .int (nI 0)])), (b1, .inl (cI, 200, .inl fh)), (b2, .inl (cI, 200, .inl fo)), (b3, .inl (cI, 200, .inl fk)), (b4, .inl (cI, 200, .inl ft))] → va_S A s.heap H locs → lv_has ls 4 [(3, .int (nI n - 1)), (1, .long y), (0, .ref mo)] → W p l e ({ frames := 0, cells := 0, slots := 0, locals := 0 }) s m ([.ref mo] : List Value).toArray below meth cd H locs 0 0 Q (F0 m 16 ls []) := by
    intro n
    induction n with
    | zero =>
      intro y hn e9 H locs ls hP hD hS hl
      refine lv_iload_n hx hb dX3_walkBack_16 rfl (lv_at hl 0 rfl) ?_
      refine lv_if_lt (tgt := 40) hx hb dX3_walkBack_17 (by decide) (fun _ => ?_) (fun hn => absurd (by decide +kernel) hn)
      refine lv_lload_n hx hb dX3_walkBack_40 rfl (lv_at hl 1 rfl) ?_
      exact hend _ _ _ _ _ hP hD hS (by rw [← e9]; rfl) dX3_walkBack_41
    | succ n ih =>
      intro y hn e9 H locs ls hP hD hS hl
      have hl : lv_has ls 4 [(3, .int (nI n)), (1, .long y), (0, .ref mo)] := by rw [← nI_pred n]; exact hl
      refine lv_iload_n hx hb dX3_walkBack_16 rfl (lv_at hl 0 rfl) ?_
      refine lv_if_lt (tgt := 40) hx hb dX3_walkBack_17 (by decide) (fun ht_ => absurd ht_ (nI_pos (by omega))) (fun _ => ?_)
      refine lv_ldc2 hx hb hown (hts (.constantLong RX3 94 (31)) (by decide +kernel)) dX3_walkBack_20 ?_
      refine lv_lload_n hx hb dX3_walkBack_23 rfl (lv_at hl 1 rfl) ?_
      refine lv_lmul hx hb dX3_walkBack_24 ?_
      refine lv_aload_n hx hb dX3_walkBack_25 rfl (lv_at hl 2 rfl) ?_
      refine va_get (D := D) (ci := 3) (v := .ref b2) (C := RX3) (T := TX3) (N := 8) hx hb hts iX3 hown hK hP 0 rfl rfl 1 (by decide) k13 (fun _ h9 => h9) rfl dX3_walkBack_26 ?_
      refine lv_iload_n hx hb dX3_walkBack_29 rfl (lv_at hl 0 rfl) ?_
      refine h_iald hx hb hK hP 2 0 rfl rfl (by decide) (by omega) dX3_walkBack_30 ?_
      refine lv_i2l hx hb dX3_walkBack_31 rfl ?_
      refine lv_ladd hx hb dX3_walkBack_32 ?_
      refine lv_lstore_n (lv' := [(1, .long ((31 * y) + ((fo n).toInt64))), (3, .int (nI n)), (0, .ref mo)]) hx hb dX3_walkBack_33 rfl hl (by decide) rfl (fun ls hl => ?_)
      refine lv_iinc (v := nI n - 1) (lv' := [(3, .int (nI n - 1)), (1, .long ((31 * y) + ((fo n).toInt64))), (0, .ref mo)]) hx hb dX3_walkBack_34 hl (k := 1) rfl (h_m1 _) (by decide) rfl (fun ls hl => ?_)
      refine lv_goto (tgt := 16) hx hb dX3_walkBack_37 (by decide) ?_
      exact ih _ (by omega) (by rw [← e9]; rfl) _ _ _ hP hD hS (lv_sub hl [0, 1, 2] rfl)
  exact loop no 7 (Nat.le_refl no) rfl _ _ _ hP hD hS hl
