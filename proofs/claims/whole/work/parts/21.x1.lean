/-! HeapAndDeque.Row -/
set_option maxHeartbeats 4000000 in
set_option maxRecDepth 100000 in
theorem c_X1_putFirst (l : Launch) (D : va_G) (h a : Nat) (cI : ClassId) (f : Nat → Int32) (c : Nat) (x : Int32) (hc : c < 200) : mI l yX1_putFirst wsX1_putFirst ({ frames := 0, cells := 0, slots := 0, locals := 0 }) [.ref h, .int x] D [(cI, .int)] (wR h a cI f c) (wR h a cI (s_ins f x c) (c + 1)) (nI (c + 1)) := by
  refine hI_body (cc := cX1_putFirst) (maxL := 3) (by decide) rfl (Nat.le_of_ble_eq_true rfl) (rfl) ?_
  intro p e s m below meth cd A ls Q hat hA hP hK hD hS hl hend
  obtain ⟨hF, hr, hlocks, hv⟩ := id hat
  obtain ⟨hx, hb, hml, hown, hts⟩ := id hF
  have hown : s.vm.findClass RX1 = some m.cls := hown
  have hl : lv_has ls 3 [(0, .ref h), (1, .int x)] := hl
  have hP : va_P D vwCl [(h, .inr (1, [.ref a, .int (nI c)])), (a, .inl (cI, 200, .inl f))] s.heap := hP
  have hD : va_D A [(h, .inr (1, [.ref a, .int (nI c)])), (a, .inl (cI, 200, .inl f))] := hD
  have iX1 : ∀ w ∈ wsX10, w ∈ wsX1_putFirst := by decide +kernel
  have k9 := hts (.fieldLink RX1 9 "HeapAndDeque$Row" "values" "[I") (by decide +kernel)
  have k15 := hts (.fieldLink RX1 15 "HeapAndDeque$Row" "count" "I") (by decide +kernel)
  refine lv_aload_n hx hb dX1_putFirst_0 rfl (lv_at hl 0 rfl) ?_
  refine va_get (D := D) (ci := 1) (v := .int (nI c)) (C := RX1) (T := TX1) (N := 2) hx hb hts iX1 hown hK hP 0 rfl rfl 1 (by decide) k15 (fun _ h9 => h9) rfl dX1_putFirst_1 ?_
  refine lv_aload_n hx hb dX1_putFirst_4 rfl (lv_at hl 0 rfl) ?_
  refine va_get (D := D) (ci := 1) (v := .ref a) (C := RX1) (T := TX1) (N := 2) hx hb hts iX1 hown hK hP 0 rfl rfl 0 (by decide) k9 (fun _ h9 => h9) rfl dX1_putFirst_5 ?_
  refine va_alen (v := nI 200) hx hb hK hP 1 0 rfl rfl rfl dX1_putFirst_8 ?_
  refine lv_icmp_lt (tgt := 22) hx hb dX1_putFirst_9 (by decide) (fun _ => ?_) (fun hn => absurd (nI_lt hc (by decide)) hn)
  refine lv_aload_n hx hb dX1_putFirst_22 rfl (lv_at hl 0 rfl) ?_
  refine va_get (D := D) (ci := 1) (v := .int (nI c)) (C := RX1) (T := TX1) (N := 2) hx hb hts iX1 hown hK hP 0 rfl rfl 1 (by decide) k15 (fun _ h9 => h9) rfl dX1_putFirst_23 ?_
  refine lv_istore_n (lv' := [(2, .int (nI c)), (0, .ref h), (1, .int x)]) hx hb dX1_putFirst_26 rfl hl (by decide) rfl (fun ls hl => ?_)
  have loop : ∀ (n : Nat), n ≤ c → ∀ (H : Heap) (locs : List Loc) (ls : Array Slot), va_P D vwCl [(h, .inr (1, [.ref a, .int (nI c)])), (a, .inl (cI, 200, .inl (s_sh f n c)))] H → va_D A [(h, .inr (1, [.ref a, .int (nI c)])), (a, .inl (cI, 200, .inl (s_sh f n c)))] → va_S A s.heap H locs → lv_has ls 3 [(2, .int (nI n)), (0, .ref h), (1, .int x)] → W p l e ({ frames := 0, cells := 0, slots := 0, locals := 0 }) s m ([.ref h, .int x] : List Value).toArray below meth cd H locs 0 0 Q (F0 m 27 ls []) := by
    intro n
    induction n with
    | zero =>
      intro hn H locs ls hP hD hS hl
      refine lv_iload_n hx hb dX1_putFirst_27 rfl (lv_at hl 0 rfl) ?_
      refine lv_if_le (tgt := 51) hx hb dX1_putFirst_28 (by decide) (fun _ => ?_) (fun hn => absurd (nI_le0) hn)
      refine lv_aload_n hx hb dX1_putFirst_51 rfl (lv_at hl 1 rfl) ?_
      refine va_get (D := D) (ci := 1) (v := .ref a) (C := RX1) (T := TX1) (N := 2) hx hb hts iX1 hown hK hP 0 rfl rfl 0 (by decide) k9 (fun _ h9 => h9) rfl dX1_putFirst_52 ?_
      refine lv_iconst (v := nI 0) hx hb dX1_putFirst_55 (by decide +kernel) ?_
      refine lv_iload_n hx hb dX1_putFirst_56 rfl (lv_at hl 2 rfl) ?_
      refine h_iast hx hb hK hP hD hS 1 0 rfl rfl (by decide) (by omega) dX1_putFirst_57 (fun H locs hP hD hS => ?_)
      have hP : va_P D vwCl [(h, .inr (1, [.ref a, .int (nI c)])), (a, .inl (cI, 200, .inl (upd (s_sh f 0 c) 0 x)))] H := hP
      have hD : va_D A [(h, .inr (1, [.ref a, .int (nI c)])), (a, .inl (cI, 200, .inl (upd (s_sh f 0 c) 0 x)))] := hD
      refine lv_aload_n hx hb dX1_putFirst_58 rfl (lv_at hl 1 rfl) ?_
      refine lv_dup hx hb dX1_putFirst_59 rfl ?_
      refine va_get (D := D) (ci := 1) (v := .int (nI c)) (C := RX1) (T := TX1) (N := 2) hx hb hts iX1 hown hK hP 0 rfl rfl 1 (by decide) k15 (fun _ h9 => h9) rfl dX1_putFirst_60 ?_
      refine lv_iconst (v := 1) hx hb dX1_putFirst_63 (by decide) ?_
      refine lv_iadd hx hb dX1_putFirst_64 ?_
      refine hw_i (y := nI (c + 1)) (nI_1 _) ?_
      refine va_put (D := D) (ci := 1) (v := .int (nI (c + 1))) (ty := .int) (C := RX1) (T := TX1) (N := 2) hx hb hts iX1 tyX1 tyX1_ok nmX1 hown hK hP hD hS 0 rfl rfl 1 (by decide) k15 (fun _ h9 => h9) rfl (by decide +kernel) rfl rfl (Nat.le_of_ble_eq_true rfl) dX1_putFirst_65 (fun H locs hP hD hS => ?_)
      have hP : va_P D vwCl [(h, .inr (1, [.ref a, .int (nI (c + 1))])), (a, .inl (cI, 200, .inl (upd (s_sh f 0 c) 0 x)))] H := hP
      have hD : va_D A [(h, .inr (1, [.ref a, .int (nI (c + 1))])), (a, .inl (cI, 200, .inl (upd (s_sh f 0 c) 0 x)))] := hD
      refine lv_aload_n hx hb dX1_putFirst_68 rfl (lv_at hl 1 rfl) ?_
      refine va_get (D := D) (ci := 1) (v := .int (nI (c + 1))) (C := RX1) (T := TX1) (N := 2) hx hb hts iX1 hown hK hP 0 rfl rfl 1 (by decide) k15 (fun _ h9 => h9) rfl dX1_putFirst_69 ?_
      exact hend _ _ _ _ _ (by rw [← s_ins_sh]; exact hP) (by rw [← s_ins_sh]; exact hD) hS (rfl) dX1_putFirst_72
    | succ n ih =>
      intro hn H locs ls hP hD hS hl
      refine lv_iload_n hx hb dX1_putFirst_27 rfl (lv_at hl 0 rfl) ?_
      refine lv_if_le (tgt := 51) hx hb dX1_putFirst_28 (by decide) (fun ht_ => absurd ht_ (nI_nle (Nat.succ_pos n) (by omega))) (fun _ => ?_)
      refine lv_aload_n hx hb dX1_putFirst_31 rfl (lv_at hl 1 rfl) ?_
      refine va_get (D := D) (ci := 1) (v := .ref a) (C := RX1) (T := TX1) (N := 2) hx hb hts iX1 hown hK hP 0 rfl rfl 0 (by decide) k9 (fun _ h9 => h9) rfl dX1_putFirst_32 ?_
      refine lv_iload_n hx hb dX1_putFirst_35 rfl (lv_at hl 0 rfl) ?_
      refine lv_aload_n hx hb dX1_putFirst_36 rfl (lv_at hl 1 rfl) ?_
      refine va_get (D := D) (ci := 1) (v := .ref a) (C := RX1) (T := TX1) (N := 2) hx hb hts iX1 hown hK hP 0 rfl rfl 0 (by decide) k9 (fun _ h9 => h9) rfl dX1_putFirst_37 ?_
      refine lv_iload_n hx hb dX1_putFirst_40 rfl (lv_at hl 0 rfl) ?_
      refine lv_iconst (v := 1) hx hb dX1_putFirst_41 (by decide) ?_
      refine lv_isub hx hb dX1_putFirst_42 ?_
      refine hw_i (y := nI n) (nI_pred _) ?_
      refine h_iald hx hb hK hP 1 0 rfl rfl (by decide) (by omega) dX1_putFirst_43 ?_
      refine h_iast hx hb hK hP hD hS 1 0 rfl rfl (by decide) (by omega) dX1_putFirst_44 (fun H locs hP hD hS => ?_)
      have hP : va_P D vwCl [(h, .inr (1, [.ref a, .int (nI c)])), (a, .inl (cI, 200, .inl (upd (s_sh f (n + 1) c) (n + 1) ((s_sh f (n + 1) c) n))))] H := hP
      have hD : va_D A [(h, .inr (1, [.ref a, .int (nI c)])), (a, .inl (cI, 200, .inl (upd (s_sh f (n + 1) c) (n + 1) ((s_sh f (n + 1) c) n))))] := hD
      have hP : va_P D vwCl [(h, .inr (1, [.ref a, .int (nI c)])), (a, .inl (cI, 200, .inl (s_sh f n c)))] H := by rw [← s_sh_s f (show n < c by omega)]; exact hP
      have hD : va_D A [(h, .inr (1, [.ref a, .int (nI c)])), (a, .inl (cI, 200, .inl (s_sh f n c)))] := by rw [← s_sh_s f (show n < c by omega)]; exact hD
      refine lv_iinc (v := nI n) (lv' := [(2, .int (nI n)), (0, .ref h), (1, .int x)]) hx hb dX1_putFirst_45 hl (k := 0) rfl (pk_m1 _) (by decide) rfl (fun ls hl => ?_)
      refine lv_goto (tgt := 27) hx hb dX1_putFirst_48 (by decide) ?_
      exact ih (by omega) _ _ _ hP hD hS (lv_sub hl [0, 1, 2] rfl)
  exact loop c (Nat.le_refl c) _ _ _ (by rw [s_sh_0]; exact hP) (by rw [s_sh_0]; exact hD) hS hl
set_option maxHeartbeats 4000000 in
set_option maxRecDepth 100000 in
theorem c_X1_putFirst_x (l : Launch) (hfl : l.stackTraces = false) (D : va_G) (h a : Nat) (cI : ClassId) (f : Nat → Int32) (x : Int32) : mX l yX1_putFirst wsX1_putFirst ({ frames := 6, cells := 1, slots := 6, locals := 84 }) [.ref h, .int x] D [(cI, .int)] (wR h a cI f 200) "java/lang/IllegalStateException" := by
  refine hX_body (cc := cX1_putFirst) (maxL := 3) (by decide) rfl (Nat.le_of_ble_eq_true rfl) ?_
  intro p e s m below meth cd ls hat hnt hZ hP hK hD hS hl
  obtain ⟨hF, hr, hlocks, hv⟩ := id hat
  obtain ⟨hx, hb, hml, hown, hts⟩ := id hF
  have hown : s.vm.findClass RX1 = some m.cls := hown
  have hl : lv_has ls 3 [(0, .ref h), (1, .int x)] := hl
  have hP : va_P D vwCl [(h, .inr (1, [.ref a, .int (nI 200)])), (a, .inl (cI, 200, .inl f))] s.heap := hP
  have hD : va_D (fun _ => True) [(h, .inr (1, [.ref a, .int (nI 200)])), (a, .inl (cI, 200, .inl f))] := hD
  have iX1 : ∀ w ∈ wsX10, w ∈ wsX1_putFirst := by decide +kernel
  have k9 := hts (.fieldLink RX1 9 "HeapAndDeque$Row" "values" "[I") (by decide +kernel)
  have k15 := hts (.fieldLink RX1 15 "HeapAndDeque$Row" "count" "I") (by decide +kernel)
  refine lv_aload_n hx hb dX1_putFirst_0 rfl (lv_at hl 0 rfl) ?_
  refine va_get (D := D) (ci := 1) (v := .int (nI 200)) (C := RX1) (T := TX1) (N := 2) hx hb hts iX1 hown hK hP 0 rfl rfl 1 (by decide) k15 (fun _ h9 => h9) rfl dX1_putFirst_1 ?_
  refine lv_aload_n hx hb dX1_putFirst_4 rfl (lv_at hl 0 rfl) ?_
  refine va_get (D := D) (ci := 1) (v := .ref a) (C := RX1) (T := TX1) (N := 2) hx hb hts iX1 hown hK hP 0 rfl rfl 0 (by decide) k9 (fun _ h9 => h9) rfl dX1_putFirst_5 ?_
  refine va_alen (v := nI 200) hx hb hK hP 1 0 rfl rfl rfl dX1_putFirst_8 ?_
  refine lv_icmp_lt (tgt := 22) hx hb dX1_putFirst_9 (by decide) (fun ht_ => absurd ht_ (by decide +kernel)) (fun _ => ?_)
  exact hX_throw (E := "java/lang/IllegalStateException") (text := "the row holds 200") (names := ["java/lang/RuntimeException", "java/lang/Exception"]) (ik := 19) (is := 21) (ic := 23) hx hb hfl hown (by decide +kernel) (by decide +kernel) hts (by decide +kernel) hv.1 (by decide +kernel) hv (by decide +kernel) hZ.2.2.2.2.2.2.2.1 hZ hS (hl.1.trans hml.symm) dX1_putFirst_12 dX1_putFirst_15 dX1_putFirst_16 dX1_putFirst_18 dX1_putFirst_21 hnt ⟨Nat.le_of_ble_eq_true rfl, Nat.le_of_ble_eq_true rfl, Nat.le_of_ble_eq_true rfl, Nat.le_of_ble_eq_true rfl⟩ hlocks
set_option maxHeartbeats 4000000 in
set_option maxRecDepth 100000 in
theorem c_X1_putLast_x (l : Launch) (hfl : l.stackTraces = false) (D : va_G) (h a : Nat) (cI : ClassId) (f : Nat → Int32) (x : Int32) : mX l yX1_putLast wsX1_putLast ({ frames := 6, cells := 1, slots := 6, locals := 84 }) [.ref h, .int x] D [(cI, .int)] (wR h a cI f 200) "java/lang/IllegalStateException" := by
  refine hX_body (cc := cX1_putLast) (maxL := 2) (by decide) rfl (Nat.le_of_ble_eq_true rfl) ?_
  intro p e s m below meth cd ls hat hnt hZ hP hK hD hS hl
  obtain ⟨hF, hr, hlocks, hv⟩ := id hat
  obtain ⟨hx, hb, hml, hown, hts⟩ := id hF
  have hown : s.vm.findClass RX1 = some m.cls := hown
  have hl : lv_has ls 2 [(0, .ref h), (1, .int x)] := hl
  have hP : va_P D vwCl [(h, .inr (1, [.ref a, .int (nI 200)])), (a, .inl (cI, 200, .inl f))] s.heap := hP
  have hD : va_D (fun _ => True) [(h, .inr (1, [.ref a, .int (nI 200)])), (a, .inl (cI, 200, .inl f))] := hD
  have iX1 : ∀ w ∈ wsX10, w ∈ wsX1_putLast := by decide +kernel
  have k9 := hts (.fieldLink RX1 9 "HeapAndDeque$Row" "values" "[I") (by decide +kernel)
  have k15 := hts (.fieldLink RX1 15 "HeapAndDeque$Row" "count" "I") (by decide +kernel)
  refine lv_aload_n hx hb dX1_putLast_0 rfl (lv_at hl 0 rfl) ?_
  refine va_get (D := D) (ci := 1) (v := .int (nI 200)) (C := RX1) (T := TX1) (N := 2) hx hb hts iX1 hown hK hP 0 rfl rfl 1 (by decide) k15 (fun _ h9 => h9) rfl dX1_putLast_1 ?_
  refine lv_aload_n hx hb dX1_putLast_4 rfl (lv_at hl 0 rfl) ?_
  refine va_get (D := D) (ci := 1) (v := .ref a) (C := RX1) (T := TX1) (N := 2) hx hb hts iX1 hown hK hP 0 rfl rfl 0 (by decide) k9 (fun _ h9 => h9) rfl dX1_putLast_5 ?_
  refine va_alen (v := nI 200) hx hb hK hP 1 0 rfl rfl rfl dX1_putLast_8 ?_
  refine lv_icmp_lt (tgt := 22) hx hb dX1_putLast_9 (by decide) (fun ht_ => absurd ht_ (by decide +kernel)) (fun _ => ?_)
  exact hX_throw (E := "java/lang/IllegalStateException") (text := "the row holds 200") (names := ["java/lang/RuntimeException", "java/lang/Exception"]) (ik := 19) (is := 21) (ic := 23) hx hb hfl hown (by decide +kernel) (by decide +kernel) hts (by decide +kernel) hv.1 (by decide +kernel) hv (by decide +kernel) hZ.2.2.2.2.2.2.2.1 hZ hS (hl.1.trans hml.symm) dX1_putLast_12 dX1_putLast_15 dX1_putLast_16 dX1_putLast_18 dX1_putLast_21 hnt ⟨Nat.le_of_ble_eq_true rfl, Nat.le_of_ble_eq_true rfl, Nat.le_of_ble_eq_true rfl, Nat.le_of_ble_eq_true rfl⟩ hlocks
set_option maxHeartbeats 4000000 in
set_option maxRecDepth 100000 in
theorem c_X1_putLast (l : Launch) (D : va_G) (h a : Nat) (cI : ClassId) (f : Nat → Int32) (c : Nat) (x : Int32) (hc : c < 200) : mI l yX1_putLast wsX1_putLast ({ frames := 0, cells := 0, slots := 0, locals := 0 }) [.ref h, .int x] D [(cI, .int)] (wR h a cI f c) (wR h a cI (upd f c x) (c + 1)) (nI (c + 1)) := by
  refine hI_body (cc := cX1_putLast) (maxL := 2) (by decide) rfl (Nat.le_of_ble_eq_true rfl) (rfl) ?_
  intro p e s m below meth cd A ls Q hat hA hP hK hD hS hl hend
  obtain ⟨hF, hr, hlocks, hv⟩ := id hat
  obtain ⟨hx, hb, hml, hown, hts⟩ := id hF
  have hown : s.vm.findClass RX1 = some m.cls := hown
  have hl : lv_has ls 2 [(0, .ref h), (1, .int x)] := hl
  have hP : va_P D vwCl [(h, .inr (1, [.ref a, .int (nI c)])), (a, .inl (cI, 200, .inl f))] s.heap := hP
  have hD : va_D A [(h, .inr (1, [.ref a, .int (nI c)])), (a, .inl (cI, 200, .inl f))] := hD
  have iX1 : ∀ w ∈ wsX10, w ∈ wsX1_putLast := by decide +kernel
  have k9 := hts (.fieldLink RX1 9 "HeapAndDeque$Row" "values" "[I") (by decide +kernel)
  have k15 := hts (.fieldLink RX1 15 "HeapAndDeque$Row" "count" "I") (by decide +kernel)
  refine lv_aload_n hx hb dX1_putLast_0 rfl (lv_at hl 0 rfl) ?_
  refine va_get (D := D) (ci := 1) (v := .int (nI c)) (C := RX1) (T := TX1) (N := 2) hx hb hts iX1 hown hK hP 0 rfl rfl 1 (by decide) k15 (fun _ h9 => h9) rfl dX1_putLast_1 ?_
  refine lv_aload_n hx hb dX1_putLast_4 rfl (lv_at hl 0 rfl) ?_
  refine va_get (D := D) (ci := 1) (v := .ref a) (C := RX1) (T := TX1) (N := 2) hx hb hts iX1 hown hK hP 0 rfl rfl 0 (by decide) k9 (fun _ h9 => h9) rfl dX1_putLast_5 ?_
  refine va_alen (v := nI 200) hx hb hK hP 1 0 rfl rfl rfl dX1_putLast_8 ?_
  refine lv_icmp_lt (tgt := 22) hx hb dX1_putLast_9 (by decide) (fun _ => ?_) (fun hn => absurd (nI_lt hc (by decide)) hn)
  refine lv_aload_n hx hb dX1_putLast_22 rfl (lv_at hl 0 rfl) ?_
  refine va_get (D := D) (ci := 1) (v := .ref a) (C := RX1) (T := TX1) (N := 2) hx hb hts iX1 hown hK hP 0 rfl rfl 0 (by decide) k9 (fun _ h9 => h9) rfl dX1_putLast_23 ?_
  refine lv_aload_n hx hb dX1_putLast_26 rfl (lv_at hl 0 rfl) ?_
  refine va_get (D := D) (ci := 1) (v := .int (nI c)) (C := RX1) (T := TX1) (N := 2) hx hb hts iX1 hown hK hP 0 rfl rfl 1 (by decide) k15 (fun _ h9 => h9) rfl dX1_putLast_27 ?_
  refine lv_iload_n hx hb dX1_putLast_30 rfl (lv_at hl 1 rfl) ?_
  refine h_iast hx hb hK hP hD hS 1 0 rfl rfl (by decide) (by omega) dX1_putLast_31 (fun H locs hP hD hS => ?_)
  have hP : va_P D vwCl [(h, .inr (1, [.ref a, .int (nI c)])), (a, .inl (cI, 200, .inl (upd f c x)))] H := hP
  have hD : va_D A [(h, .inr (1, [.ref a, .int (nI c)])), (a, .inl (cI, 200, .inl (upd f c x)))] := hD
  refine lv_aload_n hx hb dX1_putLast_32 rfl (lv_at hl 0 rfl) ?_
  refine lv_dup hx hb dX1_putLast_33 rfl ?_
  refine va_get (D := D) (ci := 1) (v := .int (nI c)) (C := RX1) (T := TX1) (N := 2) hx hb hts iX1 hown hK hP 0 rfl rfl 1 (by decide) k15 (fun _ h9 => h9) rfl dX1_putLast_34 ?_
  refine lv_iconst (v := 1) hx hb dX1_putLast_37 (by decide) ?_
  refine lv_iadd hx hb dX1_putLast_38 ?_
  refine hw_i (y := nI (c + 1)) (nI_1 _) ?_
  refine va_put (D := D) (ci := 1) (v := .int (nI (c + 1))) (ty := .int) (C := RX1) (T := TX1) (N := 2) hx hb hts iX1 tyX1 tyX1_ok nmX1 hown hK hP hD hS 0 rfl rfl 1 (by decide) k15 (fun _ h9 => h9) rfl (by decide +kernel) rfl rfl (Nat.le_of_ble_eq_true rfl) dX1_putLast_39 (fun H locs hP hD hS => ?_)
  have hP : va_P D vwCl [(h, .inr (1, [.ref a, .int (nI (c + 1))])), (a, .inl (cI, 200, .inl (upd f c x)))] H := hP
  have hD : va_D A [(h, .inr (1, [.ref a, .int (nI (c + 1))])), (a, .inl (cI, 200, .inl (upd f c x)))] := hD
  refine lv_aload_n hx hb dX1_putLast_42 rfl (lv_at hl 0 rfl) ?_
  refine va_get (D := D) (ci := 1) (v := .int (nI (c + 1))) (C := RX1) (T := TX1) (N := 2) hx hb hts iX1 hown hK hP 0 rfl rfl 1 (by decide) k15 (fun _ h9 => h9) rfl dX1_putLast_43 ?_
  exact hend _ _ _ _ _ hP hD hS (rfl) dX1_putLast_46
set_option maxHeartbeats 4000000 in
set_option maxRecDepth 100000 in
theorem c_X1_first (l : Launch) (D : va_G) (h a : Nat) (cI : ClassId) (f : Nat → Int32) (c : Nat) (h1 : 1 ≤ c) (hc : c ≤ 200) : mI l yX1_first wsX1_first ({ frames := 0, cells := 0, slots := 0, locals := 0 }) [.ref h] D [(cI, .int)] (wR h a cI f c) (wR h a cI f c) (f 0) := by
  refine hI_body (cc := cX1_first) (maxL := 1) (by decide) rfl (Nat.le_of_ble_eq_true rfl) (rfl) ?_
  intro p e s m below meth cd A ls Q hat hA hP hK hD hS hl hend
  obtain ⟨hF, hr, hlocks, hv⟩ := id hat
  obtain ⟨hx, hb, hml, hown, hts⟩ := id hF
  have hown : s.vm.findClass RX1 = some m.cls := hown
  have hl : lv_has ls 1 [(0, .ref h)] := hl
  have hP : va_P D vwCl [(h, .inr (1, [.ref a, .int (nI c)])), (a, .inl (cI, 200, .inl f))] s.heap := hP
  have hD : va_D A [(h, .inr (1, [.ref a, .int (nI c)])), (a, .inl (cI, 200, .inl f))] := hD
  have iX1 : ∀ w ∈ wsX10, w ∈ wsX1_first := by decide +kernel
  have k9 := hts (.fieldLink RX1 9 "HeapAndDeque$Row" "values" "[I") (by decide +kernel)
  have k15 := hts (.fieldLink RX1 15 "HeapAndDeque$Row" "count" "I") (by decide +kernel)
  refine lv_aload_n hx hb dX1_first_0 rfl (lv_at hl 0 rfl) ?_
  refine va_get (D := D) (ci := 1) (v := .int (nI c)) (C := RX1) (T := TX1) (N := 2) hx hb hts iX1 hown hK hP 0 rfl rfl 1 (by decide) k15 (fun _ h9 => h9) rfl dX1_first_1 ?_
  refine lv_if_gt (tgt := 17) hx hb dX1_first_4 (by decide) (fun _ => ?_) (fun hn => absurd (nI_lt (a := 0) h1 (by omega)) hn)
  refine lv_aload_n hx hb dX1_first_17 rfl (lv_at hl 0 rfl) ?_
  refine va_get (D := D) (ci := 1) (v := .ref a) (C := RX1) (T := TX1) (N := 2) hx hb hts iX1 hown hK hP 0 rfl rfl 0 (by decide) k9 (fun _ h9 => h9) rfl dX1_first_18 ?_
  refine lv_iconst (v := nI 0) hx hb dX1_first_21 (by decide +kernel) ?_
  refine h_iald hx hb hK hP 1 0 rfl rfl (by decide) (by omega) dX1_first_22 ?_
  exact hend _ _ _ _ _ hP hD hS (rfl) dX1_first_23
set_option maxHeartbeats 4000000 in
set_option maxRecDepth 100000 in
theorem c_X1_first_x (l : Launch) (hfl : l.stackTraces = false) (D : va_G) (h a : Nat) (cI : ClassId) (f : Nat → Int32) : mX l yX1_first wsX1_first ({ frames := 6, cells := 1, slots := 6, locals := 84 }) [.ref h] D [(cI, .int)] (wR h a cI f 0) hNS := by
  refine hX_body (cc := cX1_first) (maxL := 1) (by decide) rfl (Nat.le_of_ble_eq_true rfl) ?_
  intro p e s m below meth cd ls hat hnt hZ hP hK hD hS hl
  obtain ⟨hF, hr, hlocks, hv⟩ := id hat
  obtain ⟨hx, hb, hml, hown, hts⟩ := id hF
  have hown : s.vm.findClass RX1 = some m.cls := hown
  have hl : lv_has ls 1 [(0, .ref h)] := hl
  have hP : va_P D vwCl [(h, .inr (1, [.ref a, .int (nI 0)])), (a, .inl (cI, 200, .inl f))] s.heap := hP
  have hD : va_D (fun _ => True) [(h, .inr (1, [.ref a, .int (nI 0)])), (a, .inl (cI, 200, .inl f))] := hD
  have iX1 : ∀ w ∈ wsX10, w ∈ wsX1_first := by decide +kernel
  have k9 := hts (.fieldLink RX1 9 "HeapAndDeque$Row" "values" "[I") (by decide +kernel)
  have k15 := hts (.fieldLink RX1 15 "HeapAndDeque$Row" "count" "I") (by decide +kernel)
  refine lv_aload_n hx hb dX1_first_0 rfl (lv_at hl 0 rfl) ?_
  refine va_get (D := D) (ci := 1) (v := .int (nI 0)) (C := RX1) (T := TX1) (N := 2) hx hb hts iX1 hown hK hP 0 rfl rfl 1 (by decide) k15 (fun _ h9 => h9) rfl dX1_first_1 ?_
  refine lv_if_gt (tgt := 17) hx hb dX1_first_4 (by decide) (fun ht_ => absurd ht_ (by decide +kernel)) (fun _ => ?_)
  exact hn_throw (text := "the row holds none") (ik := 26) (is := 28) (ic := 30) hx hb hfl hown hts (by decide +kernel) hv.2.1 (by decide +kernel) hv (by decide +kernel) hZ.2.2.2.2.2.2.2.2.2 hZ hS (hl.1.trans hml.symm) dX1_first_7 dX1_first_10 dX1_first_11 dX1_first_13 dX1_first_16 hnt ⟨Nat.le_of_ble_eq_true rfl, Nat.le_of_ble_eq_true rfl, Nat.le_of_ble_eq_true rfl, Nat.le_of_ble_eq_true rfl⟩ hlocks
set_option maxHeartbeats 4000000 in
set_option maxRecDepth 100000 in
theorem c_X1_last (l : Launch) (D : va_G) (h a : Nat) (cI : ClassId) (f : Nat → Int32) (c : Nat) (h1 : 1 ≤ c) (hc : c ≤ 200) : mI l yX1_last wsX1_last ({ frames := 0, cells := 0, slots := 0, locals := 0 }) [.ref h] D [(cI, .int)] (wR h a cI f c) (wR h a cI f c) (f (c - 1)) := by
  refine hI_body (cc := cX1_last) (maxL := 1) (by decide) rfl (Nat.le_of_ble_eq_true rfl) (rfl) ?_
  intro p e s m below meth cd A ls Q hat hA hP hK hD hS hl hend
  obtain ⟨hF, hr, hlocks, hv⟩ := id hat
  obtain ⟨hx, hb, hml, hown, hts⟩ := id hF
  have hown : s.vm.findClass RX1 = some m.cls := hown
  have hl : lv_has ls 1 [(0, .ref h)] := hl
  have hP : va_P D vwCl [(h, .inr (1, [.ref a, .int (nI c)])), (a, .inl (cI, 200, .inl f))] s.heap := hP
  have hD : va_D A [(h, .inr (1, [.ref a, .int (nI c)])), (a, .inl (cI, 200, .inl f))] := hD
  have iX1 : ∀ w ∈ wsX10, w ∈ wsX1_last := by decide +kernel
  have k9 := hts (.fieldLink RX1 9 "HeapAndDeque$Row" "values" "[I") (by decide +kernel)
  have k15 := hts (.fieldLink RX1 15 "HeapAndDeque$Row" "count" "I") (by decide +kernel)
  refine lv_aload_n hx hb dX1_last_0 rfl (lv_at hl 0 rfl) ?_
  refine va_get (D := D) (ci := 1) (v := .int (nI c)) (C := RX1) (T := TX1) (N := 2) hx hb hts iX1 hown hK hP 0 rfl rfl 1 (by decide) k15 (fun _ h9 => h9) rfl dX1_last_1 ?_
  refine lv_if_gt (tgt := 17) hx hb dX1_last_4 (by decide) (fun _ => ?_) (fun hn => absurd (nI_lt (a := 0) h1 (by omega)) hn)
  refine lv_aload_n hx hb dX1_last_17 rfl (lv_at hl 0 rfl) ?_
  refine va_get (D := D) (ci := 1) (v := .ref a) (C := RX1) (T := TX1) (N := 2) hx hb hts iX1 hown hK hP 0 rfl rfl 0 (by decide) k9 (fun _ h9 => h9) rfl dX1_last_18 ?_
  refine lv_aload_n hx hb dX1_last_21 rfl (lv_at hl 0 rfl) ?_
  refine va_get (D := D) (ci := 1) (v := .int (nI c)) (C := RX1) (T := TX1) (N := 2) hx hb hts iX1 hown hK hP 0 rfl rfl 1 (by decide) k15 (fun _ h9 => h9) rfl dX1_last_22 ?_
  refine lv_iconst (v := 1) hx hb dX1_last_25 (by decide) ?_
  refine lv_isub hx hb dX1_last_26 ?_
  refine hw_i (y := nI (c - 1)) (h_sub1 (by omega)) ?_
  refine h_iald hx hb hK hP 1 0 rfl rfl (by decide) (by omega) dX1_last_27 ?_
  exact hend _ _ _ _ _ hP hD hS (rfl) dX1_last_28
set_option maxHeartbeats 4000000 in
set_option maxRecDepth 100000 in
theorem c_X1_last_x (l : Launch) (hfl : l.stackTraces = false) (D : va_G) (h a : Nat) (cI : ClassId) (f : Nat → Int32) : mX l yX1_last wsX1_last ({ frames := 6, cells := 1, slots := 6, locals := 84 }) [.ref h] D [(cI, .int)] (wR h a cI f 0) hNS := by
  refine hX_body (cc := cX1_last) (maxL := 1) (by decide) rfl (Nat.le_of_ble_eq_true rfl) ?_
  intro p e s m below meth cd ls hat hnt hZ hP hK hD hS hl
  obtain ⟨hF, hr, hlocks, hv⟩ := id hat
  obtain ⟨hx, hb, hml, hown, hts⟩ := id hF
  have hown : s.vm.findClass RX1 = some m.cls := hown
  have hl : lv_has ls 1 [(0, .ref h)] := hl
  have hP : va_P D vwCl [(h, .inr (1, [.ref a, .int (nI 0)])), (a, .inl (cI, 200, .inl f))] s.heap := hP
  have hD : va_D (fun _ => True) [(h, .inr (1, [.ref a, .int (nI 0)])), (a, .inl (cI, 200, .inl f))] := hD
  have iX1 : ∀ w ∈ wsX10, w ∈ wsX1_last := by decide +kernel
  have k9 := hts (.fieldLink RX1 9 "HeapAndDeque$Row" "values" "[I") (by decide +kernel)
  have k15 := hts (.fieldLink RX1 15 "HeapAndDeque$Row" "count" "I") (by decide +kernel)
  refine lv_aload_n hx hb dX1_last_0 rfl (lv_at hl 0 rfl) ?_
  refine va_get (D := D) (ci := 1) (v := .int (nI 0)) (C := RX1) (T := TX1) (N := 2) hx hb hts iX1 hown hK hP 0 rfl rfl 1 (by decide) k15 (fun _ h9 => h9) rfl dX1_last_1 ?_
  refine lv_if_gt (tgt := 17) hx hb dX1_last_4 (by decide) (fun ht_ => absurd ht_ (by decide +kernel)) (fun _ => ?_)
  exact hn_throw (text := "the row holds none") (ik := 26) (is := 28) (ic := 30) hx hb hfl hown hts (by decide +kernel) hv.2.1 (by decide +kernel) hv (by decide +kernel) hZ.2.2.2.2.2.2.2.2.2 hZ hS (hl.1.trans hml.symm) dX1_last_7 dX1_last_10 dX1_last_11 dX1_last_13 dX1_last_16 hnt ⟨Nat.le_of_ble_eq_true rfl, Nat.le_of_ble_eq_true rfl, Nat.le_of_ble_eq_true rfl, Nat.le_of_ble_eq_true rfl⟩ hlocks
set_option maxHeartbeats 4000000 in
set_option maxRecDepth 100000 in
theorem c_X1_takeFound_n (l : Launch) (D : va_G) (h a : Nat) (cI : ClassId) (f : Nat → Int32) (c : Nat) : mI l yX1_takeFound wsX1_takeFound ({ frames := 0, cells := 0, slots := 0, locals := 0 }) [.ref h, .int (s_o none)] D [(cI, .int)] (wR h a cI f c) (wR h a cI f c) (0) := by
  refine hI_body (cc := cX1_takeFound) (maxL := 3) (by decide) rfl (Nat.le_of_ble_eq_true rfl) (by decide +kernel) ?_
  intro p e s m below meth cd A ls Q hat hA hP hK hD hS hl hend
  obtain ⟨hF, hr, hlocks, hv⟩ := id hat
  obtain ⟨hx, hb, hml, hown, hts⟩ := id hF
  have hown : s.vm.findClass RX1 = some m.cls := hown
  have hl : lv_has ls 3 [(0, .ref h), (1, .int (s_o none))] := hl
  have hP : va_P D vwCl [(h, .inr (1, [.ref a, .int (nI c)])), (a, .inl (cI, 200, .inl f))] s.heap := hP
  have hD : va_D A [(h, .inr (1, [.ref a, .int (nI c)])), (a, .inl (cI, 200, .inl f))] := hD
  have iX1 : ∀ w ∈ wsX10, w ∈ wsX1_takeFound := by decide +kernel
  have k9 := hts (.fieldLink RX1 9 "HeapAndDeque$Row" "values" "[I") (by decide +kernel)
  have k15 := hts (.fieldLink RX1 15 "HeapAndDeque$Row" "count" "I") (by decide +kernel)
  refine lv_iload_n hx hb dX1_takeFound_0 rfl (lv_at hl 1 rfl) ?_
  refine lv_if_lt (tgt := 12) hx hb dX1_takeFound_1 (by decide) (fun _ => ?_) (fun hn => absurd (s_o_lt) hn)
  refine lv_iconst (v := 0) hx hb dX1_takeFound_12 (by decide) ?_
  exact hend _ _ _ _ _ hP hD hS (rfl) dX1_takeFound_13
set_option maxHeartbeats 4000000 in
set_option maxRecDepth 100000 in
theorem c_X1_takeFound_s (l : Launch) (D : va_G) (h a : Nat) (cI : ClassId) (f : Nat → Int32) (c : Nat) (q9 : Nat) (hq : q9 < c) (hc : c ≤ 200) : mI l yX1_takeFound wsX1_takeFound ({ frames := 0, cells := 0, slots := 0, locals := 0 }) [.ref h, .int (nI q9)] D [(cI, .int)] (wR h a cI f c) (wR h a cI (s_rm f q9 c) (c - 1)) (1) := by
  refine hI_body (cc := cX1_takeFound) (maxL := 3) (by decide) rfl (Nat.le_of_ble_eq_true rfl) (by decide +kernel) ?_
  intro p e s m below meth cd A ls Q hat hA hP hK hD hS hl hend
  obtain ⟨hF, hr, hlocks, hv⟩ := id hat
  obtain ⟨hx, hb, hml, hown, hts⟩ := id hF
  have hown : s.vm.findClass RX1 = some m.cls := hown
  have hl : lv_has ls 3 [(0, .ref h), (1, .int (nI q9))] := hl
  have hP : va_P D vwCl [(h, .inr (1, [.ref a, .int (nI c)])), (a, .inl (cI, 200, .inl f))] s.heap := hP
  have hD : va_D A [(h, .inr (1, [.ref a, .int (nI c)])), (a, .inl (cI, 200, .inl f))] := hD
  have iX1 : ∀ w ∈ wsX10, w ∈ wsX1_takeFound := by decide +kernel
  have k9 := hts (.fieldLink RX1 9 "HeapAndDeque$Row" "values" "[I") (by decide +kernel)
  have k15 := hts (.fieldLink RX1 15 "HeapAndDeque$Row" "count" "I") (by decide +kernel)
  refine lv_iload_n hx hb dX1_takeFound_0 rfl (lv_at hl 1 rfl) ?_
  refine lv_if_lt (tgt := 12) hx hb dX1_takeFound_1 (by decide) (fun ht_ => absurd ht_ (nI_pos (by omega))) (fun _ => ?_)
  refine lv_iload_n hx hb dX1_takeFound_4 rfl (lv_at hl 1 rfl) ?_
  refine lv_aload_n hx hb dX1_takeFound_5 rfl (lv_at hl 0 rfl) ?_
  refine va_get (D := D) (ci := 1) (v := .int (nI c)) (C := RX1) (T := TX1) (N := 2) hx hb hts iX1 hown hK hP 0 rfl rfl 1 (by decide) k15 (fun _ h9 => h9) rfl dX1_takeFound_6 ?_
  refine lv_icmp_lt (tgt := 14) hx hb dX1_takeFound_9 (by decide) (fun _ => ?_) (fun hn => absurd (nI_lt hq (by omega)) hn)
  refine lv_iload_n hx hb dX1_takeFound_14 rfl (lv_at hl 1 rfl) ?_
  refine lv_iconst (v := 1) hx hb dX1_takeFound_15 (by decide) ?_
  refine lv_iadd hx hb dX1_takeFound_16 ?_
  refine hw_i (y := nI (q9 + 1)) (nI_1 _) ?_
  refine lv_istore_n (lv' := [(2, .int (nI (q9 + 1))), (0, .ref h), (1, .int (nI q9))]) hx hb dX1_takeFound_17 rfl hl (by decide) rfl (fun ls hl => ?_)
  have loop : ∀ (n i : Nat), i + n = c → q9 < i → ∀ (H : Heap) (locs : List Loc) (ls : Array Slot), va_P D vwCl [(h, .inr (1, [.ref a, .int (nI c)])), (a, .inl (cI, 200, .inl (s_rm f q9 i)))] H → va_D A [(h, .inr (1, [.ref a, .int (nI c)])), (a, .inl (cI, 200, .inl (s_rm f q9 i)))] → va_S A s.heap H locs → lv_has ls 3 [(2, .int (nI i)), (0, .ref h), (1, .int (nI q9))] → W p l e ({ frames := 0, cells := 0, slots := 0, locals := 0 }) s m ([.ref h, .int (nI q9)] : List Value).toArray below meth cd H locs 0 0 Q (F0 m 18 ls []) := by
    intro n
    induction n with
    | zero =>
      intro i hn hi H locs ls hP hD hS hl
      refine lv_iload_n hx hb dX1_takeFound_18 rfl (lv_at hl 0 rfl) ?_
      refine lv_aload_n hx hb dX1_takeFound_19 rfl (lv_at hl 1 rfl) ?_
      refine va_get (D := D) (ci := 1) (v := .int (nI c)) (C := RX1) (T := TX1) (N := 2) hx hb hts iX1 hown hK hP 0 rfl rfl 1 (by decide) k15 (fun _ h9 => h9) rfl dX1_takeFound_20 ?_
      refine lv_icmp_ge (tgt := 46) hx hb dX1_takeFound_23 (by decide) (fun _ => ?_) (fun hn => absurd (nI_le (by omega) (by omega)) hn)
      have e8 : i = c := by omega
      subst e8
      refine lv_aload_n hx hb dX1_takeFound_46 rfl (lv_at hl 1 rfl) ?_
      refine lv_dup hx hb dX1_takeFound_47 rfl ?_
      refine va_get (D := D) (ci := 1) (v := .int (nI i)) (C := RX1) (T := TX1) (N := 2) hx hb hts iX1 hown hK hP 0 rfl rfl 1 (by decide) k15 (fun _ h9 => h9) rfl dX1_takeFound_48 ?_
      refine lv_iconst (v := 1) hx hb dX1_takeFound_51 (by decide) ?_
      refine lv_isub hx hb dX1_takeFound_52 ?_
      refine hw_i (y := nI (i - 1)) (h_sub1 (by omega)) ?_
      refine va_put (D := D) (ci := 1) (v := .int (nI (i - 1))) (ty := .int) (C := RX1) (T := TX1) (N := 2) hx hb hts iX1 tyX1 tyX1_ok nmX1 hown hK hP hD hS 0 rfl rfl 1 (by decide) k15 (fun _ h9 => h9) rfl (by decide +kernel) rfl rfl (Nat.le_of_ble_eq_true rfl) dX1_takeFound_53 (fun H locs hP hD hS => ?_)
      have hP : va_P D vwCl [(h, .inr (1, [.ref a, .int (nI (i - 1))])), (a, .inl (cI, 200, .inl (s_rm f q9 i)))] H := hP
      have hD : va_D A [(h, .inr (1, [.ref a, .int (nI (i - 1))])), (a, .inl (cI, 200, .inl (s_rm f q9 i)))] := hD
      refine lv_iconst (v := 1) hx hb dX1_takeFound_56 (by decide) ?_
      exact hend _ _ _ _ _ hP hD hS (rfl) dX1_takeFound_57
    | succ n ih =>
      intro i hn hi H locs ls hP hD hS hl
      refine lv_iload_n hx hb dX1_takeFound_18 rfl (lv_at hl 0 rfl) ?_
      refine lv_aload_n hx hb dX1_takeFound_19 rfl (lv_at hl 1 rfl) ?_
      refine va_get (D := D) (ci := 1) (v := .int (nI c)) (C := RX1) (T := TX1) (N := 2) hx hb hts iX1 hown hK hP 0 rfl rfl 1 (by decide) k15 (fun _ h9 => h9) rfl dX1_takeFound_20 ?_
      refine lv_icmp_ge (tgt := 46) hx hb dX1_takeFound_23 (by decide) (fun ht_ => absurd ht_ (nI_ge (by omega) (by omega))) (fun _ => ?_)
      refine lv_aload_n hx hb dX1_takeFound_26 rfl (lv_at hl 1 rfl) ?_
      refine va_get (D := D) (ci := 1) (v := .ref a) (C := RX1) (T := TX1) (N := 2) hx hb hts iX1 hown hK hP 0 rfl rfl 0 (by decide) k9 (fun _ h9 => h9) rfl dX1_takeFound_27 ?_
      refine lv_iload_n hx hb dX1_takeFound_30 rfl (lv_at hl 0 rfl) ?_
      refine lv_iconst (v := 1) hx hb dX1_takeFound_31 (by decide) ?_
      refine lv_isub hx hb dX1_takeFound_32 ?_
      refine hw_i (y := nI (i - 1)) (h_sub1 (by omega)) ?_
      refine lv_aload_n hx hb dX1_takeFound_33 rfl (lv_at hl 1 rfl) ?_
      refine va_get (D := D) (ci := 1) (v := .ref a) (C := RX1) (T := TX1) (N := 2) hx hb hts iX1 hown hK hP 0 rfl rfl 0 (by decide) k9 (fun _ h9 => h9) rfl dX1_takeFound_34 ?_
      refine lv_iload_n hx hb dX1_takeFound_37 rfl (lv_at hl 0 rfl) ?_
      refine h_iald hx hb hK hP 1 0 rfl rfl (by decide) (by omega) dX1_takeFound_38 ?_
      refine h_iast hx hb hK hP hD hS 1 0 rfl rfl (by decide) (by omega) dX1_takeFound_39 (fun H locs hP hD hS => ?_)
      have hP : va_P D vwCl [(h, .inr (1, [.ref a, .int (nI c)])), (a, .inl (cI, 200, .inl (upd (s_rm f q9 i) (i - 1) ((s_rm f q9 i) i))))] H := hP
      have hD : va_D A [(h, .inr (1, [.ref a, .int (nI c)])), (a, .inl (cI, 200, .inl (upd (s_rm f q9 i) (i - 1) ((s_rm f q9 i) i))))] := hD
      have hP : va_P D vwCl [(h, .inr (1, [.ref a, .int (nI c)])), (a, .inl (cI, 200, .inl (s_rm f q9 (i + 1))))] H := by rw [← s_rm_s f hi]; exact hP
      have hD : va_D A [(h, .inr (1, [.ref a, .int (nI c)])), (a, .inl (cI, 200, .inl (s_rm f q9 (i + 1))))] := by rw [← s_rm_s f hi]; exact hD
      refine lv_iinc (v := nI (i + 1)) (lv' := [(2, .int (nI (i + 1))), (0, .ref h), (1, .int (nI q9))]) hx hb dX1_takeFound_40 hl (k := 0) rfl (nI_1 _) (by decide) rfl (fun ls hl => ?_)
      refine lv_goto (tgt := 18) hx hb dX1_takeFound_43 (by decide) ?_
      exact ih _ (by omega) (by omega) _ _ _ hP hD hS (lv_sub hl [0, 1, 2] rfl)
  exact loop (c - (q9 + 1)) (q9 + 1) (by omega) (by omega) _ _ _ (by rw [s_rm_0]; exact hP) (by rw [s_rm_0]; exact hD) hS hl
set_option maxHeartbeats 4000000 in
set_option maxRecDepth 100000 in
theorem c_X1_takeFirst (l : Launch) (D : va_G) (h a : Nat) (cI : ClassId) (f : Nat → Int32) (c : Nat) (h1 : 1 ≤ c) (hc : c ≤ 200) : mI l yX1_takeFirst wsX1_takeFirst ({ frames := 1, cells := 0, slots := 0, locals := 22 }) [.ref h] D [(cI, .int)] (wR h a cI f c) (wR h a cI (s_rm f 0 c) (c - 1)) (f 0) := by
  refine hI_body (cc := cX1_takeFirst) (maxL := 2) (by decide) rfl (Nat.le_of_ble_eq_true rfl) (rfl) ?_
  intro p e s m below meth cd A ls Q hat hA hP hK hD hS hl hend
  obtain ⟨hF, hr, hlocks, hv⟩ := id hat
  obtain ⟨hx, hb, hml, hown, hts⟩ := id hF
  have hown : s.vm.findClass RX1 = some m.cls := hown
  have hl : lv_has ls 2 [(0, .ref h)] := hl
  have hP : va_P D vwCl [(h, .inr (1, [.ref a, .int (nI c)])), (a, .inl (cI, 200, .inl f))] s.heap := hP
  have hD : va_D A [(h, .inr (1, [.ref a, .int (nI c)])), (a, .inl (cI, 200, .inl f))] := hD
  refine lv_aload_n hx hb dX1_takeFirst_0 rfl (lv_at hl 0 rfl) ?_
  refine hc_iV (As := []) (rest := []) (wc := [(h, .inr (1, [.ref a, .int (nI c)])), (a, .inl (cI, 200, .inl f))]) (wr := []) (w1 := [(h, .inr (1, [.ref a, .int (nI c)])), (a, .inl (cI, 200, .inl f))]) (w' := [(h, .inr (1, [.ref a, .int (nI c)])), (a, .inl (cI, 200, .inl f))]) hF (c_X1_first l D h a cI f c h1 hc) (cwV 0 hts gX1_takeFirst_X1_first rfl rfl rfl (by decide +kernel) ⟨Nat.le_of_ble_eq_true rfl, Nat.le_of_ble_eq_true rfl⟩) hP hK hD hS hA hv [0, 1] [] [0, 1] [0] ⟨rfl, rfl, rfl, rfl, ⟨by decide, by decide, by decide⟩, by decide⟩ 0 1 rfl rfl rfl rfl hl.1 rfl (Nat.le_of_ble_eq_true rfl) dX1_takeFirst_1 ⟨Nat.zero_le _, Nat.zero_le _⟩ (fun H locs hP hD hS => ?_)
  refine lv_istore_n (lv' := [(1, .int (f 0)), (0, .ref h)]) hx hb dX1_takeFirst_4 rfl hl (by decide) rfl (fun ls hl => ?_)
  refine lv_aload_n hx hb dX1_takeFirst_5 rfl (lv_at hl 1 rfl) ?_
  refine lv_iconst (v := nI 0) hx hb dX1_takeFirst_6 (by decide +kernel) ?_
  refine hc_iV (As := [.int (nI 0)]) (rest := []) (wc := [(h, .inr (1, [.ref a, .int (nI c)])), (a, .inl (cI, 200, .inl f))]) (wr := []) (w1 := [(h, .inr (1, [.ref a, .int (nI (c - 1))])), (a, .inl (cI, 200, .inl (s_rm f 0 c)))]) (w' := [(h, .inr (1, [.ref a, .int (nI (c - 1))])), (a, .inl (cI, 200, .inl (s_rm f 0 c)))]) hF (c_X1_takeFound_s l D h a cI f c 0 h1 hc) (cwV 1 hts gX1_takeFirst_X1_takeFound rfl rfl rfl (by decide +kernel) ⟨Nat.le_of_ble_eq_true rfl, Nat.le_of_ble_eq_true rfl⟩) hP hK hD hS hA hv [0, 1] [] [0, 1] [0] ⟨rfl, rfl, rfl, rfl, ⟨by decide, by decide, by decide⟩, by decide⟩ 0 1 rfl rfl rfl rfl hl.1 rfl (Nat.le_of_ble_eq_true rfl) dX1_takeFirst_7 ⟨Nat.zero_le _, Nat.zero_le _⟩ (fun H locs hP hD hS => ?_)
  refine lv_pop hx hb dX1_takeFirst_10 rfl ?_
  refine lv_iload_n hx hb dX1_takeFirst_11 rfl (lv_at hl 0 rfl) ?_
  exact hend _ _ _ _ _ hP hD hS (rfl) dX1_takeFirst_12
set_option maxHeartbeats 4000000 in
set_option maxRecDepth 100000 in
theorem c_X1_takeLast (l : Launch) (D : va_G) (h a : Nat) (cI : ClassId) (f : Nat → Int32) (c : Nat) (h1 : 1 ≤ c) (hc : c ≤ 200) : mI l yX1_takeLast wsX1_takeLast ({ frames := 1, cells := 0, slots := 0, locals := 20 }) [.ref h] D [(cI, .int)] (wR h a cI f c) (wR h a cI f (c - 1)) (f (c - 1)) := by
  refine hI_body (cc := cX1_takeLast) (maxL := 2) (by decide) rfl (Nat.le_of_ble_eq_true rfl) (rfl) ?_
  intro p e s m below meth cd A ls Q hat hA hP hK hD hS hl hend
  obtain ⟨hF, hr, hlocks, hv⟩ := id hat
  obtain ⟨hx, hb, hml, hown, hts⟩ := id hF
  have hown : s.vm.findClass RX1 = some m.cls := hown
  have hl : lv_has ls 2 [(0, .ref h)] := hl
  have hP : va_P D vwCl [(h, .inr (1, [.ref a, .int (nI c)])), (a, .inl (cI, 200, .inl f))] s.heap := hP
  have hD : va_D A [(h, .inr (1, [.ref a, .int (nI c)])), (a, .inl (cI, 200, .inl f))] := hD
  have iX1 : ∀ w ∈ wsX10, w ∈ wsX1_takeLast := by decide +kernel
  have k15 := hts (.fieldLink RX1 15 "HeapAndDeque$Row" "count" "I") (by decide +kernel)
  refine lv_aload_n hx hb dX1_takeLast_0 rfl (lv_at hl 0 rfl) ?_
  refine hc_iV (As := []) (rest := []) (wc := [(h, .inr (1, [.ref a, .int (nI c)])), (a, .inl (cI, 200, .inl f))]) (wr := []) (w1 := [(h, .inr (1, [.ref a, .int (nI c)])), (a, .inl (cI, 200, .inl f))]) (w' := [(h, .inr (1, [.ref a, .int (nI c)])), (a, .inl (cI, 200, .inl f))]) hF (c_X1_last l D h a cI f c h1 hc) (cwV 0 hts gX1_takeLast_X1_last rfl rfl rfl (by decide +kernel) ⟨Nat.le_of_ble_eq_true rfl, Nat.le_of_ble_eq_true rfl⟩) hP hK hD hS hA hv [0, 1] [] [0, 1] [0] ⟨rfl, rfl, rfl, rfl, ⟨by decide, by decide, by decide⟩, by decide⟩ 0 1 rfl rfl rfl rfl hl.1 rfl (Nat.le_of_ble_eq_true rfl) dX1_takeLast_1 ⟨Nat.zero_le _, Nat.zero_le _⟩ (fun H locs hP hD hS => ?_)
  refine lv_istore_n (lv' := [(1, .int (f (c - 1))), (0, .ref h)]) hx hb dX1_takeLast_4 rfl hl (by decide) rfl (fun ls hl => ?_)
  refine lv_aload_n hx hb dX1_takeLast_5 rfl (lv_at hl 1 rfl) ?_
  refine lv_dup hx hb dX1_takeLast_6 rfl ?_
  refine va_get (D := D) (ci := 1) (v := .int (nI c)) (C := RX1) (T := TX1) (N := 2) hx hb hts iX1 hown hK hP 0 rfl rfl 1 (by decide) k15 (fun _ h9 => h9) rfl dX1_takeLast_7 ?_
  refine lv_iconst (v := 1) hx hb dX1_takeLast_10 (by decide) ?_
  refine lv_isub hx hb dX1_takeLast_11 ?_
  refine hw_i (y := nI (c - 1)) (h_sub1 (by omega)) ?_
  refine va_put (D := D) (ci := 1) (v := .int (nI (c - 1))) (ty := .int) (C := RX1) (T := TX1) (N := 2) hx hb hts iX1 tyX1 tyX1_ok nmX1 hown hK hP hD hS 0 rfl rfl 1 (by decide) k15 (fun _ h9 => h9) rfl (by decide +kernel) rfl rfl (Nat.le_of_ble_eq_true rfl) dX1_takeLast_12 (fun H locs hP hD hS => ?_)
  have hP : va_P D vwCl [(h, .inr (1, [.ref a, .int (nI (c - 1))])), (a, .inl (cI, 200, .inl f))] H := hP
  have hD : va_D A [(h, .inr (1, [.ref a, .int (nI (c - 1))])), (a, .inl (cI, 200, .inl f))] := hD
  refine lv_iload_n hx hb dX1_takeLast_15 rfl (lv_at hl 0 rfl) ?_
  exact hend _ _ _ _ _ hP hD hS (rfl) dX1_takeLast_16
set_option maxHeartbeats 4000000 in
set_option maxRecDepth 100000 in
theorem c_X1_takeFirst_x (l : Launch) (hfl : l.stackTraces = false) (D : va_G) (h a : Nat) (cI : ClassId) (f : Nat → Int32) : mX l yX1_takeFirst wsX1_takeFirst ({ frames := 7, cells := 1, slots := 6, locals := 104 }) [.ref h] D [(cI, .int)] (wR h a cI f 0) hNS := by
  refine hX_body (cc := cX1_takeFirst) (maxL := 2) (by decide) rfl (Nat.le_of_ble_eq_true rfl) ?_
  intro p e s m below meth cd ls hat hnt hZ hP hK hD hS hl
  obtain ⟨hF, hr, hlocks, hv⟩ := id hat
  obtain ⟨hx, hb, hml, hown, hts⟩ := id hF
  have hown : s.vm.findClass RX1 = some m.cls := hown
  have hl : lv_has ls 2 [(0, .ref h)] := hl
  have hP : va_P D vwCl [(h, .inr (1, [.ref a, .int (nI 0)])), (a, .inl (cI, 200, .inl f))] s.heap := hP
  have hD : va_D (fun _ => True) [(h, .inr (1, [.ref a, .int (nI 0)])), (a, .inl (cI, 200, .inl f))] := hD
  refine lv_aload_n hx hb dX1_takeFirst_0 rfl (lv_at hl 0 rfl) ?_
  exact hX_thruV (As := []) (rest := []) (wc := [(h, .inr (1, [.ref a, .int (nI 0)])), (a, .inl (cI, 200, .inl f))]) hF (c_X1_first_x l hfl D h a cI f) (cwV 0 hts gX1_takeFirst_X1_first rfl rfl rfl (by decide +kernel) ⟨Nat.le_of_ble_eq_true rfl, Nat.le_of_ble_eq_true rfl⟩) hP hK hD hS hv hZ [0, 1] [0] rfl (by decide) rfl 0 1 rfl rfl rfl rfl hl.1 rfl (Nat.le_of_ble_eq_true rfl) dX1_takeFirst_1 ⟨Nat.le_of_ble_eq_true rfl, Nat.le_of_ble_eq_true rfl⟩ hnt hlocks
set_option maxHeartbeats 4000000 in
set_option maxRecDepth 100000 in
theorem c_X1_takeLast_x (l : Launch) (hfl : l.stackTraces = false) (D : va_G) (h a : Nat) (cI : ClassId) (f : Nat → Int32) : mX l yX1_takeLast wsX1_takeLast ({ frames := 7, cells := 1, slots := 6, locals := 104 }) [.ref h] D [(cI, .int)] (wR h a cI f 0) hNS := by
  refine hX_body (cc := cX1_takeLast) (maxL := 2) (by decide) rfl (Nat.le_of_ble_eq_true rfl) ?_
  intro p e s m below meth cd ls hat hnt hZ hP hK hD hS hl
  obtain ⟨hF, hr, hlocks, hv⟩ := id hat
  obtain ⟨hx, hb, hml, hown, hts⟩ := id hF
  have hown : s.vm.findClass RX1 = some m.cls := hown
  have hl : lv_has ls 2 [(0, .ref h)] := hl
  have hP : va_P D vwCl [(h, .inr (1, [.ref a, .int (nI 0)])), (a, .inl (cI, 200, .inl f))] s.heap := hP
  have hD : va_D (fun _ => True) [(h, .inr (1, [.ref a, .int (nI 0)])), (a, .inl (cI, 200, .inl f))] := hD
  have iX1 : ∀ w ∈ wsX10, w ∈ wsX1_takeLast := by decide +kernel
  have k15 := hts (.fieldLink RX1 15 "HeapAndDeque$Row" "count" "I") (by decide +kernel)
  refine lv_aload_n hx hb dX1_takeLast_0 rfl (lv_at hl 0 rfl) ?_
  exact hX_thruV (As := []) (rest := []) (wc := [(h, .inr (1, [.ref a, .int (nI 0)])), (a, .inl (cI, 200, .inl f))]) hF (c_X1_last_x l hfl D h a cI f) (cwV 0 hts gX1_takeLast_X1_last rfl rfl rfl (by decide +kernel) ⟨Nat.le_of_ble_eq_true rfl, Nat.le_of_ble_eq_true rfl⟩) hP hK hD hS hv hZ [0, 1] [0] rfl (by decide) rfl 0 1 rfl rfl rfl rfl hl.1 rfl (Nat.le_of_ble_eq_true rfl) dX1_takeLast_1 ⟨Nat.le_of_ble_eq_true rfl, Nat.le_of_ble_eq_true rfl⟩ hnt hlocks
set_option maxHeartbeats 4000000 in
set_option maxRecDepth 100000 in
theorem c_X1_firstPlaceOf (l : Launch) (D : va_G) (h a : Nat) (cI : ClassId) (f : Nat → Int32) (c : Nat) (x : Int32) (hc : c ≤ 200) : mI l yX1_firstPlaceOf wsX1_firstPlaceOf ({ frames := 0, cells := 0, slots := 0, locals := 0 }) [.ref h, .int x] D [(cI, .int)] (wR h a cI f c) (wR h a cI f c) (s_o (s_fI f x c 0)) := by
  refine hI_body (cc := cX1_firstPlaceOf) (maxL := 3) (by decide) rfl (Nat.le_of_ble_eq_true rfl) (rfl) ?_
  intro p e s m below meth cd A ls Q hat hA hP hK hD hS hl hend
  obtain ⟨hF, hr, hlocks, hv⟩ := id hat
  obtain ⟨hx, hb, hml, hown, hts⟩ := id hF
  have hown : s.vm.findClass RX1 = some m.cls := hown
  have hl : lv_has ls 3 [(0, .ref h), (1, .int x)] := hl
  have hP : va_P D vwCl [(h, .inr (1, [.ref a, .int (nI c)])), (a, .inl (cI, 200, .inl f))] s.heap := hP
  have hD : va_D A [(h, .inr (1, [.ref a, .int (nI c)])), (a, .inl (cI, 200, .inl f))] := hD
  have iX1 : ∀ w ∈ wsX10, w ∈ wsX1_firstPlaceOf := by decide +kernel
  have k9 := hts (.fieldLink RX1 9 "HeapAndDeque$Row" "values" "[I") (by decide +kernel)
  have k15 := hts (.fieldLink RX1 15 "HeapAndDeque$Row" "count" "I") (by decide +kernel)
  refine lv_iconst (v := nI 0) hx hb dX1_firstPlaceOf_0 (by decide +kernel) ?_
  refine lv_istore_n (lv' := [(2, .int (nI 0)), (0, .ref h), (1, .int x)]) hx hb dX1_firstPlaceOf_1 rfl hl (by decide) rfl (fun ls hl => ?_)
  have loop : ∀ (n i : Nat), i + n = c → s_fI f x n i = s_fI f x c 0 → ∀ (H : Heap) (locs : List Loc) (ls : Array Slot), va_P D vwCl [(h, .inr (1, [.ref a, .int (nI c)])), (a, .inl (cI, 200, .inl f))] H → va_D A [(h, .inr (1, [.ref a, .int (nI c)])), (a, .inl (cI, 200, .inl f))] → va_S A s.heap H locs → lv_has ls 3 [(2, .int (nI i)), (0, .ref h), (1, .int x)] → W p l e ({ frames := 0, cells := 0, slots := 0, locals := 0 }) s m ([.ref h, .int x] : List Value).toArray below meth cd H locs 0 0 Q (F0 m 2 ls []) := by
    intro n
    induction n with
    | zero =>
      intro i hn e9 H locs ls hP hD hS hl
      refine lv_iload_n hx hb dX1_firstPlaceOf_2 rfl (lv_at hl 0 rfl) ?_
      refine lv_aload_n hx hb dX1_firstPlaceOf_3 rfl (lv_at hl 1 rfl) ?_
      refine va_get (D := D) (ci := 1) (v := .int (nI c)) (C := RX1) (T := TX1) (N := 2) hx hb hts iX1 hown hK hP 0 rfl rfl 1 (by decide) k15 (fun _ h9 => h9) rfl dX1_firstPlaceOf_4 ?_
      refine lv_icmp_ge (tgt := 28) hx hb dX1_firstPlaceOf_7 (by decide) (fun _ => ?_) (fun hn => absurd (nI_le (by omega) (by omega)) hn)
      refine lv_iconst (v := (-1)) hx hb dX1_firstPlaceOf_28 (by decide) ?_
      exact hend _ _ _ _ _ hP hD hS (by rw [← e9]; rfl) dX1_firstPlaceOf_29
    | succ n ih =>
      intro i hn e9 H locs ls hP hD hS hl
      refine lv_iload_n hx hb dX1_firstPlaceOf_2 rfl (lv_at hl 0 rfl) ?_
      refine lv_aload_n hx hb dX1_firstPlaceOf_3 rfl (lv_at hl 1 rfl) ?_
      refine va_get (D := D) (ci := 1) (v := .int (nI c)) (C := RX1) (T := TX1) (N := 2) hx hb hts iX1 hown hK hP 0 rfl rfl 1 (by decide) k15 (fun _ h9 => h9) rfl dX1_firstPlaceOf_4 ?_
      refine lv_icmp_ge (tgt := 28) hx hb dX1_firstPlaceOf_7 (by decide) (fun ht_ => absurd ht_ (nI_ge (by omega) (by omega))) (fun _ => ?_)
      refine lv_aload_n hx hb dX1_firstPlaceOf_10 rfl (lv_at hl 1 rfl) ?_
      refine va_get (D := D) (ci := 1) (v := .ref a) (C := RX1) (T := TX1) (N := 2) hx hb hts iX1 hown hK hP 0 rfl rfl 0 (by decide) k9 (fun _ h9 => h9) rfl dX1_firstPlaceOf_11 ?_
      refine lv_iload_n hx hb dX1_firstPlaceOf_14 rfl (lv_at hl 0 rfl) ?_
      refine h_iald hx hb hK hP 1 0 rfl rfl (by decide) (by omega) dX1_firstPlaceOf_15 ?_
      refine lv_iload_n hx hb dX1_firstPlaceOf_16 rfl (lv_at hl 2 rfl) ?_
      refine lv_icmp_ne (tgt := 22) hx hb dX1_firstPlaceOf_17 (by decide) (fun c9 => ?_) (fun c9 => ?_)
      · refine lv_iinc (v := nI (i + 1)) (lv' := [(2, .int (nI (i + 1))), (0, .ref h), (1, .int x)]) hx hb dX1_firstPlaceOf_22 hl (k := 0) rfl (nI_1 _) (by decide) rfl (fun ls hl => ?_)
        refine lv_goto (tgt := 2) hx hb dX1_firstPlaceOf_25 (by decide) ?_
        exact ih _ (by omega) (by rw [← e9, s_fI, if_neg c9]) _ _ _ hP hD hS (lv_sub hl [0, 1, 2] rfl)
      · have heq : f i = x := c9
        refine lv_iload_n hx hb dX1_firstPlaceOf_20 rfl (lv_at hl 0 rfl) ?_
        exact hend _ _ _ _ _ hP hD hS (by rw [← e9, s_fI, if_pos heq]; rfl) dX1_firstPlaceOf_21
  exact loop c 0 (by omega) rfl _ _ _ hP hD hS hl
set_option maxHeartbeats 4000000 in
set_option maxRecDepth 100000 in
theorem c_X1_lastPlaceOf (l : Launch) (D : va_G) (h a : Nat) (cI : ClassId) (f : Nat → Int32) (c : Nat) (x : Int32) (hc : c ≤ 200) : mI l yX1_lastPlaceOf wsX1_lastPlaceOf ({ frames := 0, cells := 0, slots := 0, locals := 0 }) [.ref h, .int x] D [(cI, .int)] (wR h a cI f c) (wR h a cI f c) (s_o (s_last f x c)) := by
  refine hI_body (cc := cX1_lastPlaceOf) (maxL := 3) (by decide) rfl (Nat.le_of_ble_eq_true rfl) (rfl) ?_
  intro p e s m below meth cd A ls Q hat hA hP hK hD hS hl hend
  obtain ⟨hF, hr, hlocks, hv⟩ := id hat
  obtain ⟨hx, hb, hml, hown, hts⟩ := id hF
  have hown : s.vm.findClass RX1 = some m.cls := hown
  have hl : lv_has ls 3 [(0, .ref h), (1, .int x)] := hl
  have hP : va_P D vwCl [(h, .inr (1, [.ref a, .int (nI c)])), (a, .inl (cI, 200, .inl f))] s.heap := hP
  have hD : va_D A [(h, .inr (1, [.ref a, .int (nI c)])), (a, .inl (cI, 200, .inl f))] := hD
  have iX1 : ∀ w ∈ wsX10, w ∈ wsX1_lastPlaceOf := by decide +kernel
  have k9 := hts (.fieldLink RX1 9 "HeapAndDeque$Row" "values" "[I") (by decide +kernel)
  have k15 := hts (.fieldLink RX1 15 "HeapAndDeque$Row" "count" "I") (by decide +kernel)
  refine lv_aload_n hx hb dX1_lastPlaceOf_0 rfl (lv_at hl 0 rfl) ?_
  refine va_get (D := D) (ci := 1) (v := .int (nI c)) (C := RX1) (T := TX1) (N := 2) hx hb hts iX1 hown hK hP 0 rfl rfl 1 (by decide) k15 (fun _ h9 => h9) rfl dX1_lastPlaceOf_1 ?_
  refine lv_iconst (v := 1) hx hb dX1_lastPlaceOf_4 (by decide) ?_
  refine lv_isub hx hb dX1_lastPlaceOf_5 ?_
  refine lv_istore_n (lv' := [(2, .int (nI c - 1)), (0, .ref h), (1, .int x)]) hx hb dX1_lastPlaceOf_6 rfl hl (by decide) rfl (fun ls hl => ?_)
  have loop : ∀ (n : Nat), n ≤ c → s_last f x n = s_last f x c → ∀ (H : Heap) (locs : List Loc) (ls : Array Slot), va_P D vwCl [(h, .inr (1, [.ref a, .int (nI c)])), (a, .inl (cI, 200, .inl f))] H → va_D A [(h, .inr (1, [.ref a, .int (nI c)])), (a, .inl (cI, 200, .inl f))] → va_S A s.heap H locs → lv_has ls 3 [(2, .int (nI n - 1)), (0, .ref h), (1, .int x)] → W p l e ({ frames := 0, cells := 0, slots := 0, locals := 0 }) s m ([.ref h, .int x] : List Value).toArray below meth cd H locs 0 0 Q (F0 m 7 ls []) := by
    intro n
    induction n with
    | zero =>
      intro hn e9 H locs ls hP hD hS hl
      refine lv_iload_n hx hb dX1_lastPlaceOf_7 rfl (lv_at hl 0 rfl) ?_
      refine lv_if_lt (tgt := 29) hx hb dX1_lastPlaceOf_8 (by decide) (fun _ => ?_) (fun hn => absurd (by decide +kernel) hn)
      refine lv_iconst (v := (-1)) hx hb dX1_lastPlaceOf_29 (by decide) ?_
      exact hend _ _ _ _ _ hP hD hS (by rw [← e9]; rfl) dX1_lastPlaceOf_30
    | succ n ih =>
      intro hn e9 H locs ls hP hD hS hl
      have hl : lv_has ls 3 [(2, .int (nI n)), (0, .ref h), (1, .int x)] := by rw [← nI_pred n]; exact hl
      refine lv_iload_n hx hb dX1_lastPlaceOf_7 rfl (lv_at hl 0 rfl) ?_
      refine lv_if_lt (tgt := 29) hx hb dX1_lastPlaceOf_8 (by decide) (fun ht_ => absurd ht_ (nI_pos (by omega))) (fun _ => ?_)
      refine lv_aload_n hx hb dX1_lastPlaceOf_11 rfl (lv_at hl 1 rfl) ?_
      refine va_get (D := D) (ci := 1) (v := .ref a) (C := RX1) (T := TX1) (N := 2) hx hb hts iX1 hown hK hP 0 rfl rfl 0 (by decide) k9 (fun _ h9 => h9) rfl dX1_lastPlaceOf_12 ?_
      refine lv_iload_n hx hb dX1_lastPlaceOf_15 rfl (lv_at hl 0 rfl) ?_
      refine h_iald hx hb hK hP 1 0 rfl rfl (by decide) (by omega) dX1_lastPlaceOf_16 ?_
      refine lv_iload_n hx hb dX1_lastPlaceOf_17 rfl (lv_at hl 2 rfl) ?_
      refine lv_icmp_ne (tgt := 23) hx hb dX1_lastPlaceOf_18 (by decide) (fun c9 => ?_) (fun c9 => ?_)
      · refine lv_iinc (v := nI n - 1) (lv' := [(2, .int (nI n - 1)), (0, .ref h), (1, .int x)]) hx hb dX1_lastPlaceOf_23 hl (k := 0) rfl (h_m1 _) (by decide) rfl (fun ls hl => ?_)
        refine lv_goto (tgt := 7) hx hb dX1_lastPlaceOf_26 (by decide) ?_
        exact ih (by omega) (by rw [← e9, s_last, if_neg c9]) _ _ _ hP hD hS (lv_sub hl [0, 1, 2] rfl)
      · have heq : f n = x := c9
        refine lv_iload_n hx hb dX1_lastPlaceOf_21 rfl (lv_at hl 0 rfl) ?_
        exact hend _ _ _ _ _ hP hD hS (by rw [← e9, s_last, if_pos heq]; rfl) dX1_lastPlaceOf_22
  exact loop c (Nat.le_refl c) rfl _ _ _ hP hD hS hl
set_option maxHeartbeats 4000000 in
set_option maxRecDepth 100000 in
theorem c_X1_numberAt (l : Launch) (D : va_G) (h a : Nat) (cI : ClassId) (f : Nat → Int32) (c : Nat) (q9 : Nat) (hq : q9 < c) (hc : c ≤ 200) : mI l yX1_numberAt wsX1_numberAt ({ frames := 0, cells := 0, slots := 0, locals := 0 }) [.ref h, .int (nI q9)] D [(cI, .int)] (wR h a cI f c) (wR h a cI f c) (f q9) := by
  refine hI_body (cc := cX1_numberAt) (maxL := 2) (by decide) rfl (Nat.le_of_ble_eq_true rfl) (rfl) ?_
  intro p e s m below meth cd A ls Q hat hA hP hK hD hS hl hend
  obtain ⟨hF, hr, hlocks, hv⟩ := id hat
  obtain ⟨hx, hb, hml, hown, hts⟩ := id hF
  have hown : s.vm.findClass RX1 = some m.cls := hown
  have hl : lv_has ls 2 [(0, .ref h), (1, .int (nI q9))] := hl
  have hP : va_P D vwCl [(h, .inr (1, [.ref a, .int (nI c)])), (a, .inl (cI, 200, .inl f))] s.heap := hP
  have hD : va_D A [(h, .inr (1, [.ref a, .int (nI c)])), (a, .inl (cI, 200, .inl f))] := hD
  have iX1 : ∀ w ∈ wsX10, w ∈ wsX1_numberAt := by decide +kernel
  have k9 := hts (.fieldLink RX1 9 "HeapAndDeque$Row" "values" "[I") (by decide +kernel)
  have k15 := hts (.fieldLink RX1 15 "HeapAndDeque$Row" "count" "I") (by decide +kernel)
  refine lv_iload_n hx hb dX1_numberAt_0 rfl (lv_at hl 1 rfl) ?_
  refine lv_if_lt (tgt := 12) hx hb dX1_numberAt_1 (by decide) (fun ht_ => absurd ht_ (nI_pos (by omega))) (fun _ => ?_)
  refine lv_iload_n hx hb dX1_numberAt_4 rfl (lv_at hl 1 rfl) ?_
  refine lv_aload_n hx hb dX1_numberAt_5 rfl (lv_at hl 0 rfl) ?_
  refine va_get (D := D) (ci := 1) (v := .int (nI c)) (C := RX1) (T := TX1) (N := 2) hx hb hts iX1 hown hK hP 0 rfl rfl 1 (by decide) k15 (fun _ h9 => h9) rfl dX1_numberAt_6 ?_
  refine lv_icmp_lt (tgt := 22) hx hb dX1_numberAt_9 (by decide) (fun _ => ?_) (fun hn => absurd (nI_lt hq (by omega)) hn)
  refine lv_aload_n hx hb dX1_numberAt_22 rfl (lv_at hl 0 rfl) ?_
  refine va_get (D := D) (ci := 1) (v := .ref a) (C := RX1) (T := TX1) (N := 2) hx hb hts iX1 hown hK hP 0 rfl rfl 0 (by decide) k9 (fun _ h9 => h9) rfl dX1_numberAt_23 ?_
  refine lv_iload_n hx hb dX1_numberAt_26 rfl (lv_at hl 1 rfl) ?_
  refine h_iald hx hb hK hP 1 0 rfl rfl (by decide) (by omega) dX1_numberAt_27 ?_
  exact hend _ _ _ _ _ hP hD hS (rfl) dX1_numberAt_28
set_option maxHeartbeats 4000000 in
set_option maxRecDepth 100000 in
theorem c_X1_numberAt_x (l : Launch) (hfl : l.stackTraces = false) (D : va_G) (h a : Nat) (cI : ClassId) (f : Nat → Int32) (c : Nat) (x : Int32) (hq : x < 0 ∨ nI c ≤ x) : mX l yX1_numberAt wsX1_numberAt ({ frames := 6, cells := 1, slots := 6, locals := 84 }) [.ref h, .int x] D [(cI, .int)] (wR h a cI f c) "java/lang/IndexOutOfBoundsException" := by
  refine hX_body (cc := cX1_numberAt) (maxL := 2) (by decide) rfl (Nat.le_of_ble_eq_true rfl) ?_
  intro p e s m below meth cd ls hat hnt hZ hP hK hD hS hl
  obtain ⟨hF, hr, hlocks, hv⟩ := id hat
  obtain ⟨hx, hb, hml, hown, hts⟩ := id hF
  have hown : s.vm.findClass RX1 = some m.cls := hown
  have hl : lv_has ls 2 [(0, .ref h), (1, .int x)] := hl
  have hP : va_P D vwCl [(h, .inr (1, [.ref a, .int (nI c)])), (a, .inl (cI, 200, .inl f))] s.heap := hP
  have hD : va_D (fun _ => True) [(h, .inr (1, [.ref a, .int (nI c)])), (a, .inl (cI, 200, .inl f))] := hD
  have iX1 : ∀ w ∈ wsX10, w ∈ wsX1_numberAt := by decide +kernel
  have k9 := hts (.fieldLink RX1 9 "HeapAndDeque$Row" "values" "[I") (by decide +kernel)
  have k15 := hts (.fieldLink RX1 15 "HeapAndDeque$Row" "count" "I") (by decide +kernel)
  refine lv_iload_n hx hb dX1_numberAt_0 rfl (lv_at hl 1 rfl) ?_
  refine lv_if_lt (tgt := 12) hx hb dX1_numberAt_1 (by decide) (fun c9 => ?_) (fun c9 => ?_)
  · exact hX_throw (E := "java/lang/IndexOutOfBoundsException") (text := "the row has no such place") (names := ["java/lang/RuntimeException", "java/lang/Exception"]) (ik := 42) (is := 44) (ic := 46) hx hb hfl hown (by decide +kernel) (by decide +kernel) hts (by decide +kernel) hv.2.2.1 (by decide +kernel) hv (by decide +kernel) hZ.2.2.2.2.2.1 hZ hS (hl.1.trans hml.symm) dX1_numberAt_12 dX1_numberAt_15 dX1_numberAt_16 dX1_numberAt_18 dX1_numberAt_21 hnt ⟨Nat.le_of_ble_eq_true rfl, Nat.le_of_ble_eq_true rfl, Nat.le_of_ble_eq_true rfl, Nat.le_of_ble_eq_true rfl⟩ hlocks
  · refine lv_iload_n hx hb dX1_numberAt_4 rfl (lv_at hl 1 rfl) ?_
    refine lv_aload_n hx hb dX1_numberAt_5 rfl (lv_at hl 0 rfl) ?_
    refine va_get (D := D) (ci := 1) (v := .int (nI c)) (C := RX1) (T := TX1) (N := 2) hx hb hts iX1 hown hK hP 0 rfl rfl 1 (by decide) k15 (fun _ h9 => h9) rfl dX1_numberAt_6 ?_
    refine lv_icmp_lt (tgt := 22) hx hb dX1_numberAt_9 (by decide) (fun ht_ => absurd ht_ (fun h => (hq.elim c9 (fun h2 => absurd h (Int32.not_lt.mpr h2))))) (fun _ => ?_)
    exact hX_throw (E := "java/lang/IndexOutOfBoundsException") (text := "the row has no such place") (names := ["java/lang/RuntimeException", "java/lang/Exception"]) (ik := 42) (is := 44) (ic := 46) hx hb hfl hown (by decide +kernel) (by decide +kernel) hts (by decide +kernel) hv.2.2.1 (by decide +kernel) hv (by decide +kernel) hZ.2.2.2.2.2.1 hZ hS (hl.1.trans hml.symm) dX1_numberAt_12 dX1_numberAt_15 dX1_numberAt_16 dX1_numberAt_18 dX1_numberAt_21 hnt ⟨Nat.le_of_ble_eq_true rfl, Nat.le_of_ble_eq_true rfl, Nat.le_of_ble_eq_true rfl, Nat.le_of_ble_eq_true rfl⟩ hlocks
set_option maxHeartbeats 4000000 in
set_option maxRecDepth 100000 in
theorem c_X1_numberFromLast (l : Launch) (D : va_G) (h a : Nat) (cI : ClassId) (f : Nat → Int32) (c : Nat) (q9 : Nat) (hq : q9 < c) (hc : c ≤ 200) : mI l yX1_numberFromLast wsX1_numberFromLast ({ frames := 0, cells := 0, slots := 0, locals := 0 }) [.ref h, .int (nI q9)] D [(cI, .int)] (wR h a cI f c) (wR h a cI f c) (f (c - 1 - q9)) := by
  refine hI_body (cc := cX1_numberFromLast) (maxL := 2) (by decide) rfl (Nat.le_of_ble_eq_true rfl) (rfl) ?_
  intro p e s m below meth cd A ls Q hat hA hP hK hD hS hl hend
  obtain ⟨hF, hr, hlocks, hv⟩ := id hat
  obtain ⟨hx, hb, hml, hown, hts⟩ := id hF
  have hown : s.vm.findClass RX1 = some m.cls := hown
  have hl : lv_has ls 2 [(0, .ref h), (1, .int (nI q9))] := hl
  have hP : va_P D vwCl [(h, .inr (1, [.ref a, .int (nI c)])), (a, .inl (cI, 200, .inl f))] s.heap := hP
  have hD : va_D A [(h, .inr (1, [.ref a, .int (nI c)])), (a, .inl (cI, 200, .inl f))] := hD
  have iX1 : ∀ w ∈ wsX10, w ∈ wsX1_numberFromLast := by decide +kernel
  have k9 := hts (.fieldLink RX1 9 "HeapAndDeque$Row" "values" "[I") (by decide +kernel)
  have k15 := hts (.fieldLink RX1 15 "HeapAndDeque$Row" "count" "I") (by decide +kernel)
  refine lv_iload_n hx hb dX1_numberFromLast_0 rfl (lv_at hl 1 rfl) ?_
  refine lv_if_lt (tgt := 12) hx hb dX1_numberFromLast_1 (by decide) (fun ht_ => absurd ht_ (nI_pos (by omega))) (fun _ => ?_)
  refine lv_iload_n hx hb dX1_numberFromLast_4 rfl (lv_at hl 1 rfl) ?_
  refine lv_aload_n hx hb dX1_numberFromLast_5 rfl (lv_at hl 0 rfl) ?_
  refine va_get (D := D) (ci := 1) (v := .int (nI c)) (C := RX1) (T := TX1) (N := 2) hx hb hts iX1 hown hK hP 0 rfl rfl 1 (by decide) k15 (fun _ h9 => h9) rfl dX1_numberFromLast_6 ?_
  refine lv_icmp_lt (tgt := 22) hx hb dX1_numberFromLast_9 (by decide) (fun _ => ?_) (fun hn => absurd (nI_lt hq (by omega)) hn)
  refine lv_aload_n hx hb dX1_numberFromLast_22 rfl (lv_at hl 0 rfl) ?_
  refine va_get (D := D) (ci := 1) (v := .ref a) (C := RX1) (T := TX1) (N := 2) hx hb hts iX1 hown hK hP 0 rfl rfl 0 (by decide) k9 (fun _ h9 => h9) rfl dX1_numberFromLast_23 ?_
  refine lv_aload_n hx hb dX1_numberFromLast_26 rfl (lv_at hl 0 rfl) ?_
  refine va_get (D := D) (ci := 1) (v := .int (nI c)) (C := RX1) (T := TX1) (N := 2) hx hb hts iX1 hown hK hP 0 rfl rfl 1 (by decide) k15 (fun _ h9 => h9) rfl dX1_numberFromLast_27 ?_
  refine lv_iconst (v := 1) hx hb dX1_numberFromLast_30 (by decide) ?_
  refine lv_isub hx hb dX1_numberFromLast_31 ?_
  refine hw_i (y := nI (c - 1)) (h_sub1 (by omega)) ?_
  refine lv_iload_n hx hb dX1_numberFromLast_32 rfl (lv_at hl 1 rfl) ?_
  refine lv_isub hx hb dX1_numberFromLast_33 ?_
  refine hw_i (y := nI (c - 1 - q9)) (pk_sub (by omega)) ?_
  refine h_iald hx hb hK hP 1 0 rfl rfl (by decide) (by omega) dX1_numberFromLast_34 ?_
  exact hend _ _ _ _ _ hP hD hS (rfl) dX1_numberFromLast_35
set_option maxHeartbeats 4000000 in
set_option maxRecDepth 100000 in
theorem c_X1_numberFromLast_x (l : Launch) (hfl : l.stackTraces = false) (D : va_G) (h a : Nat) (cI : ClassId) (f : Nat → Int32) (c : Nat) (x : Int32) (hq : x < 0 ∨ nI c ≤ x) : mX l yX1_numberFromLast wsX1_numberFromLast ({ frames := 6, cells := 1, slots := 6, locals := 84 }) [.ref h, .int x] D [(cI, .int)] (wR h a cI f c) "java/lang/IndexOutOfBoundsException" := by
  refine hX_body (cc := cX1_numberFromLast) (maxL := 2) (by decide) rfl (Nat.le_of_ble_eq_true rfl) ?_
  intro p e s m below meth cd ls hat hnt hZ hP hK hD hS hl
  obtain ⟨hF, hr, hlocks, hv⟩ := id hat
  obtain ⟨hx, hb, hml, hown, hts⟩ := id hF
  have hown : s.vm.findClass RX1 = some m.cls := hown
  have hl : lv_has ls 2 [(0, .ref h), (1, .int x)] := hl
  have hP : va_P D vwCl [(h, .inr (1, [.ref a, .int (nI c)])), (a, .inl (cI, 200, .inl f))] s.heap := hP
  have hD : va_D (fun _ => True) [(h, .inr (1, [.ref a, .int (nI c)])), (a, .inl (cI, 200, .inl f))] := hD
  have iX1 : ∀ w ∈ wsX10, w ∈ wsX1_numberFromLast := by decide +kernel
  have k9 := hts (.fieldLink RX1 9 "HeapAndDeque$Row" "values" "[I") (by decide +kernel)
  have k15 := hts (.fieldLink RX1 15 "HeapAndDeque$Row" "count" "I") (by decide +kernel)
  refine lv_iload_n hx hb dX1_numberFromLast_0 rfl (lv_at hl 1 rfl) ?_
  refine lv_if_lt (tgt := 12) hx hb dX1_numberFromLast_1 (by decide) (fun c9 => ?_) (fun c9 => ?_)
  · exact hX_throw (E := "java/lang/IndexOutOfBoundsException") (text := "the row has no such place") (names := ["java/lang/RuntimeException", "java/lang/Exception"]) (ik := 42) (is := 44) (ic := 46) hx hb hfl hown (by decide +kernel) (by decide +kernel) hts (by decide +kernel) hv.2.2.1 (by decide +kernel) hv (by decide +kernel) hZ.2.2.2.2.2.1 hZ hS (hl.1.trans hml.symm) dX1_numberFromLast_12 dX1_numberFromLast_15 dX1_numberFromLast_16 dX1_numberFromLast_18 dX1_numberFromLast_21 hnt ⟨Nat.le_of_ble_eq_true rfl, Nat.le_of_ble_eq_true rfl, Nat.le_of_ble_eq_true rfl, Nat.le_of_ble_eq_true rfl⟩ hlocks
  · refine lv_iload_n hx hb dX1_numberFromLast_4 rfl (lv_at hl 1 rfl) ?_
    refine lv_aload_n hx hb dX1_numberFromLast_5 rfl (lv_at hl 0 rfl) ?_
    refine va_get (D := D) (ci := 1) (v := .int (nI c)) (C := RX1) (T := TX1) (N := 2) hx hb hts iX1 hown hK hP 0 rfl rfl 1 (by decide) k15 (fun _ h9 => h9) rfl dX1_numberFromLast_6 ?_
    refine lv_icmp_lt (tgt := 22) hx hb dX1_numberFromLast_9 (by decide) (fun ht_ => absurd ht_ (fun h => (hq.elim c9 (fun h2 => absurd h (Int32.not_lt.mpr h2))))) (fun _ => ?_)
    exact hX_throw (E := "java/lang/IndexOutOfBoundsException") (text := "the row has no such place") (names := ["java/lang/RuntimeException", "java/lang/Exception"]) (ik := 42) (is := 44) (ic := 46) hx hb hfl hown (by decide +kernel) (by decide +kernel) hts (by decide +kernel) hv.2.2.1 (by decide +kernel) hv (by decide +kernel) hZ.2.2.2.2.2.1 hZ hS (hl.1.trans hml.symm) dX1_numberFromLast_12 dX1_numberFromLast_15 dX1_numberFromLast_16 dX1_numberFromLast_18 dX1_numberFromLast_21 hnt ⟨Nat.le_of_ble_eq_true rfl, Nat.le_of_ble_eq_true rfl, Nat.le_of_ble_eq_true rfl, Nat.le_of_ble_eq_true rfl⟩ hlocks
set_option maxHeartbeats 4000000 in
set_option maxRecDepth 100000 in
theorem c_X1_takeAllLike (l : Launch) (D : va_G) (h a : Nat) (cI : ClassId) (f : Nat → Int32) (c : Nat) (x : Int32) (hc : c ≤ 200) : mI l yX1_takeAllLike wsX1_takeAllLike ({ frames := 0, cells := 0, slots := 0, locals := 0 }) [.ref h, .int x] D [(cI, .int)] (wR h a cI f c) (wR h a cI (s_cmp x c 0 0 f).1 (s_cmp x c 0 0 f).2) (nI (c - (s_cmp x c 0 0 f).2)) := by
  refine hI_body (cc := cX1_takeAllLike) (maxL := 4) (by decide) rfl (Nat.le_of_ble_eq_true rfl) (rfl) ?_
  intro p e s m below meth cd A ls Q hat hA hP hK hD hS hl hend
  obtain ⟨hF, hr, hlocks, hv⟩ := id hat
  obtain ⟨hx, hb, hml, hown, hts⟩ := id hF
  have hown : s.vm.findClass RX1 = some m.cls := hown
  have hl : lv_has ls 4 [(0, .ref h), (1, .int x)] := hl
  have hP : va_P D vwCl [(h, .inr (1, [.ref a, .int (nI c)])), (a, .inl (cI, 200, .inl f))] s.heap := hP
  have hD : va_D A [(h, .inr (1, [.ref a, .int (nI c)])), (a, .inl (cI, 200, .inl f))] := hD
  have iX1 : ∀ w ∈ wsX10, w ∈ wsX1_takeAllLike := by decide +kernel
  have k9 := hts (.fieldLink RX1 9 "HeapAndDeque$Row" "values" "[I") (by decide +kernel)
  have k15 := hts (.fieldLink RX1 15 "HeapAndDeque$Row" "count" "I") (by decide +kernel)
  refine lv_iconst (v := nI 0) hx hb dX1_takeAllLike_0 (by decide +kernel) ?_
  refine lv_istore_n (lv' := [(2, .int (nI 0)), (0, .ref h), (1, .int x)]) hx hb dX1_takeAllLike_1 rfl hl (by decide) rfl (fun ls hl => ?_)
  refine lv_iconst (v := nI 0) hx hb dX1_takeAllLike_2 (by decide +kernel) ?_
  refine lv_istore_n (lv' := [(3, .int (nI 0)), (2, .int (nI 0)), (0, .ref h), (1, .int x)]) hx hb dX1_takeAllLike_3 rfl hl (by decide) rfl (fun ls hl => ?_)
  have loop : ∀ (n i k : Nat) (g : Nat → Int32), i + n = c → k ≤ i → s_cmp x n i k g = s_cmp x c 0 0 f → ∀ (H : Heap) (locs : List Loc) (ls : Array Slot), va_P D vwCl [(h, .inr (1, [.ref a, .int (nI c)])), (a, .inl (cI, 200, .inl g))] H → va_D A [(h, .inr (1, [.ref a, .int (nI c)])), (a, .inl (cI, 200, .inl g))] → va_S A s.heap H locs → lv_has ls 4 [(3, .int (nI i)), (2, .int (nI k)), (0, .ref h), (1, .int x)] → W p l e ({ frames := 0, cells := 0, slots := 0, locals := 0 }) s m ([.ref h, .int x] : List Value).toArray below meth cd H locs 0 0 Q (F0 m 4 ls []) := by
    intro n
    induction n with
    | zero =>
      intro i k g hn hk e9 H locs ls hP hD hS hl
      refine lv_iload_n hx hb dX1_takeAllLike_4 rfl (lv_at hl 0 rfl) ?_
      refine lv_aload_n hx hb dX1_takeAllLike_5 rfl (lv_at hl 2 rfl) ?_
      refine va_get (D := D) (ci := 1) (v := .int (nI c)) (C := RX1) (T := TX1) (N := 2) hx hb hts iX1 hown hK hP 0 rfl rfl 1 (by decide) k15 (fun _ h9 => h9) rfl dX1_takeAllLike_6 ?_
      refine lv_icmp_ge (tgt := 43) hx hb dX1_takeAllLike_9 (by decide) (fun _ => ?_) (fun hn => absurd (nI_le (by omega) (by omega)) hn)
      refine lv_aload_n hx hb dX1_takeAllLike_43 rfl (lv_at hl 2 rfl) ?_
      refine va_get (D := D) (ci := 1) (v := .int (nI c)) (C := RX1) (T := TX1) (N := 2) hx hb hts iX1 hown hK hP 0 rfl rfl 1 (by decide) k15 (fun _ h9 => h9) rfl dX1_takeAllLike_44 ?_
      refine lv_iload_n hx hb dX1_takeAllLike_47 rfl (lv_at hl 1 rfl) ?_
      refine lv_isub hx hb dX1_takeAllLike_48 ?_
      refine hw_i (y := nI (c - k)) (pk_sub (by omega)) ?_
      refine lv_istore_n (lv' := [(3, .int (nI (c - k))), (2, .int (nI k)), (0, .ref h), (1, .int x)]) hx hb dX1_takeAllLike_49 rfl hl (by decide) rfl (fun ls hl => ?_)
      refine lv_aload_n hx hb dX1_takeAllLike_50 rfl (lv_at hl 2 rfl) ?_
      refine lv_iload_n hx hb dX1_takeAllLike_51 rfl (lv_at hl 1 rfl) ?_
      refine va_put (D := D) (ci := 1) (v := .int (nI k)) (ty := .int) (C := RX1) (T := TX1) (N := 2) hx hb hts iX1 tyX1 tyX1_ok nmX1 hown hK hP hD hS 0 rfl rfl 1 (by decide) k15 (fun _ h9 => h9) rfl (by decide +kernel) rfl rfl (Nat.le_of_ble_eq_true rfl) dX1_takeAllLike_52 (fun H locs hP hD hS => ?_)
      have hP : va_P D vwCl [(h, .inr (1, [.ref a, .int (nI k)])), (a, .inl (cI, 200, .inl g))] H := hP
      have hD : va_D A [(h, .inr (1, [.ref a, .int (nI k)])), (a, .inl (cI, 200, .inl g))] := hD
      refine lv_iload_n hx hb dX1_takeAllLike_55 rfl (lv_at hl 0 rfl) ?_
      exact hend _ _ _ _ _ (by rw [← e9]; exact hP) (by rw [← e9]; exact hD) hS (by rw [← e9]; rfl) dX1_takeAllLike_56
    | succ n ih =>
      intro i k g hn hk e9 H locs ls hP hD hS hl
      refine lv_iload_n hx hb dX1_takeAllLike_4 rfl (lv_at hl 0 rfl) ?_
      refine lv_aload_n hx hb dX1_takeAllLike_5 rfl (lv_at hl 2 rfl) ?_
      refine va_get (D := D) (ci := 1) (v := .int (nI c)) (C := RX1) (T := TX1) (N := 2) hx hb hts iX1 hown hK hP 0 rfl rfl 1 (by decide) k15 (fun _ h9 => h9) rfl dX1_takeAllLike_6 ?_
      refine lv_icmp_ge (tgt := 43) hx hb dX1_takeAllLike_9 (by decide) (fun ht_ => absurd ht_ (nI_ge (by omega) (by omega))) (fun _ => ?_)
      refine lv_aload_n hx hb dX1_takeAllLike_12 rfl (lv_at hl 2 rfl) ?_
      refine va_get (D := D) (ci := 1) (v := .ref a) (C := RX1) (T := TX1) (N := 2) hx hb hts iX1 hown hK hP 0 rfl rfl 0 (by decide) k9 (fun _ h9 => h9) rfl dX1_takeAllLike_13 ?_
      refine lv_iload_n hx hb dX1_takeAllLike_16 rfl (lv_at hl 0 rfl) ?_
      refine h_iald hx hb hK hP 1 0 rfl rfl (by decide) (by omega) dX1_takeAllLike_17 ?_
      refine lv_iload_n hx hb dX1_takeAllLike_18 rfl (lv_at hl 3 rfl) ?_
      refine lv_icmp_eq (tgt := 37) hx hb dX1_takeAllLike_19 (by decide) (fun c9 => ?_) (fun c9 => ?_)
      · refine lv_iinc (v := nI (i + 1)) (lv' := [(3, .int (nI (i + 1))), (2, .int (nI k)), (0, .ref h), (1, .int x)]) hx hb dX1_takeAllLike_37 hl (k := 0) rfl (nI_1 _) (by decide) rfl (fun ls hl => ?_)
        refine lv_goto (tgt := 4) hx hb dX1_takeAllLike_40 (by decide) ?_
        exact ih _ _ _ (by omega) (by omega) (by rw [← e9, s_cmp, if_pos c9]) _ _ _ hP hD hS (lv_sub hl [0, 1, 2, 3] rfl)
      · refine lv_aload_n hx hb dX1_takeAllLike_22 rfl (lv_at hl 2 rfl) ?_
        refine va_get (D := D) (ci := 1) (v := .ref a) (C := RX1) (T := TX1) (N := 2) hx hb hts iX1 hown hK hP 0 rfl rfl 0 (by decide) k9 (fun _ h9 => h9) rfl dX1_takeAllLike_23 ?_
        refine lv_iload_n hx hb dX1_takeAllLike_26 rfl (lv_at hl 1 rfl) ?_
        refine lv_aload_n hx hb dX1_takeAllLike_27 rfl (lv_at hl 2 rfl) ?_
        refine va_get (D := D) (ci := 1) (v := .ref a) (C := RX1) (T := TX1) (N := 2) hx hb hts iX1 hown hK hP 0 rfl rfl 0 (by decide) k9 (fun _ h9 => h9) rfl dX1_takeAllLike_28 ?_
        refine lv_iload_n hx hb dX1_takeAllLike_31 rfl (lv_at hl 0 rfl) ?_
        refine h_iald hx hb hK hP 1 0 rfl rfl (by decide) (by omega) dX1_takeAllLike_32 ?_
        refine h_iast hx hb hK hP hD hS 1 0 rfl rfl (by decide) (by omega) dX1_takeAllLike_33 (fun H locs hP hD hS => ?_)
        have hP : va_P D vwCl [(h, .inr (1, [.ref a, .int (nI c)])), (a, .inl (cI, 200, .inl (upd g k (g i))))] H := hP
        have hD : va_D A [(h, .inr (1, [.ref a, .int (nI c)])), (a, .inl (cI, 200, .inl (upd g k (g i))))] := hD
        refine lv_iinc (v := nI (k + 1)) (lv' := [(2, .int (nI (k + 1))), (3, .int (nI i)), (0, .ref h), (1, .int x)]) hx hb dX1_takeAllLike_34 hl (k := 1) rfl (nI_1 _) (by decide) rfl (fun ls hl => ?_)
        refine lv_iinc (v := nI (i + 1)) (lv' := [(3, .int (nI (i + 1))), (2, .int (nI (k + 1))), (0, .ref h), (1, .int x)]) hx hb dX1_takeAllLike_37 hl (k := 1) rfl (nI_1 _) (by decide) rfl (fun ls hl => ?_)
        refine lv_goto (tgt := 4) hx hb dX1_takeAllLike_40 (by decide) ?_
        exact ih _ _ _ (by omega) (by omega) (by rw [← e9, s_cmp, if_neg c9]) _ _ _ hP hD hS (lv_sub hl [0, 1, 2, 3] rfl)
  exact loop c 0 0 f (by omega) (by omega) rfl _ _ _ hP hD hS hl
set_option maxHeartbeats 4000000 in
set_option maxRecDepth 100000 in
theorem c_X1_sumFromFirst (l : Launch) (D : va_G) (h a : Nat) (cI : ClassId) (f : Nat → Int32) (c : Nat) (hc : c ≤ 200) : mL l yX1_sumFromFirst wsX1_sumFromFirst ({ frames := 0, cells := 0, slots := 0, locals := 0 }) [.ref h] D [(cI, .int)] (wR h a cI f c) (wR h a cI f c) (s_up f c) := by
  refine hL_body (cc := cX1_sumFromFirst) (maxL := 4) (by decide) rfl (Nat.le_of_ble_eq_true rfl) ?_
  intro p e s m below meth cd A ls Q hat hA hP hK hD hS hl hend
  obtain ⟨hF, hr, hlocks, hv⟩ := id hat
  obtain ⟨hx, hb, hml, hown, hts⟩ := id hF
  have hown : s.vm.findClass RX1 = some m.cls := hown
  have hl : lv_has ls 4 [(0, .ref h)] := hl
  have hP : va_P D vwCl [(h, .inr (1, [.ref a, .int (nI c)])), (a, .inl (cI, 200, .inl f))] s.heap := hP
  have hD : va_D A [(h, .inr (1, [.ref a, .int (nI c)])), (a, .inl (cI, 200, .inl f))] := hD
  have iX1 : ∀ w ∈ wsX10, w ∈ wsX1_sumFromFirst := by decide +kernel
  have k9 := hts (.fieldLink RX1 9 "HeapAndDeque$Row" "values" "[I") (by decide +kernel)
  have k15 := hts (.fieldLink RX1 15 "HeapAndDeque$Row" "count" "I") (by decide +kernel)
  refine lv_ldc2 hx hb hown (hts (.constantLong RX1 47 (7)) (by decide +kernel)) dX1_sumFromFirst_0 ?_
  refine lv_lstore_n (lv' := [(1, .long 7), (0, .ref h)]) hx hb dX1_sumFromFirst_3 rfl hl (by decide) rfl (fun ls hl => ?_)
  refine lv_iconst (v := nI 0) hx hb dX1_sumFromFirst_4 (by decide +kernel) ?_
  refine lv_istore_n (lv' := [(3, .int (nI 0)), (1, .long 7), (0, .ref h)]) hx hb dX1_sumFromFirst_5 rfl hl (by decide) rfl (fun ls hl => ?_)
  have loop : ∀ (n i : Nat), i + n = c → ∀ (H : Heap) (locs : List Loc) (ls : Array Slot), va_P D vwCl [(h, .inr (1, [.ref a, .int (nI c)])), (a, .inl (cI, 200, .inl f))] H → va_D A [(h, .inr (1, [.ref a, .int (nI c)])), (a, .inl (cI, 200, .inl f))] → va_S A s.heap H locs → lv_has ls 4 [(3, .int (nI i)), (1, .long (s_up f i)), (0, .ref h)] → W p l e ({ frames := 0, cells := 0, slots := 0, locals := 0 }) s m ([.ref h] : List Value).toArray below meth cd H locs 0 0 Q (F0 m 6 ls []) := by
    intro n
    induction n with
    | zero =>
      intro i hn H locs ls hP hD hS hl
      refine lv_iload_n hx hb dX1_sumFromFirst_6 rfl (lv_at hl 0 rfl) ?_
      refine lv_aload_n hx hb dX1_sumFromFirst_7 rfl (lv_at hl 2 rfl) ?_
      refine va_get (D := D) (ci := 1) (v := .int (nI c)) (C := RX1) (T := TX1) (N := 2) hx hb hts iX1 hown hK hP 0 rfl rfl 1 (by decide) k15 (fun _ h9 => h9) rfl dX1_sumFromFirst_8 ?_
      refine lv_icmp_ge (tgt := 34) hx hb dX1_sumFromFirst_11 (by decide) (fun _ => ?_) (fun hn => absurd (nI_le (by omega) (by omega)) hn)
      refine lv_lload_n hx hb dX1_sumFromFirst_34 rfl (lv_at hl 1 rfl) ?_
      exact hend _ _ _ _ _ hP hD hS (by rw [show i = c by omega]) dX1_sumFromFirst_35
    | succ n ih =>
      intro i hn H locs ls hP hD hS hl
      refine lv_iload_n hx hb dX1_sumFromFirst_6 rfl (lv_at hl 0 rfl) ?_
      refine lv_aload_n hx hb dX1_sumFromFirst_7 rfl (lv_at hl 2 rfl) ?_
      refine va_get (D := D) (ci := 1) (v := .int (nI c)) (C := RX1) (T := TX1) (N := 2) hx hb hts iX1 hown hK hP 0 rfl rfl 1 (by decide) k15 (fun _ h9 => h9) rfl dX1_sumFromFirst_8 ?_
      refine lv_icmp_ge (tgt := 34) hx hb dX1_sumFromFirst_11 (by decide) (fun ht_ => absurd ht_ (nI_ge (by omega) (by omega))) (fun _ => ?_)
      refine lv_ldc2 hx hb hown (hts (.constantLong RX1 49 (31)) (by decide +kernel)) dX1_sumFromFirst_14 ?_
      refine lv_lload_n hx hb dX1_sumFromFirst_17 rfl (lv_at hl 1 rfl) ?_
      refine lv_lmul hx hb dX1_sumFromFirst_18 ?_
      refine lv_aload_n hx hb dX1_sumFromFirst_19 rfl (lv_at hl 2 rfl) ?_
      refine va_get (D := D) (ci := 1) (v := .ref a) (C := RX1) (T := TX1) (N := 2) hx hb hts iX1 hown hK hP 0 rfl rfl 0 (by decide) k9 (fun _ h9 => h9) rfl dX1_sumFromFirst_20 ?_
      refine lv_iload_n hx hb dX1_sumFromFirst_23 rfl (lv_at hl 0 rfl) ?_
      refine h_iald hx hb hK hP 1 0 rfl rfl (by decide) (by omega) dX1_sumFromFirst_24 ?_
      refine lv_i2l hx hb dX1_sumFromFirst_25 rfl ?_
      refine lv_ladd hx hb dX1_sumFromFirst_26 ?_
      refine lv_lstore_n (lv' := [(1, .long ((31 * (s_up f i)) + ((f i).toInt64))), (3, .int (nI i)), (0, .ref h)]) hx hb dX1_sumFromFirst_27 rfl hl (by decide) rfl (fun ls hl => ?_)
      refine lv_iinc (v := nI (i + 1)) (lv' := [(3, .int (nI (i + 1))), (1, .long ((31 * (s_up f i)) + ((f i).toInt64))), (0, .ref h)]) hx hb dX1_sumFromFirst_28 hl (k := 1) rfl (nI_1 _) (by decide) rfl (fun ls hl => ?_)
      refine lv_goto (tgt := 6) hx hb dX1_sumFromFirst_31 (by decide) ?_
      exact ih _ (by omega) _ _ _ hP hD hS (lv_sub hl [0, 1, 2] rfl)
  exact loop c 0 (by omega) _ _ _ hP hD hS hl
set_option maxHeartbeats 4000000 in
set_option maxRecDepth 100000 in
theorem c_X1_sumFromLast (l : Launch) (D : va_G) (h a : Nat) (cI : ClassId) (f : Nat → Int32) (c : Nat) (hc : c ≤ 200) : mL l yX1_sumFromLast wsX1_sumFromLast ({ frames := 0, cells := 0, slots := 0, locals := 0 }) [.ref h] D [(cI, .int)] (wR h a cI f c) (wR h a cI f c) (s_dn f c 7) := by
  refine hL_body (cc := cX1_sumFromLast) (maxL := 4) (by decide) rfl (Nat.le_of_ble_eq_true rfl) ?_
  intro p e s m below meth cd A ls Q hat hA hP hK hD hS hl hend
  obtain ⟨hF, hr, hlocks, hv⟩ := id hat
  obtain ⟨hx, hb, hml, hown, hts⟩ := id hF
  have hown : s.vm.findClass RX1 = some m.cls := hown
  have hl : lv_has ls 4 [(0, .ref h)] := hl
  have hP : va_P D vwCl [(h, .inr (1, [.ref a, .int (nI c)])), (a, .inl (cI, 200, .inl f))] s.heap := hP
  have hD : va_D A [(h, .inr (1, [.ref a, .int (nI c)])), (a, .inl (cI, 200, .inl f))] := hD
  have iX1 : ∀ w ∈ wsX10, w ∈ wsX1_sumFromLast := by decide +kernel
  have k9 := hts (.fieldLink RX1 9 "HeapAndDeque$Row" "values" "[I") (by decide +kernel)
  have k15 := hts (.fieldLink RX1 15 "HeapAndDeque$Row" "count" "I") (by decide +kernel)
  refine lv_ldc2 hx hb hown (hts (.constantLong RX1 47 (7)) (by decide +kernel)) dX1_sumFromLast_0 ?_
  refine lv_lstore_n (lv' := [(1, .long 7), (0, .ref h)]) hx hb dX1_sumFromLast_3 rfl hl (by decide) rfl (fun ls hl => ?_)
  refine lv_aload_n hx hb dX1_sumFromLast_4 rfl (lv_at hl 1 rfl) ?_
  refine va_get (D := D) (ci := 1) (v := .int (nI c)) (C := RX1) (T := TX1) (N := 2) hx hb hts iX1 hown hK hP 0 rfl rfl 1 (by decide) k15 (fun _ h9 => h9) rfl dX1_sumFromLast_5 ?_
  refine lv_iconst (v := 1) hx hb dX1_sumFromLast_8 (by decide) ?_
  refine lv_isub hx hb dX1_sumFromLast_9 ?_
  refine lv_istore_n (lv' := [(3, .int (nI c - 1)), (1, .long 7), (0, .ref h)]) hx hb dX1_sumFromLast_10 rfl hl (by decide) rfl (fun ls hl => ?_)
  have loop : ∀ (n : Nat) (y : Int64), n ≤ c → s_dn f n y = s_dn f c 7 → ∀ (H : Heap) (locs : List Loc) (ls : Array Slot), va_P D vwCl [(h, .inr (1, [.ref a, .int (nI c)])), (a, .inl (cI, 200, .inl f))] H → va_D A [(h, .inr (1, [.ref a, .int (nI c)])), (a, .inl (cI, 200, .inl f))] → va_S A s.heap H locs → lv_has ls 4 [(3, .int (nI n - 1)), (1, .long y), (0, .ref h)] → W p l e ({ frames := 0, cells := 0, slots := 0, locals := 0 }) s m ([.ref h] : List Value).toArray below meth cd H locs 0 0 Q (F0 m 11 ls []) := by
    intro n
    induction n with
    | zero =>
      intro y hn e9 H locs ls hP hD hS hl
      refine lv_iload_n hx hb dX1_sumFromLast_11 rfl (lv_at hl 0 rfl) ?_
      refine lv_if_lt (tgt := 35) hx hb dX1_sumFromLast_12 (by decide) (fun _ => ?_) (fun hn => absurd (by decide +kernel) hn)
      refine lv_lload_n hx hb dX1_sumFromLast_35 rfl (lv_at hl 1 rfl) ?_
      exact hend _ _ _ _ _ hP hD hS (by rw [← e9]; rfl) dX1_sumFromLast_36
    | succ n ih =>
      intro y hn e9 H locs ls hP hD hS hl
      have hl : lv_has ls 4 [(3, .int (nI n)), (1, .long y), (0, .ref h)] := by rw [← nI_pred n]; exact hl
      refine lv_iload_n hx hb dX1_sumFromLast_11 rfl (lv_at hl 0 rfl) ?_
      refine lv_if_lt (tgt := 35) hx hb dX1_sumFromLast_12 (by decide) (fun ht_ => absurd ht_ (nI_pos (by omega))) (fun _ => ?_)
      refine lv_ldc2 hx hb hown (hts (.constantLong RX1 49 (31)) (by decide +kernel)) dX1_sumFromLast_15 ?_
      refine lv_lload_n hx hb dX1_sumFromLast_18 rfl (lv_at hl 1 rfl) ?_
      refine lv_lmul hx hb dX1_sumFromLast_19 ?_
      refine lv_aload_n hx hb dX1_sumFromLast_20 rfl (lv_at hl 2 rfl) ?_
      refine va_get (D := D) (ci := 1) (v := .ref a) (C := RX1) (T := TX1) (N := 2) hx hb hts iX1 hown hK hP 0 rfl rfl 0 (by decide) k9 (fun _ h9 => h9) rfl dX1_sumFromLast_21 ?_
      refine lv_iload_n hx hb dX1_sumFromLast_24 rfl (lv_at hl 0 rfl) ?_
      refine h_iald hx hb hK hP 1 0 rfl rfl (by decide) (by omega) dX1_sumFromLast_25 ?_
      refine lv_i2l hx hb dX1_sumFromLast_26 rfl ?_
      refine lv_ladd hx hb dX1_sumFromLast_27 ?_
      refine lv_lstore_n (lv' := [(1, .long ((31 * y) + ((f n).toInt64))), (3, .int (nI n)), (0, .ref h)]) hx hb dX1_sumFromLast_28 rfl hl (by decide) rfl (fun ls hl => ?_)
      refine lv_iinc (v := nI n - 1) (lv' := [(3, .int (nI n - 1)), (1, .long ((31 * y) + ((f n).toInt64))), (0, .ref h)]) hx hb dX1_sumFromLast_29 hl (k := 1) rfl (h_m1 _) (by decide) rfl (fun ls hl => ?_)
      refine lv_goto (tgt := 11) hx hb dX1_sumFromLast_32 (by decide) ?_
      exact ih _ (by omega) (by rw [← e9]; rfl) _ _ _ hP hD hS (lv_sub hl [0, 1, 2] rfl)
  exact loop c 7 (Nat.le_refl c) rfl _ _ _ hP hD hS hl
set_option maxHeartbeats 4000000 in
set_option maxRecDepth 100000 in
theorem c_X1_empty (l : Launch) (D : va_G) (h a : Nat) (cI : ClassId) (f : Nat → Int32) (c : Nat) : mI l yX1_empty wsX1_empty ({ frames := 0, cells := 0, slots := 0, locals := 0 }) [.ref h] D [(cI, .int)] (wR h a cI f c) (wR h a cI f 0) (nI c) := by
  refine hI_body (cc := cX1_empty) (maxL := 2) (by decide) rfl (Nat.le_of_ble_eq_true rfl) (rfl) ?_
  intro p e s m below meth cd A ls Q hat hA hP hK hD hS hl hend
  obtain ⟨hF, hr, hlocks, hv⟩ := id hat
  obtain ⟨hx, hb, hml, hown, hts⟩ := id hF
  have hown : s.vm.findClass RX1 = some m.cls := hown
  have hl : lv_has ls 2 [(0, .ref h)] := hl
  have hP : va_P D vwCl [(h, .inr (1, [.ref a, .int (nI c)])), (a, .inl (cI, 200, .inl f))] s.heap := hP
  have hD : va_D A [(h, .inr (1, [.ref a, .int (nI c)])), (a, .inl (cI, 200, .inl f))] := hD
  have iX1 : ∀ w ∈ wsX10, w ∈ wsX1_empty := by decide +kernel
  have k15 := hts (.fieldLink RX1 15 "HeapAndDeque$Row" "count" "I") (by decide +kernel)
  refine lv_aload_n hx hb dX1_empty_0 rfl (lv_at hl 0 rfl) ?_
  refine va_get (D := D) (ci := 1) (v := .int (nI c)) (C := RX1) (T := TX1) (N := 2) hx hb hts iX1 hown hK hP 0 rfl rfl 1 (by decide) k15 (fun _ h9 => h9) rfl dX1_empty_1 ?_
  refine lv_istore_n (lv' := [(1, .int (nI c)), (0, .ref h)]) hx hb dX1_empty_4 rfl hl (by decide) rfl (fun ls hl => ?_)
  refine lv_aload_n hx hb dX1_empty_5 rfl (lv_at hl 1 rfl) ?_
  refine lv_iconst (v := nI 0) hx hb dX1_empty_6 (by decide +kernel) ?_
  refine va_put (D := D) (ci := 1) (v := .int (nI 0)) (ty := .int) (C := RX1) (T := TX1) (N := 2) hx hb hts iX1 tyX1 tyX1_ok nmX1 hown hK hP hD hS 0 rfl rfl 1 (by decide) k15 (fun _ h9 => h9) rfl (by decide +kernel) rfl rfl (Nat.le_of_ble_eq_true rfl) dX1_empty_7 (fun H locs hP hD hS => ?_)
  have hP : va_P D vwCl [(h, .inr (1, [.ref a, .int (nI 0)])), (a, .inl (cI, 200, .inl f))] H := hP
  have hD : va_D A [(h, .inr (1, [.ref a, .int (nI 0)])), (a, .inl (cI, 200, .inl f))] := hD
  refine lv_iload_n hx hb dX1_empty_10 rfl (lv_at hl 0 rfl) ?_
  exact hend _ _ _ _ _ hP hD hS (rfl) dX1_empty_11
