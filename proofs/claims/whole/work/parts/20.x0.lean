/-! HeapAndDeque.LeastFirst -/
set_option maxHeartbeats 4000000 in
set_option maxRecDepth 100000 in
theorem c_X0_put (l : Launch) (D : va_G) (h a : Nat) (cL : ClassId) (f : Nat → Int64) (c : Nat) (v : Int64) (hc : c < 200) : mI l yX0_put wsX0_put ({ frames := 0, cells := 0, slots := 0, locals := 0 }) [.ref h, .long v] D [(cL, .long)] (wQ h a cL f c) (wQ h a cL (s_put v c f) (c + 1)) (nI (c + 1)) := by
  refine hI_body (cc := cX0_put) (maxL := 4) (by decide) rfl (Nat.le_of_ble_eq_true rfl) (rfl) ?_
  intro p e s m below meth cd A ls Q hat hA hP hK hD hS hl hend
  obtain ⟨hF, hr, hlocks, hv⟩ := id hat
  obtain ⟨hx, hb, hml, hown, hts⟩ := id hF
  have hown : s.vm.findClass RX0 = some m.cls := hown
  have hl : lv_has ls 4 [(0, .ref h), (1, .long v)] := hl
  have hP : va_P D vwCl [(h, .inr (0, [.ref a, .int (nI c)])), (a, .inl (cL, 200, .inr (.inl f)))] s.heap := hP
  have hD : va_D A [(h, .inr (0, [.ref a, .int (nI c)])), (a, .inl (cL, 200, .inr (.inl f)))] := hD
  have iX0 : ∀ w ∈ wsX00, w ∈ wsX0_put := by decide +kernel
  have k9 := hts (.fieldLink RX0 9 "HeapAndDeque$LeastFirst" "values" "[J") (by decide +kernel)
  have k15 := hts (.fieldLink RX0 15 "HeapAndDeque$LeastFirst" "count" "I") (by decide +kernel)
  refine lv_aload_n hx hb dX0_put_0 rfl (lv_at hl 0 rfl) ?_
  refine va_get (D := D) (ci := 0) (v := .int (nI c)) (C := RX0) (T := TX0) (N := 2) hx hb hts iX0 hown hK hP 0 rfl rfl 1 (by decide) k15 (fun _ h9 => h9) rfl dX0_put_1 ?_
  refine lv_aload_n hx hb dX0_put_4 rfl (lv_at hl 0 rfl) ?_
  refine va_get (D := D) (ci := 0) (v := .ref a) (C := RX0) (T := TX0) (N := 2) hx hb hts iX0 hown hK hP 0 rfl rfl 0 (by decide) k9 (fun _ h9 => h9) rfl dX0_put_5 ?_
  refine va_alen (v := nI 200) hx hb hK hP 1 0 rfl rfl rfl dX0_put_8 ?_
  refine lv_icmp_lt (tgt := 22) hx hb dX0_put_9 (by decide) (fun _ => ?_) (fun hn => absurd (nI_lt hc (by decide)) hn)
  refine lv_aload_n hx hb dX0_put_22 rfl (lv_at hl 0 rfl) ?_
  refine va_get (D := D) (ci := 0) (v := .int (nI c)) (C := RX0) (T := TX0) (N := 2) hx hb hts iX0 hown hK hP 0 rfl rfl 1 (by decide) k15 (fun _ h9 => h9) rfl dX0_put_23 ?_
  refine lv_istore_n (lv' := [(3, .int (nI c)), (0, .ref h), (1, .long v)]) hx hb dX0_put_26 rfl hl (by decide) rfl (fun ls hl => ?_)
  have loop : ∀ (n : Nat) (g : Nat → Int64), n ≤ c → s_put v n g = s_put v c f → ∀ (H : Heap) (locs : List Loc) (ls : Array Slot), va_P D vwCl [(h, .inr (0, [.ref a, .int (nI c)])), (a, .inl (cL, 200, .inr (.inl g)))] H → va_D A [(h, .inr (0, [.ref a, .int (nI c)])), (a, .inl (cL, 200, .inr (.inl g)))] → va_S A s.heap H locs → lv_has ls 4 [(3, .int (nI n)), (0, .ref h), (1, .long v)] → W p l e ({ frames := 0, cells := 0, slots := 0, locals := 0 }) s m ([.ref h, .long v] : List Value).toArray below meth cd H locs 0 0 Q (F0 m 27 ls []) := by
    intro n
    induction n with
    | zero =>
      intro g hn e9 H locs ls hP hD hS hl
      refine lv_iload_n hx hb dX0_put_27 rfl (lv_at hl 0 rfl) ?_
      refine lv_if_le (tgt := 64) hx hb dX0_put_28 (by decide) (fun _ => ?_) (fun hn => absurd (nI_le0) hn)
      refine lv_aload_n hx hb dX0_put_64 rfl (lv_at hl 1 rfl) ?_
      refine va_get (D := D) (ci := 0) (v := .ref a) (C := RX0) (T := TX0) (N := 2) hx hb hts iX0 hown hK hP 0 rfl rfl 0 (by decide) k9 (fun _ h9 => h9) rfl dX0_put_65 ?_
      refine lv_iload_n hx hb dX0_put_68 rfl (lv_at hl 0 rfl) ?_
      refine lv_lload_n hx hb dX0_put_69 rfl (lv_at hl 2 rfl) ?_
      refine h_last hx hb hK hP hD hS 1 0 rfl rfl (by decide) (by omega) dX0_put_70 (fun H locs hP hD hS => ?_)
      have hP : va_P D vwCl [(h, .inr (0, [.ref a, .int (nI c)])), (a, .inl (cL, 200, .inr (.inl (vp_updL g 0 v))))] H := hP
      have hD : va_D A [(h, .inr (0, [.ref a, .int (nI c)])), (a, .inl (cL, 200, .inr (.inl (vp_updL g 0 v))))] := hD
      refine lv_aload_n hx hb dX0_put_71 rfl (lv_at hl 1 rfl) ?_
      refine lv_dup hx hb dX0_put_72 rfl ?_
      refine va_get (D := D) (ci := 0) (v := .int (nI c)) (C := RX0) (T := TX0) (N := 2) hx hb hts iX0 hown hK hP 0 rfl rfl 1 (by decide) k15 (fun _ h9 => h9) rfl dX0_put_73 ?_
      refine lv_iconst (v := 1) hx hb dX0_put_76 (by decide) ?_
      refine lv_iadd hx hb dX0_put_77 ?_
      refine hw_i (y := nI (c + 1)) (nI_1 _) ?_
      refine va_put (D := D) (ci := 0) (v := .int (nI (c + 1))) (ty := .int) (C := RX0) (T := TX0) (N := 2) hx hb hts iX0 tyX0 tyX0_ok nmX0 hown hK hP hD hS 0 rfl rfl 1 (by decide) k15 (fun _ h9 => h9) rfl (by decide +kernel) rfl rfl (Nat.le_of_ble_eq_true rfl) dX0_put_78 (fun H locs hP hD hS => ?_)
      have hP : va_P D vwCl [(h, .inr (0, [.ref a, .int (nI (c + 1))])), (a, .inl (cL, 200, .inr (.inl (vp_updL g 0 v))))] H := hP
      have hD : va_D A [(h, .inr (0, [.ref a, .int (nI (c + 1))])), (a, .inl (cL, 200, .inr (.inl (vp_updL g 0 v))))] := hD
      refine lv_aload_n hx hb dX0_put_81 rfl (lv_at hl 1 rfl) ?_
      refine va_get (D := D) (ci := 0) (v := .int (nI (c + 1))) (C := RX0) (T := TX0) (N := 2) hx hb hts iX0 hown hK hP 0 rfl rfl 1 (by decide) k15 (fun _ h9 => h9) rfl dX0_put_82 ?_
      exact hend _ _ _ _ _ (by rw [← e9]; exact hP) (by rw [← e9]; exact hD) hS (rfl) dX0_put_85
    | succ n ih =>
      intro g hn e9 H locs ls hP hD hS hl
      refine lv_iload_n hx hb dX0_put_27 rfl (lv_at hl 0 rfl) ?_
      refine lv_if_le (tgt := 64) hx hb dX0_put_28 (by decide) (fun ht_ => absurd ht_ (nI_nle (Nat.succ_pos n) (by omega))) (fun _ => ?_)
      refine lv_aload_n hx hb dX0_put_31 rfl (lv_at hl 1 rfl) ?_
      refine va_get (D := D) (ci := 0) (v := .ref a) (C := RX0) (T := TX0) (N := 2) hx hb hts iX0 hown hK hP 0 rfl rfl 0 (by decide) k9 (fun _ h9 => h9) rfl dX0_put_32 ?_
      refine lv_iload_n hx hb dX0_put_35 rfl (lv_at hl 0 rfl) ?_
      refine lv_iconst (v := 1) hx hb dX0_put_36 (by decide) ?_
      refine lv_isub hx hb dX0_put_37 ?_
      refine hw_i (y := nI n) (nI_pred _) ?_
      refine h_lald hx hb hK hP 1 0 rfl rfl (by decide) (by omega) dX0_put_38 ?_
      refine lv_lload_n hx hb dX0_put_39 rfl (lv_at hl 2 rfl) ?_
      refine W.lcmp hx hb dX0_put_40 ?_
      refine lv_if_ge (tgt := 64) hx hb dX0_put_41 (by decide) (fun c9 => ?_) (fun c9 => ?_)
      · have hlt : ¬ g n < v := hl_ge.mp c9
        have e8 : s_put v c f = vp_updL g (n + 1) v := by rw [← e9, s_put, if_neg hlt]
        refine lv_aload_n hx hb dX0_put_64 rfl (lv_at hl 1 rfl) ?_
        refine va_get (D := D) (ci := 0) (v := .ref a) (C := RX0) (T := TX0) (N := 2) hx hb hts iX0 hown hK hP 0 rfl rfl 0 (by decide) k9 (fun _ h9 => h9) rfl dX0_put_65 ?_
        refine lv_iload_n hx hb dX0_put_68 rfl (lv_at hl 0 rfl) ?_
        refine lv_lload_n hx hb dX0_put_69 rfl (lv_at hl 2 rfl) ?_
        refine h_last hx hb hK hP hD hS 1 0 rfl rfl (by decide) (by omega) dX0_put_70 (fun H locs hP hD hS => ?_)
        have hP : va_P D vwCl [(h, .inr (0, [.ref a, .int (nI c)])), (a, .inl (cL, 200, .inr (.inl (vp_updL g (n + 1) v))))] H := hP
        have hD : va_D A [(h, .inr (0, [.ref a, .int (nI c)])), (a, .inl (cL, 200, .inr (.inl (vp_updL g (n + 1) v))))] := hD
        refine lv_aload_n hx hb dX0_put_71 rfl (lv_at hl 1 rfl) ?_
        refine lv_dup hx hb dX0_put_72 rfl ?_
        refine va_get (D := D) (ci := 0) (v := .int (nI c)) (C := RX0) (T := TX0) (N := 2) hx hb hts iX0 hown hK hP 0 rfl rfl 1 (by decide) k15 (fun _ h9 => h9) rfl dX0_put_73 ?_
        refine lv_iconst (v := 1) hx hb dX0_put_76 (by decide) ?_
        refine lv_iadd hx hb dX0_put_77 ?_
        refine hw_i (y := nI (c + 1)) (nI_1 _) ?_
        refine va_put (D := D) (ci := 0) (v := .int (nI (c + 1))) (ty := .int) (C := RX0) (T := TX0) (N := 2) hx hb hts iX0 tyX0 tyX0_ok nmX0 hown hK hP hD hS 0 rfl rfl 1 (by decide) k15 (fun _ h9 => h9) rfl (by decide +kernel) rfl rfl (Nat.le_of_ble_eq_true rfl) dX0_put_78 (fun H locs hP hD hS => ?_)
        have hP : va_P D vwCl [(h, .inr (0, [.ref a, .int (nI (c + 1))])), (a, .inl (cL, 200, .inr (.inl (vp_updL g (n + 1) v))))] H := hP
        have hD : va_D A [(h, .inr (0, [.ref a, .int (nI (c + 1))])), (a, .inl (cL, 200, .inr (.inl (vp_updL g (n + 1) v))))] := hD
        refine lv_aload_n hx hb dX0_put_81 rfl (lv_at hl 1 rfl) ?_
        refine va_get (D := D) (ci := 0) (v := .int (nI (c + 1))) (C := RX0) (T := TX0) (N := 2) hx hb hts iX0 hown hK hP 0 rfl rfl 1 (by decide) k15 (fun _ h9 => h9) rfl dX0_put_82 ?_
        exact hend _ _ _ _ _ (by rw [e8]; exact hP) (by rw [e8]; exact hD) hS (rfl) dX0_put_85
      · have hlt : g n < v := Decidable.not_not.mp (fun h => c9 (hl_ge.mpr h))
        refine lv_aload_n hx hb dX0_put_44 rfl (lv_at hl 1 rfl) ?_
        refine va_get (D := D) (ci := 0) (v := .ref a) (C := RX0) (T := TX0) (N := 2) hx hb hts iX0 hown hK hP 0 rfl rfl 0 (by decide) k9 (fun _ h9 => h9) rfl dX0_put_45 ?_
        refine lv_iload_n hx hb dX0_put_48 rfl (lv_at hl 0 rfl) ?_
        refine lv_aload_n hx hb dX0_put_49 rfl (lv_at hl 1 rfl) ?_
        refine va_get (D := D) (ci := 0) (v := .ref a) (C := RX0) (T := TX0) (N := 2) hx hb hts iX0 hown hK hP 0 rfl rfl 0 (by decide) k9 (fun _ h9 => h9) rfl dX0_put_50 ?_
        refine lv_iload_n hx hb dX0_put_53 rfl (lv_at hl 0 rfl) ?_
        refine lv_iconst (v := 1) hx hb dX0_put_54 (by decide) ?_
        refine lv_isub hx hb dX0_put_55 ?_
        refine hw_i (y := nI n) (nI_pred _) ?_
        refine h_lald hx hb hK hP 1 0 rfl rfl (by decide) (by omega) dX0_put_56 ?_
        refine h_last hx hb hK hP hD hS 1 0 rfl rfl (by decide) (by omega) dX0_put_57 (fun H locs hP hD hS => ?_)
        have hP : va_P D vwCl [(h, .inr (0, [.ref a, .int (nI c)])), (a, .inl (cL, 200, .inr (.inl (vp_updL g (n + 1) (g n)))))] H := hP
        have hD : va_D A [(h, .inr (0, [.ref a, .int (nI c)])), (a, .inl (cL, 200, .inr (.inl (vp_updL g (n + 1) (g n)))))] := hD
        refine lv_iinc (v := nI n) (lv' := [(3, .int (nI n)), (0, .ref h), (1, .long v)]) hx hb dX0_put_58 hl (k := 0) rfl (pk_m1 _) (by decide) rfl (fun ls hl => ?_)
        refine lv_goto (tgt := 27) hx hb dX0_put_61 (by decide) ?_
        exact ih _ (by omega) (by rw [← e9, s_put, if_pos hlt]) _ _ _ hP hD hS (lv_sub hl [0, 1, 2] rfl)
  exact loop c f (Nat.le_refl c) rfl _ _ _ hP hD hS hl
set_option maxHeartbeats 4000000 in
set_option maxRecDepth 100000 in
theorem c_X0_put_x (l : Launch) (hfl : l.stackTraces = false) (D : va_G) (h a : Nat) (cL : ClassId) (f : Nat → Int64) (v : Int64) : mX l yX0_put wsX0_put ({ frames := 6, cells := 1, slots := 6, locals := 84 }) [.ref h, .long v] D [(cL, .long)] (wQ h a cL f 200) "java/lang/IllegalStateException" := by
  refine hX_body (cc := cX0_put) (maxL := 4) (by decide) rfl (Nat.le_of_ble_eq_true rfl) ?_
  intro p e s m below meth cd ls hat hnt hZ hP hK hD hS hl
  obtain ⟨hF, hr, hlocks, hv⟩ := id hat
  obtain ⟨hx, hb, hml, hown, hts⟩ := id hF
  have hown : s.vm.findClass RX0 = some m.cls := hown
  have hl : lv_has ls 4 [(0, .ref h), (1, .long v)] := hl
  have hP : va_P D vwCl [(h, .inr (0, [.ref a, .int (nI 200)])), (a, .inl (cL, 200, .inr (.inl f)))] s.heap := hP
  have hD : va_D (fun _ => True) [(h, .inr (0, [.ref a, .int (nI 200)])), (a, .inl (cL, 200, .inr (.inl f)))] := hD
  have iX0 : ∀ w ∈ wsX00, w ∈ wsX0_put := by decide +kernel
  have k9 := hts (.fieldLink RX0 9 "HeapAndDeque$LeastFirst" "values" "[J") (by decide +kernel)
  have k15 := hts (.fieldLink RX0 15 "HeapAndDeque$LeastFirst" "count" "I") (by decide +kernel)
  refine lv_aload_n hx hb dX0_put_0 rfl (lv_at hl 0 rfl) ?_
  refine va_get (D := D) (ci := 0) (v := .int (nI 200)) (C := RX0) (T := TX0) (N := 2) hx hb hts iX0 hown hK hP 0 rfl rfl 1 (by decide) k15 (fun _ h9 => h9) rfl dX0_put_1 ?_
  refine lv_aload_n hx hb dX0_put_4 rfl (lv_at hl 0 rfl) ?_
  refine va_get (D := D) (ci := 0) (v := .ref a) (C := RX0) (T := TX0) (N := 2) hx hb hts iX0 hown hK hP 0 rfl rfl 0 (by decide) k9 (fun _ h9 => h9) rfl dX0_put_5 ?_
  refine va_alen (v := nI 200) hx hb hK hP 1 0 rfl rfl rfl dX0_put_8 ?_
  refine lv_icmp_lt (tgt := 22) hx hb dX0_put_9 (by decide) (fun ht_ => absurd ht_ (by decide +kernel)) (fun _ => ?_)
  exact hX_throw (E := "java/lang/IllegalStateException") (text := "the queue holds 200") (names := ["java/lang/RuntimeException", "java/lang/Exception"]) (ik := 19) (is := 21) (ic := 23) hx hb hfl hown (by decide +kernel) (by decide +kernel) hts (by decide +kernel) hv.1 (by decide +kernel) hv (by decide +kernel) hZ.2.2.1 hZ hS (hl.1.trans hml.symm) dX0_put_12 dX0_put_15 dX0_put_16 dX0_put_18 dX0_put_21 hnt ⟨Nat.le_of_ble_eq_true rfl, Nat.le_of_ble_eq_true rfl, Nat.le_of_ble_eq_true rfl, Nat.le_of_ble_eq_true rfl⟩ hlocks
set_option maxHeartbeats 4000000 in
set_option maxRecDepth 100000 in
theorem c_X0_least (l : Launch) (D : va_G) (h a : Nat) (cL : ClassId) (f : Nat → Int64) (c : Nat) (h1 : 1 ≤ c) (hc : c ≤ 200) : mL l yX0_least wsX0_least ({ frames := 0, cells := 0, slots := 0, locals := 0 }) [.ref h] D [(cL, .long)] (wQ h a cL f c) (wQ h a cL f c) (f (c - 1)) := by
  refine hL_body (cc := cX0_least) (maxL := 1) (by decide) rfl (Nat.le_of_ble_eq_true rfl) ?_
  intro p e s m below meth cd A ls Q hat hA hP hK hD hS hl hend
  obtain ⟨hF, hr, hlocks, hv⟩ := id hat
  obtain ⟨hx, hb, hml, hown, hts⟩ := id hF
  have hown : s.vm.findClass RX0 = some m.cls := hown
  have hl : lv_has ls 1 [(0, .ref h)] := hl
  have hP : va_P D vwCl [(h, .inr (0, [.ref a, .int (nI c)])), (a, .inl (cL, 200, .inr (.inl f)))] s.heap := hP
  have hD : va_D A [(h, .inr (0, [.ref a, .int (nI c)])), (a, .inl (cL, 200, .inr (.inl f)))] := hD
  have iX0 : ∀ w ∈ wsX00, w ∈ wsX0_least := by decide +kernel
  have k9 := hts (.fieldLink RX0 9 "HeapAndDeque$LeastFirst" "values" "[J") (by decide +kernel)
  have k15 := hts (.fieldLink RX0 15 "HeapAndDeque$LeastFirst" "count" "I") (by decide +kernel)
  refine lv_aload_n hx hb dX0_least_0 rfl (lv_at hl 0 rfl) ?_
  refine va_get (D := D) (ci := 0) (v := .int (nI c)) (C := RX0) (T := TX0) (N := 2) hx hb hts iX0 hown hK hP 0 rfl rfl 1 (by decide) k15 (fun _ h9 => h9) rfl dX0_least_1 ?_
  refine lv_if_gt (tgt := 17) hx hb dX0_least_4 (by decide) (fun _ => ?_) (fun hn => absurd (nI_lt (a := 0) h1 (by omega)) hn)
  refine lv_aload_n hx hb dX0_least_17 rfl (lv_at hl 0 rfl) ?_
  refine va_get (D := D) (ci := 0) (v := .ref a) (C := RX0) (T := TX0) (N := 2) hx hb hts iX0 hown hK hP 0 rfl rfl 0 (by decide) k9 (fun _ h9 => h9) rfl dX0_least_18 ?_
  refine lv_aload_n hx hb dX0_least_21 rfl (lv_at hl 0 rfl) ?_
  refine va_get (D := D) (ci := 0) (v := .int (nI c)) (C := RX0) (T := TX0) (N := 2) hx hb hts iX0 hown hK hP 0 rfl rfl 1 (by decide) k15 (fun _ h9 => h9) rfl dX0_least_22 ?_
  refine lv_iconst (v := 1) hx hb dX0_least_25 (by decide) ?_
  refine lv_isub hx hb dX0_least_26 ?_
  refine hw_i (y := nI (c - 1)) (h_sub1 (by omega)) ?_
  refine h_lald hx hb hK hP 1 0 rfl rfl (by decide) (by omega) dX0_least_27 ?_
  exact hend _ _ _ _ _ hP hD hS (rfl) dX0_least_28
set_option maxHeartbeats 4000000 in
set_option maxRecDepth 100000 in
theorem c_X0_least_x (l : Launch) (hfl : l.stackTraces = false) (D : va_G) (h a : Nat) (cL : ClassId) (f : Nat → Int64) : mX l yX0_least wsX0_least ({ frames := 6, cells := 1, slots := 6, locals := 84 }) [.ref h] D [(cL, .long)] (wQ h a cL f 0) hNS := by
  refine hX_body (cc := cX0_least) (maxL := 1) (by decide) rfl (Nat.le_of_ble_eq_true rfl) ?_
  intro p e s m below meth cd ls hat hnt hZ hP hK hD hS hl
  obtain ⟨hF, hr, hlocks, hv⟩ := id hat
  obtain ⟨hx, hb, hml, hown, hts⟩ := id hF
  have hown : s.vm.findClass RX0 = some m.cls := hown
  have hl : lv_has ls 1 [(0, .ref h)] := hl
  have hP : va_P D vwCl [(h, .inr (0, [.ref a, .int (nI 0)])), (a, .inl (cL, 200, .inr (.inl f)))] s.heap := hP
  have hD : va_D (fun _ => True) [(h, .inr (0, [.ref a, .int (nI 0)])), (a, .inl (cL, 200, .inr (.inl f)))] := hD
  have iX0 : ∀ w ∈ wsX00, w ∈ wsX0_least := by decide +kernel
  have k9 := hts (.fieldLink RX0 9 "HeapAndDeque$LeastFirst" "values" "[J") (by decide +kernel)
  have k15 := hts (.fieldLink RX0 15 "HeapAndDeque$LeastFirst" "count" "I") (by decide +kernel)
  refine lv_aload_n hx hb dX0_least_0 rfl (lv_at hl 0 rfl) ?_
  refine va_get (D := D) (ci := 0) (v := .int (nI 0)) (C := RX0) (T := TX0) (N := 2) hx hb hts iX0 hown hK hP 0 rfl rfl 1 (by decide) k15 (fun _ h9 => h9) rfl dX0_least_1 ?_
  refine lv_if_gt (tgt := 17) hx hb dX0_least_4 (by decide) (fun ht_ => absurd ht_ (by decide +kernel)) (fun _ => ?_)
  exact hn_throw (text := "the queue holds none") (ik := 26) (is := 28) (ic := 30) hx hb hfl hown hts (by decide +kernel) hv.2.1 (by decide +kernel) hv (by decide +kernel) hZ.2.2.2.1 hZ hS (hl.1.trans hml.symm) dX0_least_7 dX0_least_10 dX0_least_11 dX0_least_13 dX0_least_16 hnt ⟨Nat.le_of_ble_eq_true rfl, Nat.le_of_ble_eq_true rfl, Nat.le_of_ble_eq_true rfl, Nat.le_of_ble_eq_true rfl⟩ hlocks
set_option maxHeartbeats 4000000 in
set_option maxRecDepth 100000 in
theorem c_X0_takeLeast (l : Launch) (D : va_G) (h a : Nat) (cL : ClassId) (f : Nat → Int64) (c : Nat) (h1 : 1 ≤ c) (hc : c ≤ 200) : mL l yX0_takeLeast wsX0_takeLeast ({ frames := 1, cells := 0, slots := 0, locals := 20 }) [.ref h] D [(cL, .long)] (wQ h a cL f c) (wQ h a cL f (c - 1)) (f (c - 1)) := by
  refine hL_body (cc := cX0_takeLeast) (maxL := 3) (by decide) rfl (Nat.le_of_ble_eq_true rfl) ?_
  intro p e s m below meth cd A ls Q hat hA hP hK hD hS hl hend
  obtain ⟨hF, hr, hlocks, hv⟩ := id hat
  obtain ⟨hx, hb, hml, hown, hts⟩ := id hF
  have hown : s.vm.findClass RX0 = some m.cls := hown
  have hl : lv_has ls 3 [(0, .ref h)] := hl
  have hP : va_P D vwCl [(h, .inr (0, [.ref a, .int (nI c)])), (a, .inl (cL, 200, .inr (.inl f)))] s.heap := hP
  have hD : va_D A [(h, .inr (0, [.ref a, .int (nI c)])), (a, .inl (cL, 200, .inr (.inl f)))] := hD
  have iX0 : ∀ w ∈ wsX00, w ∈ wsX0_takeLeast := by decide +kernel
  have k15 := hts (.fieldLink RX0 15 "HeapAndDeque$LeastFirst" "count" "I") (by decide +kernel)
  refine lv_aload_n hx hb dX0_takeLeast_0 rfl (lv_at hl 0 rfl) ?_
  refine hc_lV (As := []) (rest := []) (wc := [(h, .inr (0, [.ref a, .int (nI c)])), (a, .inl (cL, 200, .inr (.inl f)))]) (wr := []) (w1 := [(h, .inr (0, [.ref a, .int (nI c)])), (a, .inl (cL, 200, .inr (.inl f)))]) (w' := [(h, .inr (0, [.ref a, .int (nI c)])), (a, .inl (cL, 200, .inr (.inl f)))]) hF (c_X0_least l D h a cL f c h1 hc) (cwV 0 hts gX0_takeLeast_X0_least rfl rfl rfl (by decide +kernel) ⟨Nat.le_of_ble_eq_true rfl, Nat.le_of_ble_eq_true rfl⟩) hP hK hD hS hA hv [0, 1] [] [0, 1] [0] ⟨rfl, rfl, rfl, rfl, ⟨by decide, by decide, by decide⟩, by decide⟩ 0 0 rfl rfl rfl rfl hl.1 rfl (Nat.le_of_ble_eq_true rfl) dX0_takeLeast_1 ⟨Nat.zero_le _, Nat.zero_le _⟩ (fun H locs hP hD hS => ?_)
  refine lv_lstore_n (lv' := [(1, .long (f (c - 1))), (0, .ref h)]) hx hb dX0_takeLeast_4 rfl hl (by decide) rfl (fun ls hl => ?_)
  refine lv_aload_n hx hb dX0_takeLeast_5 rfl (lv_at hl 1 rfl) ?_
  refine lv_dup hx hb dX0_takeLeast_6 rfl ?_
  refine va_get (D := D) (ci := 0) (v := .int (nI c)) (C := RX0) (T := TX0) (N := 2) hx hb hts iX0 hown hK hP 0 rfl rfl 1 (by decide) k15 (fun _ h9 => h9) rfl dX0_takeLeast_7 ?_
  refine lv_iconst (v := 1) hx hb dX0_takeLeast_10 (by decide) ?_
  refine lv_isub hx hb dX0_takeLeast_11 ?_
  refine hw_i (y := nI (c - 1)) (h_sub1 (by omega)) ?_
  refine va_put (D := D) (ci := 0) (v := .int (nI (c - 1))) (ty := .int) (C := RX0) (T := TX0) (N := 2) hx hb hts iX0 tyX0 tyX0_ok nmX0 hown hK hP hD hS 0 rfl rfl 1 (by decide) k15 (fun _ h9 => h9) rfl (by decide +kernel) rfl rfl (Nat.le_of_ble_eq_true rfl) dX0_takeLeast_12 (fun H locs hP hD hS => ?_)
  have hP : va_P D vwCl [(h, .inr (0, [.ref a, .int (nI (c - 1))])), (a, .inl (cL, 200, .inr (.inl f)))] H := hP
  have hD : va_D A [(h, .inr (0, [.ref a, .int (nI (c - 1))])), (a, .inl (cL, 200, .inr (.inl f)))] := hD
  refine lv_lload_n hx hb dX0_takeLeast_15 rfl (lv_at hl 0 rfl) ?_
  exact hend _ _ _ _ _ hP hD hS (rfl) dX0_takeLeast_16
set_option maxHeartbeats 4000000 in
set_option maxRecDepth 100000 in
theorem c_X0_takeLeast_x (l : Launch) (hfl : l.stackTraces = false) (D : va_G) (h a : Nat) (cL : ClassId) (f : Nat → Int64) : mX l yX0_takeLeast wsX0_takeLeast ({ frames := 7, cells := 1, slots := 6, locals := 104 }) [.ref h] D [(cL, .long)] (wQ h a cL f 0) hNS := by
  refine hX_body (cc := cX0_takeLeast) (maxL := 3) (by decide) rfl (Nat.le_of_ble_eq_true rfl) ?_
  intro p e s m below meth cd ls hat hnt hZ hP hK hD hS hl
  obtain ⟨hF, hr, hlocks, hv⟩ := id hat
  obtain ⟨hx, hb, hml, hown, hts⟩ := id hF
  have hown : s.vm.findClass RX0 = some m.cls := hown
  have hl : lv_has ls 3 [(0, .ref h)] := hl
  have hP : va_P D vwCl [(h, .inr (0, [.ref a, .int (nI 0)])), (a, .inl (cL, 200, .inr (.inl f)))] s.heap := hP
  have hD : va_D (fun _ => True) [(h, .inr (0, [.ref a, .int (nI 0)])), (a, .inl (cL, 200, .inr (.inl f)))] := hD
  have iX0 : ∀ w ∈ wsX00, w ∈ wsX0_takeLeast := by decide +kernel
  have k15 := hts (.fieldLink RX0 15 "HeapAndDeque$LeastFirst" "count" "I") (by decide +kernel)
  refine lv_aload_n hx hb dX0_takeLeast_0 rfl (lv_at hl 0 rfl) ?_
  exact hX_thruV (As := []) (rest := []) (wc := [(h, .inr (0, [.ref a, .int (nI 0)])), (a, .inl (cL, 200, .inr (.inl f)))]) hF (c_X0_least_x l hfl D h a cL f) (cwV 0 hts gX0_takeLeast_X0_least rfl rfl rfl (by decide +kernel) ⟨Nat.le_of_ble_eq_true rfl, Nat.le_of_ble_eq_true rfl⟩) hP hK hD hS hv hZ [0, 1] [0] rfl (by decide) rfl 0 0 rfl rfl rfl rfl hl.1 rfl (Nat.le_of_ble_eq_true rfl) dX0_takeLeast_1 ⟨Nat.le_of_ble_eq_true rfl, Nat.le_of_ble_eq_true rfl⟩ hnt hlocks
set_option maxHeartbeats 4000000 in
set_option maxRecDepth 100000 in
theorem c_X0_placeOf (l : Launch) (D : va_G) (h a : Nat) (cL : ClassId) (f : Nat → Int64) (c : Nat) (v : Int64) (hc : c ≤ 200) : mI l yX0_placeOf wsX0_placeOf ({ frames := 0, cells := 0, slots := 0, locals := 0 }) [.ref h, .long v] D [(cL, .long)] (wQ h a cL f c) (wQ h a cL f c) (s_o (s_fL f v c 0)) := by
  refine hI_body (cc := cX0_placeOf) (maxL := 4) (by decide) rfl (Nat.le_of_ble_eq_true rfl) (rfl) ?_
  intro p e s m below meth cd A ls Q hat hA hP hK hD hS hl hend
  obtain ⟨hF, hr, hlocks, hv⟩ := id hat
  obtain ⟨hx, hb, hml, hown, hts⟩ := id hF
  have hown : s.vm.findClass RX0 = some m.cls := hown
  have hl : lv_has ls 4 [(0, .ref h), (1, .long v)] := hl
  have hP : va_P D vwCl [(h, .inr (0, [.ref a, .int (nI c)])), (a, .inl (cL, 200, .inr (.inl f)))] s.heap := hP
  have hD : va_D A [(h, .inr (0, [.ref a, .int (nI c)])), (a, .inl (cL, 200, .inr (.inl f)))] := hD
  have iX0 : ∀ w ∈ wsX00, w ∈ wsX0_placeOf := by decide +kernel
  have k9 := hts (.fieldLink RX0 9 "HeapAndDeque$LeastFirst" "values" "[J") (by decide +kernel)
  have k15 := hts (.fieldLink RX0 15 "HeapAndDeque$LeastFirst" "count" "I") (by decide +kernel)
  refine lv_iconst (v := nI 0) hx hb dX0_placeOf_0 (by decide +kernel) ?_
  refine lv_istore_n (lv' := [(3, .int (nI 0)), (0, .ref h), (1, .long v)]) hx hb dX0_placeOf_1 rfl hl (by decide) rfl (fun ls hl => ?_)
  have loop : ∀ (n i : Nat), i + n = c → s_fL f v n i = s_fL f v c 0 → ∀ (H : Heap) (locs : List Loc) (ls : Array Slot), va_P D vwCl [(h, .inr (0, [.ref a, .int (nI c)])), (a, .inl (cL, 200, .inr (.inl f)))] H → va_D A [(h, .inr (0, [.ref a, .int (nI c)])), (a, .inl (cL, 200, .inr (.inl f)))] → va_S A s.heap H locs → lv_has ls 4 [(3, .int (nI i)), (0, .ref h), (1, .long v)] → W p l e ({ frames := 0, cells := 0, slots := 0, locals := 0 }) s m ([.ref h, .long v] : List Value).toArray below meth cd H locs 0 0 Q (F0 m 2 ls []) := by
    intro n
    induction n with
    | zero =>
      intro i hn e9 H locs ls hP hD hS hl
      refine lv_iload_n hx hb dX0_placeOf_2 rfl (lv_at hl 0 rfl) ?_
      refine lv_aload_n hx hb dX0_placeOf_3 rfl (lv_at hl 1 rfl) ?_
      refine va_get (D := D) (ci := 0) (v := .int (nI c)) (C := RX0) (T := TX0) (N := 2) hx hb hts iX0 hown hK hP 0 rfl rfl 1 (by decide) k15 (fun _ h9 => h9) rfl dX0_placeOf_4 ?_
      refine lv_icmp_ge (tgt := 29) hx hb dX0_placeOf_7 (by decide) (fun _ => ?_) (fun hn => absurd (nI_le (by omega) (by omega)) hn)
      refine lv_iconst (v := (-1)) hx hb dX0_placeOf_29 (by decide) ?_
      exact hend _ _ _ _ _ hP hD hS (by rw [← e9]; rfl) dX0_placeOf_30
    | succ n ih =>
      intro i hn e9 H locs ls hP hD hS hl
      refine lv_iload_n hx hb dX0_placeOf_2 rfl (lv_at hl 0 rfl) ?_
      refine lv_aload_n hx hb dX0_placeOf_3 rfl (lv_at hl 1 rfl) ?_
      refine va_get (D := D) (ci := 0) (v := .int (nI c)) (C := RX0) (T := TX0) (N := 2) hx hb hts iX0 hown hK hP 0 rfl rfl 1 (by decide) k15 (fun _ h9 => h9) rfl dX0_placeOf_4 ?_
      refine lv_icmp_ge (tgt := 29) hx hb dX0_placeOf_7 (by decide) (fun ht_ => absurd ht_ (nI_ge (by omega) (by omega))) (fun _ => ?_)
      refine lv_aload_n hx hb dX0_placeOf_10 rfl (lv_at hl 1 rfl) ?_
      refine va_get (D := D) (ci := 0) (v := .ref a) (C := RX0) (T := TX0) (N := 2) hx hb hts iX0 hown hK hP 0 rfl rfl 0 (by decide) k9 (fun _ h9 => h9) rfl dX0_placeOf_11 ?_
      refine lv_iload_n hx hb dX0_placeOf_14 rfl (lv_at hl 0 rfl) ?_
      refine h_lald hx hb hK hP 1 0 rfl rfl (by decide) (by omega) dX0_placeOf_15 ?_
      refine lv_lload_n hx hb dX0_placeOf_16 rfl (lv_at hl 2 rfl) ?_
      refine W.lcmp hx hb dX0_placeOf_17 ?_
      refine lv_if_ne (tgt := 23) hx hb dX0_placeOf_18 (by decide) (fun c9 => ?_) (fun c9 => ?_)
      · have hne : ¬ f i = v := fun h => c9 (hl_eq.mpr h)
        refine lv_iinc (v := nI (i + 1)) (lv' := [(3, .int (nI (i + 1))), (0, .ref h), (1, .long v)]) hx hb dX0_placeOf_23 hl (k := 0) rfl (nI_1 _) (by decide) rfl (fun ls hl => ?_)
        refine lv_goto (tgt := 2) hx hb dX0_placeOf_26 (by decide) ?_
        exact ih _ (by omega) (by rw [← e9, s_fL, if_neg hne]) _ _ _ hP hD hS (lv_sub hl [0, 1, 2] rfl)
      · have heq : f i = v := hl_eq.mp c9
        refine lv_iload_n hx hb dX0_placeOf_21 rfl (lv_at hl 0 rfl) ?_
        exact hend _ _ _ _ _ hP hD hS (by rw [← e9, s_fL, if_pos heq]; rfl) dX0_placeOf_22
  exact loop c 0 (by omega) rfl _ _ _ hP hD hS hl
set_option maxHeartbeats 4000000 in
set_option maxRecDepth 100000 in
theorem c_X0_takeLike_n (l : Launch) (D : va_G) (h a : Nat) (cL : ClassId) (f : Nat → Int64) (c : Nat) (v : Int64) (hc : c ≤ 200) (hf : s_fL f v c 0 = none) : mI l yX0_takeLike wsX0_takeLike ({ frames := 1, cells := 0, slots := 0, locals := 23 }) [.ref h, .long v] D [(cL, .long)] (wQ h a cL f c) (wQ h a cL f c) (0) := by
  refine hI_body (cc := cX0_takeLike) (maxL := 5) (by decide) rfl (Nat.le_of_ble_eq_true rfl) (by decide +kernel) ?_
  intro p e s m below meth cd A ls Q hat hA hP hK hD hS hl hend
  obtain ⟨hF, hr, hlocks, hv⟩ := id hat
  obtain ⟨hx, hb, hml, hown, hts⟩ := id hF
  have hown : s.vm.findClass RX0 = some m.cls := hown
  have hl : lv_has ls 5 [(0, .ref h), (1, .long v)] := hl
  have hP : va_P D vwCl [(h, .inr (0, [.ref a, .int (nI c)])), (a, .inl (cL, 200, .inr (.inl f)))] s.heap := hP
  have hD : va_D A [(h, .inr (0, [.ref a, .int (nI c)])), (a, .inl (cL, 200, .inr (.inl f)))] := hD
  have iX0 : ∀ w ∈ wsX00, w ∈ wsX0_takeLike := by decide +kernel
  have k9 := hts (.fieldLink RX0 9 "HeapAndDeque$LeastFirst" "values" "[J") (by decide +kernel)
  have k15 := hts (.fieldLink RX0 15 "HeapAndDeque$LeastFirst" "count" "I") (by decide +kernel)
  refine lv_aload_n hx hb dX0_takeLike_0 rfl (lv_at hl 0 rfl) ?_
  refine lv_lload_n hx hb dX0_takeLike_1 rfl (lv_at hl 1 rfl) ?_
  refine hc_iV (As := [.long v]) (rest := []) (wc := [(h, .inr (0, [.ref a, .int (nI c)])), (a, .inl (cL, 200, .inr (.inl f)))]) (wr := []) (w1 := [(h, .inr (0, [.ref a, .int (nI c)])), (a, .inl (cL, 200, .inr (.inl f)))]) (w' := [(h, .inr (0, [.ref a, .int (nI c)])), (a, .inl (cL, 200, .inr (.inl f)))]) hF (c_X0_placeOf l D h a cL f c v hc) (cwV 1 hts gX0_takeLike_X0_placeOf rfl rfl rfl (by decide +kernel) ⟨Nat.le_of_ble_eq_true rfl, Nat.le_of_ble_eq_true rfl⟩) hP hK hD hS hA hv [0, 1] [] [0, 1] [0] ⟨rfl, rfl, rfl, rfl, ⟨by decide, by decide, by decide⟩, by decide⟩ 0 0 rfl rfl rfl rfl hl.1 rfl (Nat.le_of_ble_eq_true rfl) dX0_takeLike_2 ⟨Nat.zero_le _, Nat.zero_le _⟩ (fun H locs hP hD hS => ?_)
  refine hw_i (y := s_o none) (by rw [hf]) ?_
  refine lv_istore_n (lv' := [(3, .int (s_o none)), (0, .ref h), (1, .long v)]) hx hb dX0_takeLike_5 rfl hl (by decide) rfl (fun ls hl => ?_)
  refine lv_iload_n hx hb dX0_takeLike_6 rfl (lv_at hl 0 rfl) ?_
  refine lv_if_ge (tgt := 12) hx hb dX0_takeLike_7 (by decide) (fun ht_ => absurd ht_ (by decide +kernel)) (fun _ => ?_)
  refine lv_iconst (v := 0) hx hb dX0_takeLike_10 (by decide) ?_
  exact hend _ _ _ _ _ hP hD hS (rfl) dX0_takeLike_11
set_option maxHeartbeats 4000000 in
set_option maxRecDepth 100000 in
theorem c_X0_takeLike_s (l : Launch) (D : va_G) (h a : Nat) (cL : ClassId) (f : Nat → Int64) (c : Nat) (v : Int64) (q9 : Nat) (hc : c ≤ 200) (hf : s_fL f v c 0 = some q9) : mI l yX0_takeLike wsX0_takeLike ({ frames := 1, cells := 0, slots := 0, locals := 23 }) [.ref h, .long v] D [(cL, .long)] (wQ h a cL f c) (wQ h a cL (s_rmL f q9 c) (c - 1)) (1) := by
  refine hI_body (cc := cX0_takeLike) (maxL := 5) (by decide) rfl (Nat.le_of_ble_eq_true rfl) (by decide +kernel) ?_
  intro p e s m below meth cd A ls Q hat hA hP hK hD hS hl hend
  obtain ⟨hF, hr, hlocks, hv⟩ := id hat
  obtain ⟨hx, hb, hml, hown, hts⟩ := id hF
  have hown : s.vm.findClass RX0 = some m.cls := hown
  have hl : lv_has ls 5 [(0, .ref h), (1, .long v)] := hl
  have hP : va_P D vwCl [(h, .inr (0, [.ref a, .int (nI c)])), (a, .inl (cL, 200, .inr (.inl f)))] s.heap := hP
  have hD : va_D A [(h, .inr (0, [.ref a, .int (nI c)])), (a, .inl (cL, 200, .inr (.inl f)))] := hD
  have iX0 : ∀ w ∈ wsX00, w ∈ wsX0_takeLike := by decide +kernel
  have k9 := hts (.fieldLink RX0 9 "HeapAndDeque$LeastFirst" "values" "[J") (by decide +kernel)
  have k15 := hts (.fieldLink RX0 15 "HeapAndDeque$LeastFirst" "count" "I") (by decide +kernel)
  have hq : q9 < c := by have := (s_fL_spec hf).2.1; omega
  refine lv_aload_n hx hb dX0_takeLike_0 rfl (lv_at hl 0 rfl) ?_
  refine lv_lload_n hx hb dX0_takeLike_1 rfl (lv_at hl 1 rfl) ?_
  refine hc_iV (As := [.long v]) (rest := []) (wc := [(h, .inr (0, [.ref a, .int (nI c)])), (a, .inl (cL, 200, .inr (.inl f)))]) (wr := []) (w1 := [(h, .inr (0, [.ref a, .int (nI c)])), (a, .inl (cL, 200, .inr (.inl f)))]) (w' := [(h, .inr (0, [.ref a, .int (nI c)])), (a, .inl (cL, 200, .inr (.inl f)))]) hF (c_X0_placeOf l D h a cL f c v hc) (cwV 1 hts gX0_takeLike_X0_placeOf rfl rfl rfl (by decide +kernel) ⟨Nat.le_of_ble_eq_true rfl, Nat.le_of_ble_eq_true rfl⟩) hP hK hD hS hA hv [0, 1] [] [0, 1] [0] ⟨rfl, rfl, rfl, rfl, ⟨by decide, by decide, by decide⟩, by decide⟩ 0 0 rfl rfl rfl rfl hl.1 rfl (Nat.le_of_ble_eq_true rfl) dX0_takeLike_2 ⟨Nat.zero_le _, Nat.zero_le _⟩ (fun H locs hP hD hS => ?_)
  refine hw_i (y := nI q9) (by rw [hf]; rfl) ?_
  refine lv_istore_n (lv' := [(3, .int (nI q9)), (0, .ref h), (1, .long v)]) hx hb dX0_takeLike_5 rfl hl (by decide) rfl (fun ls hl => ?_)
  refine lv_iload_n hx hb dX0_takeLike_6 rfl (lv_at hl 0 rfl) ?_
  refine lv_if_ge (tgt := 12) hx hb dX0_takeLike_7 (by decide) (fun _ => ?_) (fun hn => absurd (nI_pos' (by omega)) hn)
  refine lv_iload_n hx hb dX0_takeLike_12 rfl (lv_at hl 0 rfl) ?_
  refine lv_iconst (v := 1) hx hb dX0_takeLike_13 (by decide) ?_
  refine lv_iadd hx hb dX0_takeLike_14 ?_
  refine hw_i (y := nI (q9 + 1)) (nI_1 _) ?_
  refine lv_istore (lv' := [(4, .int (nI (q9 + 1))), (3, .int (nI q9)), (0, .ref h), (1, .long v)]) hx hb dX0_takeLike_15 hl (by decide) rfl (fun ls hl => ?_)
  have loop : ∀ (n i : Nat), i + n = c → q9 < i → ∀ (H : Heap) (locs : List Loc) (ls : Array Slot), va_P D vwCl [(h, .inr (0, [.ref a, .int (nI c)])), (a, .inl (cL, 200, .inr (.inl (s_rmL f q9 i))))] H → va_D A [(h, .inr (0, [.ref a, .int (nI c)])), (a, .inl (cL, 200, .inr (.inl (s_rmL f q9 i))))] → va_S A s.heap H locs → lv_has ls 5 [(4, .int (nI i)), (3, .int (nI q9)), (0, .ref h), (1, .long v)] → W p l e ({ frames := 1, cells := 0, slots := 0, locals := 23 }) s m ([.ref h, .long v] : List Value).toArray below meth cd H locs 0 0 Q (F0 m 17 ls []) := by
    intro n
    induction n with
    | zero =>
      intro i hn hi H locs ls hP hD hS hl
      refine lv_iload hx hb dX0_takeLike_17 (lv_at hl 0 rfl) ?_
      refine lv_aload_n hx hb dX0_takeLike_19 rfl (lv_at hl 2 rfl) ?_
      refine va_get (D := D) (ci := 0) (v := .int (nI c)) (C := RX0) (T := TX0) (N := 2) hx hb hts iX0 hown hK hP 0 rfl rfl 1 (by decide) k15 (fun _ h9 => h9) rfl dX0_takeLike_20 ?_
      refine lv_icmp_ge (tgt := 48) hx hb dX0_takeLike_23 (by decide) (fun _ => ?_) (fun hn => absurd (nI_le (by omega) (by omega)) hn)
      have e8 : i = c := by omega
      subst e8
      refine lv_aload_n hx hb dX0_takeLike_48 rfl (lv_at hl 2 rfl) ?_
      refine lv_dup hx hb dX0_takeLike_49 rfl ?_
      refine va_get (D := D) (ci := 0) (v := .int (nI i)) (C := RX0) (T := TX0) (N := 2) hx hb hts iX0 hown hK hP 0 rfl rfl 1 (by decide) k15 (fun _ h9 => h9) rfl dX0_takeLike_50 ?_
      refine lv_iconst (v := 1) hx hb dX0_takeLike_53 (by decide) ?_
      refine lv_isub hx hb dX0_takeLike_54 ?_
      refine hw_i (y := nI (i - 1)) (h_sub1 (by omega)) ?_
      refine va_put (D := D) (ci := 0) (v := .int (nI (i - 1))) (ty := .int) (C := RX0) (T := TX0) (N := 2) hx hb hts iX0 tyX0 tyX0_ok nmX0 hown hK hP hD hS 0 rfl rfl 1 (by decide) k15 (fun _ h9 => h9) rfl (by decide +kernel) rfl rfl (Nat.le_of_ble_eq_true rfl) dX0_takeLike_55 (fun H locs hP hD hS => ?_)
      have hP : va_P D vwCl [(h, .inr (0, [.ref a, .int (nI (i - 1))])), (a, .inl (cL, 200, .inr (.inl (s_rmL f q9 i))))] H := hP
      have hD : va_D A [(h, .inr (0, [.ref a, .int (nI (i - 1))])), (a, .inl (cL, 200, .inr (.inl (s_rmL f q9 i))))] := hD
      refine lv_iconst (v := 1) hx hb dX0_takeLike_58 (by decide) ?_
      exact hend _ _ _ _ _ hP hD hS (rfl) dX0_takeLike_59
    | succ n ih =>
      intro i hn hi H locs ls hP hD hS hl
      refine lv_iload hx hb dX0_takeLike_17 (lv_at hl 0 rfl) ?_
      refine lv_aload_n hx hb dX0_takeLike_19 rfl (lv_at hl 2 rfl) ?_
      refine va_get (D := D) (ci := 0) (v := .int (nI c)) (C := RX0) (T := TX0) (N := 2) hx hb hts iX0 hown hK hP 0 rfl rfl 1 (by decide) k15 (fun _ h9 => h9) rfl dX0_takeLike_20 ?_
      refine lv_icmp_ge (tgt := 48) hx hb dX0_takeLike_23 (by decide) (fun ht_ => absurd ht_ (nI_ge (by omega) (by omega))) (fun _ => ?_)
      refine lv_aload_n hx hb dX0_takeLike_26 rfl (lv_at hl 2 rfl) ?_
      refine va_get (D := D) (ci := 0) (v := .ref a) (C := RX0) (T := TX0) (N := 2) hx hb hts iX0 hown hK hP 0 rfl rfl 0 (by decide) k9 (fun _ h9 => h9) rfl dX0_takeLike_27 ?_
      refine lv_iload hx hb dX0_takeLike_30 (lv_at hl 0 rfl) ?_
      refine lv_iconst (v := 1) hx hb dX0_takeLike_32 (by decide) ?_
      refine lv_isub hx hb dX0_takeLike_33 ?_
      refine hw_i (y := nI (i - 1)) (h_sub1 (by omega)) ?_
      refine lv_aload_n hx hb dX0_takeLike_34 rfl (lv_at hl 2 rfl) ?_
      refine va_get (D := D) (ci := 0) (v := .ref a) (C := RX0) (T := TX0) (N := 2) hx hb hts iX0 hown hK hP 0 rfl rfl 0 (by decide) k9 (fun _ h9 => h9) rfl dX0_takeLike_35 ?_
      refine lv_iload hx hb dX0_takeLike_38 (lv_at hl 0 rfl) ?_
      refine h_lald hx hb hK hP 1 0 rfl rfl (by decide) (by omega) dX0_takeLike_40 ?_
      refine h_last hx hb hK hP hD hS 1 0 rfl rfl (by decide) (by omega) dX0_takeLike_41 (fun H locs hP hD hS => ?_)
      have hP : va_P D vwCl [(h, .inr (0, [.ref a, .int (nI c)])), (a, .inl (cL, 200, .inr (.inl (vp_updL (s_rmL f q9 i) (i - 1) ((s_rmL f q9 i) i)))))] H := hP
      have hD : va_D A [(h, .inr (0, [.ref a, .int (nI c)])), (a, .inl (cL, 200, .inr (.inl (vp_updL (s_rmL f q9 i) (i - 1) ((s_rmL f q9 i) i)))))] := hD
      have hP : va_P D vwCl [(h, .inr (0, [.ref a, .int (nI c)])), (a, .inl (cL, 200, .inr (.inl (s_rmL f q9 (i + 1)))))] H := by rw [← s_rmL_s f hi]; exact hP
      have hD : va_D A [(h, .inr (0, [.ref a, .int (nI c)])), (a, .inl (cL, 200, .inr (.inl (s_rmL f q9 (i + 1)))))] := by rw [← s_rmL_s f hi]; exact hD
      refine lv_iinc (v := nI (i + 1)) (lv' := [(4, .int (nI (i + 1))), (3, .int (nI q9)), (0, .ref h), (1, .long v)]) hx hb dX0_takeLike_42 hl (k := 0) rfl (nI_1 _) (by decide) rfl (fun ls hl => ?_)
      refine lv_goto (tgt := 17) hx hb dX0_takeLike_45 (by decide) ?_
      exact ih _ (by omega) (by omega) _ _ _ hP hD hS (lv_sub hl [0, 1, 2, 3] rfl)
  exact loop (c - (q9 + 1)) (q9 + 1) (by omega) (by omega) _ _ _ (by rw [s_rmL_0]; exact hP) (by rw [s_rmL_0]; exact hD) hS hl
set_option maxHeartbeats 4000000 in
set_option maxRecDepth 100000 in
theorem c_X0_empty (l : Launch) (D : va_G) (h a : Nat) (cL : ClassId) (f : Nat → Int64) (c : Nat) : mI l yX0_empty wsX0_empty ({ frames := 0, cells := 0, slots := 0, locals := 0 }) [.ref h] D [(cL, .long)] (wQ h a cL f c) (wQ h a cL f 0) (nI c) := by
  refine hI_body (cc := cX0_empty) (maxL := 2) (by decide) rfl (Nat.le_of_ble_eq_true rfl) (rfl) ?_
  intro p e s m below meth cd A ls Q hat hA hP hK hD hS hl hend
  obtain ⟨hF, hr, hlocks, hv⟩ := id hat
  obtain ⟨hx, hb, hml, hown, hts⟩ := id hF
  have hown : s.vm.findClass RX0 = some m.cls := hown
  have hl : lv_has ls 2 [(0, .ref h)] := hl
  have hP : va_P D vwCl [(h, .inr (0, [.ref a, .int (nI c)])), (a, .inl (cL, 200, .inr (.inl f)))] s.heap := hP
  have hD : va_D A [(h, .inr (0, [.ref a, .int (nI c)])), (a, .inl (cL, 200, .inr (.inl f)))] := hD
  have iX0 : ∀ w ∈ wsX00, w ∈ wsX0_empty := by decide +kernel
  have k15 := hts (.fieldLink RX0 15 "HeapAndDeque$LeastFirst" "count" "I") (by decide +kernel)
  refine lv_aload_n hx hb dX0_empty_0 rfl (lv_at hl 0 rfl) ?_
  refine va_get (D := D) (ci := 0) (v := .int (nI c)) (C := RX0) (T := TX0) (N := 2) hx hb hts iX0 hown hK hP 0 rfl rfl 1 (by decide) k15 (fun _ h9 => h9) rfl dX0_empty_1 ?_
  refine lv_istore_n (lv' := [(1, .int (nI c)), (0, .ref h)]) hx hb dX0_empty_4 rfl hl (by decide) rfl (fun ls hl => ?_)
  refine lv_aload_n hx hb dX0_empty_5 rfl (lv_at hl 1 rfl) ?_
  refine lv_iconst (v := nI 0) hx hb dX0_empty_6 (by decide +kernel) ?_
  refine va_put (D := D) (ci := 0) (v := .int (nI 0)) (ty := .int) (C := RX0) (T := TX0) (N := 2) hx hb hts iX0 tyX0 tyX0_ok nmX0 hown hK hP hD hS 0 rfl rfl 1 (by decide) k15 (fun _ h9 => h9) rfl (by decide +kernel) rfl rfl (Nat.le_of_ble_eq_true rfl) dX0_empty_7 (fun H locs hP hD hS => ?_)
  have hP : va_P D vwCl [(h, .inr (0, [.ref a, .int (nI 0)])), (a, .inl (cL, 200, .inr (.inl f)))] H := hP
  have hD : va_D A [(h, .inr (0, [.ref a, .int (nI 0)])), (a, .inl (cL, 200, .inr (.inl f)))] := hD
  refine lv_iload_n hx hb dX0_empty_10 rfl (lv_at hl 0 rfl) ?_
  exact hend _ _ _ _ _ hP hD hS (rfl) dX0_empty_11
