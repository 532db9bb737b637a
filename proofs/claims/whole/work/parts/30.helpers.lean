/-! the helpers of the law -/
def s_bl (x : Bool) : Int64 := if x = true then 1 else 0
set_option maxHeartbeats 4000000 in
set_option maxRecDepth 100000 in
theorem c_L_offer (l : Launch) (D : va_G) (x h1 h2 h3 a1 : Nat) (cL : ClassId) (f : Nat → Int64) (c : Nat) (v : Int32) (o : Nat) (g : Nat → Int64) (hc : c < 200) : mH l yL_offer wsL_offer ({ frames := 2, cells := 1, slots := 6, locals := 44 }) [.ref x, .int v, .ref o] D [(cL, .long)] [(x, .inr (2, [.ref h1, .ref h2, .ref h3])), (h1, .inr (0, [.ref a1, .int (nI c)])), (a1, .inl (cL, 200, .inr (.inl f))), (o, .inl (cL, 1, .inr (.inl g)))] [(x, .inr (2, [.ref h1, .ref h2, .ref h3])), (h1, .inr (0, [.ref a1, .int (nI (c + 1))])), (a1, .inl (cL, 200, .inr (.inl (s_put v.toInt64 c f)))), (o, .inl (cL, 1, .inr (.inl (vp_updL g 0 ((nI (c + 1)).toInt64)))))] (0) := by
  refine hH_body (cc := cL_offer) (maxL := 4) (ret := some .int) (hh := [(0, 9, 12, 13)]) (by decide) rfl (Nat.le_of_ble_eq_true rfl) ?_
  intro p e s m below meth cd A ls hat htab hZ hA hP hK hD hS hl
  obtain ⟨hF, hr, hlocks, hv⟩ := id hat
  obtain ⟨hx, hb, hml, hown, hts⟩ := id hF
  have hown : s.vm.findClass RL = some m.cls := hown
  have hl : lv_has ls 4 [(0, .ref x), (1, .int v), (2, .ref o)] := hl
  have hP : va_P D vwCl [(x, .inr (2, [.ref h1, .ref h2, .ref h3])), (h1, .inr (0, [.ref a1, .int (nI c)])), (a1, .inl (cL, 200, .inr (.inl f))), (o, .inl (cL, 1, .inr (.inl g)))] s.heap := hP
  have hD : va_D A [(x, .inr (2, [.ref h1, .ref h2, .ref h3])), (h1, .inr (0, [.ref a1, .int (nI c)])), (a1, .inl (cL, 200, .inr (.inl f))), (o, .inl (cL, 1, .inr (.inl g)))] := hD
  refine lv_aload_n hx hb dL_offer_0 rfl (lv_at hl 2 rfl) ?_
  refine lv_iconst (v := nI 0) hx hb dL_offer_1 (by decide +kernel) ?_
  refine lv_aload_n hx hb dL_offer_2 rfl (lv_at hl 0 rfl) ?_
  refine lv_iload_n hx hb dL_offer_3 rfl (lv_at hl 1 rfl) ?_
  refine hc_iV (As := [.int v]) (rest := [.int (nI 0), .ref o]) (wc := [(x, .inr (2, [.ref h1, .ref h2, .ref h3])), (h1, .inr (0, [.ref a1, .int (nI c)])), (a1, .inl (cL, 200, .inr (.inl f)))]) (wr := [(o, .inl (cL, 1, .inr (.inl g)))]) (w1 := [(x, .inr (2, [.ref h1, .ref h2, .ref h3])), (h1, .inr (0, [.ref a1, .int (nI (c + 1))])), (a1, .inl (cL, 200, .inr (.inl (s_put v.toInt64 c f))))]) (w' := [(x, .inr (2, [.ref h1, .ref h2, .ref h3])), (h1, .inr (0, [.ref a1, .int (nI (c + 1))])), (a1, .inl (cL, 200, .inr (.inl (s_put v.toInt64 c f)))), (o, .inl (cL, 1, .inr (.inl g)))]) hF (c_X2_offer l D x h1 h2 h3 a1 cL f c v hc) (cwV 1 hts gL_offer_X2_offer rfl rfl rfl (by decide +kernel) ⟨Nat.le_of_ble_eq_true rfl, Nat.le_of_ble_eq_true rfl⟩) hP hK hD hS hA hv [0, 1, 2] [3] [1, 2, 3, 0] [0] ⟨rfl, rfl, rfl, rfl, ⟨by decide, by decide, by decide⟩, by decide⟩ 0 2 rfl rfl rfl rfl hl.1 rfl (Nat.le_of_ble_eq_true rfl) dL_offer_4 ⟨Nat.zero_le _, Nat.zero_le _⟩ (fun H locs hP hD hS => ?_)
  refine lv_i2l hx hb dL_offer_7 rfl ?_
  refine h_last hx hb hK hP hD hS 3 0 rfl rfl (by decide) (by omega) dL_offer_8 (fun H locs hP hD hS => ?_)
  have hP : va_P D vwCl [(x, .inr (2, [.ref h1, .ref h2, .ref h3])), (h1, .inr (0, [.ref a1, .int (nI (c + 1))])), (a1, .inl (cL, 200, .inr (.inl (s_put v.toInt64 c f)))), (o, .inl (cL, 1, .inr (.inl (vp_updL g 0 ((nI (c + 1)).toInt64)))))] H := hP
  have hD : va_D A [(x, .inr (2, [.ref h1, .ref h2, .ref h3])), (h1, .inr (0, [.ref a1, .int (nI (c + 1))])), (a1, .inl (cL, 200, .inr (.inl (s_put v.toInt64 c f)))), (o, .inl (cL, 1, .inr (.inl (vp_updL g 0 ((nI (c + 1)).toInt64)))))] := hD
  refine lv_goto (tgt := 15) hx hb dL_offer_9 (by decide) ?_
  refine lv_iconst (v := 0) hx hb dL_offer_15 (by decide) ?_
  exact hH_iret hx hb hr hlocks rfl hP hD hS rfl dL_offer_16 (by decide) (by decide)
set_option maxHeartbeats 4000000 in
set_option maxRecDepth 100000 in
theorem c_L_offer_x (l : Launch) (hfl : l.stackTraces = false) (D : va_G) (x h1 h2 h3 a1 : Nat) (cL : ClassId) (f : Nat → Int64) (v : Int32) (o : Nat) (g : Nat → Int64) : mH l yL_offer wsL_offer ({ frames := 8, cells := 1, slots := 6, locals := 128 }) [.ref x, .int v, .ref o] D [(cL, .long)] [(x, .inr (2, [.ref h1, .ref h2, .ref h3])), (h1, .inr (0, [.ref a1, .int (nI 200)])), (a1, .inl (cL, 200, .inr (.inl f))), (o, .inl (cL, 1, .inr (.inl g)))] [(x, .inr (2, [.ref h1, .ref h2, .ref h3])), (h1, .inr (0, [.ref a1, .int (nI 200)])), (a1, .inl (cL, 200, .inr (.inl f))), (o, .inl (cL, 1, .inr (.inl g)))] (1) := by
  refine hH_body (cc := cL_offer) (maxL := 4) (ret := some .int) (hh := [(0, 9, 12, 13)]) (by decide) rfl (Nat.le_of_ble_eq_true rfl) ?_
  intro p e s m below meth cd A ls hat htab hZ hA hP hK hD hS hl
  obtain ⟨hF, hr, hlocks, hv⟩ := id hat
  obtain ⟨hx, hb, hml, hown, hts⟩ := id hF
  have hown : s.vm.findClass RL = some m.cls := hown
  have hl : lv_has ls 4 [(0, .ref x), (1, .int v), (2, .ref o)] := hl
  have hP : va_P D vwCl [(x, .inr (2, [.ref h1, .ref h2, .ref h3])), (h1, .inr (0, [.ref a1, .int (nI 200)])), (a1, .inl (cL, 200, .inr (.inl f))), (o, .inl (cL, 1, .inr (.inl g)))] s.heap := hP
  have hD : va_D A [(x, .inr (2, [.ref h1, .ref h2, .ref h3])), (h1, .inr (0, [.ref a1, .int (nI 200)])), (a1, .inl (cL, 200, .inr (.inl f))), (o, .inl (cL, 1, .inr (.inl g)))] := hD
  refine lv_aload_n hx hb dL_offer_0 rfl (lv_at hl 2 rfl) ?_
  refine lv_iconst (v := nI 0) hx hb dL_offer_1 (by decide +kernel) ?_
  refine lv_aload_n hx hb dL_offer_2 rfl (lv_at hl 0 rfl) ?_
  refine lv_iload_n hx hb dL_offer_3 rfl (lv_at hl 1 rfl) ?_
  refine hx_callV (As := [.int v]) (rest := [.int (nI 0), .ref o]) (wc := [(x, .inr (2, [.ref h1, .ref h2, .ref h3])), (h1, .inr (0, [.ref a1, .int (nI 200)])), (a1, .inl (cL, 200, .inr (.inl f)))]) hF (c_X2_offer_x l hfl D x h1 h2 h3 a1 cL f v) (cwV 1 hts gL_offer_X2_offer rfl rfl rfl (by decide +kernel) ⟨Nat.le_of_ble_eq_true rfl, Nat.le_of_ble_eq_true rfl⟩) hP hK hD hS hA hv (fun U hU hW => hZ.move hW (by rw [hU]; exact Nat.le_refl _) (fun q hq => by rw [hU])) [0, 1, 2] [0] rfl (by decide) rfl 0 2 rfl rfl rfl rfl hl.1 rfl (Nat.le_of_ble_eq_true rfl) dL_offer_4 ⟨Nat.le_of_ble_eq_true rfl, Nat.le_of_ble_eq_true rfl⟩ (fun ce q9 H locs hP hS hce hcv hcl => ?_)
  refine vx_catch (E := "java/lang/IllegalStateException") (name := "java/lang/IllegalStateException") hown [] ⟨0, 9, 12, 13⟩ [] htab (fun z h => absurd h List.not_mem_nil) (by decide) (by decide) (hts (.classLink RL 13 "java/lang/IllegalStateException") (by decide +kernel)) (va_Nw.use rfl hv.1) hce hcv hcl ?_
  refine lv_astore_n (lv' := [(3, .ref q9), (0, .ref x), (1, .int v), (2, .ref o)]) hx hb dL_offer_12 rfl hl (by decide) rfl (fun ls hl => ?_)
  refine lv_iconst (v := 1) hx hb dL_offer_13 (by decide) ?_
  exact hH_iret hx hb hr hlocks rfl hP hD hS rfl dL_offer_14 (by decide) (by decide)
set_option maxHeartbeats 4000000 in
set_option maxRecDepth 100000 in
theorem c_L_add (l : Launch) (D : va_G) (x h1 h2 h3 a1 : Nat) (cL : ClassId) (f : Nat → Int64) (c : Nat) (v : Int32) (o : Nat) (g : Nat → Int64) (hc : c < 200) : mH l yL_add wsL_add ({ frames := 2, cells := 1, slots := 6, locals := 44 }) [.ref x, .int v, .ref o] D [(cL, .long)] [(x, .inr (2, [.ref h1, .ref h2, .ref h3])), (h1, .inr (0, [.ref a1, .int (nI c)])), (a1, .inl (cL, 200, .inr (.inl f))), (o, .inl (cL, 1, .inr (.inl g)))] [(x, .inr (2, [.ref h1, .ref h2, .ref h3])), (h1, .inr (0, [.ref a1, .int (nI (c + 1))])), (a1, .inl (cL, 200, .inr (.inl (s_put v.toInt64 c f)))), (o, .inl (cL, 1, .inr (.inl (vp_updL g 0 ((nI (c + 1)).toInt64)))))] (0) := by
  refine hH_body (cc := cL_add) (maxL := 4) (ret := some .int) (hh := [(0, 9, 12, 13)]) (by decide) rfl (Nat.le_of_ble_eq_true rfl) ?_
  intro p e s m below meth cd A ls hat htab hZ hA hP hK hD hS hl
  obtain ⟨hF, hr, hlocks, hv⟩ := id hat
  obtain ⟨hx, hb, hml, hown, hts⟩ := id hF
  have hown : s.vm.findClass RL = some m.cls := hown
  have hl : lv_has ls 4 [(0, .ref x), (1, .int v), (2, .ref o)] := hl
  have hP : va_P D vwCl [(x, .inr (2, [.ref h1, .ref h2, .ref h3])), (h1, .inr (0, [.ref a1, .int (nI c)])), (a1, .inl (cL, 200, .inr (.inl f))), (o, .inl (cL, 1, .inr (.inl g)))] s.heap := hP
  have hD : va_D A [(x, .inr (2, [.ref h1, .ref h2, .ref h3])), (h1, .inr (0, [.ref a1, .int (nI c)])), (a1, .inl (cL, 200, .inr (.inl f))), (o, .inl (cL, 1, .inr (.inl g)))] := hD
  refine lv_aload_n hx hb dL_add_0 rfl (lv_at hl 2 rfl) ?_
  refine lv_iconst (v := nI 0) hx hb dL_add_1 (by decide +kernel) ?_
  refine lv_aload_n hx hb dL_add_2 rfl (lv_at hl 0 rfl) ?_
  refine lv_iload_n hx hb dL_add_3 rfl (lv_at hl 1 rfl) ?_
  refine hc_iV (As := [.int v]) (rest := [.int (nI 0), .ref o]) (wc := [(x, .inr (2, [.ref h1, .ref h2, .ref h3])), (h1, .inr (0, [.ref a1, .int (nI c)])), (a1, .inl (cL, 200, .inr (.inl f)))]) (wr := [(o, .inl (cL, 1, .inr (.inl g)))]) (w1 := [(x, .inr (2, [.ref h1, .ref h2, .ref h3])), (h1, .inr (0, [.ref a1, .int (nI (c + 1))])), (a1, .inl (cL, 200, .inr (.inl (s_put v.toInt64 c f))))]) (w' := [(x, .inr (2, [.ref h1, .ref h2, .ref h3])), (h1, .inr (0, [.ref a1, .int (nI (c + 1))])), (a1, .inl (cL, 200, .inr (.inl (s_put v.toInt64 c f)))), (o, .inl (cL, 1, .inr (.inl g)))]) hF (c_X2_add l D x h1 h2 h3 a1 cL f c v hc) (cwV 1 hts gL_add_X2_add rfl rfl rfl (by decide +kernel) ⟨Nat.le_of_ble_eq_true rfl, Nat.le_of_ble_eq_true rfl⟩) hP hK hD hS hA hv [0, 1, 2] [3] [1, 2, 3, 0] [0] ⟨rfl, rfl, rfl, rfl, ⟨by decide, by decide, by decide⟩, by decide⟩ 0 2 rfl rfl rfl rfl hl.1 rfl (Nat.le_of_ble_eq_true rfl) dL_add_4 ⟨Nat.zero_le _, Nat.zero_le _⟩ (fun H locs hP hD hS => ?_)
  refine lv_i2l hx hb dL_add_7 rfl ?_
  refine h_last hx hb hK hP hD hS 3 0 rfl rfl (by decide) (by omega) dL_add_8 (fun H locs hP hD hS => ?_)
  have hP : va_P D vwCl [(x, .inr (2, [.ref h1, .ref h2, .ref h3])), (h1, .inr (0, [.ref a1, .int (nI (c + 1))])), (a1, .inl (cL, 200, .inr (.inl (s_put v.toInt64 c f)))), (o, .inl (cL, 1, .inr (.inl (vp_updL g 0 ((nI (c + 1)).toInt64)))))] H := hP
  have hD : va_D A [(x, .inr (2, [.ref h1, .ref h2, .ref h3])), (h1, .inr (0, [.ref a1, .int (nI (c + 1))])), (a1, .inl (cL, 200, .inr (.inl (s_put v.toInt64 c f)))), (o, .inl (cL, 1, .inr (.inl (vp_updL g 0 ((nI (c + 1)).toInt64)))))] := hD
  refine lv_goto (tgt := 15) hx hb dL_add_9 (by decide) ?_
  refine lv_iconst (v := 0) hx hb dL_add_15 (by decide) ?_
  exact hH_iret hx hb hr hlocks rfl hP hD hS rfl dL_add_16 (by decide) (by decide)
set_option maxHeartbeats 4000000 in
set_option maxRecDepth 100000 in
theorem c_L_add_x (l : Launch) (hfl : l.stackTraces = false) (D : va_G) (x h1 h2 h3 a1 : Nat) (cL : ClassId) (f : Nat → Int64) (v : Int32) (o : Nat) (g : Nat → Int64) : mH l yL_add wsL_add ({ frames := 8, cells := 1, slots := 6, locals := 128 }) [.ref x, .int v, .ref o] D [(cL, .long)] [(x, .inr (2, [.ref h1, .ref h2, .ref h3])), (h1, .inr (0, [.ref a1, .int (nI 200)])), (a1, .inl (cL, 200, .inr (.inl f))), (o, .inl (cL, 1, .inr (.inl g)))] [(x, .inr (2, [.ref h1, .ref h2, .ref h3])), (h1, .inr (0, [.ref a1, .int (nI 200)])), (a1, .inl (cL, 200, .inr (.inl f))), (o, .inl (cL, 1, .inr (.inl g)))] (1) := by
  refine hH_body (cc := cL_add) (maxL := 4) (ret := some .int) (hh := [(0, 9, 12, 13)]) (by decide) rfl (Nat.le_of_ble_eq_true rfl) ?_
  intro p e s m below meth cd A ls hat htab hZ hA hP hK hD hS hl
  obtain ⟨hF, hr, hlocks, hv⟩ := id hat
  obtain ⟨hx, hb, hml, hown, hts⟩ := id hF
  have hown : s.vm.findClass RL = some m.cls := hown
  have hl : lv_has ls 4 [(0, .ref x), (1, .int v), (2, .ref o)] := hl
  have hP : va_P D vwCl [(x, .inr (2, [.ref h1, .ref h2, .ref h3])), (h1, .inr (0, [.ref a1, .int (nI 200)])), (a1, .inl (cL, 200, .inr (.inl f))), (o, .inl (cL, 1, .inr (.inl g)))] s.heap := hP
  have hD : va_D A [(x, .inr (2, [.ref h1, .ref h2, .ref h3])), (h1, .inr (0, [.ref a1, .int (nI 200)])), (a1, .inl (cL, 200, .inr (.inl f))), (o, .inl (cL, 1, .inr (.inl g)))] := hD
  refine lv_aload_n hx hb dL_add_0 rfl (lv_at hl 2 rfl) ?_
  refine lv_iconst (v := nI 0) hx hb dL_add_1 (by decide +kernel) ?_
  refine lv_aload_n hx hb dL_add_2 rfl (lv_at hl 0 rfl) ?_
  refine lv_iload_n hx hb dL_add_3 rfl (lv_at hl 1 rfl) ?_
  refine hx_callV (As := [.int v]) (rest := [.int (nI 0), .ref o]) (wc := [(x, .inr (2, [.ref h1, .ref h2, .ref h3])), (h1, .inr (0, [.ref a1, .int (nI 200)])), (a1, .inl (cL, 200, .inr (.inl f)))]) hF (c_X2_add_x l hfl D x h1 h2 h3 a1 cL f v) (cwV 1 hts gL_add_X2_add rfl rfl rfl (by decide +kernel) ⟨Nat.le_of_ble_eq_true rfl, Nat.le_of_ble_eq_true rfl⟩) hP hK hD hS hA hv (fun U hU hW => hZ.move hW (by rw [hU]; exact Nat.le_refl _) (fun q hq => by rw [hU])) [0, 1, 2] [0] rfl (by decide) rfl 0 2 rfl rfl rfl rfl hl.1 rfl (Nat.le_of_ble_eq_true rfl) dL_add_4 ⟨Nat.le_of_ble_eq_true rfl, Nat.le_of_ble_eq_true rfl⟩ (fun ce q9 H locs hP hS hce hcv hcl => ?_)
  refine vx_catch (E := "java/lang/IllegalStateException") (name := "java/lang/IllegalStateException") hown [] ⟨0, 9, 12, 13⟩ [] htab (fun z h => absurd h List.not_mem_nil) (by decide) (by decide) (hts (.classLink RL 13 "java/lang/IllegalStateException") (by decide +kernel)) (va_Nw.use rfl hv.1) hce hcv hcl ?_
  refine lv_astore_n (lv' := [(3, .ref q9), (0, .ref x), (1, .int v), (2, .ref o)]) hx hb dL_add_12 rfl hl (by decide) rfl (fun ls hl => ?_)
  refine lv_iconst (v := 1) hx hb dL_add_13 (by decide) ?_
  exact hH_iret hx hb hr hlocks rfl hP hD hS rfl dL_add_14 (by decide) (by decide)
set_option maxHeartbeats 4000000 in
set_option maxRecDepth 100000 in
theorem c_L_peek (l : Launch) (D : va_G) (x h1 h2 h3 a1 : Nat) (cL : ClassId) (f : Nat → Int64) (c : Nat) (o : Nat) (g : Nat → Int64) (h1c : 1 ≤ c) (hc : c ≤ 200) : mH l yL_peek wsL_peek ({ frames := 2, cells := 1, slots := 6, locals := 40 }) [.ref x, .ref o] D [(cL, .long)] [(x, .inr (2, [.ref h1, .ref h2, .ref h3])), (h1, .inr (0, [.ref a1, .int (nI c)])), (a1, .inl (cL, 200, .inr (.inl f))), (o, .inl (cL, 1, .inr (.inl g)))] [(x, .inr (2, [.ref h1, .ref h2, .ref h3])), (h1, .inr (0, [.ref a1, .int (nI c)])), (a1, .inl (cL, 200, .inr (.inl f))), (o, .inl (cL, 1, .inr (.inl (vp_updL g 0 (((f (c - 1)).toInt32).toInt64)))))] (0) := by
  refine hH_body (cc := cL_peek) (maxL := 3) (ret := some .int) (hh := [(0, 8, 11, 22)]) (by decide) rfl (Nat.le_of_ble_eq_true rfl) ?_
  intro p e s m below meth cd A ls hat htab hZ hA hP hK hD hS hl
  obtain ⟨hF, hr, hlocks, hv⟩ := id hat
  obtain ⟨hx, hb, hml, hown, hts⟩ := id hF
  have hown : s.vm.findClass RL = some m.cls := hown
  have hl : lv_has ls 3 [(0, .ref x), (1, .ref o)] := hl
  have hP : va_P D vwCl [(x, .inr (2, [.ref h1, .ref h2, .ref h3])), (h1, .inr (0, [.ref a1, .int (nI c)])), (a1, .inl (cL, 200, .inr (.inl f))), (o, .inl (cL, 1, .inr (.inl g)))] s.heap := hP
  have hD : va_D A [(x, .inr (2, [.ref h1, .ref h2, .ref h3])), (h1, .inr (0, [.ref a1, .int (nI c)])), (a1, .inl (cL, 200, .inr (.inl f))), (o, .inl (cL, 1, .inr (.inl g)))] := hD
  refine lv_aload_n hx hb dL_peek_0 rfl (lv_at hl 1 rfl) ?_
  refine lv_iconst (v := nI 0) hx hb dL_peek_1 (by decide +kernel) ?_
  refine lv_aload_n hx hb dL_peek_2 rfl (lv_at hl 0 rfl) ?_
  refine hc_iV (As := []) (rest := [.int (nI 0), .ref o]) (wc := [(x, .inr (2, [.ref h1, .ref h2, .ref h3])), (h1, .inr (0, [.ref a1, .int (nI c)])), (a1, .inl (cL, 200, .inr (.inl f)))]) (wr := [(o, .inl (cL, 1, .inr (.inl g)))]) (w1 := [(x, .inr (2, [.ref h1, .ref h2, .ref h3])), (h1, .inr (0, [.ref a1, .int (nI c)])), (a1, .inl (cL, 200, .inr (.inl f)))]) (w' := [(x, .inr (2, [.ref h1, .ref h2, .ref h3])), (h1, .inr (0, [.ref a1, .int (nI c)])), (a1, .inl (cL, 200, .inr (.inl f))), (o, .inl (cL, 1, .inr (.inl g)))]) hF (c_X2_peek l D x h1 h2 h3 a1 cL f c h1c hc) (cwV 0 hts gL_peek_X2_peek rfl rfl rfl (by decide +kernel) ⟨Nat.le_of_ble_eq_true rfl, Nat.le_of_ble_eq_true rfl⟩) hP hK hD hS hA hv [0, 1, 2] [3] [1, 2, 3, 0] [0] ⟨rfl, rfl, rfl, rfl, ⟨by decide, by decide, by decide⟩, by decide⟩ 0 2 rfl rfl rfl rfl hl.1 rfl (Nat.le_of_ble_eq_true rfl) dL_peek_3 ⟨Nat.zero_le _, Nat.zero_le _⟩ (fun H locs hP hD hS => ?_)
  refine lv_i2l hx hb dL_peek_6 rfl ?_
  refine h_last hx hb hK hP hD hS 3 0 rfl rfl (by decide) (by omega) dL_peek_7 (fun H locs hP hD hS => ?_)
  have hP : va_P D vwCl [(x, .inr (2, [.ref h1, .ref h2, .ref h3])), (h1, .inr (0, [.ref a1, .int (nI c)])), (a1, .inl (cL, 200, .inr (.inl f))), (o, .inl (cL, 1, .inr (.inl (vp_updL g 0 (((f (c - 1)).toInt32).toInt64)))))] H := hP
  have hD : va_D A [(x, .inr (2, [.ref h1, .ref h2, .ref h3])), (h1, .inr (0, [.ref a1, .int (nI c)])), (a1, .inl (cL, 200, .inr (.inl f))), (o, .inl (cL, 1, .inr (.inl (vp_updL g 0 (((f (c - 1)).toInt32).toInt64)))))] := hD
  refine lv_goto (tgt := 14) hx hb dL_peek_8 (by decide) ?_
  refine lv_iconst (v := 0) hx hb dL_peek_14 (by decide) ?_
  exact hH_iret hx hb hr hlocks rfl hP hD hS rfl dL_peek_15 (by decide) (by decide)
set_option maxHeartbeats 4000000 in
set_option maxRecDepth 100000 in
theorem c_L_peek_x (l : Launch) (hfl : l.stackTraces = false) (D : va_G) (x h1 h2 h3 a1 : Nat) (cL : ClassId) (f : Nat → Int64) (o : Nat) (g : Nat → Int64) : mH l yL_peek wsL_peek ({ frames := 8, cells := 1, slots := 6, locals := 124 }) [.ref x, .ref o] D [(cL, .long)] [(x, .inr (2, [.ref h1, .ref h2, .ref h3])), (h1, .inr (0, [.ref a1, .int (nI 0)])), (a1, .inl (cL, 200, .inr (.inl f))), (o, .inl (cL, 1, .inr (.inl g)))] [(x, .inr (2, [.ref h1, .ref h2, .ref h3])), (h1, .inr (0, [.ref a1, .int (nI 0)])), (a1, .inl (cL, 200, .inr (.inl f))), (o, .inl (cL, 1, .inr (.inl g)))] (1) := by
  refine hH_body (cc := cL_peek) (maxL := 3) (ret := some .int) (hh := [(0, 8, 11, 22)]) (by decide) rfl (Nat.le_of_ble_eq_true rfl) ?_
  intro p e s m below meth cd A ls hat htab hZ hA hP hK hD hS hl
  obtain ⟨hF, hr, hlocks, hv⟩ := id hat
  obtain ⟨hx, hb, hml, hown, hts⟩ := id hF
  have hown : s.vm.findClass RL = some m.cls := hown
  have hl : lv_has ls 3 [(0, .ref x), (1, .ref o)] := hl
  have hP : va_P D vwCl [(x, .inr (2, [.ref h1, .ref h2, .ref h3])), (h1, .inr (0, [.ref a1, .int (nI 0)])), (a1, .inl (cL, 200, .inr (.inl f))), (o, .inl (cL, 1, .inr (.inl g)))] s.heap := hP
  have hD : va_D A [(x, .inr (2, [.ref h1, .ref h2, .ref h3])), (h1, .inr (0, [.ref a1, .int (nI 0)])), (a1, .inl (cL, 200, .inr (.inl f))), (o, .inl (cL, 1, .inr (.inl g)))] := hD
  refine lv_aload_n hx hb dL_peek_0 rfl (lv_at hl 1 rfl) ?_
  refine lv_iconst (v := nI 0) hx hb dL_peek_1 (by decide +kernel) ?_
  refine lv_aload_n hx hb dL_peek_2 rfl (lv_at hl 0 rfl) ?_
  refine hx_callV (As := []) (rest := [.int (nI 0), .ref o]) (wc := [(x, .inr (2, [.ref h1, .ref h2, .ref h3])), (h1, .inr (0, [.ref a1, .int (nI 0)])), (a1, .inl (cL, 200, .inr (.inl f)))]) hF (c_X2_peek_x l hfl D x h1 h2 h3 a1 cL f) (cwV 0 hts gL_peek_X2_peek rfl rfl rfl (by decide +kernel) ⟨Nat.le_of_ble_eq_true rfl, Nat.le_of_ble_eq_true rfl⟩) hP hK hD hS hA hv (fun U hU hW => hZ.move hW (by rw [hU]; exact Nat.le_refl _) (fun q hq => by rw [hU])) [0, 1, 2] [0] rfl (by decide) rfl 0 2 rfl rfl rfl rfl hl.1 rfl (Nat.le_of_ble_eq_true rfl) dL_peek_3 ⟨Nat.le_of_ble_eq_true rfl, Nat.le_of_ble_eq_true rfl⟩ (fun ce q9 H locs hP hS hce hcv hcl => ?_)
  refine vx_catch (E := "java/util/NoSuchElementException") (name := "java/util/NoSuchElementException") hown [] ⟨0, 8, 11, 22⟩ [] htab (fun z h => absurd h List.not_mem_nil) (by decide) (by decide) (hts (.classLink RL 22 "java/util/NoSuchElementException") (by decide +kernel)) (va_Nw.use rfl hv.2.1) hce hcv hcl ?_
  refine lv_astore_n (lv' := [(2, .ref q9), (0, .ref x), (1, .ref o)]) hx hb dL_peek_11 rfl hl (by decide) rfl (fun ls hl => ?_)
  refine lv_iconst (v := 1) hx hb dL_peek_12 (by decide) ?_
  exact hH_iret hx hb hr hlocks rfl hP hD hS rfl dL_peek_13 (by decide) (by decide)
set_option maxHeartbeats 4000000 in
set_option maxRecDepth 100000 in
theorem c_L_poll (l : Launch) (D : va_G) (x h1 h2 h3 a1 : Nat) (cL : ClassId) (f : Nat → Int64) (c : Nat) (o : Nat) (g : Nat → Int64) (h1c : 1 ≤ c) (hc : c ≤ 200) : mH l yL_poll wsL_poll ({ frames := 3, cells := 1, slots := 6, locals := 62 }) [.ref x, .ref o] D [(cL, .long)] [(x, .inr (2, [.ref h1, .ref h2, .ref h3])), (h1, .inr (0, [.ref a1, .int (nI c)])), (a1, .inl (cL, 200, .inr (.inl f))), (o, .inl (cL, 1, .inr (.inl g)))] [(x, .inr (2, [.ref h1, .ref h2, .ref h3])), (h1, .inr (0, [.ref a1, .int (nI (c - 1))])), (a1, .inl (cL, 200, .inr (.inl f))), (o, .inl (cL, 1, .inr (.inl (vp_updL g 0 (((f (c - 1)).toInt32).toInt64)))))] (0) := by
  refine hH_body (cc := cL_poll) (maxL := 3) (ret := some .int) (hh := [(0, 8, 11, 22)]) (by decide) rfl (Nat.le_of_ble_eq_true rfl) ?_
  intro p e s m below meth cd A ls hat htab hZ hA hP hK hD hS hl
  obtain ⟨hF, hr, hlocks, hv⟩ := id hat
  obtain ⟨hx, hb, hml, hown, hts⟩ := id hF
  have hown : s.vm.findClass RL = some m.cls := hown
  have hl : lv_has ls 3 [(0, .ref x), (1, .ref o)] := hl
  have hP : va_P D vwCl [(x, .inr (2, [.ref h1, .ref h2, .ref h3])), (h1, .inr (0, [.ref a1, .int (nI c)])), (a1, .inl (cL, 200, .inr (.inl f))), (o, .inl (cL, 1, .inr (.inl g)))] s.heap := hP
  have hD : va_D A [(x, .inr (2, [.ref h1, .ref h2, .ref h3])), (h1, .inr (0, [.ref a1, .int (nI c)])), (a1, .inl (cL, 200, .inr (.inl f))), (o, .inl (cL, 1, .inr (.inl g)))] := hD
  refine lv_aload_n hx hb dL_poll_0 rfl (lv_at hl 1 rfl) ?_
  refine lv_iconst (v := nI 0) hx hb dL_poll_1 (by decide +kernel) ?_
  refine lv_aload_n hx hb dL_poll_2 rfl (lv_at hl 0 rfl) ?_
  refine hc_iV (As := []) (rest := [.int (nI 0), .ref o]) (wc := [(x, .inr (2, [.ref h1, .ref h2, .ref h3])), (h1, .inr (0, [.ref a1, .int (nI c)])), (a1, .inl (cL, 200, .inr (.inl f)))]) (wr := [(o, .inl (cL, 1, .inr (.inl g)))]) (w1 := [(x, .inr (2, [.ref h1, .ref h2, .ref h3])), (h1, .inr (0, [.ref a1, .int (nI (c - 1))])), (a1, .inl (cL, 200, .inr (.inl f)))]) (w' := [(x, .inr (2, [.ref h1, .ref h2, .ref h3])), (h1, .inr (0, [.ref a1, .int (nI (c - 1))])), (a1, .inl (cL, 200, .inr (.inl f))), (o, .inl (cL, 1, .inr (.inl g)))]) hF (c_X2_poll l D x h1 h2 h3 a1 cL f c h1c hc) (cwV 0 hts gL_poll_X2_poll rfl rfl rfl (by decide +kernel) ⟨Nat.le_of_ble_eq_true rfl, Nat.le_of_ble_eq_true rfl⟩) hP hK hD hS hA hv [0, 1, 2] [3] [1, 2, 3, 0] [0] ⟨rfl, rfl, rfl, rfl, ⟨by decide, by decide, by decide⟩, by decide⟩ 0 2 rfl rfl rfl rfl hl.1 rfl (Nat.le_of_ble_eq_true rfl) dL_poll_3 ⟨Nat.zero_le _, Nat.zero_le _⟩ (fun H locs hP hD hS => ?_)
  refine lv_i2l hx hb dL_poll_6 rfl ?_
  refine h_last hx hb hK hP hD hS 3 0 rfl rfl (by decide) (by omega) dL_poll_7 (fun H locs hP hD hS => ?_)
  have hP : va_P D vwCl [(x, .inr (2, [.ref h1, .ref h2, .ref h3])), (h1, .inr (0, [.ref a1, .int (nI (c - 1))])), (a1, .inl (cL, 200, .inr (.inl f))), (o, .inl (cL, 1, .inr (.inl (vp_updL g 0 (((f (c - 1)).toInt32).toInt64)))))] H := hP
  have hD : va_D A [(x, .inr (2, [.ref h1, .ref h2, .ref h3])), (h1, .inr (0, [.ref a1, .int (nI (c - 1))])), (a1, .inl (cL, 200, .inr (.inl f))), (o, .inl (cL, 1, .inr (.inl (vp_updL g 0 (((f (c - 1)).toInt32).toInt64)))))] := hD
  refine lv_goto (tgt := 14) hx hb dL_poll_8 (by decide) ?_
  refine lv_iconst (v := 0) hx hb dL_poll_14 (by decide) ?_
  exact hH_iret hx hb hr hlocks rfl hP hD hS rfl dL_poll_15 (by decide) (by decide)
set_option maxHeartbeats 4000000 in
set_option maxRecDepth 100000 in
theorem c_L_poll_x (l : Launch) (hfl : l.stackTraces = false) (D : va_G) (x h1 h2 h3 a1 : Nat) (cL : ClassId) (f : Nat → Int64) (o : Nat) (g : Nat → Int64) : mH l yL_poll wsL_poll ({ frames := 9, cells := 1, slots := 6, locals := 146 }) [.ref x, .ref o] D [(cL, .long)] [(x, .inr (2, [.ref h1, .ref h2, .ref h3])), (h1, .inr (0, [.ref a1, .int (nI 0)])), (a1, .inl (cL, 200, .inr (.inl f))), (o, .inl (cL, 1, .inr (.inl g)))] [(x, .inr (2, [.ref h1, .ref h2, .ref h3])), (h1, .inr (0, [.ref a1, .int (nI 0)])), (a1, .inl (cL, 200, .inr (.inl f))), (o, .inl (cL, 1, .inr (.inl g)))] (1) := by
  refine hH_body (cc := cL_poll) (maxL := 3) (ret := some .int) (hh := [(0, 8, 11, 22)]) (by decide) rfl (Nat.le_of_ble_eq_true rfl) ?_
  intro p e s m below meth cd A ls hat htab hZ hA hP hK hD hS hl
  obtain ⟨hF, hr, hlocks, hv⟩ := id hat
  obtain ⟨hx, hb, hml, hown, hts⟩ := id hF
  have hown : s.vm.findClass RL = some m.cls := hown
  have hl : lv_has ls 3 [(0, .ref x), (1, .ref o)] := hl
  have hP : va_P D vwCl [(x, .inr (2, [.ref h1, .ref h2, .ref h3])), (h1, .inr (0, [.ref a1, .int (nI 0)])), (a1, .inl (cL, 200, .inr (.inl f))), (o, .inl (cL, 1, .inr (.inl g)))] s.heap := hP
  have hD : va_D A [(x, .inr (2, [.ref h1, .ref h2, .ref h3])), (h1, .inr (0, [.ref a1, .int (nI 0)])), (a1, .inl (cL, 200, .inr (.inl f))), (o, .inl (cL, 1, .inr (.inl g)))] := hD
  refine lv_aload_n hx hb dL_poll_0 rfl (lv_at hl 1 rfl) ?_
  refine lv_iconst (v := nI 0) hx hb dL_poll_1 (by decide +kernel) ?_
  refine lv_aload_n hx hb dL_poll_2 rfl (lv_at hl 0 rfl) ?_
  refine hx_callV (As := []) (rest := [.int (nI 0), .ref o]) (wc := [(x, .inr (2, [.ref h1, .ref h2, .ref h3])), (h1, .inr (0, [.ref a1, .int (nI 0)])), (a1, .inl (cL, 200, .inr (.inl f)))]) hF (c_X2_poll_x l hfl D x h1 h2 h3 a1 cL f) (cwV 0 hts gL_poll_X2_poll rfl rfl rfl (by decide +kernel) ⟨Nat.le_of_ble_eq_true rfl, Nat.le_of_ble_eq_true rfl⟩) hP hK hD hS hA hv (fun U hU hW => hZ.move hW (by rw [hU]; exact Nat.le_refl _) (fun q hq => by rw [hU])) [0, 1, 2] [0] rfl (by decide) rfl 0 2 rfl rfl rfl rfl hl.1 rfl (Nat.le_of_ble_eq_true rfl) dL_poll_3 ⟨Nat.le_of_ble_eq_true rfl, Nat.le_of_ble_eq_true rfl⟩ (fun ce q9 H locs hP hS hce hcv hcl => ?_)
  refine vx_catch (E := "java/util/NoSuchElementException") (name := "java/util/NoSuchElementException") hown [] ⟨0, 8, 11, 22⟩ [] htab (fun z h => absurd h List.not_mem_nil) (by decide) (by decide) (hts (.classLink RL 22 "java/util/NoSuchElementException") (by decide +kernel)) (va_Nw.use rfl hv.2.1) hce hcv hcl ?_
  refine lv_astore_n (lv' := [(2, .ref q9), (0, .ref x), (1, .ref o)]) hx hb dL_poll_11 rfl hl (by decide) rfl (fun ls hl => ?_)
  refine lv_iconst (v := 1) hx hb dL_poll_12 (by decide) ?_
  exact hH_iret hx hb hr hlocks rfl hP hD hS rfl dL_poll_13 (by decide) (by decide)
set_option maxHeartbeats 4000000 in
set_option maxRecDepth 100000 in
theorem c_L_peekPair (l : Launch) (D : va_G) (x h1 h2 h3 a2 : Nat) (cL : ClassId) (f : Nat → Int64) (c : Nat) (o : Nat) (g : Nat → Int64) (h1c : 1 ≤ c) (hc : c ≤ 200) : mH l yL_peekPair wsL_peekPair ({ frames := 4, cells := 1, slots := 6, locals := 89 }) [.ref x, .ref o] D [(cL, .long)] [(x, .inr (2, [.ref h1, .ref h2, .ref h3])), (h2, .inr (0, [.ref a2, .int (nI c)])), (a2, .inl (cL, 200, .inr (.inl f))), (o, .inl (cL, 1, .inr (.inl g)))] [(x, .inr (2, [.ref h1, .ref h2, .ref h3])), (h2, .inr (0, [.ref a2, .int (nI c)])), (a2, .inl (cL, 200, .inr (.inl f))), (o, .inl (cL, 1, .inr (.inl (vp_updL g 0 (s_tell (f (c - 1)))))))] (0) := by
  refine hH_body (cc := cL_peekPair) (maxL := 3) (ret := some .int) (hh := [(0, 7, 10, 22)]) (by decide) rfl (Nat.le_of_ble_eq_true rfl) ?_
  intro p e s m below meth cd A ls hat htab hZ hA hP hK hD hS hl
  obtain ⟨hF, hr, hlocks, hv⟩ := id hat
  obtain ⟨hx, hb, hml, hown, hts⟩ := id hF
  have hown : s.vm.findClass RL = some m.cls := hown
  have hl : lv_has ls 3 [(0, .ref x), (1, .ref o)] := hl
  have hP : va_P D vwCl [(x, .inr (2, [.ref h1, .ref h2, .ref h3])), (h2, .inr (0, [.ref a2, .int (nI c)])), (a2, .inl (cL, 200, .inr (.inl f))), (o, .inl (cL, 1, .inr (.inl g)))] s.heap := hP
  have hD : va_D A [(x, .inr (2, [.ref h1, .ref h2, .ref h3])), (h2, .inr (0, [.ref a2, .int (nI c)])), (a2, .inl (cL, 200, .inr (.inl f))), (o, .inl (cL, 1, .inr (.inl g)))] := hD
  refine lv_aload_n hx hb dL_peekPair_0 rfl (lv_at hl 1 rfl) ?_
  refine lv_iconst (v := nI 0) hx hb dL_peekPair_1 (by decide +kernel) ?_
  refine lv_aload_n hx hb dL_peekPair_2 rfl (lv_at hl 0 rfl) ?_
  refine hc_lV (As := []) (rest := [.int (nI 0), .ref o]) (wc := [(x, .inr (2, [.ref h1, .ref h2, .ref h3])), (h2, .inr (0, [.ref a2, .int (nI c)])), (a2, .inl (cL, 200, .inr (.inl f)))]) (wr := [(o, .inl (cL, 1, .inr (.inl g)))]) (w1 := [(x, .inr (2, [.ref h1, .ref h2, .ref h3])), (h2, .inr (0, [.ref a2, .int (nI c)])), (a2, .inl (cL, 200, .inr (.inl f)))]) (w' := [(x, .inr (2, [.ref h1, .ref h2, .ref h3])), (h2, .inr (0, [.ref a2, .int (nI c)])), (a2, .inl (cL, 200, .inr (.inl f))), (o, .inl (cL, 1, .inr (.inl g)))]) hF (c_X2_peekPair l D x h1 h2 h3 a2 cL f c h1c hc) (cwV 0 hts gL_peekPair_X2_peekPair rfl rfl rfl (by decide +kernel) ⟨Nat.le_of_ble_eq_true rfl, Nat.le_of_ble_eq_true rfl⟩) hP hK hD hS hA hv [0, 1, 2] [3] [1, 2, 3, 0] [0] ⟨rfl, rfl, rfl, rfl, ⟨by decide, by decide, by decide⟩, by decide⟩ 0 2 rfl rfl rfl rfl hl.1 rfl (Nat.le_of_ble_eq_true rfl) dL_peekPair_3 ⟨Nat.zero_le _, Nat.zero_le _⟩ (fun H locs hP hD hS => ?_)
  refine h_last hx hb hK hP hD hS 3 0 rfl rfl (by decide) (by omega) dL_peekPair_6 (fun H locs hP hD hS => ?_)
  have hP : va_P D vwCl [(x, .inr (2, [.ref h1, .ref h2, .ref h3])), (h2, .inr (0, [.ref a2, .int (nI c)])), (a2, .inl (cL, 200, .inr (.inl f))), (o, .inl (cL, 1, .inr (.inl (vp_updL g 0 (s_tell (f (c - 1)))))))] H := hP
  have hD : va_D A [(x, .inr (2, [.ref h1, .ref h2, .ref h3])), (h2, .inr (0, [.ref a2, .int (nI c)])), (a2, .inl (cL, 200, .inr (.inl f))), (o, .inl (cL, 1, .inr (.inl (vp_updL g 0 (s_tell (f (c - 1)))))))] := hD
  refine lv_goto (tgt := 13) hx hb dL_peekPair_7 (by decide) ?_
  refine lv_iconst (v := 0) hx hb dL_peekPair_13 (by decide) ?_
  exact hH_iret hx hb hr hlocks rfl hP hD hS rfl dL_peekPair_14 (by decide) (by decide)
set_option maxHeartbeats 4000000 in
set_option maxRecDepth 100000 in
theorem c_L_peekPair_x (l : Launch) (hfl : l.stackTraces = false) (D : va_G) (x h1 h2 h3 a2 : Nat) (cL : ClassId) (f : Nat → Int64) (o : Nat) (g : Nat → Int64) : mH l yL_peekPair wsL_peekPair ({ frames := 8, cells := 1, slots := 6, locals := 124 }) [.ref x, .ref o] D [(cL, .long)] [(x, .inr (2, [.ref h1, .ref h2, .ref h3])), (h2, .inr (0, [.ref a2, .int (nI 0)])), (a2, .inl (cL, 200, .inr (.inl f))), (o, .inl (cL, 1, .inr (.inl g)))] [(x, .inr (2, [.ref h1, .ref h2, .ref h3])), (h2, .inr (0, [.ref a2, .int (nI 0)])), (a2, .inl (cL, 200, .inr (.inl f))), (o, .inl (cL, 1, .inr (.inl g)))] (1) := by
  refine hH_body (cc := cL_peekPair) (maxL := 3) (ret := some .int) (hh := [(0, 7, 10, 22)]) (by decide) rfl (Nat.le_of_ble_eq_true rfl) ?_
  intro p e s m below meth cd A ls hat htab hZ hA hP hK hD hS hl
  obtain ⟨hF, hr, hlocks, hv⟩ := id hat
  obtain ⟨hx, hb, hml, hown, hts⟩ := id hF
  have hown : s.vm.findClass RL = some m.cls := hown
  have hl : lv_has ls 3 [(0, .ref x), (1, .ref o)] := hl
  have hP : va_P D vwCl [(x, .inr (2, [.ref h1, .ref h2, .ref h3])), (h2, .inr (0, [.ref a2, .int (nI 0)])), (a2, .inl (cL, 200, .inr (.inl f))), (o, .inl (cL, 1, .inr (.inl g)))] s.heap := hP
  have hD : va_D A [(x, .inr (2, [.ref h1, .ref h2, .ref h3])), (h2, .inr (0, [.ref a2, .int (nI 0)])), (a2, .inl (cL, 200, .inr (.inl f))), (o, .inl (cL, 1, .inr (.inl g)))] := hD
  refine lv_aload_n hx hb dL_peekPair_0 rfl (lv_at hl 1 rfl) ?_
  refine lv_iconst (v := nI 0) hx hb dL_peekPair_1 (by decide +kernel) ?_
  refine lv_aload_n hx hb dL_peekPair_2 rfl (lv_at hl 0 rfl) ?_
  refine hx_callV (As := []) (rest := [.int (nI 0), .ref o]) (wc := [(x, .inr (2, [.ref h1, .ref h2, .ref h3])), (h2, .inr (0, [.ref a2, .int (nI 0)])), (a2, .inl (cL, 200, .inr (.inl f)))]) hF (c_X2_peekPair_x l hfl D x h1 h2 h3 a2 cL f) (cwV 0 hts gL_peekPair_X2_peekPair rfl rfl rfl (by decide +kernel) ⟨Nat.le_of_ble_eq_true rfl, Nat.le_of_ble_eq_true rfl⟩) hP hK hD hS hA hv (fun U hU hW => hZ.move hW (by rw [hU]; exact Nat.le_refl _) (fun q hq => by rw [hU])) [0, 1, 2] [0] rfl (by decide) rfl 0 2 rfl rfl rfl rfl hl.1 rfl (Nat.le_of_ble_eq_true rfl) dL_peekPair_3 ⟨Nat.le_of_ble_eq_true rfl, Nat.le_of_ble_eq_true rfl⟩ (fun ce q9 H locs hP hS hce hcv hcl => ?_)
  refine vx_catch (E := "java/util/NoSuchElementException") (name := "java/util/NoSuchElementException") hown [] ⟨0, 7, 10, 22⟩ [] htab (fun z h => absurd h List.not_mem_nil) (by decide) (by decide) (hts (.classLink RL 22 "java/util/NoSuchElementException") (by decide +kernel)) (va_Nw.use rfl hv.2.1) hce hcv hcl ?_
  refine lv_astore_n (lv' := [(2, .ref q9), (0, .ref x), (1, .ref o)]) hx hb dL_peekPair_10 rfl hl (by decide) rfl (fun ls hl => ?_)
  refine lv_iconst (v := 1) hx hb dL_peekPair_11 (by decide) ?_
  exact hH_iret hx hb hr hlocks rfl hP hD hS rfl dL_peekPair_12 (by decide) (by decide)
set_option maxHeartbeats 4000000 in
set_option maxRecDepth 100000 in
theorem c_L_pollPair (l : Launch) (D : va_G) (x h1 h2 h3 a2 : Nat) (cL : ClassId) (f : Nat → Int64) (c : Nat) (o : Nat) (g : Nat → Int64) (h1c : 1 ≤ c) (hc : c ≤ 200) : mH l yL_pollPair wsL_pollPair ({ frames := 4, cells := 1, slots := 6, locals := 89 }) [.ref x, .ref o] D [(cL, .long)] [(x, .inr (2, [.ref h1, .ref h2, .ref h3])), (h2, .inr (0, [.ref a2, .int (nI c)])), (a2, .inl (cL, 200, .inr (.inl f))), (o, .inl (cL, 1, .inr (.inl g)))] [(x, .inr (2, [.ref h1, .ref h2, .ref h3])), (h2, .inr (0, [.ref a2, .int (nI (c - 1))])), (a2, .inl (cL, 200, .inr (.inl f))), (o, .inl (cL, 1, .inr (.inl (vp_updL g 0 (s_tell (f (c - 1)))))))] (0) := by
  refine hH_body (cc := cL_pollPair) (maxL := 3) (ret := some .int) (hh := [(0, 7, 10, 22)]) (by decide) rfl (Nat.le_of_ble_eq_true rfl) ?_
  intro p e s m below meth cd A ls hat htab hZ hA hP hK hD hS hl
  obtain ⟨hF, hr, hlocks, hv⟩ := id hat
  obtain ⟨hx, hb, hml, hown, hts⟩ := id hF
  have hown : s.vm.findClass RL = some m.cls := hown
  have hl : lv_has ls 3 [(0, .ref x), (1, .ref o)] := hl
  have hP : va_P D vwCl [(x, .inr (2, [.ref h1, .ref h2, .ref h3])), (h2, .inr (0, [.ref a2, .int (nI c)])), (a2, .inl (cL, 200, .inr (.inl f))), (o, .inl (cL, 1, .inr (.inl g)))] s.heap := hP
  have hD : va_D A [(x, .inr (2, [.ref h1, .ref h2, .ref h3])), (h2, .inr (0, [.ref a2, .int (nI c)])), (a2, .inl (cL, 200, .inr (.inl f))), (o, .inl (cL, 1, .inr (.inl g)))] := hD
  refine lv_aload_n hx hb dL_pollPair_0 rfl (lv_at hl 1 rfl) ?_
  refine lv_iconst (v := nI 0) hx hb dL_pollPair_1 (by decide +kernel) ?_
  refine lv_aload_n hx hb dL_pollPair_2 rfl (lv_at hl 0 rfl) ?_
  refine hc_lV (As := []) (rest := [.int (nI 0), .ref o]) (wc := [(x, .inr (2, [.ref h1, .ref h2, .ref h3])), (h2, .inr (0, [.ref a2, .int (nI c)])), (a2, .inl (cL, 200, .inr (.inl f)))]) (wr := [(o, .inl (cL, 1, .inr (.inl g)))]) (w1 := [(x, .inr (2, [.ref h1, .ref h2, .ref h3])), (h2, .inr (0, [.ref a2, .int (nI (c - 1))])), (a2, .inl (cL, 200, .inr (.inl f)))]) (w' := [(x, .inr (2, [.ref h1, .ref h2, .ref h3])), (h2, .inr (0, [.ref a2, .int (nI (c - 1))])), (a2, .inl (cL, 200, .inr (.inl f))), (o, .inl (cL, 1, .inr (.inl g)))]) hF (c_X2_pollPair l D x h1 h2 h3 a2 cL f c h1c hc) (cwV 0 hts gL_pollPair_X2_pollPair rfl rfl rfl (by decide +kernel) ⟨Nat.le_of_ble_eq_true rfl, Nat.le_of_ble_eq_true rfl⟩) hP hK hD hS hA hv [0, 1, 2] [3] [1, 2, 3, 0] [0] ⟨rfl, rfl, rfl, rfl, ⟨by decide, by decide, by decide⟩, by decide⟩ 0 2 rfl rfl rfl rfl hl.1 rfl (Nat.le_of_ble_eq_true rfl) dL_pollPair_3 ⟨Nat.zero_le _, Nat.zero_le _⟩ (fun H locs hP hD hS => ?_)
  refine h_last hx hb hK hP hD hS 3 0 rfl rfl (by decide) (by omega) dL_pollPair_6 (fun H locs hP hD hS => ?_)
  have hP : va_P D vwCl [(x, .inr (2, [.ref h1, .ref h2, .ref h3])), (h2, .inr (0, [.ref a2, .int (nI (c - 1))])), (a2, .inl (cL, 200, .inr (.inl f))), (o, .inl (cL, 1, .inr (.inl (vp_updL g 0 (s_tell (f (c - 1)))))))] H := hP
  have hD : va_D A [(x, .inr (2, [.ref h1, .ref h2, .ref h3])), (h2, .inr (0, [.ref a2, .int (nI (c - 1))])), (a2, .inl (cL, 200, .inr (.inl f))), (o, .inl (cL, 1, .inr (.inl (vp_updL g 0 (s_tell (f (c - 1)))))))] := hD
  refine lv_goto (tgt := 13) hx hb dL_pollPair_7 (by decide) ?_
  refine lv_iconst (v := 0) hx hb dL_pollPair_13 (by decide) ?_
  exact hH_iret hx hb hr hlocks rfl hP hD hS rfl dL_pollPair_14 (by decide) (by decide)
set_option maxHeartbeats 4000000 in
set_option maxRecDepth 100000 in
theorem c_L_pollPair_x (l : Launch) (hfl : l.stackTraces = false) (D : va_G) (x h1 h2 h3 a2 : Nat) (cL : ClassId) (f : Nat → Int64) (o : Nat) (g : Nat → Int64) : mH l yL_pollPair wsL_pollPair ({ frames := 9, cells := 1, slots := 6, locals := 146 }) [.ref x, .ref o] D [(cL, .long)] [(x, .inr (2, [.ref h1, .ref h2, .ref h3])), (h2, .inr (0, [.ref a2, .int (nI 0)])), (a2, .inl (cL, 200, .inr (.inl f))), (o, .inl (cL, 1, .inr (.inl g)))] [(x, .inr (2, [.ref h1, .ref h2, .ref h3])), (h2, .inr (0, [.ref a2, .int (nI 0)])), (a2, .inl (cL, 200, .inr (.inl f))), (o, .inl (cL, 1, .inr (.inl g)))] (1) := by
  refine hH_body (cc := cL_pollPair) (maxL := 3) (ret := some .int) (hh := [(0, 7, 10, 22)]) (by decide) rfl (Nat.le_of_ble_eq_true rfl) ?_
  intro p e s m below meth cd A ls hat htab hZ hA hP hK hD hS hl
  obtain ⟨hF, hr, hlocks, hv⟩ := id hat
  obtain ⟨hx, hb, hml, hown, hts⟩ := id hF
  have hown : s.vm.findClass RL = some m.cls := hown
  have hl : lv_has ls 3 [(0, .ref x), (1, .ref o)] := hl
  have hP : va_P D vwCl [(x, .inr (2, [.ref h1, .ref h2, .ref h3])), (h2, .inr (0, [.ref a2, .int (nI 0)])), (a2, .inl (cL, 200, .inr (.inl f))), (o, .inl (cL, 1, .inr (.inl g)))] s.heap := hP
  have hD : va_D A [(x, .inr (2, [.ref h1, .ref h2, .ref h3])), (h2, .inr (0, [.ref a2, .int (nI 0)])), (a2, .inl (cL, 200, .inr (.inl f))), (o, .inl (cL, 1, .inr (.inl g)))] := hD
  refine lv_aload_n hx hb dL_pollPair_0 rfl (lv_at hl 1 rfl) ?_
  refine lv_iconst (v := nI 0) hx hb dL_pollPair_1 (by decide +kernel) ?_
  refine lv_aload_n hx hb dL_pollPair_2 rfl (lv_at hl 0 rfl) ?_
  refine hx_callV (As := []) (rest := [.int (nI 0), .ref o]) (wc := [(x, .inr (2, [.ref h1, .ref h2, .ref h3])), (h2, .inr (0, [.ref a2, .int (nI 0)])), (a2, .inl (cL, 200, .inr (.inl f)))]) hF (c_X2_pollPair_x l hfl D x h1 h2 h3 a2 cL f) (cwV 0 hts gL_pollPair_X2_pollPair rfl rfl rfl (by decide +kernel) ⟨Nat.le_of_ble_eq_true rfl, Nat.le_of_ble_eq_true rfl⟩) hP hK hD hS hA hv (fun U hU hW => hZ.move hW (by rw [hU]; exact Nat.le_refl _) (fun q hq => by rw [hU])) [0, 1, 2] [0] rfl (by decide) rfl 0 2 rfl rfl rfl rfl hl.1 rfl (Nat.le_of_ble_eq_true rfl) dL_pollPair_3 ⟨Nat.le_of_ble_eq_true rfl, Nat.le_of_ble_eq_true rfl⟩ (fun ce q9 H locs hP hS hce hcv hcl => ?_)
  refine vx_catch (E := "java/util/NoSuchElementException") (name := "java/util/NoSuchElementException") hown [] ⟨0, 7, 10, 22⟩ [] htab (fun z h => absurd h List.not_mem_nil) (by decide) (by decide) (hts (.classLink RL 22 "java/util/NoSuchElementException") (by decide +kernel)) (va_Nw.use rfl hv.2.1) hce hcv hcl ?_
  refine lv_astore_n (lv' := [(2, .ref q9), (0, .ref x), (1, .ref o)]) hx hb dL_pollPair_10 rfl hl (by decide) rfl (fun ls hl => ?_)
  refine lv_iconst (v := 1) hx hb dL_pollPair_11 (by decide) ?_
  exact hH_iret hx hb hr hlocks rfl hP hD hS rfl dL_pollPair_12 (by decide) (by decide)
set_option maxHeartbeats 4000000 in
set_option maxRecDepth 100000 in
theorem c_L_addAll (l : Launch) (D : va_G) (x h1 h2 h3 a1 a3 : Nat) (cL cI : ClassId) (f : Nat → Int64) (c : Nat) (g0 : Nat → Int32) (r : Nat) (o : Nat) (g : Nat → Int64) (hc : c + r ≤ 200) : mH l yL_addAll wsL_addAll ({ frames := 2, cells := 1, slots := 6, locals := 44 }) [.ref x, .ref o] D [(cL, .long), (cI, .int)] [(x, .inr (2, [.ref h1, .ref h2, .ref h3])), (h1, .inr (0, [.ref a1, .int (nI c)])), (a1, .inl (cL, 200, .inr (.inl f))), (h3, .inr (1, [.ref a3, .int (nI r)])), (a3, .inl (cI, 200, .inl g0)), (o, .inl (cL, 1, .inr (.inl g)))] [(x, .inr (2, [.ref h1, .ref h2, .ref h3])), (h1, .inr (0, [.ref a1, .int (nI (c + r))])), (a1, .inl (cL, 200, .inr (.inl (s_xa g0 f c r)))), (h3, .inr (1, [.ref a3, .int (nI r)])), (a3, .inl (cI, 200, .inl g0)), (o, .inl (cL, 1, .inr (.inl (vp_updL g 0 ((nI (c + r)).toInt64)))))] (0) := by
  refine hH_body (cc := cL_addAll) (maxL := 3) (ret := some .int) (hh := [(0, 8, 11, 13)]) (by decide) rfl (Nat.le_of_ble_eq_true rfl) ?_
  intro p e s m below meth cd A ls hat htab hZ hA hP hK hD hS hl
  obtain ⟨hF, hr, hlocks, hv⟩ := id hat
  obtain ⟨hx, hb, hml, hown, hts⟩ := id hF
  have hown : s.vm.findClass RL = some m.cls := hown
  have hl : lv_has ls 3 [(0, .ref x), (1, .ref o)] := hl
  have hP : va_P D vwCl [(x, .inr (2, [.ref h1, .ref h2, .ref h3])), (h1, .inr (0, [.ref a1, .int (nI c)])), (a1, .inl (cL, 200, .inr (.inl f))), (h3, .inr (1, [.ref a3, .int (nI r)])), (a3, .inl (cI, 200, .inl g0)), (o, .inl (cL, 1, .inr (.inl g)))] s.heap := hP
  have hD : va_D A [(x, .inr (2, [.ref h1, .ref h2, .ref h3])), (h1, .inr (0, [.ref a1, .int (nI c)])), (a1, .inl (cL, 200, .inr (.inl f))), (h3, .inr (1, [.ref a3, .int (nI r)])), (a3, .inl (cI, 200, .inl g0)), (o, .inl (cL, 1, .inr (.inl g)))] := hD
  refine lv_aload_n hx hb dL_addAll_0 rfl (lv_at hl 1 rfl) ?_
  refine lv_iconst (v := nI 0) hx hb dL_addAll_1 (by decide +kernel) ?_
  refine lv_aload_n hx hb dL_addAll_2 rfl (lv_at hl 0 rfl) ?_
  refine hc_iV (As := []) (rest := [.int (nI 0), .ref o]) (wc := [(x, .inr (2, [.ref h1, .ref h2, .ref h3])), (h1, .inr (0, [.ref a1, .int (nI c)])), (a1, .inl (cL, 200, .inr (.inl f))), (h3, .inr (1, [.ref a3, .int (nI r)])), (a3, .inl (cI, 200, .inl g0))]) (wr := [(o, .inl (cL, 1, .inr (.inl g)))]) (w1 := [(x, .inr (2, [.ref h1, .ref h2, .ref h3])), (h1, .inr (0, [.ref a1, .int (nI (c + r))])), (a1, .inl (cL, 200, .inr (.inl (s_xa g0 f c r)))), (h3, .inr (1, [.ref a3, .int (nI r)])), (a3, .inl (cI, 200, .inl g0))]) (w' := [(x, .inr (2, [.ref h1, .ref h2, .ref h3])), (h1, .inr (0, [.ref a1, .int (nI (c + r))])), (a1, .inl (cL, 200, .inr (.inl (s_xa g0 f c r)))), (h3, .inr (1, [.ref a3, .int (nI r)])), (a3, .inl (cI, 200, .inl g0)), (o, .inl (cL, 1, .inr (.inl g)))]) hF (c_X2_addAll l D x h1 h2 h3 a1 a3 cL cI f c g0 r hc) (cwV 0 hts gL_addAll_X2_addAll rfl rfl rfl (by decide +kernel) ⟨Nat.le_of_ble_eq_true rfl, Nat.le_of_ble_eq_true rfl⟩) hP hK hD hS hA hv [0, 1, 2, 3, 4] [5] [1, 2, 3, 4, 5, 0] [0, 1] ⟨rfl, rfl, rfl, rfl, ⟨by decide, by decide, by decide⟩, by decide⟩ 0 2 rfl rfl rfl rfl hl.1 rfl (Nat.le_of_ble_eq_true rfl) dL_addAll_3 ⟨Nat.zero_le _, Nat.zero_le _⟩ (fun H locs hP hD hS => ?_)
  refine lv_i2l hx hb dL_addAll_6 rfl ?_
  refine h_last hx hb hK hP hD hS 5 0 rfl rfl (by decide) (by omega) dL_addAll_7 (fun H locs hP hD hS => ?_)
  have hP : va_P D vwCl [(x, .inr (2, [.ref h1, .ref h2, .ref h3])), (h1, .inr (0, [.ref a1, .int (nI (c + r))])), (a1, .inl (cL, 200, .inr (.inl (s_xa g0 f c r)))), (h3, .inr (1, [.ref a3, .int (nI r)])), (a3, .inl (cI, 200, .inl g0)), (o, .inl (cL, 1, .inr (.inl (vp_updL g 0 ((nI (c + r)).toInt64)))))] H := hP
  have hD : va_D A [(x, .inr (2, [.ref h1, .ref h2, .ref h3])), (h1, .inr (0, [.ref a1, .int (nI (c + r))])), (a1, .inl (cL, 200, .inr (.inl (s_xa g0 f c r)))), (h3, .inr (1, [.ref a3, .int (nI r)])), (a3, .inl (cI, 200, .inl g0)), (o, .inl (cL, 1, .inr (.inl (vp_updL g 0 ((nI (c + r)).toInt64)))))] := hD
  refine lv_goto (tgt := 14) hx hb dL_addAll_8 (by decide) ?_
  refine lv_iconst (v := 0) hx hb dL_addAll_14 (by decide) ?_
  exact hH_iret hx hb hr hlocks rfl hP hD hS rfl dL_addAll_15 (by decide) (by decide)
set_option maxHeartbeats 4000000 in
set_option maxRecDepth 100000 in
theorem c_L_addAll_x (l : Launch) (hfl : l.stackTraces = false) (D : va_G) (x h1 h2 h3 a1 a3 : Nat) (cL cI : ClassId) (f : Nat → Int64) (c : Nat) (g0 : Nat → Int32) (r : Nat) (o : Nat) (g : Nat → Int64) (hc : 200 < c + r) (hc1 : c ≤ 200) (hc2 : r ≤ 200) : mH l yL_addAll wsL_addAll ({ frames := 7, cells := 1, slots := 6, locals := 105 }) [.ref x, .ref o] D [(cL, .long), (cI, .int)] [(x, .inr (2, [.ref h1, .ref h2, .ref h3])), (h1, .inr (0, [.ref a1, .int (nI c)])), (a1, .inl (cL, 200, .inr (.inl f))), (h3, .inr (1, [.ref a3, .int (nI r)])), (a3, .inl (cI, 200, .inl g0)), (o, .inl (cL, 1, .inr (.inl g)))] [(x, .inr (2, [.ref h1, .ref h2, .ref h3])), (h1, .inr (0, [.ref a1, .int (nI c)])), (a1, .inl (cL, 200, .inr (.inl f))), (h3, .inr (1, [.ref a3, .int (nI r)])), (a3, .inl (cI, 200, .inl g0)), (o, .inl (cL, 1, .inr (.inl g)))] (1) := by
  refine hH_body (cc := cL_addAll) (maxL := 3) (ret := some .int) (hh := [(0, 8, 11, 13)]) (by decide) rfl (Nat.le_of_ble_eq_true rfl) ?_
  intro p e s m below meth cd A ls hat htab hZ hA hP hK hD hS hl
  obtain ⟨hF, hr, hlocks, hv⟩ := id hat
  obtain ⟨hx, hb, hml, hown, hts⟩ := id hF
  have hown : s.vm.findClass RL = some m.cls := hown
  have hl : lv_has ls 3 [(0, .ref x), (1, .ref o)] := hl
  have hP : va_P D vwCl [(x, .inr (2, [.ref h1, .ref h2, .ref h3])), (h1, .inr (0, [.ref a1, .int (nI c)])), (a1, .inl (cL, 200, .inr (.inl f))), (h3, .inr (1, [.ref a3, .int (nI r)])), (a3, .inl (cI, 200, .inl g0)), (o, .inl (cL, 1, .inr (.inl g)))] s.heap := hP
  have hD : va_D A [(x, .inr (2, [.ref h1, .ref h2, .ref h3])), (h1, .inr (0, [.ref a1, .int (nI c)])), (a1, .inl (cL, 200, .inr (.inl f))), (h3, .inr (1, [.ref a3, .int (nI r)])), (a3, .inl (cI, 200, .inl g0)), (o, .inl (cL, 1, .inr (.inl g)))] := hD
  refine lv_aload_n hx hb dL_addAll_0 rfl (lv_at hl 1 rfl) ?_
  refine lv_iconst (v := nI 0) hx hb dL_addAll_1 (by decide +kernel) ?_
  refine lv_aload_n hx hb dL_addAll_2 rfl (lv_at hl 0 rfl) ?_
  refine hx_callV (As := []) (rest := [.int (nI 0), .ref o]) (wc := [(x, .inr (2, [.ref h1, .ref h2, .ref h3])), (h1, .inr (0, [.ref a1, .int (nI c)])), (a1, .inl (cL, 200, .inr (.inl f))), (h3, .inr (1, [.ref a3, .int (nI r)])), (a3, .inl (cI, 200, .inl g0))]) hF (c_X2_addAll_x l hfl D x h1 h2 h3 a1 a3 cL cI f c g0 r hc hc1 hc2) (cwV 0 hts gL_addAll_X2_addAll rfl rfl rfl (by decide +kernel) ⟨Nat.le_of_ble_eq_true rfl, Nat.le_of_ble_eq_true rfl⟩) hP hK hD hS hA hv (fun U hU hW => hZ.move hW (by rw [hU]; exact Nat.le_refl _) (fun q hq => by rw [hU])) [0, 1, 2, 3, 4] [0, 1] rfl (by decide) rfl 0 2 rfl rfl rfl rfl hl.1 rfl (Nat.le_of_ble_eq_true rfl) dL_addAll_3 ⟨Nat.le_of_ble_eq_true rfl, Nat.le_of_ble_eq_true rfl⟩ (fun ce q9 H locs hP hS hce hcv hcl => ?_)
  refine vx_catch (E := "java/lang/IllegalStateException") (name := "java/lang/IllegalStateException") hown [] ⟨0, 8, 11, 13⟩ [] htab (fun z h => absurd h List.not_mem_nil) (by decide) (by decide) (hts (.classLink RL 13 "java/lang/IllegalStateException") (by decide +kernel)) (va_Nw.use rfl hv.1) hce hcv hcl ?_
  refine lv_astore_n (lv' := [(2, .ref q9), (0, .ref x), (1, .ref o)]) hx hb dL_addAll_11 rfl hl (by decide) rfl (fun ls hl => ?_)
  refine lv_iconst (v := 1) hx hb dL_addAll_12 (by decide) ?_
  exact hH_iret hx hb hr hlocks rfl hP hD hS rfl dL_addAll_13 (by decide) (by decide)
set_option maxHeartbeats 4000000 in
set_option maxRecDepth 100000 in
theorem c_L_drain (l : Launch) (D : va_G) (x h1 h2 h3 a1 a3 : Nat) (cL cI : ClassId) (f : Nat → Int64) (c : Nat) (g0 : Nat → Int32) (r : Nat) (o : Nat) (g : Nat → Int64) (hc : r + c ≤ 200) : mH l yL_drain wsL_drain ({ frames := 3, cells := 1, slots := 6, locals := 64 }) [.ref x, .ref o] D [(cL, .long), (cI, .int)] [(x, .inr (2, [.ref h1, .ref h2, .ref h3])), (h1, .inr (0, [.ref a1, .int (nI c)])), (a1, .inl (cL, 200, .inr (.inl f))), (h3, .inr (1, [.ref a3, .int (nI r)])), (a3, .inl (cI, 200, .inl g0)), (o, .inl (cL, 1, .inr (.inl g)))] [(x, .inr (2, [.ref h1, .ref h2, .ref h3])), (h1, .inr (0, [.ref a1, .int (nI 0)])), (a1, .inl (cL, 200, .inr (.inl f))), (h3, .inr (1, [.ref a3, .int (nI (r + c))])), (a3, .inl (cI, 200, .inl (s_xd f c g0 r))), (o, .inl (cL, 1, .inr (.inl (vp_updL g 0 ((nI c).toInt64)))))] (0) := by
  refine hH_body (cc := cL_drain) (maxL := 3) (ret := some .int) (hh := [(0, 8, 11, 13)]) (by decide) rfl (Nat.le_of_ble_eq_true rfl) ?_
  intro p e s m below meth cd A ls hat htab hZ hA hP hK hD hS hl
  obtain ⟨hF, hr, hlocks, hv⟩ := id hat
  obtain ⟨hx, hb, hml, hown, hts⟩ := id hF
  have hown : s.vm.findClass RL = some m.cls := hown
  have hl : lv_has ls 3 [(0, .ref x), (1, .ref o)] := hl
  have hP : va_P D vwCl [(x, .inr (2, [.ref h1, .ref h2, .ref h3])), (h1, .inr (0, [.ref a1, .int (nI c)])), (a1, .inl (cL, 200, .inr (.inl f))), (h3, .inr (1, [.ref a3, .int (nI r)])), (a3, .inl (cI, 200, .inl g0)), (o, .inl (cL, 1, .inr (.inl g)))] s.heap := hP
  have hD : va_D A [(x, .inr (2, [.ref h1, .ref h2, .ref h3])), (h1, .inr (0, [.ref a1, .int (nI c)])), (a1, .inl (cL, 200, .inr (.inl f))), (h3, .inr (1, [.ref a3, .int (nI r)])), (a3, .inl (cI, 200, .inl g0)), (o, .inl (cL, 1, .inr (.inl g)))] := hD
  refine lv_aload_n hx hb dL_drain_0 rfl (lv_at hl 1 rfl) ?_
  refine lv_iconst (v := nI 0) hx hb dL_drain_1 (by decide +kernel) ?_
  refine lv_aload_n hx hb dL_drain_2 rfl (lv_at hl 0 rfl) ?_
  refine hc_iV (As := []) (rest := [.int (nI 0), .ref o]) (wc := [(x, .inr (2, [.ref h1, .ref h2, .ref h3])), (h1, .inr (0, [.ref a1, .int (nI c)])), (a1, .inl (cL, 200, .inr (.inl f))), (h3, .inr (1, [.ref a3, .int (nI r)])), (a3, .inl (cI, 200, .inl g0))]) (wr := [(o, .inl (cL, 1, .inr (.inl g)))]) (w1 := [(x, .inr (2, [.ref h1, .ref h2, .ref h3])), (h1, .inr (0, [.ref a1, .int (nI 0)])), (a1, .inl (cL, 200, .inr (.inl f))), (h3, .inr (1, [.ref a3, .int (nI (r + c))])), (a3, .inl (cI, 200, .inl (s_xd f c g0 r)))]) (w' := [(x, .inr (2, [.ref h1, .ref h2, .ref h3])), (h1, .inr (0, [.ref a1, .int (nI 0)])), (a1, .inl (cL, 200, .inr (.inl f))), (h3, .inr (1, [.ref a3, .int (nI (r + c))])), (a3, .inl (cI, 200, .inl (s_xd f c g0 r))), (o, .inl (cL, 1, .inr (.inl g)))]) hF (c_X2_drain l D x h1 h2 h3 a1 a3 cL cI f c g0 r hc) (cwV 0 hts gL_drain_X2_drain rfl rfl rfl (by decide +kernel) ⟨Nat.le_of_ble_eq_true rfl, Nat.le_of_ble_eq_true rfl⟩) hP hK hD hS hA hv [0, 1, 2, 3, 4] [5] [1, 2, 3, 4, 5, 0] [0, 1] ⟨rfl, rfl, rfl, rfl, ⟨by decide, by decide, by decide⟩, by decide⟩ 0 2 rfl rfl rfl rfl hl.1 rfl (Nat.le_of_ble_eq_true rfl) dL_drain_3 ⟨Nat.zero_le _, Nat.zero_le _⟩ (fun H locs hP hD hS => ?_)
  refine lv_i2l hx hb dL_drain_6 rfl ?_
  refine h_last hx hb hK hP hD hS 5 0 rfl rfl (by decide) (by omega) dL_drain_7 (fun H locs hP hD hS => ?_)
  have hP : va_P D vwCl [(x, .inr (2, [.ref h1, .ref h2, .ref h3])), (h1, .inr (0, [.ref a1, .int (nI 0)])), (a1, .inl (cL, 200, .inr (.inl f))), (h3, .inr (1, [.ref a3, .int (nI (r + c))])), (a3, .inl (cI, 200, .inl (s_xd f c g0 r))), (o, .inl (cL, 1, .inr (.inl (vp_updL g 0 ((nI c).toInt64)))))] H := hP
  have hD : va_D A [(x, .inr (2, [.ref h1, .ref h2, .ref h3])), (h1, .inr (0, [.ref a1, .int (nI 0)])), (a1, .inl (cL, 200, .inr (.inl f))), (h3, .inr (1, [.ref a3, .int (nI (r + c))])), (a3, .inl (cI, 200, .inl (s_xd f c g0 r))), (o, .inl (cL, 1, .inr (.inl (vp_updL g 0 ((nI c).toInt64)))))] := hD
  refine lv_goto (tgt := 14) hx hb dL_drain_8 (by decide) ?_
  refine lv_iconst (v := 0) hx hb dL_drain_14 (by decide) ?_
  exact hH_iret hx hb hr hlocks rfl hP hD hS rfl dL_drain_15 (by decide) (by decide)
set_option maxHeartbeats 4000000 in
set_option maxRecDepth 100000 in
theorem c_L_drain_x (l : Launch) (hfl : l.stackTraces = false) (D : va_G) (x h1 h2 h3 a1 a3 : Nat) (cL cI : ClassId) (f : Nat → Int64) (c : Nat) (g0 : Nat → Int32) (r : Nat) (o : Nat) (g : Nat → Int64) (hc : 200 < r + c) (hc1 : r ≤ 200) (hc2 : c ≤ 200) : mH l yL_drain wsL_drain ({ frames := 8, cells := 1, slots := 6, locals := 127 }) [.ref x, .ref o] D [(cL, .long), (cI, .int)] [(x, .inr (2, [.ref h1, .ref h2, .ref h3])), (h1, .inr (0, [.ref a1, .int (nI c)])), (a1, .inl (cL, 200, .inr (.inl f))), (h3, .inr (1, [.ref a3, .int (nI r)])), (a3, .inl (cI, 200, .inl g0)), (o, .inl (cL, 1, .inr (.inl g)))] [(x, .inr (2, [.ref h1, .ref h2, .ref h3])), (h1, .inr (0, [.ref a1, .int (nI c)])), (a1, .inl (cL, 200, .inr (.inl f))), (h3, .inr (1, [.ref a3, .int (nI r)])), (a3, .inl (cI, 200, .inl g0)), (o, .inl (cL, 1, .inr (.inl g)))] (1) := by
  refine hH_body (cc := cL_drain) (maxL := 3) (ret := some .int) (hh := [(0, 8, 11, 13)]) (by decide) rfl (Nat.le_of_ble_eq_true rfl) ?_
  intro p e s m below meth cd A ls hat htab hZ hA hP hK hD hS hl
  obtain ⟨hF, hr, hlocks, hv⟩ := id hat
  obtain ⟨hx, hb, hml, hown, hts⟩ := id hF
  have hown : s.vm.findClass RL = some m.cls := hown
  have hl : lv_has ls 3 [(0, .ref x), (1, .ref o)] := hl
  have hP : va_P D vwCl [(x, .inr (2, [.ref h1, .ref h2, .ref h3])), (h1, .inr (0, [.ref a1, .int (nI c)])), (a1, .inl (cL, 200, .inr (.inl f))), (h3, .inr (1, [.ref a3, .int (nI r)])), (a3, .inl (cI, 200, .inl g0)), (o, .inl (cL, 1, .inr (.inl g)))] s.heap := hP
  have hD : va_D A [(x, .inr (2, [.ref h1, .ref h2, .ref h3])), (h1, .inr (0, [.ref a1, .int (nI c)])), (a1, .inl (cL, 200, .inr (.inl f))), (h3, .inr (1, [.ref a3, .int (nI r)])), (a3, .inl (cI, 200, .inl g0)), (o, .inl (cL, 1, .inr (.inl g)))] := hD
  refine lv_aload_n hx hb dL_drain_0 rfl (lv_at hl 1 rfl) ?_
  refine lv_iconst (v := nI 0) hx hb dL_drain_1 (by decide +kernel) ?_
  refine lv_aload_n hx hb dL_drain_2 rfl (lv_at hl 0 rfl) ?_
  refine hx_callV (As := []) (rest := [.int (nI 0), .ref o]) (wc := [(x, .inr (2, [.ref h1, .ref h2, .ref h3])), (h1, .inr (0, [.ref a1, .int (nI c)])), (a1, .inl (cL, 200, .inr (.inl f))), (h3, .inr (1, [.ref a3, .int (nI r)])), (a3, .inl (cI, 200, .inl g0))]) hF (c_X2_drain_x l hfl D x h1 h2 h3 a1 a3 cL cI f c g0 r hc hc1 hc2) (cwV 0 hts gL_drain_X2_drain rfl rfl rfl (by decide +kernel) ⟨Nat.le_of_ble_eq_true rfl, Nat.le_of_ble_eq_true rfl⟩) hP hK hD hS hA hv (fun U hU hW => hZ.move hW (by rw [hU]; exact Nat.le_refl _) (fun q hq => by rw [hU])) [0, 1, 2, 3, 4] [0, 1] rfl (by decide) rfl 0 2 rfl rfl rfl rfl hl.1 rfl (Nat.le_of_ble_eq_true rfl) dL_drain_3 ⟨Nat.le_of_ble_eq_true rfl, Nat.le_of_ble_eq_true rfl⟩ (fun ce q9 H locs hP hS hce hcv hcl => ?_)
  refine vx_catch (E := "java/lang/IllegalStateException") (name := "java/lang/IllegalStateException") hown [] ⟨0, 8, 11, 13⟩ [] htab (fun z h => absurd h List.not_mem_nil) (by decide) (by decide) (hts (.classLink RL 13 "java/lang/IllegalStateException") (by decide +kernel)) (va_Nw.use rfl hv.1) hce hcv hcl ?_
  refine lv_astore_n (lv' := [(2, .ref q9), (0, .ref x), (1, .ref o)]) hx hb dL_drain_11 rfl hl (by decide) rfl (fun ls hl => ?_)
  refine lv_iconst (v := 1) hx hb dL_drain_12 (by decide) ?_
  exact hH_iret hx hb hr hlocks rfl hP hD hS rfl dL_drain_13 (by decide) (by decide)
set_option maxHeartbeats 4000000 in
set_option maxRecDepth 100000 in
theorem c_L_drainPairs (l : Launch) (D : va_G) (x h1 h2 h3 a2 a3 : Nat) (cL cI : ClassId) (f : Nat → Int64) (c : Nat) (g0 : Nat → Int32) (r : Nat) (o : Nat) (g : Nat → Int64) (hc : r + c ≤ 200) : mH l yL_drainPairs wsL_drainPairs ({ frames := 3, cells := 1, slots := 6, locals := 68 }) [.ref x, .ref o] D [(cL, .long), (cI, .int)] [(x, .inr (2, [.ref h1, .ref h2, .ref h3])), (h2, .inr (0, [.ref a2, .int (nI c)])), (a2, .inl (cL, 200, .inr (.inl f))), (h3, .inr (1, [.ref a3, .int (nI r)])), (a3, .inl (cI, 200, .inl g0)), (o, .inl (cL, 1, .inr (.inl g)))] [(x, .inr (2, [.ref h1, .ref h2, .ref h3])), (h2, .inr (0, [.ref a2, .int (nI 0)])), (a2, .inl (cL, 200, .inr (.inl f))), (h3, .inr (1, [.ref a3, .int (nI (r + c))])), (a3, .inl (cI, 200, .inl (s_xp f c g0 r))), (o, .inl (cL, 1, .inr (.inl (vp_updL g 0 ((nI c).toInt64)))))] (0) := by
  refine hH_body (cc := cL_drainPairs) (maxL := 3) (ret := some .int) (hh := [(0, 8, 11, 13)]) (by decide) rfl (Nat.le_of_ble_eq_true rfl) ?_
  intro p e s m below meth cd A ls hat htab hZ hA hP hK hD hS hl
  obtain ⟨hF, hr, hlocks, hv⟩ := id hat
  obtain ⟨hx, hb, hml, hown, hts⟩ := id hF
  have hown : s.vm.findClass RL = some m.cls := hown
  have hl : lv_has ls 3 [(0, .ref x), (1, .ref o)] := hl
  have hP : va_P D vwCl [(x, .inr (2, [.ref h1, .ref h2, .ref h3])), (h2, .inr (0, [.ref a2, .int (nI c)])), (a2, .inl (cL, 200, .inr (.inl f))), (h3, .inr (1, [.ref a3, .int (nI r)])), (a3, .inl (cI, 200, .inl g0)), (o, .inl (cL, 1, .inr (.inl g)))] s.heap := hP
  have hD : va_D A [(x, .inr (2, [.ref h1, .ref h2, .ref h3])), (h2, .inr (0, [.ref a2, .int (nI c)])), (a2, .inl (cL, 200, .inr (.inl f))), (h3, .inr (1, [.ref a3, .int (nI r)])), (a3, .inl (cI, 200, .inl g0)), (o, .inl (cL, 1, .inr (.inl g)))] := hD
  refine lv_aload_n hx hb dL_drainPairs_0 rfl (lv_at hl 1 rfl) ?_
  refine lv_iconst (v := nI 0) hx hb dL_drainPairs_1 (by decide +kernel) ?_
  refine lv_aload_n hx hb dL_drainPairs_2 rfl (lv_at hl 0 rfl) ?_
  refine hc_iV (As := []) (rest := [.int (nI 0), .ref o]) (wc := [(x, .inr (2, [.ref h1, .ref h2, .ref h3])), (h2, .inr (0, [.ref a2, .int (nI c)])), (a2, .inl (cL, 200, .inr (.inl f))), (h3, .inr (1, [.ref a3, .int (nI r)])), (a3, .inl (cI, 200, .inl g0))]) (wr := [(o, .inl (cL, 1, .inr (.inl g)))]) (w1 := [(x, .inr (2, [.ref h1, .ref h2, .ref h3])), (h2, .inr (0, [.ref a2, .int (nI 0)])), (a2, .inl (cL, 200, .inr (.inl f))), (h3, .inr (1, [.ref a3, .int (nI (r + c))])), (a3, .inl (cI, 200, .inl (s_xp f c g0 r)))]) (w' := [(x, .inr (2, [.ref h1, .ref h2, .ref h3])), (h2, .inr (0, [.ref a2, .int (nI 0)])), (a2, .inl (cL, 200, .inr (.inl f))), (h3, .inr (1, [.ref a3, .int (nI (r + c))])), (a3, .inl (cI, 200, .inl (s_xp f c g0 r))), (o, .inl (cL, 1, .inr (.inl g)))]) hF (c_X2_drainPairs l D x h1 h2 h3 a2 a3 cL cI f c g0 r hc) (cwV 0 hts gL_drainPairs_X2_drainPairs rfl rfl rfl (by decide +kernel) ⟨Nat.le_of_ble_eq_true rfl, Nat.le_of_ble_eq_true rfl⟩) hP hK hD hS hA hv [0, 1, 2, 3, 4] [5] [1, 2, 3, 4, 5, 0] [0, 1] ⟨rfl, rfl, rfl, rfl, ⟨by decide, by decide, by decide⟩, by decide⟩ 0 2 rfl rfl rfl rfl hl.1 rfl (Nat.le_of_ble_eq_true rfl) dL_drainPairs_3 ⟨Nat.zero_le _, Nat.zero_le _⟩ (fun H locs hP hD hS => ?_)
  refine lv_i2l hx hb dL_drainPairs_6 rfl ?_
  refine h_last hx hb hK hP hD hS 5 0 rfl rfl (by decide) (by omega) dL_drainPairs_7 (fun H locs hP hD hS => ?_)
  have hP : va_P D vwCl [(x, .inr (2, [.ref h1, .ref h2, .ref h3])), (h2, .inr (0, [.ref a2, .int (nI 0)])), (a2, .inl (cL, 200, .inr (.inl f))), (h3, .inr (1, [.ref a3, .int (nI (r + c))])), (a3, .inl (cI, 200, .inl (s_xp f c g0 r))), (o, .inl (cL, 1, .inr (.inl (vp_updL g 0 ((nI c).toInt64)))))] H := hP
  have hD : va_D A [(x, .inr (2, [.ref h1, .ref h2, .ref h3])), (h2, .inr (0, [.ref a2, .int (nI 0)])), (a2, .inl (cL, 200, .inr (.inl f))), (h3, .inr (1, [.ref a3, .int (nI (r + c))])), (a3, .inl (cI, 200, .inl (s_xp f c g0 r))), (o, .inl (cL, 1, .inr (.inl (vp_updL g 0 ((nI c).toInt64)))))] := hD
  refine lv_goto (tgt := 14) hx hb dL_drainPairs_8 (by decide) ?_
  refine lv_iconst (v := 0) hx hb dL_drainPairs_14 (by decide) ?_
  exact hH_iret hx hb hr hlocks rfl hP hD hS rfl dL_drainPairs_15 (by decide) (by decide)
set_option maxHeartbeats 4000000 in
set_option maxRecDepth 100000 in
theorem c_L_drainPairs_x (l : Launch) (hfl : l.stackTraces = false) (D : va_G) (x h1 h2 h3 a2 a3 : Nat) (cL cI : ClassId) (f : Nat → Int64) (c : Nat) (g0 : Nat → Int32) (r : Nat) (o : Nat) (g : Nat → Int64) (hc : 200 < r + c) (hc1 : r ≤ 200) (hc2 : c ≤ 200) : mH l yL_drainPairs wsL_drainPairs ({ frames := 8, cells := 1, slots := 6, locals := 127 }) [.ref x, .ref o] D [(cL, .long), (cI, .int)] [(x, .inr (2, [.ref h1, .ref h2, .ref h3])), (h2, .inr (0, [.ref a2, .int (nI c)])), (a2, .inl (cL, 200, .inr (.inl f))), (h3, .inr (1, [.ref a3, .int (nI r)])), (a3, .inl (cI, 200, .inl g0)), (o, .inl (cL, 1, .inr (.inl g)))] [(x, .inr (2, [.ref h1, .ref h2, .ref h3])), (h2, .inr (0, [.ref a2, .int (nI c)])), (a2, .inl (cL, 200, .inr (.inl f))), (h3, .inr (1, [.ref a3, .int (nI r)])), (a3, .inl (cI, 200, .inl g0)), (o, .inl (cL, 1, .inr (.inl g)))] (1) := by
  refine hH_body (cc := cL_drainPairs) (maxL := 3) (ret := some .int) (hh := [(0, 8, 11, 13)]) (by decide) rfl (Nat.le_of_ble_eq_true rfl) ?_
  intro p e s m below meth cd A ls hat htab hZ hA hP hK hD hS hl
  obtain ⟨hF, hr, hlocks, hv⟩ := id hat
  obtain ⟨hx, hb, hml, hown, hts⟩ := id hF
  have hown : s.vm.findClass RL = some m.cls := hown
  have hl : lv_has ls 3 [(0, .ref x), (1, .ref o)] := hl
  have hP : va_P D vwCl [(x, .inr (2, [.ref h1, .ref h2, .ref h3])), (h2, .inr (0, [.ref a2, .int (nI c)])), (a2, .inl (cL, 200, .inr (.inl f))), (h3, .inr (1, [.ref a3, .int (nI r)])), (a3, .inl (cI, 200, .inl g0)), (o, .inl (cL, 1, .inr (.inl g)))] s.heap := hP
  have hD : va_D A [(x, .inr (2, [.ref h1, .ref h2, .ref h3])), (h2, .inr (0, [.ref a2, .int (nI c)])), (a2, .inl (cL, 200, .inr (.inl f))), (h3, .inr (1, [.ref a3, .int (nI r)])), (a3, .inl (cI, 200, .inl g0)), (o, .inl (cL, 1, .inr (.inl g)))] := hD
  refine lv_aload_n hx hb dL_drainPairs_0 rfl (lv_at hl 1 rfl) ?_
  refine lv_iconst (v := nI 0) hx hb dL_drainPairs_1 (by decide +kernel) ?_
  refine lv_aload_n hx hb dL_drainPairs_2 rfl (lv_at hl 0 rfl) ?_
  refine hx_callV (As := []) (rest := [.int (nI 0), .ref o]) (wc := [(x, .inr (2, [.ref h1, .ref h2, .ref h3])), (h2, .inr (0, [.ref a2, .int (nI c)])), (a2, .inl (cL, 200, .inr (.inl f))), (h3, .inr (1, [.ref a3, .int (nI r)])), (a3, .inl (cI, 200, .inl g0))]) hF (c_X2_drainPairs_x l hfl D x h1 h2 h3 a2 a3 cL cI f c g0 r hc hc1 hc2) (cwV 0 hts gL_drainPairs_X2_drainPairs rfl rfl rfl (by decide +kernel) ⟨Nat.le_of_ble_eq_true rfl, Nat.le_of_ble_eq_true rfl⟩) hP hK hD hS hA hv (fun U hU hW => hZ.move hW (by rw [hU]; exact Nat.le_refl _) (fun q hq => by rw [hU])) [0, 1, 2, 3, 4] [0, 1] rfl (by decide) rfl 0 2 rfl rfl rfl rfl hl.1 rfl (Nat.le_of_ble_eq_true rfl) dL_drainPairs_3 ⟨Nat.le_of_ble_eq_true rfl, Nat.le_of_ble_eq_true rfl⟩ (fun ce q9 H locs hP hS hce hcv hcl => ?_)
  refine vx_catch (E := "java/lang/IllegalStateException") (name := "java/lang/IllegalStateException") hown [] ⟨0, 8, 11, 13⟩ [] htab (fun z h => absurd h List.not_mem_nil) (by decide) (by decide) (hts (.classLink RL 13 "java/lang/IllegalStateException") (by decide +kernel)) (va_Nw.use rfl hv.1) hce hcv hcl ?_
  refine lv_astore_n (lv' := [(2, .ref q9), (0, .ref x), (1, .ref o)]) hx hb dL_drainPairs_11 rfl hl (by decide) rfl (fun ls hl => ?_)
  refine lv_iconst (v := 1) hx hb dL_drainPairs_12 (by decide) ?_
  exact hH_iret hx hb hr hlocks rfl hP hD hS rfl dL_drainPairs_13 (by decide) (by decide)
set_option maxHeartbeats 4000000 in
set_option maxRecDepth 100000 in
theorem c_L_offerPair (l : Launch) (D : va_G) (x h1 h2 h3 a2 : Nat) (cL : ClassId) (f : Nat → Int64) (c : Nat) (k t : Int32) (o : Nat) (g : Nat → Int64) (ht0 : ¬ t < 0) (ht1 : t ≤ nI 999) (hc : c < 200) : mH l yL_offerPair wsL_offerPair ({ frames := 2, cells := 1, slots := 6, locals := 45 }) [.ref x, .int k, .int t, .ref o] D [(cL, .long)] [(x, .inr (2, [.ref h1, .ref h2, .ref h3])), (h2, .inr (0, [.ref a2, .int (nI c)])), (a2, .inl (cL, 200, .inr (.inl f))), (o, .inl (cL, 1, .inr (.inl g)))] [(x, .inr (2, [.ref h1, .ref h2, .ref h3])), (h2, .inr (0, [.ref a2, .int (nI (c + 1))])), (a2, .inl (cL, 200, .inr (.inl (s_put (s_rank k t) c f)))), (o, .inl (cL, 1, .inr (.inl (vp_updL g 0 ((nI (c + 1)).toInt64)))))] (0) := by
  refine hH_body (cc := cL_offerPair) (maxL := 5) (ret := some .int) (hh := [(0, 10, 13, 37), (0, 10, 17, 13)]) (by decide) rfl (Nat.le_of_ble_eq_true rfl) ?_
  intro p e s m below meth cd A ls hat htab hZ hA hP hK hD hS hl
  obtain ⟨hF, hr, hlocks, hv⟩ := id hat
  obtain ⟨hx, hb, hml, hown, hts⟩ := id hF
  have hown : s.vm.findClass RL = some m.cls := hown
  have hl : lv_has ls 5 [(0, .ref x), (1, .int k), (2, .int t), (3, .ref o)] := hl
  have hP : va_P D vwCl [(x, .inr (2, [.ref h1, .ref h2, .ref h3])), (h2, .inr (0, [.ref a2, .int (nI c)])), (a2, .inl (cL, 200, .inr (.inl f))), (o, .inl (cL, 1, .inr (.inl g)))] s.heap := hP
  have hD : va_D A [(x, .inr (2, [.ref h1, .ref h2, .ref h3])), (h2, .inr (0, [.ref a2, .int (nI c)])), (a2, .inl (cL, 200, .inr (.inl f))), (o, .inl (cL, 1, .inr (.inl g)))] := hD
  refine lv_aload_n hx hb dL_offerPair_0 rfl (lv_at hl 3 rfl) ?_
  refine lv_iconst (v := nI 0) hx hb dL_offerPair_1 (by decide +kernel) ?_
  refine lv_aload_n hx hb dL_offerPair_2 rfl (lv_at hl 0 rfl) ?_
  refine lv_iload_n hx hb dL_offerPair_3 rfl (lv_at hl 1 rfl) ?_
  refine lv_iload_n hx hb dL_offerPair_4 rfl (lv_at hl 2 rfl) ?_
  refine hc_iV (As := [.int k, .int t]) (rest := [.int (nI 0), .ref o]) (wc := [(x, .inr (2, [.ref h1, .ref h2, .ref h3])), (h2, .inr (0, [.ref a2, .int (nI c)])), (a2, .inl (cL, 200, .inr (.inl f)))]) (wr := [(o, .inl (cL, 1, .inr (.inl g)))]) (w1 := [(x, .inr (2, [.ref h1, .ref h2, .ref h3])), (h2, .inr (0, [.ref a2, .int (nI (c + 1))])), (a2, .inl (cL, 200, .inr (.inl (s_put (s_rank k t) c f))))]) (w' := [(x, .inr (2, [.ref h1, .ref h2, .ref h3])), (h2, .inr (0, [.ref a2, .int (nI (c + 1))])), (a2, .inl (cL, 200, .inr (.inl (s_put (s_rank k t) c f)))), (o, .inl (cL, 1, .inr (.inl g)))]) hF (c_X2_offerPair l D x h1 h2 h3 a2 cL f c k t ht0 ht1 hc) (cwV 2 hts gL_offerPair_X2_offerPair rfl rfl rfl (by decide +kernel) ⟨Nat.le_of_ble_eq_true rfl, Nat.le_of_ble_eq_true rfl⟩) hP hK hD hS hA hv [0, 1, 2] [3] [1, 2, 3, 0] [0] ⟨rfl, rfl, rfl, rfl, ⟨by decide, by decide, by decide⟩, by decide⟩ 0 2 rfl rfl rfl rfl hl.1 rfl (Nat.le_of_ble_eq_true rfl) dL_offerPair_5 ⟨Nat.zero_le _, Nat.zero_le _⟩ (fun H locs hP hD hS => ?_)
  refine lv_i2l hx hb dL_offerPair_8 rfl ?_
  refine h_last hx hb hK hP hD hS 3 0 rfl rfl (by decide) (by omega) dL_offerPair_9 (fun H locs hP hD hS => ?_)
  have hP : va_P D vwCl [(x, .inr (2, [.ref h1, .ref h2, .ref h3])), (h2, .inr (0, [.ref a2, .int (nI (c + 1))])), (a2, .inl (cL, 200, .inr (.inl (s_put (s_rank k t) c f)))), (o, .inl (cL, 1, .inr (.inl (vp_updL g 0 ((nI (c + 1)).toInt64)))))] H := hP
  have hD : va_D A [(x, .inr (2, [.ref h1, .ref h2, .ref h3])), (h2, .inr (0, [.ref a2, .int (nI (c + 1))])), (a2, .inl (cL, 200, .inr (.inl (s_put (s_rank k t) c f)))), (o, .inl (cL, 1, .inr (.inl (vp_updL g 0 ((nI (c + 1)).toInt64)))))] := hD
  refine lv_goto (tgt := 21) hx hb dL_offerPair_10 (by decide) ?_
  refine lv_iconst (v := 0) hx hb dL_offerPair_21 (by decide) ?_
  exact hH_iret hx hb hr hlocks rfl hP hD hS rfl dL_offerPair_22 (by decide) (by decide)
set_option maxHeartbeats 4000000 in
set_option maxRecDepth 100000 in
theorem c_L_offerPair_t (l : Launch) (hfl : l.stackTraces = false) (D : va_G) (x h1 h2 h3 : Nat) (cL : ClassId) (k t : Int32) (o : Nat) (g : Nat → Int64) (ht : t < 0 ∨ ¬ t ≤ nI 999) : mH l yL_offerPair wsL_offerPair ({ frames := 8, cells := 1, slots := 6, locals := 127 }) [.ref x, .int k, .int t, .ref o] D [(cL, .long)] [(x, .inr (2, [.ref h1, .ref h2, .ref h3])), (o, .inl (cL, 1, .inr (.inl g)))] [(x, .inr (2, [.ref h1, .ref h2, .ref h3])), (o, .inl (cL, 1, .inr (.inl g)))] (1) := by
  refine hH_body (cc := cL_offerPair) (maxL := 5) (ret := some .int) (hh := [(0, 10, 13, 37), (0, 10, 17, 13)]) (by decide) rfl (Nat.le_of_ble_eq_true rfl) ?_
  intro p e s m below meth cd A ls hat htab hZ hA hP hK hD hS hl
  obtain ⟨hF, hr, hlocks, hv⟩ := id hat
  obtain ⟨hx, hb, hml, hown, hts⟩ := id hF
  have hown : s.vm.findClass RL = some m.cls := hown
  have hl : lv_has ls 5 [(0, .ref x), (1, .int k), (2, .int t), (3, .ref o)] := hl
  have hP : va_P D vwCl [(x, .inr (2, [.ref h1, .ref h2, .ref h3])), (o, .inl (cL, 1, .inr (.inl g)))] s.heap := hP
  have hD : va_D A [(x, .inr (2, [.ref h1, .ref h2, .ref h3])), (o, .inl (cL, 1, .inr (.inl g)))] := hD
  refine lv_aload_n hx hb dL_offerPair_0 rfl (lv_at hl 3 rfl) ?_
  refine lv_iconst (v := nI 0) hx hb dL_offerPair_1 (by decide +kernel) ?_
  refine lv_aload_n hx hb dL_offerPair_2 rfl (lv_at hl 0 rfl) ?_
  refine lv_iload_n hx hb dL_offerPair_3 rfl (lv_at hl 1 rfl) ?_
  refine lv_iload_n hx hb dL_offerPair_4 rfl (lv_at hl 2 rfl) ?_
  refine hx_callV (As := [.int k, .int t]) (rest := [.int (nI 0), .ref o]) (wc := [(x, .inr (2, [.ref h1, .ref h2, .ref h3]))]) hF (c_X2_offerPair_t l hfl D x h1 h2 h3 k t ht) (cwV 2 hts gL_offerPair_X2_offerPair rfl rfl rfl (by decide +kernel) ⟨Nat.le_of_ble_eq_true rfl, Nat.le_of_ble_eq_true rfl⟩) hP hK hD hS hA hv (fun U hU hW => hZ.move hW (by rw [hU]; exact Nat.le_refl _) (fun q hq => by rw [hU])) [0] [] rfl (by decide) rfl 0 2 rfl rfl rfl rfl hl.1 rfl (Nat.le_of_ble_eq_true rfl) dL_offerPair_5 ⟨Nat.le_of_ble_eq_true rfl, Nat.le_of_ble_eq_true rfl⟩ (fun ce q9 H locs hP hS hce hcv hcl => ?_)
  refine vx_catch (E := "java/lang/IllegalArgumentException") (name := "java/lang/IllegalArgumentException") hown [] ⟨0, 10, 13, 37⟩ [⟨0, 10, 17, 13⟩] htab (fun z h => absurd h List.not_mem_nil) (by decide) (by decide) (hts (.classLink RL 37 "java/lang/IllegalArgumentException") (by decide +kernel)) (va_Nw.use rfl hv.2.2.2.1) hce hcv hcl ?_
  refine lv_astore (lv' := [(4, .ref q9), (0, .ref x), (1, .int k), (2, .int t), (3, .ref o)]) hx hb dL_offerPair_13 hl (by decide) rfl (fun ls hl => ?_)
  refine lv_iconst (v := 1) hx hb dL_offerPair_15 (by decide) ?_
  exact hH_iret hx hb hr hlocks rfl hP hD hS rfl dL_offerPair_16 (by decide) (by decide)
set_option maxHeartbeats 4000000 in
set_option maxRecDepth 100000 in
theorem c_L_offerPair_x (l : Launch) (hfl : l.stackTraces = false) (D : va_G) (x h1 h2 h3 a2 : Nat) (cL : ClassId) (f : Nat → Int64) (k t : Int32) (o : Nat) (g : Nat → Int64) (ht0 : ¬ t < 0) (ht1 : t ≤ nI 999) : mH l yL_offerPair wsL_offerPair ({ frames := 8, cells := 1, slots := 6, locals := 129 }) [.ref x, .int k, .int t, .ref o] D [(cL, .long)] [(x, .inr (2, [.ref h1, .ref h2, .ref h3])), (h2, .inr (0, [.ref a2, .int (nI 200)])), (a2, .inl (cL, 200, .inr (.inl f))), (o, .inl (cL, 1, .inr (.inl g)))] [(x, .inr (2, [.ref h1, .ref h2, .ref h3])), (h2, .inr (0, [.ref a2, .int (nI 200)])), (a2, .inl (cL, 200, .inr (.inl f))), (o, .inl (cL, 1, .inr (.inl g)))] (2) := by
  refine hH_body (cc := cL_offerPair) (maxL := 5) (ret := some .int) (hh := [(0, 10, 13, 37), (0, 10, 17, 13)]) (by decide) rfl (Nat.le_of_ble_eq_true rfl) ?_
  intro p e s m below meth cd A ls hat htab hZ hA hP hK hD hS hl
  obtain ⟨hF, hr, hlocks, hv⟩ := id hat
  obtain ⟨hx, hb, hml, hown, hts⟩ := id hF
  have hown : s.vm.findClass RL = some m.cls := hown
  have hl : lv_has ls 5 [(0, .ref x), (1, .int k), (2, .int t), (3, .ref o)] := hl
  have hP : va_P D vwCl [(x, .inr (2, [.ref h1, .ref h2, .ref h3])), (h2, .inr (0, [.ref a2, .int (nI 200)])), (a2, .inl (cL, 200, .inr (.inl f))), (o, .inl (cL, 1, .inr (.inl g)))] s.heap := hP
  have hD : va_D A [(x, .inr (2, [.ref h1, .ref h2, .ref h3])), (h2, .inr (0, [.ref a2, .int (nI 200)])), (a2, .inl (cL, 200, .inr (.inl f))), (o, .inl (cL, 1, .inr (.inl g)))] := hD
  refine lv_aload_n hx hb dL_offerPair_0 rfl (lv_at hl 3 rfl) ?_
  refine lv_iconst (v := nI 0) hx hb dL_offerPair_1 (by decide +kernel) ?_
  refine lv_aload_n hx hb dL_offerPair_2 rfl (lv_at hl 0 rfl) ?_
  refine lv_iload_n hx hb dL_offerPair_3 rfl (lv_at hl 1 rfl) ?_
  refine lv_iload_n hx hb dL_offerPair_4 rfl (lv_at hl 2 rfl) ?_
  refine hx_callV (As := [.int k, .int t]) (rest := [.int (nI 0), .ref o]) (wc := [(x, .inr (2, [.ref h1, .ref h2, .ref h3])), (h2, .inr (0, [.ref a2, .int (nI 200)])), (a2, .inl (cL, 200, .inr (.inl f)))]) hF (c_X2_offerPair_x l hfl D x h1 h2 h3 a2 cL f k t ht0 ht1) (cwV 2 hts gL_offerPair_X2_offerPair rfl rfl rfl (by decide +kernel) ⟨Nat.le_of_ble_eq_true rfl, Nat.le_of_ble_eq_true rfl⟩) hP hK hD hS hA hv (fun U hU hW => hZ.move hW (by rw [hU]; exact Nat.le_refl _) (fun q hq => by rw [hU])) [0, 1, 2] [0] rfl (by decide) rfl 0 2 rfl rfl rfl rfl hl.1 rfl (Nat.le_of_ble_eq_true rfl) dL_offerPair_5 ⟨Nat.le_of_ble_eq_true rfl, Nat.le_of_ble_eq_true rfl⟩ (fun ce q9 H locs hP hS hce hcv hcl => ?_)
  refine vx_catch (E := "java/lang/IllegalStateException") (name := "java/lang/IllegalStateException") hown [⟨0, 10, 13, 37⟩] ⟨0, 10, 17, 13⟩ [] htab (fun z h => by cases List.mem_singleton.mp h; exact Or.inr ⟨by decide, _, hts (.classLink RL 37 "java/lang/IllegalArgumentException") (by decide +kernel), hv.2.2.2.2.2.2.2.2.2.2.2⟩) (by decide) (by decide) (hts (.classLink RL 13 "java/lang/IllegalStateException") (by decide +kernel)) (va_Nw.use rfl hv.1) hce hcv hcl ?_
  refine lv_astore (lv' := [(4, .ref q9), (0, .ref x), (1, .int k), (2, .int t), (3, .ref o)]) hx hb dL_offerPair_17 hl (by decide) rfl (fun ls hl => ?_)
  refine lv_iconst (v := 2) hx hb dL_offerPair_19 (by decide) ?_
  exact hH_iret hx hb hr hlocks rfl hP hD hS rfl dL_offerPair_20 (by decide) (by decide)
set_option maxHeartbeats 4000000 in
set_option maxRecDepth 100000 in
theorem c_L_removePair_n (l : Launch) (D : va_G) (x h1 h2 h3 a2 : Nat) (cL : ClassId) (f : Nat → Int64) (c : Nat) (k t : Int32) (o : Nat) (g : Nat → Int64) (ht0 : ¬ t < 0) (ht1 : t ≤ nI 999) (hc : c ≤ 200) (hf : s_fL f (s_rank k t) c 0 = none) : mH l yL_removePair wsL_removePair ({ frames := 3, cells := 1, slots := 6, locals := 69 }) [.ref x, .int k, .int t, .ref o] D [(cL, .long)] [(x, .inr (2, [.ref h1, .ref h2, .ref h3])), (h2, .inr (0, [.ref a2, .int (nI c)])), (a2, .inl (cL, 200, .inr (.inl f))), (o, .inl (cL, 1, .inr (.inl g)))] [(x, .inr (2, [.ref h1, .ref h2, .ref h3])), (h2, .inr (0, [.ref a2, .int (nI c)])), (a2, .inl (cL, 200, .inr (.inl f))), (o, .inl (cL, 1, .inr (.inl (vp_updL g 0 0))))] (0) := by
  refine hH_body (cc := cL_removePair) (maxL := 5) (ret := some .int) (hh := [(0, 17, 20, 37)]) (by decide) rfl (Nat.le_of_ble_eq_true rfl) ?_
  intro p e s m below meth cd A ls hat htab hZ hA hP hK hD hS hl
  obtain ⟨hF, hr, hlocks, hv⟩ := id hat
  obtain ⟨hx, hb, hml, hown, hts⟩ := id hF
  have hown : s.vm.findClass RL = some m.cls := hown
  have hl : lv_has ls 5 [(0, .ref x), (1, .int k), (2, .int t), (3, .ref o)] := hl
  have hP : va_P D vwCl [(x, .inr (2, [.ref h1, .ref h2, .ref h3])), (h2, .inr (0, [.ref a2, .int (nI c)])), (a2, .inl (cL, 200, .inr (.inl f))), (o, .inl (cL, 1, .inr (.inl g)))] s.heap := hP
  have hD : va_D A [(x, .inr (2, [.ref h1, .ref h2, .ref h3])), (h2, .inr (0, [.ref a2, .int (nI c)])), (a2, .inl (cL, 200, .inr (.inl f))), (o, .inl (cL, 1, .inr (.inl g)))] := hD
  refine lv_aload_n hx hb dL_removePair_0 rfl (lv_at hl 3 rfl) ?_
  refine lv_iconst (v := nI 0) hx hb dL_removePair_1 (by decide +kernel) ?_
  refine lv_aload_n hx hb dL_removePair_2 rfl (lv_at hl 0 rfl) ?_
  refine lv_iload_n hx hb dL_removePair_3 rfl (lv_at hl 1 rfl) ?_
  refine lv_iload_n hx hb dL_removePair_4 rfl (lv_at hl 2 rfl) ?_
  refine hc_iV (As := [.int k, .int t]) (rest := [.int (nI 0), .ref o]) (wc := [(x, .inr (2, [.ref h1, .ref h2, .ref h3])), (h2, .inr (0, [.ref a2, .int (nI c)])), (a2, .inl (cL, 200, .inr (.inl f)))]) (wr := [(o, .inl (cL, 1, .inr (.inl g)))]) (w1 := [(x, .inr (2, [.ref h1, .ref h2, .ref h3])), (h2, .inr (0, [.ref a2, .int (nI c)])), (a2, .inl (cL, 200, .inr (.inl f)))]) (w' := [(x, .inr (2, [.ref h1, .ref h2, .ref h3])), (h2, .inr (0, [.ref a2, .int (nI c)])), (a2, .inl (cL, 200, .inr (.inl f))), (o, .inl (cL, 1, .inr (.inl g)))]) hF (c_X2_removePair_n l D x h1 h2 h3 a2 cL f c k t ht0 ht1 hc hf) (cwV 2 hts gL_removePair_X2_removePair rfl rfl rfl (by decide +kernel) ⟨Nat.le_of_ble_eq_true rfl, Nat.le_of_ble_eq_true rfl⟩) hP hK hD hS hA hv [0, 1, 2] [3] [1, 2, 3, 0] [0] ⟨rfl, rfl, rfl, rfl, ⟨by decide, by decide, by decide⟩, by decide⟩ 0 2 rfl rfl rfl rfl hl.1 rfl (Nat.le_of_ble_eq_true rfl) dL_removePair_5 ⟨Nat.zero_le _, Nat.zero_le _⟩ (fun H locs hP hD hS => ?_)
  refine lv_if_eq (tgt := 15) hx hb dL_removePair_8 (by decide) (fun _ => ?_) (fun hn => absurd (rfl) hn)
  refine lv_lconst (v := 0) hx hb dL_removePair_15 (by decide) ?_
  refine h_last hx hb hK hP hD hS 3 0 rfl rfl (by decide) (by omega) dL_removePair_16 (fun H locs hP hD hS => ?_)
  have hP : va_P D vwCl [(x, .inr (2, [.ref h1, .ref h2, .ref h3])), (h2, .inr (0, [.ref a2, .int (nI c)])), (a2, .inl (cL, 200, .inr (.inl f))), (o, .inl (cL, 1, .inr (.inl (vp_updL g 0 0))))] H := hP
  have hD : va_D A [(x, .inr (2, [.ref h1, .ref h2, .ref h3])), (h2, .inr (0, [.ref a2, .int (nI c)])), (a2, .inl (cL, 200, .inr (.inl f))), (o, .inl (cL, 1, .inr (.inl (vp_updL g 0 0))))] := hD
  refine lv_goto (tgt := 24) hx hb dL_removePair_17 (by decide) ?_
  refine lv_iconst (v := 0) hx hb dL_removePair_24 (by decide) ?_
  exact hH_iret hx hb hr hlocks rfl hP hD hS rfl dL_removePair_25 (by decide) (by decide)
set_option maxHeartbeats 4000000 in
set_option maxRecDepth 100000 in
theorem c_L_removePair_s (l : Launch) (D : va_G) (x h1 h2 h3 a2 : Nat) (cL : ClassId) (f : Nat → Int64) (c : Nat) (k t : Int32) (q9 : Nat) (o : Nat) (g : Nat → Int64) (ht0 : ¬ t < 0) (ht1 : t ≤ nI 999) (hc : c ≤ 200) (hf : s_fL f (s_rank k t) c 0 = some q9) : mH l yL_removePair wsL_removePair ({ frames := 3, cells := 1, slots := 6, locals := 69 }) [.ref x, .int k, .int t, .ref o] D [(cL, .long)] [(x, .inr (2, [.ref h1, .ref h2, .ref h3])), (h2, .inr (0, [.ref a2, .int (nI c)])), (a2, .inl (cL, 200, .inr (.inl f))), (o, .inl (cL, 1, .inr (.inl g)))] [(x, .inr (2, [.ref h1, .ref h2, .ref h3])), (h2, .inr (0, [.ref a2, .int (nI (c - 1))])), (a2, .inl (cL, 200, .inr (.inl (s_rmL f q9 c)))), (o, .inl (cL, 1, .inr (.inl (vp_updL g 0 1))))] (0) := by
  refine hH_body (cc := cL_removePair) (maxL := 5) (ret := some .int) (hh := [(0, 17, 20, 37)]) (by decide) rfl (Nat.le_of_ble_eq_true rfl) ?_
  intro p e s m below meth cd A ls hat htab hZ hA hP hK hD hS hl
  obtain ⟨hF, hr, hlocks, hv⟩ := id hat
  obtain ⟨hx, hb, hml, hown, hts⟩ := id hF
  have hown : s.vm.findClass RL = some m.cls := hown
  have hl : lv_has ls 5 [(0, .ref x), (1, .int k), (2, .int t), (3, .ref o)] := hl
  have hP : va_P D vwCl [(x, .inr (2, [.ref h1, .ref h2, .ref h3])), (h2, .inr (0, [.ref a2, .int (nI c)])), (a2, .inl (cL, 200, .inr (.inl f))), (o, .inl (cL, 1, .inr (.inl g)))] s.heap := hP
  have hD : va_D A [(x, .inr (2, [.ref h1, .ref h2, .ref h3])), (h2, .inr (0, [.ref a2, .int (nI c)])), (a2, .inl (cL, 200, .inr (.inl f))), (o, .inl (cL, 1, .inr (.inl g)))] := hD
  refine lv_aload_n hx hb dL_removePair_0 rfl (lv_at hl 3 rfl) ?_
  refine lv_iconst (v := nI 0) hx hb dL_removePair_1 (by decide +kernel) ?_
  refine lv_aload_n hx hb dL_removePair_2 rfl (lv_at hl 0 rfl) ?_
  refine lv_iload_n hx hb dL_removePair_3 rfl (lv_at hl 1 rfl) ?_
  refine lv_iload_n hx hb dL_removePair_4 rfl (lv_at hl 2 rfl) ?_
  refine hc_iV (As := [.int k, .int t]) (rest := [.int (nI 0), .ref o]) (wc := [(x, .inr (2, [.ref h1, .ref h2, .ref h3])), (h2, .inr (0, [.ref a2, .int (nI c)])), (a2, .inl (cL, 200, .inr (.inl f)))]) (wr := [(o, .inl (cL, 1, .inr (.inl g)))]) (w1 := [(x, .inr (2, [.ref h1, .ref h2, .ref h3])), (h2, .inr (0, [.ref a2, .int (nI (c - 1))])), (a2, .inl (cL, 200, .inr (.inl (s_rmL f q9 c))))]) (w' := [(x, .inr (2, [.ref h1, .ref h2, .ref h3])), (h2, .inr (0, [.ref a2, .int (nI (c - 1))])), (a2, .inl (cL, 200, .inr (.inl (s_rmL f q9 c)))), (o, .inl (cL, 1, .inr (.inl g)))]) hF (c_X2_removePair_s l D x h1 h2 h3 a2 cL f c k t q9 ht0 ht1 hc hf) (cwV 2 hts gL_removePair_X2_removePair rfl rfl rfl (by decide +kernel) ⟨Nat.le_of_ble_eq_true rfl, Nat.le_of_ble_eq_true rfl⟩) hP hK hD hS hA hv [0, 1, 2] [3] [1, 2, 3, 0] [0] ⟨rfl, rfl, rfl, rfl, ⟨by decide, by decide, by decide⟩, by decide⟩ 0 2 rfl rfl rfl rfl hl.1 rfl (Nat.le_of_ble_eq_true rfl) dL_removePair_5 ⟨Nat.zero_le _, Nat.zero_le _⟩ (fun H locs hP hD hS => ?_)
  refine lv_if_eq (tgt := 15) hx hb dL_removePair_8 (by decide) (fun ht_ => absurd ht_ (by decide)) (fun _ => ?_)
  refine lv_lconst (v := 1) hx hb dL_removePair_11 (by decide) ?_
  refine lv_goto (tgt := 16) hx hb dL_removePair_12 (by decide) ?_
  refine h_last hx hb hK hP hD hS 3 0 rfl rfl (by decide) (by omega) dL_removePair_16 (fun H locs hP hD hS => ?_)
  have hP : va_P D vwCl [(x, .inr (2, [.ref h1, .ref h2, .ref h3])), (h2, .inr (0, [.ref a2, .int (nI (c - 1))])), (a2, .inl (cL, 200, .inr (.inl (s_rmL f q9 c)))), (o, .inl (cL, 1, .inr (.inl (vp_updL g 0 1))))] H := hP
  have hD : va_D A [(x, .inr (2, [.ref h1, .ref h2, .ref h3])), (h2, .inr (0, [.ref a2, .int (nI (c - 1))])), (a2, .inl (cL, 200, .inr (.inl (s_rmL f q9 c)))), (o, .inl (cL, 1, .inr (.inl (vp_updL g 0 1))))] := hD
  refine lv_goto (tgt := 24) hx hb dL_removePair_17 (by decide) ?_
  refine lv_iconst (v := 0) hx hb dL_removePair_24 (by decide) ?_
  exact hH_iret hx hb hr hlocks rfl hP hD hS rfl dL_removePair_25 (by decide) (by decide)
set_option maxHeartbeats 4000000 in
set_option maxRecDepth 100000 in
theorem c_L_removePair_t (l : Launch) (hfl : l.stackTraces = false) (D : va_G) (x h1 h2 h3 : Nat) (cL : ClassId) (k t : Int32) (o : Nat) (g : Nat → Int64) (ht : t < 0 ∨ ¬ t ≤ nI 999) : mH l yL_removePair wsL_removePair ({ frames := 8, cells := 1, slots := 6, locals := 127 }) [.ref x, .int k, .int t, .ref o] D [(cL, .long)] [(x, .inr (2, [.ref h1, .ref h2, .ref h3])), (o, .inl (cL, 1, .inr (.inl g)))] [(x, .inr (2, [.ref h1, .ref h2, .ref h3])), (o, .inl (cL, 1, .inr (.inl g)))] (1) := by
  refine hH_body (cc := cL_removePair) (maxL := 5) (ret := some .int) (hh := [(0, 17, 20, 37)]) (by decide) rfl (Nat.le_of_ble_eq_true rfl) ?_
  intro p e s m below meth cd A ls hat htab hZ hA hP hK hD hS hl
  obtain ⟨hF, hr, hlocks, hv⟩ := id hat
  obtain ⟨hx, hb, hml, hown, hts⟩ := id hF
  have hown : s.vm.findClass RL = some m.cls := hown
  have hl : lv_has ls 5 [(0, .ref x), (1, .int k), (2, .int t), (3, .ref o)] := hl
  have hP : va_P D vwCl [(x, .inr (2, [.ref h1, .ref h2, .ref h3])), (o, .inl (cL, 1, .inr (.inl g)))] s.heap := hP
  have hD : va_D A [(x, .inr (2, [.ref h1, .ref h2, .ref h3])), (o, .inl (cL, 1, .inr (.inl g)))] := hD
  refine lv_aload_n hx hb dL_removePair_0 rfl (lv_at hl 3 rfl) ?_
  refine lv_iconst (v := nI 0) hx hb dL_removePair_1 (by decide +kernel) ?_
  refine lv_aload_n hx hb dL_removePair_2 rfl (lv_at hl 0 rfl) ?_
  refine lv_iload_n hx hb dL_removePair_3 rfl (lv_at hl 1 rfl) ?_
  refine lv_iload_n hx hb dL_removePair_4 rfl (lv_at hl 2 rfl) ?_
  refine hx_callV (As := [.int k, .int t]) (rest := [.int (nI 0), .ref o]) (wc := [(x, .inr (2, [.ref h1, .ref h2, .ref h3]))]) hF (c_X2_removePair_t l hfl D x h1 h2 h3 k t ht) (cwV 2 hts gL_removePair_X2_removePair rfl rfl rfl (by decide +kernel) ⟨Nat.le_of_ble_eq_true rfl, Nat.le_of_ble_eq_true rfl⟩) hP hK hD hS hA hv (fun U hU hW => hZ.move hW (by rw [hU]; exact Nat.le_refl _) (fun q hq => by rw [hU])) [0] [] rfl (by decide) rfl 0 2 rfl rfl rfl rfl hl.1 rfl (Nat.le_of_ble_eq_true rfl) dL_removePair_5 ⟨Nat.le_of_ble_eq_true rfl, Nat.le_of_ble_eq_true rfl⟩ (fun ce q9 H locs hP hS hce hcv hcl => ?_)
  refine vx_catch (E := "java/lang/IllegalArgumentException") (name := "java/lang/IllegalArgumentException") hown [] ⟨0, 17, 20, 37⟩ [] htab (fun z h => absurd h List.not_mem_nil) (by decide) (by decide) (hts (.classLink RL 37 "java/lang/IllegalArgumentException") (by decide +kernel)) (va_Nw.use rfl hv.2.2.2.1) hce hcv hcl ?_
  refine lv_astore (lv' := [(4, .ref q9), (0, .ref x), (1, .int k), (2, .int t), (3, .ref o)]) hx hb dL_removePair_20 hl (by decide) rfl (fun ls hl => ?_)
  refine lv_iconst (v := 1) hx hb dL_removePair_22 (by decide) ?_
  exact hH_iret hx hb hr hlocks rfl hP hD hS rfl dL_removePair_23 (by decide) (by decide)
set_option maxHeartbeats 4000000 in
set_option maxRecDepth 100000 in
theorem c_L_containsPair (l : Launch) (D : va_G) (x h1 h2 h3 a2 : Nat) (cL : ClassId) (f : Nat → Int64) (c : Nat) (k t : Int32) (o : Nat) (g : Nat → Int64) (ht0 : ¬ t < 0) (ht1 : t ≤ nI 999) (hc : c ≤ 200) : mH l yL_containsPair wsL_containsPair ({ frames := 2, cells := 1, slots := 6, locals := 45 }) [.ref x, .int k, .int t, .ref o] D [(cL, .long)] [(x, .inr (2, [.ref h1, .ref h2, .ref h3])), (h2, .inr (0, [.ref a2, .int (nI c)])), (a2, .inl (cL, 200, .inr (.inl f))), (o, .inl (cL, 1, .inr (.inl g)))] [(x, .inr (2, [.ref h1, .ref h2, .ref h3])), (h2, .inr (0, [.ref a2, .int (nI c)])), (a2, .inl (cL, 200, .inr (.inl f))), (o, .inl (cL, 1, .inr (.inl (vp_updL g 0 (s_bl (s_fL f (s_rank k t) c 0).isSome)))))] (0) := by
  refine hH_body (cc := cL_containsPair) (maxL := 5) (ret := some .int) (hh := [(0, 17, 20, 37)]) (by decide) rfl (Nat.le_of_ble_eq_true rfl) ?_
  intro p e s m below meth cd A ls hat htab hZ hA hP hK hD hS hl
  obtain ⟨hF, hr, hlocks, hv⟩ := id hat
  obtain ⟨hx, hb, hml, hown, hts⟩ := id hF
  have hown : s.vm.findClass RL = some m.cls := hown
  have hl : lv_has ls 5 [(0, .ref x), (1, .int k), (2, .int t), (3, .ref o)] := hl
  have hP : va_P D vwCl [(x, .inr (2, [.ref h1, .ref h2, .ref h3])), (h2, .inr (0, [.ref a2, .int (nI c)])), (a2, .inl (cL, 200, .inr (.inl f))), (o, .inl (cL, 1, .inr (.inl g)))] s.heap := hP
  have hD : va_D A [(x, .inr (2, [.ref h1, .ref h2, .ref h3])), (h2, .inr (0, [.ref a2, .int (nI c)])), (a2, .inl (cL, 200, .inr (.inl f))), (o, .inl (cL, 1, .inr (.inl g)))] := hD
  refine lv_aload_n hx hb dL_containsPair_0 rfl (lv_at hl 3 rfl) ?_
  refine lv_iconst (v := nI 0) hx hb dL_containsPair_1 (by decide +kernel) ?_
  refine lv_aload_n hx hb dL_containsPair_2 rfl (lv_at hl 0 rfl) ?_
  refine lv_iload_n hx hb dL_containsPair_3 rfl (lv_at hl 1 rfl) ?_
  refine lv_iload_n hx hb dL_containsPair_4 rfl (lv_at hl 2 rfl) ?_
  refine hc_iV (As := [.int k, .int t]) (rest := [.int (nI 0), .ref o]) (wc := [(x, .inr (2, [.ref h1, .ref h2, .ref h3])), (h2, .inr (0, [.ref a2, .int (nI c)])), (a2, .inl (cL, 200, .inr (.inl f)))]) (wr := [(o, .inl (cL, 1, .inr (.inl g)))]) (w1 := [(x, .inr (2, [.ref h1, .ref h2, .ref h3])), (h2, .inr (0, [.ref a2, .int (nI c)])), (a2, .inl (cL, 200, .inr (.inl f)))]) (w' := [(x, .inr (2, [.ref h1, .ref h2, .ref h3])), (h2, .inr (0, [.ref a2, .int (nI c)])), (a2, .inl (cL, 200, .inr (.inl f))), (o, .inl (cL, 1, .inr (.inl g)))]) hF (c_X2_containsPair l D x h1 h2 h3 a2 cL f c k t ht0 ht1 hc) (cwV 2 hts gL_containsPair_X2_containsPair rfl rfl rfl (by decide +kernel) ⟨Nat.le_of_ble_eq_true rfl, Nat.le_of_ble_eq_true rfl⟩) hP hK hD hS hA hv [0, 1, 2] [3] [1, 2, 3, 0] [0] ⟨rfl, rfl, rfl, rfl, ⟨by decide, by decide, by decide⟩, by decide⟩ 0 2 rfl rfl rfl rfl hl.1 rfl (Nat.le_of_ble_eq_true rfl) dL_containsPair_5 ⟨Nat.zero_le _, Nat.zero_le _⟩ (fun H locs hP hD hS => ?_)
  rcases hf9 : (s_fL f (s_rank k t) c 0).isSome with _ | _
  · refine lv_if_eq (tgt := 15) hx hb dL_containsPair_8 (by decide) (fun _ => ?_) (fun hn => absurd (by decide) hn)
    refine lv_lconst (v := 0) hx hb dL_containsPair_15 (by decide) ?_
    refine h_last hx hb hK hP hD hS 3 0 rfl rfl (by decide) (by omega) dL_containsPair_16 (fun H locs hP hD hS => ?_)
    have hP : va_P D vwCl [(x, .inr (2, [.ref h1, .ref h2, .ref h3])), (h2, .inr (0, [.ref a2, .int (nI c)])), (a2, .inl (cL, 200, .inr (.inl f))), (o, .inl (cL, 1, .inr (.inl (vp_updL g 0 0))))] H := hP
    have hD : va_D A [(x, .inr (2, [.ref h1, .ref h2, .ref h3])), (h2, .inr (0, [.ref a2, .int (nI c)])), (a2, .inl (cL, 200, .inr (.inl f))), (o, .inl (cL, 1, .inr (.inl (vp_updL g 0 0))))] := hD
    refine lv_goto (tgt := 24) hx hb dL_containsPair_17 (by decide) ?_
    refine lv_iconst (v := 0) hx hb dL_containsPair_24 (by decide) ?_
    exact hH_iret hx hb hr hlocks rfl hP hD hS rfl dL_containsPair_25 (by decide) (by decide)
  · refine lv_if_eq (tgt := 15) hx hb dL_containsPair_8 (by decide) (fun ht_ => absurd ht_ (by decide)) (fun _ => ?_)
    refine lv_lconst (v := 1) hx hb dL_containsPair_11 (by decide) ?_
    refine lv_goto (tgt := 16) hx hb dL_containsPair_12 (by decide) ?_
    refine h_last hx hb hK hP hD hS 3 0 rfl rfl (by decide) (by omega) dL_containsPair_16 (fun H locs hP hD hS => ?_)
    have hP : va_P D vwCl [(x, .inr (2, [.ref h1, .ref h2, .ref h3])), (h2, .inr (0, [.ref a2, .int (nI c)])), (a2, .inl (cL, 200, .inr (.inl f))), (o, .inl (cL, 1, .inr (.inl (vp_updL g 0 1))))] H := hP
    have hD : va_D A [(x, .inr (2, [.ref h1, .ref h2, .ref h3])), (h2, .inr (0, [.ref a2, .int (nI c)])), (a2, .inl (cL, 200, .inr (.inl f))), (o, .inl (cL, 1, .inr (.inl (vp_updL g 0 1))))] := hD
    refine lv_goto (tgt := 24) hx hb dL_containsPair_17 (by decide) ?_
    refine lv_iconst (v := 0) hx hb dL_containsPair_24 (by decide) ?_
    exact hH_iret hx hb hr hlocks rfl hP hD hS rfl dL_containsPair_25 (by decide) (by decide)
set_option maxHeartbeats 4000000 in
set_option maxRecDepth 100000 in
theorem c_L_containsPair_t (l : Launch) (hfl : l.stackTraces = false) (D : va_G) (x h1 h2 h3 : Nat) (cL : ClassId) (k t : Int32) (o : Nat) (g : Nat → Int64) (ht : t < 0 ∨ ¬ t ≤ nI 999) : mH l yL_containsPair wsL_containsPair ({ frames := 8, cells := 1, slots := 6, locals := 127 }) [.ref x, .int k, .int t, .ref o] D [(cL, .long)] [(x, .inr (2, [.ref h1, .ref h2, .ref h3])), (o, .inl (cL, 1, .inr (.inl g)))] [(x, .inr (2, [.ref h1, .ref h2, .ref h3])), (o, .inl (cL, 1, .inr (.inl g)))] (1) := by
  refine hH_body (cc := cL_containsPair) (maxL := 5) (ret := some .int) (hh := [(0, 17, 20, 37)]) (by decide) rfl (Nat.le_of_ble_eq_true rfl) ?_
  intro p e s m below meth cd A ls hat htab hZ hA hP hK hD hS hl
  obtain ⟨hF, hr, hlocks, hv⟩ := id hat
  obtain ⟨hx, hb, hml, hown, hts⟩ := id hF
  have hown : s.vm.findClass RL = some m.cls := hown
  have hl : lv_has ls 5 [(0, .ref x), (1, .int k), (2, .int t), (3, .ref o)] := hl
  have hP : va_P D vwCl [(x, .inr (2, [.ref h1, .ref h2, .ref h3])), (o, .inl (cL, 1, .inr (.inl g)))] s.heap := hP
  have hD : va_D A [(x, .inr (2, [.ref h1, .ref h2, .ref h3])), (o, .inl (cL, 1, .inr (.inl g)))] := hD
  refine lv_aload_n hx hb dL_containsPair_0 rfl (lv_at hl 3 rfl) ?_
  refine lv_iconst (v := nI 0) hx hb dL_containsPair_1 (by decide +kernel) ?_
  refine lv_aload_n hx hb dL_containsPair_2 rfl (lv_at hl 0 rfl) ?_
  refine lv_iload_n hx hb dL_containsPair_3 rfl (lv_at hl 1 rfl) ?_
  refine lv_iload_n hx hb dL_containsPair_4 rfl (lv_at hl 2 rfl) ?_
  refine hx_callV (As := [.int k, .int t]) (rest := [.int (nI 0), .ref o]) (wc := [(x, .inr (2, [.ref h1, .ref h2, .ref h3]))]) hF (c_X2_containsPair_t l hfl D x h1 h2 h3 k t ht) (cwV 2 hts gL_containsPair_X2_containsPair rfl rfl rfl (by decide +kernel) ⟨Nat.le_of_ble_eq_true rfl, Nat.le_of_ble_eq_true rfl⟩) hP hK hD hS hA hv (fun U hU hW => hZ.move hW (by rw [hU]; exact Nat.le_refl _) (fun q hq => by rw [hU])) [0] [] rfl (by decide) rfl 0 2 rfl rfl rfl rfl hl.1 rfl (Nat.le_of_ble_eq_true rfl) dL_containsPair_5 ⟨Nat.le_of_ble_eq_true rfl, Nat.le_of_ble_eq_true rfl⟩ (fun ce q9 H locs hP hS hce hcv hcl => ?_)
  refine vx_catch (E := "java/lang/IllegalArgumentException") (name := "java/lang/IllegalArgumentException") hown [] ⟨0, 17, 20, 37⟩ [] htab (fun z h => absurd h List.not_mem_nil) (by decide) (by decide) (hts (.classLink RL 37 "java/lang/IllegalArgumentException") (by decide +kernel)) (va_Nw.use rfl hv.2.2.2.1) hce hcv hcl ?_
  refine lv_astore (lv' := [(4, .ref q9), (0, .ref x), (1, .int k), (2, .int t), (3, .ref o)]) hx hb dL_containsPair_20 hl (by decide) rfl (fun ls hl => ?_)
  refine lv_iconst (v := 1) hx hb dL_containsPair_22 (by decide) ?_
  exact hH_iret hx hb hr hlocks rfl hP hD hS rfl dL_containsPair_23 (by decide) (by decide)
set_option maxHeartbeats 4000000 in
set_option maxRecDepth 100000 in
theorem c_L_addFirst (l : Launch) (D : va_G) (x h1 h2 h3 a3 : Nat) (cL cI : ClassId) (f : Nat → Int32) (c : Nat) (v : Int32) (o : Nat) (g : Nat → Int64) (hc : c < 200) : mH l yL_addFirst wsL_addFirst ({ frames := 2, cells := 1, slots := 6, locals := 43 }) [.ref x, .int v, .ref o] D [(cL, .long), (cI, .int)] [(x, .inr (2, [.ref h1, .ref h2, .ref h3])), (h3, .inr (1, [.ref a3, .int (nI c)])), (a3, .inl (cI, 200, .inl f)), (o, .inl (cL, 1, .inr (.inl g)))] [(x, .inr (2, [.ref h1, .ref h2, .ref h3])), (h3, .inr (1, [.ref a3, .int (nI (c + 1))])), (a3, .inl (cI, 200, .inl (s_ins f v c))), (o, .inl (cL, 1, .inr (.inl (vp_updL g 0 ((nI (c + 1)).toInt64)))))] (0) := by
  refine hH_body (cc := cL_addFirst) (maxL := 4) (ret := some .int) (hh := [(0, 9, 12, 13)]) (by decide) rfl (Nat.le_of_ble_eq_true rfl) ?_
  intro p e s m below meth cd A ls hat htab hZ hA hP hK hD hS hl
  obtain ⟨hF, hr, hlocks, hv⟩ := id hat
  obtain ⟨hx, hb, hml, hown, hts⟩ := id hF
  have hown : s.vm.findClass RL = some m.cls := hown
  have hl : lv_has ls 4 [(0, .ref x), (1, .int v), (2, .ref o)] := hl
  have hP : va_P D vwCl [(x, .inr (2, [.ref h1, .ref h2, .ref h3])), (h3, .inr (1, [.ref a3, .int (nI c)])), (a3, .inl (cI, 200, .inl f)), (o, .inl (cL, 1, .inr (.inl g)))] s.heap := hP
  have hD : va_D A [(x, .inr (2, [.ref h1, .ref h2, .ref h3])), (h3, .inr (1, [.ref a3, .int (nI c)])), (a3, .inl (cI, 200, .inl f)), (o, .inl (cL, 1, .inr (.inl g)))] := hD
  refine lv_aload_n hx hb dL_addFirst_0 rfl (lv_at hl 2 rfl) ?_
  refine lv_iconst (v := nI 0) hx hb dL_addFirst_1 (by decide +kernel) ?_
  refine lv_aload_n hx hb dL_addFirst_2 rfl (lv_at hl 0 rfl) ?_
  refine lv_iload_n hx hb dL_addFirst_3 rfl (lv_at hl 1 rfl) ?_
  refine hc_iV (As := [.int v]) (rest := [.int (nI 0), .ref o]) (wc := [(x, .inr (2, [.ref h1, .ref h2, .ref h3])), (h3, .inr (1, [.ref a3, .int (nI c)])), (a3, .inl (cI, 200, .inl f))]) (wr := [(o, .inl (cL, 1, .inr (.inl g)))]) (w1 := [(x, .inr (2, [.ref h1, .ref h2, .ref h3])), (h3, .inr (1, [.ref a3, .int (nI (c + 1))])), (a3, .inl (cI, 200, .inl (s_ins f v c)))]) (w' := [(x, .inr (2, [.ref h1, .ref h2, .ref h3])), (h3, .inr (1, [.ref a3, .int (nI (c + 1))])), (a3, .inl (cI, 200, .inl (s_ins f v c))), (o, .inl (cL, 1, .inr (.inl g)))]) hF (c_X2_addFirst l D x h1 h2 h3 a3 cI f c v hc) (cwV 1 hts gL_addFirst_X2_addFirst rfl rfl rfl (by decide +kernel) ⟨Nat.le_of_ble_eq_true rfl, Nat.le_of_ble_eq_true rfl⟩) hP hK hD hS hA hv [0, 1, 2] [3] [1, 2, 3, 0] [1] ⟨rfl, rfl, rfl, rfl, ⟨by decide, by decide, by decide⟩, by decide⟩ 0 2 rfl rfl rfl rfl hl.1 rfl (Nat.le_of_ble_eq_true rfl) dL_addFirst_4 ⟨Nat.zero_le _, Nat.zero_le _⟩ (fun H locs hP hD hS => ?_)
  refine lv_i2l hx hb dL_addFirst_7 rfl ?_
  refine h_last hx hb hK hP hD hS 3 0 rfl rfl (by decide) (by omega) dL_addFirst_8 (fun H locs hP hD hS => ?_)
  have hP : va_P D vwCl [(x, .inr (2, [.ref h1, .ref h2, .ref h3])), (h3, .inr (1, [.ref a3, .int (nI (c + 1))])), (a3, .inl (cI, 200, .inl (s_ins f v c))), (o, .inl (cL, 1, .inr (.inl (vp_updL g 0 ((nI (c + 1)).toInt64)))))] H := hP
  have hD : va_D A [(x, .inr (2, [.ref h1, .ref h2, .ref h3])), (h3, .inr (1, [.ref a3, .int (nI (c + 1))])), (a3, .inl (cI, 200, .inl (s_ins f v c))), (o, .inl (cL, 1, .inr (.inl (vp_updL g 0 ((nI (c + 1)).toInt64)))))] := hD
  refine lv_goto (tgt := 15) hx hb dL_addFirst_9 (by decide) ?_
  refine lv_iconst (v := 0) hx hb dL_addFirst_15 (by decide) ?_
  exact hH_iret hx hb hr hlocks rfl hP hD hS rfl dL_addFirst_16 (by decide) (by decide)
set_option maxHeartbeats 4000000 in
set_option maxRecDepth 100000 in
theorem c_L_addFirst_x (l : Launch) (hfl : l.stackTraces = false) (D : va_G) (x h1 h2 h3 a3 : Nat) (cL cI : ClassId) (f : Nat → Int32) (v : Int32) (o : Nat) (g : Nat → Int64) : mH l yL_addFirst wsL_addFirst ({ frames := 8, cells := 1, slots := 6, locals := 127 }) [.ref x, .int v, .ref o] D [(cL, .long), (cI, .int)] [(x, .inr (2, [.ref h1, .ref h2, .ref h3])), (h3, .inr (1, [.ref a3, .int (nI 200)])), (a3, .inl (cI, 200, .inl f)), (o, .inl (cL, 1, .inr (.inl g)))] [(x, .inr (2, [.ref h1, .ref h2, .ref h3])), (h3, .inr (1, [.ref a3, .int (nI 200)])), (a3, .inl (cI, 200, .inl f)), (o, .inl (cL, 1, .inr (.inl g)))] (1) := by
  refine hH_body (cc := cL_addFirst) (maxL := 4) (ret := some .int) (hh := [(0, 9, 12, 13)]) (by decide) rfl (Nat.le_of_ble_eq_true rfl) ?_
  intro p e s m below meth cd A ls hat htab hZ hA hP hK hD hS hl
  obtain ⟨hF, hr, hlocks, hv⟩ := id hat
  obtain ⟨hx, hb, hml, hown, hts⟩ := id hF
  have hown : s.vm.findClass RL = some m.cls := hown
  have hl : lv_has ls 4 [(0, .ref x), (1, .int v), (2, .ref o)] := hl
  have hP : va_P D vwCl [(x, .inr (2, [.ref h1, .ref h2, .ref h3])), (h3, .inr (1, [.ref a3, .int (nI 200)])), (a3, .inl (cI, 200, .inl f)), (o, .inl (cL, 1, .inr (.inl g)))] s.heap := hP
  have hD : va_D A [(x, .inr (2, [.ref h1, .ref h2, .ref h3])), (h3, .inr (1, [.ref a3, .int (nI 200)])), (a3, .inl (cI, 200, .inl f)), (o, .inl (cL, 1, .inr (.inl g)))] := hD
  refine lv_aload_n hx hb dL_addFirst_0 rfl (lv_at hl 2 rfl) ?_
  refine lv_iconst (v := nI 0) hx hb dL_addFirst_1 (by decide +kernel) ?_
  refine lv_aload_n hx hb dL_addFirst_2 rfl (lv_at hl 0 rfl) ?_
  refine lv_iload_n hx hb dL_addFirst_3 rfl (lv_at hl 1 rfl) ?_
  refine hx_callV (As := [.int v]) (rest := [.int (nI 0), .ref o]) (wc := [(x, .inr (2, [.ref h1, .ref h2, .ref h3])), (h3, .inr (1, [.ref a3, .int (nI 200)])), (a3, .inl (cI, 200, .inl f))]) hF (c_X2_addFirst_x l hfl D x h1 h2 h3 a3 cI f v) (cwV 1 hts gL_addFirst_X2_addFirst rfl rfl rfl (by decide +kernel) ⟨Nat.le_of_ble_eq_true rfl, Nat.le_of_ble_eq_true rfl⟩) hP hK hD hS hA hv (fun U hU hW => hZ.move hW (by rw [hU]; exact Nat.le_refl _) (fun q hq => by rw [hU])) [0, 1, 2] [1] rfl (by decide) rfl 0 2 rfl rfl rfl rfl hl.1 rfl (Nat.le_of_ble_eq_true rfl) dL_addFirst_4 ⟨Nat.le_of_ble_eq_true rfl, Nat.le_of_ble_eq_true rfl⟩ (fun ce q9 H locs hP hS hce hcv hcl => ?_)
  refine vx_catch (E := "java/lang/IllegalStateException") (name := "java/lang/IllegalStateException") hown [] ⟨0, 9, 12, 13⟩ [] htab (fun z h => absurd h List.not_mem_nil) (by decide) (by decide) (hts (.classLink RL 13 "java/lang/IllegalStateException") (by decide +kernel)) (va_Nw.use rfl hv.1) hce hcv hcl ?_
  refine lv_astore_n (lv' := [(3, .ref q9), (0, .ref x), (1, .int v), (2, .ref o)]) hx hb dL_addFirst_12 rfl hl (by decide) rfl (fun ls hl => ?_)
  refine lv_iconst (v := 1) hx hb dL_addFirst_13 (by decide) ?_
  exact hH_iret hx hb hr hlocks rfl hP hD hS rfl dL_addFirst_14 (by decide) (by decide)
set_option maxHeartbeats 4000000 in
set_option maxRecDepth 100000 in
theorem c_L_push (l : Launch) (D : va_G) (x h1 h2 h3 a3 : Nat) (cL cI : ClassId) (f : Nat → Int32) (c : Nat) (v : Int32) (o : Nat) (g : Nat → Int64) (hc : c < 200) : mH l yL_push wsL_push ({ frames := 2, cells := 1, slots := 6, locals := 43 }) [.ref x, .int v, .ref o] D [(cL, .long), (cI, .int)] [(x, .inr (2, [.ref h1, .ref h2, .ref h3])), (h3, .inr (1, [.ref a3, .int (nI c)])), (a3, .inl (cI, 200, .inl f)), (o, .inl (cL, 1, .inr (.inl g)))] [(x, .inr (2, [.ref h1, .ref h2, .ref h3])), (h3, .inr (1, [.ref a3, .int (nI (c + 1))])), (a3, .inl (cI, 200, .inl (s_ins f v c))), (o, .inl (cL, 1, .inr (.inl (vp_updL g 0 ((nI (c + 1)).toInt64)))))] (0) := by
  refine hH_body (cc := cL_push) (maxL := 4) (ret := some .int) (hh := [(0, 9, 12, 13)]) (by decide) rfl (Nat.le_of_ble_eq_true rfl) ?_
  intro p e s m below meth cd A ls hat htab hZ hA hP hK hD hS hl
  obtain ⟨hF, hr, hlocks, hv⟩ := id hat
  obtain ⟨hx, hb, hml, hown, hts⟩ := id hF
  have hown : s.vm.findClass RL = some m.cls := hown
  have hl : lv_has ls 4 [(0, .ref x), (1, .int v), (2, .ref o)] := hl
  have hP : va_P D vwCl [(x, .inr (2, [.ref h1, .ref h2, .ref h3])), (h3, .inr (1, [.ref a3, .int (nI c)])), (a3, .inl (cI, 200, .inl f)), (o, .inl (cL, 1, .inr (.inl g)))] s.heap := hP
  have hD : va_D A [(x, .inr (2, [.ref h1, .ref h2, .ref h3])), (h3, .inr (1, [.ref a3, .int (nI c)])), (a3, .inl (cI, 200, .inl f)), (o, .inl (cL, 1, .inr (.inl g)))] := hD
  refine lv_aload_n hx hb dL_push_0 rfl (lv_at hl 2 rfl) ?_
  refine lv_iconst (v := nI 0) hx hb dL_push_1 (by decide +kernel) ?_
  refine lv_aload_n hx hb dL_push_2 rfl (lv_at hl 0 rfl) ?_
  refine lv_iload_n hx hb dL_push_3 rfl (lv_at hl 1 rfl) ?_
  refine hc_iV (As := [.int v]) (rest := [.int (nI 0), .ref o]) (wc := [(x, .inr (2, [.ref h1, .ref h2, .ref h3])), (h3, .inr (1, [.ref a3, .int (nI c)])), (a3, .inl (cI, 200, .inl f))]) (wr := [(o, .inl (cL, 1, .inr (.inl g)))]) (w1 := [(x, .inr (2, [.ref h1, .ref h2, .ref h3])), (h3, .inr (1, [.ref a3, .int (nI (c + 1))])), (a3, .inl (cI, 200, .inl (s_ins f v c)))]) (w' := [(x, .inr (2, [.ref h1, .ref h2, .ref h3])), (h3, .inr (1, [.ref a3, .int (nI (c + 1))])), (a3, .inl (cI, 200, .inl (s_ins f v c))), (o, .inl (cL, 1, .inr (.inl g)))]) hF (c_X2_push l D x h1 h2 h3 a3 cI f c v hc) (cwV 1 hts gL_push_X2_push rfl rfl rfl (by decide +kernel) ⟨Nat.le_of_ble_eq_true rfl, Nat.le_of_ble_eq_true rfl⟩) hP hK hD hS hA hv [0, 1, 2] [3] [1, 2, 3, 0] [1] ⟨rfl, rfl, rfl, rfl, ⟨by decide, by decide, by decide⟩, by decide⟩ 0 2 rfl rfl rfl rfl hl.1 rfl (Nat.le_of_ble_eq_true rfl) dL_push_4 ⟨Nat.zero_le _, Nat.zero_le _⟩ (fun H locs hP hD hS => ?_)
  refine lv_i2l hx hb dL_push_7 rfl ?_
  refine h_last hx hb hK hP hD hS 3 0 rfl rfl (by decide) (by omega) dL_push_8 (fun H locs hP hD hS => ?_)
  have hP : va_P D vwCl [(x, .inr (2, [.ref h1, .ref h2, .ref h3])), (h3, .inr (1, [.ref a3, .int (nI (c + 1))])), (a3, .inl (cI, 200, .inl (s_ins f v c))), (o, .inl (cL, 1, .inr (.inl (vp_updL g 0 ((nI (c + 1)).toInt64)))))] H := hP
  have hD : va_D A [(x, .inr (2, [.ref h1, .ref h2, .ref h3])), (h3, .inr (1, [.ref a3, .int (nI (c + 1))])), (a3, .inl (cI, 200, .inl (s_ins f v c))), (o, .inl (cL, 1, .inr (.inl (vp_updL g 0 ((nI (c + 1)).toInt64)))))] := hD
  refine lv_goto (tgt := 15) hx hb dL_push_9 (by decide) ?_
  refine lv_iconst (v := 0) hx hb dL_push_15 (by decide) ?_
  exact hH_iret hx hb hr hlocks rfl hP hD hS rfl dL_push_16 (by decide) (by decide)
set_option maxHeartbeats 4000000 in
set_option maxRecDepth 100000 in
theorem c_L_push_x (l : Launch) (hfl : l.stackTraces = false) (D : va_G) (x h1 h2 h3 a3 : Nat) (cL cI : ClassId) (f : Nat → Int32) (v : Int32) (o : Nat) (g : Nat → Int64) : mH l yL_push wsL_push ({ frames := 8, cells := 1, slots := 6, locals := 127 }) [.ref x, .int v, .ref o] D [(cL, .long), (cI, .int)] [(x, .inr (2, [.ref h1, .ref h2, .ref h3])), (h3, .inr (1, [.ref a3, .int (nI 200)])), (a3, .inl (cI, 200, .inl f)), (o, .inl (cL, 1, .inr (.inl g)))] [(x, .inr (2, [.ref h1, .ref h2, .ref h3])), (h3, .inr (1, [.ref a3, .int (nI 200)])), (a3, .inl (cI, 200, .inl f)), (o, .inl (cL, 1, .inr (.inl g)))] (1) := by
  refine hH_body (cc := cL_push) (maxL := 4) (ret := some .int) (hh := [(0, 9, 12, 13)]) (by decide) rfl (Nat.le_of_ble_eq_true rfl) ?_
  intro p e s m below meth cd A ls hat htab hZ hA hP hK hD hS hl
  obtain ⟨hF, hr, hlocks, hv⟩ := id hat
  obtain ⟨hx, hb, hml, hown, hts⟩ := id hF
  have hown : s.vm.findClass RL = some m.cls := hown
  have hl : lv_has ls 4 [(0, .ref x), (1, .int v), (2, .ref o)] := hl
  have hP : va_P D vwCl [(x, .inr (2, [.ref h1, .ref h2, .ref h3])), (h3, .inr (1, [.ref a3, .int (nI 200)])), (a3, .inl (cI, 200, .inl f)), (o, .inl (cL, 1, .inr (.inl g)))] s.heap := hP
  have hD : va_D A [(x, .inr (2, [.ref h1, .ref h2, .ref h3])), (h3, .inr (1, [.ref a3, .int (nI 200)])), (a3, .inl (cI, 200, .inl f)), (o, .inl (cL, 1, .inr (.inl g)))] := hD
  refine lv_aload_n hx hb dL_push_0 rfl (lv_at hl 2 rfl) ?_
  refine lv_iconst (v := nI 0) hx hb dL_push_1 (by decide +kernel) ?_
  refine lv_aload_n hx hb dL_push_2 rfl (lv_at hl 0 rfl) ?_
  refine lv_iload_n hx hb dL_push_3 rfl (lv_at hl 1 rfl) ?_
  refine hx_callV (As := [.int v]) (rest := [.int (nI 0), .ref o]) (wc := [(x, .inr (2, [.ref h1, .ref h2, .ref h3])), (h3, .inr (1, [.ref a3, .int (nI 200)])), (a3, .inl (cI, 200, .inl f))]) hF (c_X2_push_x l hfl D x h1 h2 h3 a3 cI f v) (cwV 1 hts gL_push_X2_push rfl rfl rfl (by decide +kernel) ⟨Nat.le_of_ble_eq_true rfl, Nat.le_of_ble_eq_true rfl⟩) hP hK hD hS hA hv (fun U hU hW => hZ.move hW (by rw [hU]; exact Nat.le_refl _) (fun q hq => by rw [hU])) [0, 1, 2] [1] rfl (by decide) rfl 0 2 rfl rfl rfl rfl hl.1 rfl (Nat.le_of_ble_eq_true rfl) dL_push_4 ⟨Nat.le_of_ble_eq_true rfl, Nat.le_of_ble_eq_true rfl⟩ (fun ce q9 H locs hP hS hce hcv hcl => ?_)
  refine vx_catch (E := "java/lang/IllegalStateException") (name := "java/lang/IllegalStateException") hown [] ⟨0, 9, 12, 13⟩ [] htab (fun z h => absurd h List.not_mem_nil) (by decide) (by decide) (hts (.classLink RL 13 "java/lang/IllegalStateException") (by decide +kernel)) (va_Nw.use rfl hv.1) hce hcv hcl ?_
  refine lv_astore_n (lv' := [(3, .ref q9), (0, .ref x), (1, .int v), (2, .ref o)]) hx hb dL_push_12 rfl hl (by decide) rfl (fun ls hl => ?_)
  refine lv_iconst (v := 1) hx hb dL_push_13 (by decide) ?_
  exact hH_iret hx hb hr hlocks rfl hP hD hS rfl dL_push_14 (by decide) (by decide)
set_option maxHeartbeats 4000000 in
set_option maxRecDepth 100000 in
theorem c_L_addLast (l : Launch) (D : va_G) (x h1 h2 h3 a3 : Nat) (cL cI : ClassId) (f : Nat → Int32) (c : Nat) (v : Int32) (o : Nat) (g : Nat → Int64) (hc : c < 200) : mH l yL_addLast wsL_addLast ({ frames := 2, cells := 1, slots := 6, locals := 42 }) [.ref x, .int v, .ref o] D [(cL, .long), (cI, .int)] [(x, .inr (2, [.ref h1, .ref h2, .ref h3])), (h3, .inr (1, [.ref a3, .int (nI c)])), (a3, .inl (cI, 200, .inl f)), (o, .inl (cL, 1, .inr (.inl g)))] [(x, .inr (2, [.ref h1, .ref h2, .ref h3])), (h3, .inr (1, [.ref a3, .int (nI (c + 1))])), (a3, .inl (cI, 200, .inl (upd f c v))), (o, .inl (cL, 1, .inr (.inl (vp_updL g 0 ((nI (c + 1)).toInt64)))))] (0) := by
  refine hH_body (cc := cL_addLast) (maxL := 4) (ret := some .int) (hh := [(0, 9, 12, 13)]) (by decide) rfl (Nat.le_of_ble_eq_true rfl) ?_
  intro p e s m below meth cd A ls hat htab hZ hA hP hK hD hS hl
  obtain ⟨hF, hr, hlocks, hv⟩ := id hat
  obtain ⟨hx, hb, hml, hown, hts⟩ := id hF
  have hown : s.vm.findClass RL = some m.cls := hown
  have hl : lv_has ls 4 [(0, .ref x), (1, .int v), (2, .ref o)] := hl
  have hP : va_P D vwCl [(x, .inr (2, [.ref h1, .ref h2, .ref h3])), (h3, .inr (1, [.ref a3, .int (nI c)])), (a3, .inl (cI, 200, .inl f)), (o, .inl (cL, 1, .inr (.inl g)))] s.heap := hP
  have hD : va_D A [(x, .inr (2, [.ref h1, .ref h2, .ref h3])), (h3, .inr (1, [.ref a3, .int (nI c)])), (a3, .inl (cI, 200, .inl f)), (o, .inl (cL, 1, .inr (.inl g)))] := hD
  refine lv_aload_n hx hb dL_addLast_0 rfl (lv_at hl 2 rfl) ?_
  refine lv_iconst (v := nI 0) hx hb dL_addLast_1 (by decide +kernel) ?_
  refine lv_aload_n hx hb dL_addLast_2 rfl (lv_at hl 0 rfl) ?_
  refine lv_iload_n hx hb dL_addLast_3 rfl (lv_at hl 1 rfl) ?_
  refine hc_iV (As := [.int v]) (rest := [.int (nI 0), .ref o]) (wc := [(x, .inr (2, [.ref h1, .ref h2, .ref h3])), (h3, .inr (1, [.ref a3, .int (nI c)])), (a3, .inl (cI, 200, .inl f))]) (wr := [(o, .inl (cL, 1, .inr (.inl g)))]) (w1 := [(x, .inr (2, [.ref h1, .ref h2, .ref h3])), (h3, .inr (1, [.ref a3, .int (nI (c + 1))])), (a3, .inl (cI, 200, .inl (upd f c v)))]) (w' := [(x, .inr (2, [.ref h1, .ref h2, .ref h3])), (h3, .inr (1, [.ref a3, .int (nI (c + 1))])), (a3, .inl (cI, 200, .inl (upd f c v))), (o, .inl (cL, 1, .inr (.inl g)))]) hF (c_X2_addLast l D x h1 h2 h3 a3 cI f c v hc) (cwV 1 hts gL_addLast_X2_addLast rfl rfl rfl (by decide +kernel) ⟨Nat.le_of_ble_eq_true rfl, Nat.le_of_ble_eq_true rfl⟩) hP hK hD hS hA hv [0, 1, 2] [3] [1, 2, 3, 0] [1] ⟨rfl, rfl, rfl, rfl, ⟨by decide, by decide, by decide⟩, by decide⟩ 0 2 rfl rfl rfl rfl hl.1 rfl (Nat.le_of_ble_eq_true rfl) dL_addLast_4 ⟨Nat.zero_le _, Nat.zero_le _⟩ (fun H locs hP hD hS => ?_)
  refine lv_i2l hx hb dL_addLast_7 rfl ?_
  refine h_last hx hb hK hP hD hS 3 0 rfl rfl (by decide) (by omega) dL_addLast_8 (fun H locs hP hD hS => ?_)
  have hP : va_P D vwCl [(x, .inr (2, [.ref h1, .ref h2, .ref h3])), (h3, .inr (1, [.ref a3, .int (nI (c + 1))])), (a3, .inl (cI, 200, .inl (upd f c v))), (o, .inl (cL, 1, .inr (.inl (vp_updL g 0 ((nI (c + 1)).toInt64)))))] H := hP
  have hD : va_D A [(x, .inr (2, [.ref h1, .ref h2, .ref h3])), (h3, .inr (1, [.ref a3, .int (nI (c + 1))])), (a3, .inl (cI, 200, .inl (upd f c v))), (o, .inl (cL, 1, .inr (.inl (vp_updL g 0 ((nI (c + 1)).toInt64)))))] := hD
  refine lv_goto (tgt := 15) hx hb dL_addLast_9 (by decide) ?_
  refine lv_iconst (v := 0) hx hb dL_addLast_15 (by decide) ?_
  exact hH_iret hx hb hr hlocks rfl hP hD hS rfl dL_addLast_16 (by decide) (by decide)
set_option maxHeartbeats 4000000 in
set_option maxRecDepth 100000 in
theorem c_L_addLast_x (l : Launch) (hfl : l.stackTraces = false) (D : va_G) (x h1 h2 h3 a3 : Nat) (cL cI : ClassId) (f : Nat → Int32) (v : Int32) (o : Nat) (g : Nat → Int64) : mH l yL_addLast wsL_addLast ({ frames := 8, cells := 1, slots := 6, locals := 126 }) [.ref x, .int v, .ref o] D [(cL, .long), (cI, .int)] [(x, .inr (2, [.ref h1, .ref h2, .ref h3])), (h3, .inr (1, [.ref a3, .int (nI 200)])), (a3, .inl (cI, 200, .inl f)), (o, .inl (cL, 1, .inr (.inl g)))] [(x, .inr (2, [.ref h1, .ref h2, .ref h3])), (h3, .inr (1, [.ref a3, .int (nI 200)])), (a3, .inl (cI, 200, .inl f)), (o, .inl (cL, 1, .inr (.inl g)))] (1) := by
  refine hH_body (cc := cL_addLast) (maxL := 4) (ret := some .int) (hh := [(0, 9, 12, 13)]) (by decide) rfl (Nat.le_of_ble_eq_true rfl) ?_
  intro p e s m below meth cd A ls hat htab hZ hA hP hK hD hS hl
  obtain ⟨hF, hr, hlocks, hv⟩ := id hat
  obtain ⟨hx, hb, hml, hown, hts⟩ := id hF
  have hown : s.vm.findClass RL = some m.cls := hown
  have hl : lv_has ls 4 [(0, .ref x), (1, .int v), (2, .ref o)] := hl
  have hP : va_P D vwCl [(x, .inr (2, [.ref h1, .ref h2, .ref h3])), (h3, .inr (1, [.ref a3, .int (nI 200)])), (a3, .inl (cI, 200, .inl f)), (o, .inl (cL, 1, .inr (.inl g)))] s.heap := hP
  have hD : va_D A [(x, .inr (2, [.ref h1, .ref h2, .ref h3])), (h3, .inr (1, [.ref a3, .int (nI 200)])), (a3, .inl (cI, 200, .inl f)), (o, .inl (cL, 1, .inr (.inl g)))] := hD
  refine lv_aload_n hx hb dL_addLast_0 rfl (lv_at hl 2 rfl) ?_
  refine lv_iconst (v := nI 0) hx hb dL_addLast_1 (by decide +kernel) ?_
  refine lv_aload_n hx hb dL_addLast_2 rfl (lv_at hl 0 rfl) ?_
  refine lv_iload_n hx hb dL_addLast_3 rfl (lv_at hl 1 rfl) ?_
  refine hx_callV (As := [.int v]) (rest := [.int (nI 0), .ref o]) (wc := [(x, .inr (2, [.ref h1, .ref h2, .ref h3])), (h3, .inr (1, [.ref a3, .int (nI 200)])), (a3, .inl (cI, 200, .inl f))]) hF (c_X2_addLast_x l hfl D x h1 h2 h3 a3 cI f v) (cwV 1 hts gL_addLast_X2_addLast rfl rfl rfl (by decide +kernel) ⟨Nat.le_of_ble_eq_true rfl, Nat.le_of_ble_eq_true rfl⟩) hP hK hD hS hA hv (fun U hU hW => hZ.move hW (by rw [hU]; exact Nat.le_refl _) (fun q hq => by rw [hU])) [0, 1, 2] [1] rfl (by decide) rfl 0 2 rfl rfl rfl rfl hl.1 rfl (Nat.le_of_ble_eq_true rfl) dL_addLast_4 ⟨Nat.le_of_ble_eq_true rfl, Nat.le_of_ble_eq_true rfl⟩ (fun ce q9 H locs hP hS hce hcv hcl => ?_)
  refine vx_catch (E := "java/lang/IllegalStateException") (name := "java/lang/IllegalStateException") hown [] ⟨0, 9, 12, 13⟩ [] htab (fun z h => absurd h List.not_mem_nil) (by decide) (by decide) (hts (.classLink RL 13 "java/lang/IllegalStateException") (by decide +kernel)) (va_Nw.use rfl hv.1) hce hcv hcl ?_
  refine lv_astore_n (lv' := [(3, .ref q9), (0, .ref x), (1, .int v), (2, .ref o)]) hx hb dL_addLast_12 rfl hl (by decide) rfl (fun ls hl => ?_)
  refine lv_iconst (v := 1) hx hb dL_addLast_13 (by decide) ?_
  exact hH_iret hx hb hr hlocks rfl hP hD hS rfl dL_addLast_14 (by decide) (by decide)
set_option maxHeartbeats 4000000 in
set_option maxRecDepth 100000 in
theorem c_L_getFirst (l : Launch) (D : va_G) (x h1 h2 h3 a3 : Nat) (cL cI : ClassId) (f : Nat → Int32) (c : Nat) (o : Nat) (g : Nat → Int64) (h1c : 1 ≤ c) (hc : c ≤ 200) : mH l yL_getFirst wsL_getFirst ({ frames := 2, cells := 1, slots := 6, locals := 40 }) [.ref x, .ref o] D [(cL, .long), (cI, .int)] [(x, .inr (2, [.ref h1, .ref h2, .ref h3])), (h3, .inr (1, [.ref a3, .int (nI c)])), (a3, .inl (cI, 200, .inl f)), (o, .inl (cL, 1, .inr (.inl g)))] [(x, .inr (2, [.ref h1, .ref h2, .ref h3])), (h3, .inr (1, [.ref a3, .int (nI c)])), (a3, .inl (cI, 200, .inl f)), (o, .inl (cL, 1, .inr (.inl (vp_updL g 0 ((f 0).toInt64)))))] (0) := by
  refine hH_body (cc := cL_getFirst) (maxL := 3) (ret := some .int) (hh := [(0, 8, 11, 22)]) (by decide) rfl (Nat.le_of_ble_eq_true rfl) ?_
  intro p e s m below meth cd A ls hat htab hZ hA hP hK hD hS hl
  obtain ⟨hF, hr, hlocks, hv⟩ := id hat
  obtain ⟨hx, hb, hml, hown, hts⟩ := id hF
  have hown : s.vm.findClass RL = some m.cls := hown
  have hl : lv_has ls 3 [(0, .ref x), (1, .ref o)] := hl
  have hP : va_P D vwCl [(x, .inr (2, [.ref h1, .ref h2, .ref h3])), (h3, .inr (1, [.ref a3, .int (nI c)])), (a3, .inl (cI, 200, .inl f)), (o, .inl (cL, 1, .inr (.inl g)))] s.heap := hP
  have hD : va_D A [(x, .inr (2, [.ref h1, .ref h2, .ref h3])), (h3, .inr (1, [.ref a3, .int (nI c)])), (a3, .inl (cI, 200, .inl f)), (o, .inl (cL, 1, .inr (.inl g)))] := hD
  refine lv_aload_n hx hb dL_getFirst_0 rfl (lv_at hl 1 rfl) ?_
  refine lv_iconst (v := nI 0) hx hb dL_getFirst_1 (by decide +kernel) ?_
  refine lv_aload_n hx hb dL_getFirst_2 rfl (lv_at hl 0 rfl) ?_
  refine hc_iV (As := []) (rest := [.int (nI 0), .ref o]) (wc := [(x, .inr (2, [.ref h1, .ref h2, .ref h3])), (h3, .inr (1, [.ref a3, .int (nI c)])), (a3, .inl (cI, 200, .inl f))]) (wr := [(o, .inl (cL, 1, .inr (.inl g)))]) (w1 := [(x, .inr (2, [.ref h1, .ref h2, .ref h3])), (h3, .inr (1, [.ref a3, .int (nI c)])), (a3, .inl (cI, 200, .inl f))]) (w' := [(x, .inr (2, [.ref h1, .ref h2, .ref h3])), (h3, .inr (1, [.ref a3, .int (nI c)])), (a3, .inl (cI, 200, .inl f)), (o, .inl (cL, 1, .inr (.inl g)))]) hF (c_X2_getFirst l D x h1 h2 h3 a3 cI f c h1c hc) (cwV 0 hts gL_getFirst_X2_getFirst rfl rfl rfl (by decide +kernel) ⟨Nat.le_of_ble_eq_true rfl, Nat.le_of_ble_eq_true rfl⟩) hP hK hD hS hA hv [0, 1, 2] [3] [1, 2, 3, 0] [1] ⟨rfl, rfl, rfl, rfl, ⟨by decide, by decide, by decide⟩, by decide⟩ 0 2 rfl rfl rfl rfl hl.1 rfl (Nat.le_of_ble_eq_true rfl) dL_getFirst_3 ⟨Nat.zero_le _, Nat.zero_le _⟩ (fun H locs hP hD hS => ?_)
  refine lv_i2l hx hb dL_getFirst_6 rfl ?_
  refine h_last hx hb hK hP hD hS 3 0 rfl rfl (by decide) (by omega) dL_getFirst_7 (fun H locs hP hD hS => ?_)
  have hP : va_P D vwCl [(x, .inr (2, [.ref h1, .ref h2, .ref h3])), (h3, .inr (1, [.ref a3, .int (nI c)])), (a3, .inl (cI, 200, .inl f)), (o, .inl (cL, 1, .inr (.inl (vp_updL g 0 ((f 0).toInt64)))))] H := hP
  have hD : va_D A [(x, .inr (2, [.ref h1, .ref h2, .ref h3])), (h3, .inr (1, [.ref a3, .int (nI c)])), (a3, .inl (cI, 200, .inl f)), (o, .inl (cL, 1, .inr (.inl (vp_updL g 0 ((f 0).toInt64)))))] := hD
  refine lv_goto (tgt := 14) hx hb dL_getFirst_8 (by decide) ?_
  refine lv_iconst (v := 0) hx hb dL_getFirst_14 (by decide) ?_
  exact hH_iret hx hb hr hlocks rfl hP hD hS rfl dL_getFirst_15 (by decide) (by decide)
set_option maxHeartbeats 4000000 in
set_option maxRecDepth 100000 in
theorem c_L_getFirst_x (l : Launch) (hfl : l.stackTraces = false) (D : va_G) (x h1 h2 h3 a3 : Nat) (cL cI : ClassId) (f : Nat → Int32) (o : Nat) (g : Nat → Int64) : mH l yL_getFirst wsL_getFirst ({ frames := 8, cells := 1, slots := 6, locals := 124 }) [.ref x, .ref o] D [(cL, .long), (cI, .int)] [(x, .inr (2, [.ref h1, .ref h2, .ref h3])), (h3, .inr (1, [.ref a3, .int (nI 0)])), (a3, .inl (cI, 200, .inl f)), (o, .inl (cL, 1, .inr (.inl g)))] [(x, .inr (2, [.ref h1, .ref h2, .ref h3])), (h3, .inr (1, [.ref a3, .int (nI 0)])), (a3, .inl (cI, 200, .inl f)), (o, .inl (cL, 1, .inr (.inl g)))] (1) := by
  refine hH_body (cc := cL_getFirst) (maxL := 3) (ret := some .int) (hh := [(0, 8, 11, 22)]) (by decide) rfl (Nat.le_of_ble_eq_true rfl) ?_
  intro p e s m below meth cd A ls hat htab hZ hA hP hK hD hS hl
  obtain ⟨hF, hr, hlocks, hv⟩ := id hat
  obtain ⟨hx, hb, hml, hown, hts⟩ := id hF
  have hown : s.vm.findClass RL = some m.cls := hown
  have hl : lv_has ls 3 [(0, .ref x), (1, .ref o)] := hl
  have hP : va_P D vwCl [(x, .inr (2, [.ref h1, .ref h2, .ref h3])), (h3, .inr (1, [.ref a3, .int (nI 0)])), (a3, .inl (cI, 200, .inl f)), (o, .inl (cL, 1, .inr (.inl g)))] s.heap := hP
  have hD : va_D A [(x, .inr (2, [.ref h1, .ref h2, .ref h3])), (h3, .inr (1, [.ref a3, .int (nI 0)])), (a3, .inl (cI, 200, .inl f)), (o, .inl (cL, 1, .inr (.inl g)))] := hD
  refine lv_aload_n hx hb dL_getFirst_0 rfl (lv_at hl 1 rfl) ?_
  refine lv_iconst (v := nI 0) hx hb dL_getFirst_1 (by decide +kernel) ?_
  refine lv_aload_n hx hb dL_getFirst_2 rfl (lv_at hl 0 rfl) ?_
  refine hx_callV (As := []) (rest := [.int (nI 0), .ref o]) (wc := [(x, .inr (2, [.ref h1, .ref h2, .ref h3])), (h3, .inr (1, [.ref a3, .int (nI 0)])), (a3, .inl (cI, 200, .inl f))]) hF (c_X2_getFirst_x l hfl D x h1 h2 h3 a3 cI f) (cwV 0 hts gL_getFirst_X2_getFirst rfl rfl rfl (by decide +kernel) ⟨Nat.le_of_ble_eq_true rfl, Nat.le_of_ble_eq_true rfl⟩) hP hK hD hS hA hv (fun U hU hW => hZ.move hW (by rw [hU]; exact Nat.le_refl _) (fun q hq => by rw [hU])) [0, 1, 2] [1] rfl (by decide) rfl 0 2 rfl rfl rfl rfl hl.1 rfl (Nat.le_of_ble_eq_true rfl) dL_getFirst_3 ⟨Nat.le_of_ble_eq_true rfl, Nat.le_of_ble_eq_true rfl⟩ (fun ce q9 H locs hP hS hce hcv hcl => ?_)
  refine vx_catch (E := "java/util/NoSuchElementException") (name := "java/util/NoSuchElementException") hown [] ⟨0, 8, 11, 22⟩ [] htab (fun z h => absurd h List.not_mem_nil) (by decide) (by decide) (hts (.classLink RL 22 "java/util/NoSuchElementException") (by decide +kernel)) (va_Nw.use rfl hv.2.1) hce hcv hcl ?_
  refine lv_astore_n (lv' := [(2, .ref q9), (0, .ref x), (1, .ref o)]) hx hb dL_getFirst_11 rfl hl (by decide) rfl (fun ls hl => ?_)
  refine lv_iconst (v := 1) hx hb dL_getFirst_12 (by decide) ?_
  exact hH_iret hx hb hr hlocks rfl hP hD hS rfl dL_getFirst_13 (by decide) (by decide)
set_option maxHeartbeats 4000000 in
set_option maxRecDepth 100000 in
theorem c_L_getLast (l : Launch) (D : va_G) (x h1 h2 h3 a3 : Nat) (cL cI : ClassId) (f : Nat → Int32) (c : Nat) (o : Nat) (g : Nat → Int64) (h1c : 1 ≤ c) (hc : c ≤ 200) : mH l yL_getLast wsL_getLast ({ frames := 2, cells := 1, slots := 6, locals := 40 }) [.ref x, .ref o] D [(cL, .long), (cI, .int)] [(x, .inr (2, [.ref h1, .ref h2, .ref h3])), (h3, .inr (1, [.ref a3, .int (nI c)])), (a3, .inl (cI, 200, .inl f)), (o, .inl (cL, 1, .inr (.inl g)))] [(x, .inr (2, [.ref h1, .ref h2, .ref h3])), (h3, .inr (1, [.ref a3, .int (nI c)])), (a3, .inl (cI, 200, .inl f)), (o, .inl (cL, 1, .inr (.inl (vp_updL g 0 ((f (c - 1)).toInt64)))))] (0) := by
  refine hH_body (cc := cL_getLast) (maxL := 3) (ret := some .int) (hh := [(0, 8, 11, 22)]) (by decide) rfl (Nat.le_of_ble_eq_true rfl) ?_
  intro p e s m below meth cd A ls hat htab hZ hA hP hK hD hS hl
  obtain ⟨hF, hr, hlocks, hv⟩ := id hat
  obtain ⟨hx, hb, hml, hown, hts⟩ := id hF
  have hown : s.vm.findClass RL = some m.cls := hown
  have hl : lv_has ls 3 [(0, .ref x), (1, .ref o)] := hl
  have hP : va_P D vwCl [(x, .inr (2, [.ref h1, .ref h2, .ref h3])), (h3, .inr (1, [.ref a3, .int (nI c)])), (a3, .inl (cI, 200, .inl f)), (o, .inl (cL, 1, .inr (.inl g)))] s.heap := hP
  have hD : va_D A [(x, .inr (2, [.ref h1, .ref h2, .ref h3])), (h3, .inr (1, [.ref a3, .int (nI c)])), (a3, .inl (cI, 200, .inl f)), (o, .inl (cL, 1, .inr (.inl g)))] := hD
  refine lv_aload_n hx hb dL_getLast_0 rfl (lv_at hl 1 rfl) ?_
  refine lv_iconst (v := nI 0) hx hb dL_getLast_1 (by decide +kernel) ?_
  refine lv_aload_n hx hb dL_getLast_2 rfl (lv_at hl 0 rfl) ?_
  refine hc_iV (As := []) (rest := [.int (nI 0), .ref o]) (wc := [(x, .inr (2, [.ref h1, .ref h2, .ref h3])), (h3, .inr (1, [.ref a3, .int (nI c)])), (a3, .inl (cI, 200, .inl f))]) (wr := [(o, .inl (cL, 1, .inr (.inl g)))]) (w1 := [(x, .inr (2, [.ref h1, .ref h2, .ref h3])), (h3, .inr (1, [.ref a3, .int (nI c)])), (a3, .inl (cI, 200, .inl f))]) (w' := [(x, .inr (2, [.ref h1, .ref h2, .ref h3])), (h3, .inr (1, [.ref a3, .int (nI c)])), (a3, .inl (cI, 200, .inl f)), (o, .inl (cL, 1, .inr (.inl g)))]) hF (c_X2_getLast l D x h1 h2 h3 a3 cI f c h1c hc) (cwV 0 hts gL_getLast_X2_getLast rfl rfl rfl (by decide +kernel) ⟨Nat.le_of_ble_eq_true rfl, Nat.le_of_ble_eq_true rfl⟩) hP hK hD hS hA hv [0, 1, 2] [3] [1, 2, 3, 0] [1] ⟨rfl, rfl, rfl, rfl, ⟨by decide, by decide, by decide⟩, by decide⟩ 0 2 rfl rfl rfl rfl hl.1 rfl (Nat.le_of_ble_eq_true rfl) dL_getLast_3 ⟨Nat.zero_le _, Nat.zero_le _⟩ (fun H locs hP hD hS => ?_)
  refine lv_i2l hx hb dL_getLast_6 rfl ?_
  refine h_last hx hb hK hP hD hS 3 0 rfl rfl (by decide) (by omega) dL_getLast_7 (fun H locs hP hD hS => ?_)
  have hP : va_P D vwCl [(x, .inr (2, [.ref h1, .ref h2, .ref h3])), (h3, .inr (1, [.ref a3, .int (nI c)])), (a3, .inl (cI, 200, .inl f)), (o, .inl (cL, 1, .inr (.inl (vp_updL g 0 ((f (c - 1)).toInt64)))))] H := hP
  have hD : va_D A [(x, .inr (2, [.ref h1, .ref h2, .ref h3])), (h3, .inr (1, [.ref a3, .int (nI c)])), (a3, .inl (cI, 200, .inl f)), (o, .inl (cL, 1, .inr (.inl (vp_updL g 0 ((f (c - 1)).toInt64)))))] := hD
  refine lv_goto (tgt := 14) hx hb dL_getLast_8 (by decide) ?_
  refine lv_iconst (v := 0) hx hb dL_getLast_14 (by decide) ?_
  exact hH_iret hx hb hr hlocks rfl hP hD hS rfl dL_getLast_15 (by decide) (by decide)
set_option maxHeartbeats 4000000 in
set_option maxRecDepth 100000 in
theorem c_L_getLast_x (l : Launch) (hfl : l.stackTraces = false) (D : va_G) (x h1 h2 h3 a3 : Nat) (cL cI : ClassId) (f : Nat → Int32) (o : Nat) (g : Nat → Int64) : mH l yL_getLast wsL_getLast ({ frames := 8, cells := 1, slots := 6, locals := 124 }) [.ref x, .ref o] D [(cL, .long), (cI, .int)] [(x, .inr (2, [.ref h1, .ref h2, .ref h3])), (h3, .inr (1, [.ref a3, .int (nI 0)])), (a3, .inl (cI, 200, .inl f)), (o, .inl (cL, 1, .inr (.inl g)))] [(x, .inr (2, [.ref h1, .ref h2, .ref h3])), (h3, .inr (1, [.ref a3, .int (nI 0)])), (a3, .inl (cI, 200, .inl f)), (o, .inl (cL, 1, .inr (.inl g)))] (1) := by
  refine hH_body (cc := cL_getLast) (maxL := 3) (ret := some .int) (hh := [(0, 8, 11, 22)]) (by decide) rfl (Nat.le_of_ble_eq_true rfl) ?_
  intro p e s m below meth cd A ls hat htab hZ hA hP hK hD hS hl
  obtain ⟨hF, hr, hlocks, hv⟩ := id hat
  obtain ⟨hx, hb, hml, hown, hts⟩ := id hF
  have hown : s.vm.findClass RL = some m.cls := hown
  have hl : lv_has ls 3 [(0, .ref x), (1, .ref o)] := hl
  have hP : va_P D vwCl [(x, .inr (2, [.ref h1, .ref h2, .ref h3])), (h3, .inr (1, [.ref a3, .int (nI 0)])), (a3, .inl (cI, 200, .inl f)), (o, .inl (cL, 1, .inr (.inl g)))] s.heap := hP
  have hD : va_D A [(x, .inr (2, [.ref h1, .ref h2, .ref h3])), (h3, .inr (1, [.ref a3, .int (nI 0)])), (a3, .inl (cI, 200, .inl f)), (o, .inl (cL, 1, .inr (.inl g)))] := hD
  refine lv_aload_n hx hb dL_getLast_0 rfl (lv_at hl 1 rfl) ?_
  refine lv_iconst (v := nI 0) hx hb dL_getLast_1 (by decide +kernel) ?_
  refine lv_aload_n hx hb dL_getLast_2 rfl (lv_at hl 0 rfl) ?_
  refine hx_callV (As := []) (rest := [.int (nI 0), .ref o]) (wc := [(x, .inr (2, [.ref h1, .ref h2, .ref h3])), (h3, .inr (1, [.ref a3, .int (nI 0)])), (a3, .inl (cI, 200, .inl f))]) hF (c_X2_getLast_x l hfl D x h1 h2 h3 a3 cI f) (cwV 0 hts gL_getLast_X2_getLast rfl rfl rfl (by decide +kernel) ⟨Nat.le_of_ble_eq_true rfl, Nat.le_of_ble_eq_true rfl⟩) hP hK hD hS hA hv (fun U hU hW => hZ.move hW (by rw [hU]; exact Nat.le_refl _) (fun q hq => by rw [hU])) [0, 1, 2] [1] rfl (by decide) rfl 0 2 rfl rfl rfl rfl hl.1 rfl (Nat.le_of_ble_eq_true rfl) dL_getLast_3 ⟨Nat.le_of_ble_eq_true rfl, Nat.le_of_ble_eq_true rfl⟩ (fun ce q9 H locs hP hS hce hcv hcl => ?_)
  refine vx_catch (E := "java/util/NoSuchElementException") (name := "java/util/NoSuchElementException") hown [] ⟨0, 8, 11, 22⟩ [] htab (fun z h => absurd h List.not_mem_nil) (by decide) (by decide) (hts (.classLink RL 22 "java/util/NoSuchElementException") (by decide +kernel)) (va_Nw.use rfl hv.2.1) hce hcv hcl ?_
  refine lv_astore_n (lv' := [(2, .ref q9), (0, .ref x), (1, .ref o)]) hx hb dL_getLast_11 rfl hl (by decide) rfl (fun ls hl => ?_)
  refine lv_iconst (v := 1) hx hb dL_getLast_12 (by decide) ?_
  exact hH_iret hx hb hr hlocks rfl hP hD hS rfl dL_getLast_13 (by decide) (by decide)
set_option maxHeartbeats 4000000 in
set_option maxRecDepth 100000 in
theorem c_L_removeFirst (l : Launch) (D : va_G) (x h1 h2 h3 a3 : Nat) (cL cI : ClassId) (f : Nat → Int32) (c : Nat) (o : Nat) (g : Nat → Int64) (h1c : 1 ≤ c) (hc : c ≤ 200) : mH l yL_removeFirst wsL_removeFirst ({ frames := 3, cells := 1, slots := 6, locals := 63 }) [.ref x, .ref o] D [(cL, .long), (cI, .int)] [(x, .inr (2, [.ref h1, .ref h2, .ref h3])), (h3, .inr (1, [.ref a3, .int (nI c)])), (a3, .inl (cI, 200, .inl f)), (o, .inl (cL, 1, .inr (.inl g)))] [(x, .inr (2, [.ref h1, .ref h2, .ref h3])), (h3, .inr (1, [.ref a3, .int (nI (c - 1))])), (a3, .inl (cI, 200, .inl (s_rm f 0 c))), (o, .inl (cL, 1, .inr (.inl (vp_updL g 0 ((f 0).toInt64)))))] (0) := by
  refine hH_body (cc := cL_removeFirst) (maxL := 3) (ret := some .int) (hh := [(0, 8, 11, 22)]) (by decide) rfl (Nat.le_of_ble_eq_true rfl) ?_
  intro p e s m below meth cd A ls hat htab hZ hA hP hK hD hS hl
  obtain ⟨hF, hr, hlocks, hv⟩ := id hat
  obtain ⟨hx, hb, hml, hown, hts⟩ := id hF
  have hown : s.vm.findClass RL = some m.cls := hown
  have hl : lv_has ls 3 [(0, .ref x), (1, .ref o)] := hl
  have hP : va_P D vwCl [(x, .inr (2, [.ref h1, .ref h2, .ref h3])), (h3, .inr (1, [.ref a3, .int (nI c)])), (a3, .inl (cI, 200, .inl f)), (o, .inl (cL, 1, .inr (.inl g)))] s.heap := hP
  have hD : va_D A [(x, .inr (2, [.ref h1, .ref h2, .ref h3])), (h3, .inr (1, [.ref a3, .int (nI c)])), (a3, .inl (cI, 200, .inl f)), (o, .inl (cL, 1, .inr (.inl g)))] := hD
  refine lv_aload_n hx hb dL_removeFirst_0 rfl (lv_at hl 1 rfl) ?_
  refine lv_iconst (v := nI 0) hx hb dL_removeFirst_1 (by decide +kernel) ?_
  refine lv_aload_n hx hb dL_removeFirst_2 rfl (lv_at hl 0 rfl) ?_
  refine hc_iV (As := []) (rest := [.int (nI 0), .ref o]) (wc := [(x, .inr (2, [.ref h1, .ref h2, .ref h3])), (h3, .inr (1, [.ref a3, .int (nI c)])), (a3, .inl (cI, 200, .inl f))]) (wr := [(o, .inl (cL, 1, .inr (.inl g)))]) (w1 := [(x, .inr (2, [.ref h1, .ref h2, .ref h3])), (h3, .inr (1, [.ref a3, .int (nI (c - 1))])), (a3, .inl (cI, 200, .inl (s_rm f 0 c)))]) (w' := [(x, .inr (2, [.ref h1, .ref h2, .ref h3])), (h3, .inr (1, [.ref a3, .int (nI (c - 1))])), (a3, .inl (cI, 200, .inl (s_rm f 0 c))), (o, .inl (cL, 1, .inr (.inl g)))]) hF (c_X2_removeFirst l D x h1 h2 h3 a3 cI f c h1c hc) (cwV 0 hts gL_removeFirst_X2_removeFirst rfl rfl rfl (by decide +kernel) ⟨Nat.le_of_ble_eq_true rfl, Nat.le_of_ble_eq_true rfl⟩) hP hK hD hS hA hv [0, 1, 2] [3] [1, 2, 3, 0] [1] ⟨rfl, rfl, rfl, rfl, ⟨by decide, by decide, by decide⟩, by decide⟩ 0 2 rfl rfl rfl rfl hl.1 rfl (Nat.le_of_ble_eq_true rfl) dL_removeFirst_3 ⟨Nat.zero_le _, Nat.zero_le _⟩ (fun H locs hP hD hS => ?_)
  refine lv_i2l hx hb dL_removeFirst_6 rfl ?_
  refine h_last hx hb hK hP hD hS 3 0 rfl rfl (by decide) (by omega) dL_removeFirst_7 (fun H locs hP hD hS => ?_)
  have hP : va_P D vwCl [(x, .inr (2, [.ref h1, .ref h2, .ref h3])), (h3, .inr (1, [.ref a3, .int (nI (c - 1))])), (a3, .inl (cI, 200, .inl (s_rm f 0 c))), (o, .inl (cL, 1, .inr (.inl (vp_updL g 0 ((f 0).toInt64)))))] H := hP
  have hD : va_D A [(x, .inr (2, [.ref h1, .ref h2, .ref h3])), (h3, .inr (1, [.ref a3, .int (nI (c - 1))])), (a3, .inl (cI, 200, .inl (s_rm f 0 c))), (o, .inl (cL, 1, .inr (.inl (vp_updL g 0 ((f 0).toInt64)))))] := hD
  refine lv_goto (tgt := 14) hx hb dL_removeFirst_8 (by decide) ?_
  refine lv_iconst (v := 0) hx hb dL_removeFirst_14 (by decide) ?_
  exact hH_iret hx hb hr hlocks rfl hP hD hS rfl dL_removeFirst_15 (by decide) (by decide)
set_option maxHeartbeats 4000000 in
set_option maxRecDepth 100000 in
theorem c_L_removeFirst_x (l : Launch) (hfl : l.stackTraces = false) (D : va_G) (x h1 h2 h3 a3 : Nat) (cL cI : ClassId) (f : Nat → Int32) (o : Nat) (g : Nat → Int64) : mH l yL_removeFirst wsL_removeFirst ({ frames := 9, cells := 1, slots := 6, locals := 145 }) [.ref x, .ref o] D [(cL, .long), (cI, .int)] [(x, .inr (2, [.ref h1, .ref h2, .ref h3])), (h3, .inr (1, [.ref a3, .int (nI 0)])), (a3, .inl (cI, 200, .inl f)), (o, .inl (cL, 1, .inr (.inl g)))] [(x, .inr (2, [.ref h1, .ref h2, .ref h3])), (h3, .inr (1, [.ref a3, .int (nI 0)])), (a3, .inl (cI, 200, .inl f)), (o, .inl (cL, 1, .inr (.inl g)))] (1) := by
  refine hH_body (cc := cL_removeFirst) (maxL := 3) (ret := some .int) (hh := [(0, 8, 11, 22)]) (by decide) rfl (Nat.le_of_ble_eq_true rfl) ?_
  intro p e s m below meth cd A ls hat htab hZ hA hP hK hD hS hl
  obtain ⟨hF, hr, hlocks, hv⟩ := id hat
  obtain ⟨hx, hb, hml, hown, hts⟩ := id hF
  have hown : s.vm.findClass RL = some m.cls := hown
  have hl : lv_has ls 3 [(0, .ref x), (1, .ref o)] := hl
  have hP : va_P D vwCl [(x, .inr (2, [.ref h1, .ref h2, .ref h3])), (h3, .inr (1, [.ref a3, .int (nI 0)])), (a3, .inl (cI, 200, .inl f)), (o, .inl (cL, 1, .inr (.inl g)))] s.heap := hP
  have hD : va_D A [(x, .inr (2, [.ref h1, .ref h2, .ref h3])), (h3, .inr (1, [.ref a3, .int (nI 0)])), (a3, .inl (cI, 200, .inl f)), (o, .inl (cL, 1, .inr (.inl g)))] := hD
  refine lv_aload_n hx hb dL_removeFirst_0 rfl (lv_at hl 1 rfl) ?_
  refine lv_iconst (v := nI 0) hx hb dL_removeFirst_1 (by decide +kernel) ?_
  refine lv_aload_n hx hb dL_removeFirst_2 rfl (lv_at hl 0 rfl) ?_
  refine hx_callV (As := []) (rest := [.int (nI 0), .ref o]) (wc := [(x, .inr (2, [.ref h1, .ref h2, .ref h3])), (h3, .inr (1, [.ref a3, .int (nI 0)])), (a3, .inl (cI, 200, .inl f))]) hF (c_X2_removeFirst_x l hfl D x h1 h2 h3 a3 cI f) (cwV 0 hts gL_removeFirst_X2_removeFirst rfl rfl rfl (by decide +kernel) ⟨Nat.le_of_ble_eq_true rfl, Nat.le_of_ble_eq_true rfl⟩) hP hK hD hS hA hv (fun U hU hW => hZ.move hW (by rw [hU]; exact Nat.le_refl _) (fun q hq => by rw [hU])) [0, 1, 2] [1] rfl (by decide) rfl 0 2 rfl rfl rfl rfl hl.1 rfl (Nat.le_of_ble_eq_true rfl) dL_removeFirst_3 ⟨Nat.le_of_ble_eq_true rfl, Nat.le_of_ble_eq_true rfl⟩ (fun ce q9 H locs hP hS hce hcv hcl => ?_)
  refine vx_catch (E := "java/util/NoSuchElementException") (name := "java/util/NoSuchElementException") hown [] ⟨0, 8, 11, 22⟩ [] htab (fun z h => absurd h List.not_mem_nil) (by decide) (by decide) (hts (.classLink RL 22 "java/util/NoSuchElementException") (by decide +kernel)) (va_Nw.use rfl hv.2.1) hce hcv hcl ?_
  refine lv_astore_n (lv' := [(2, .ref q9), (0, .ref x), (1, .ref o)]) hx hb dL_removeFirst_11 rfl hl (by decide) rfl (fun ls hl => ?_)
  refine lv_iconst (v := 1) hx hb dL_removeFirst_12 (by decide) ?_
  exact hH_iret hx hb hr hlocks rfl hP hD hS rfl dL_removeFirst_13 (by decide) (by decide)
set_option maxHeartbeats 4000000 in
set_option maxRecDepth 100000 in
theorem c_L_pop (l : Launch) (D : va_G) (x h1 h2 h3 a3 : Nat) (cL cI : ClassId) (f : Nat → Int32) (c : Nat) (o : Nat) (g : Nat → Int64) (h1c : 1 ≤ c) (hc : c ≤ 200) : mH l yL_pop wsL_pop ({ frames := 3, cells := 1, slots := 6, locals := 63 }) [.ref x, .ref o] D [(cL, .long), (cI, .int)] [(x, .inr (2, [.ref h1, .ref h2, .ref h3])), (h3, .inr (1, [.ref a3, .int (nI c)])), (a3, .inl (cI, 200, .inl f)), (o, .inl (cL, 1, .inr (.inl g)))] [(x, .inr (2, [.ref h1, .ref h2, .ref h3])), (h3, .inr (1, [.ref a3, .int (nI (c - 1))])), (a3, .inl (cI, 200, .inl (s_rm f 0 c))), (o, .inl (cL, 1, .inr (.inl (vp_updL g 0 ((f 0).toInt64)))))] (0) := by
  refine hH_body (cc := cL_pop) (maxL := 3) (ret := some .int) (hh := [(0, 8, 11, 22)]) (by decide) rfl (Nat.le_of_ble_eq_true rfl) ?_
  intro p e s m below meth cd A ls hat htab hZ hA hP hK hD hS hl
  obtain ⟨hF, hr, hlocks, hv⟩ := id hat
  obtain ⟨hx, hb, hml, hown, hts⟩ := id hF
  have hown : s.vm.findClass RL = some m.cls := hown
  have hl : lv_has ls 3 [(0, .ref x), (1, .ref o)] := hl
  have hP : va_P D vwCl [(x, .inr (2, [.ref h1, .ref h2, .ref h3])), (h3, .inr (1, [.ref a3, .int (nI c)])), (a3, .inl (cI, 200, .inl f)), (o, .inl (cL, 1, .inr (.inl g)))] s.heap := hP
  have hD : va_D A [(x, .inr (2, [.ref h1, .ref h2, .ref h3])), (h3, .inr (1, [.ref a3, .int (nI c)])), (a3, .inl (cI, 200, .inl f)), (o, .inl (cL, 1, .inr (.inl g)))] := hD
  refine lv_aload_n hx hb dL_pop_0 rfl (lv_at hl 1 rfl) ?_
  refine lv_iconst (v := nI 0) hx hb dL_pop_1 (by decide +kernel) ?_
  refine lv_aload_n hx hb dL_pop_2 rfl (lv_at hl 0 rfl) ?_
  refine hc_iV (As := []) (rest := [.int (nI 0), .ref o]) (wc := [(x, .inr (2, [.ref h1, .ref h2, .ref h3])), (h3, .inr (1, [.ref a3, .int (nI c)])), (a3, .inl (cI, 200, .inl f))]) (wr := [(o, .inl (cL, 1, .inr (.inl g)))]) (w1 := [(x, .inr (2, [.ref h1, .ref h2, .ref h3])), (h3, .inr (1, [.ref a3, .int (nI (c - 1))])), (a3, .inl (cI, 200, .inl (s_rm f 0 c)))]) (w' := [(x, .inr (2, [.ref h1, .ref h2, .ref h3])), (h3, .inr (1, [.ref a3, .int (nI (c - 1))])), (a3, .inl (cI, 200, .inl (s_rm f 0 c))), (o, .inl (cL, 1, .inr (.inl g)))]) hF (c_X2_pop l D x h1 h2 h3 a3 cI f c h1c hc) (cwV 0 hts gL_pop_X2_pop rfl rfl rfl (by decide +kernel) ⟨Nat.le_of_ble_eq_true rfl, Nat.le_of_ble_eq_true rfl⟩) hP hK hD hS hA hv [0, 1, 2] [3] [1, 2, 3, 0] [1] ⟨rfl, rfl, rfl, rfl, ⟨by decide, by decide, by decide⟩, by decide⟩ 0 2 rfl rfl rfl rfl hl.1 rfl (Nat.le_of_ble_eq_true rfl) dL_pop_3 ⟨Nat.zero_le _, Nat.zero_le _⟩ (fun H locs hP hD hS => ?_)
  refine lv_i2l hx hb dL_pop_6 rfl ?_
  refine h_last hx hb hK hP hD hS 3 0 rfl rfl (by decide) (by omega) dL_pop_7 (fun H locs hP hD hS => ?_)
  have hP : va_P D vwCl [(x, .inr (2, [.ref h1, .ref h2, .ref h3])), (h3, .inr (1, [.ref a3, .int (nI (c - 1))])), (a3, .inl (cI, 200, .inl (s_rm f 0 c))), (o, .inl (cL, 1, .inr (.inl (vp_updL g 0 ((f 0).toInt64)))))] H := hP
  have hD : va_D A [(x, .inr (2, [.ref h1, .ref h2, .ref h3])), (h3, .inr (1, [.ref a3, .int (nI (c - 1))])), (a3, .inl (cI, 200, .inl (s_rm f 0 c))), (o, .inl (cL, 1, .inr (.inl (vp_updL g 0 ((f 0).toInt64)))))] := hD
  refine lv_goto (tgt := 14) hx hb dL_pop_8 (by decide) ?_
  refine lv_iconst (v := 0) hx hb dL_pop_14 (by decide) ?_
  exact hH_iret hx hb hr hlocks rfl hP hD hS rfl dL_pop_15 (by decide) (by decide)
set_option maxHeartbeats 4000000 in
set_option maxRecDepth 100000 in
theorem c_L_pop_x (l : Launch) (hfl : l.stackTraces = false) (D : va_G) (x h1 h2 h3 a3 : Nat) (cL cI : ClassId) (f : Nat → Int32) (o : Nat) (g : Nat → Int64) : mH l yL_pop wsL_pop ({ frames := 9, cells := 1, slots := 6, locals := 145 }) [.ref x, .ref o] D [(cL, .long), (cI, .int)] [(x, .inr (2, [.ref h1, .ref h2, .ref h3])), (h3, .inr (1, [.ref a3, .int (nI 0)])), (a3, .inl (cI, 200, .inl f)), (o, .inl (cL, 1, .inr (.inl g)))] [(x, .inr (2, [.ref h1, .ref h2, .ref h3])), (h3, .inr (1, [.ref a3, .int (nI 0)])), (a3, .inl (cI, 200, .inl f)), (o, .inl (cL, 1, .inr (.inl g)))] (1) := by
  refine hH_body (cc := cL_pop) (maxL := 3) (ret := some .int) (hh := [(0, 8, 11, 22)]) (by decide) rfl (Nat.le_of_ble_eq_true rfl) ?_
  intro p e s m below meth cd A ls hat htab hZ hA hP hK hD hS hl
  obtain ⟨hF, hr, hlocks, hv⟩ := id hat
  obtain ⟨hx, hb, hml, hown, hts⟩ := id hF
  have hown : s.vm.findClass RL = some m.cls := hown
  have hl : lv_has ls 3 [(0, .ref x), (1, .ref o)] := hl
  have hP : va_P D vwCl [(x, .inr (2, [.ref h1, .ref h2, .ref h3])), (h3, .inr (1, [.ref a3, .int (nI 0)])), (a3, .inl (cI, 200, .inl f)), (o, .inl (cL, 1, .inr (.inl g)))] s.heap := hP
  have hD : va_D A [(x, .inr (2, [.ref h1, .ref h2, .ref h3])), (h3, .inr (1, [.ref a3, .int (nI 0)])), (a3, .inl (cI, 200, .inl f)), (o, .inl (cL, 1, .inr (.inl g)))] := hD
  refine lv_aload_n hx hb dL_pop_0 rfl (lv_at hl 1 rfl) ?_
  refine lv_iconst (v := nI 0) hx hb dL_pop_1 (by decide +kernel) ?_
  refine lv_aload_n hx hb dL_pop_2 rfl (lv_at hl 0 rfl) ?_
  refine hx_callV (As := []) (rest := [.int (nI 0), .ref o]) (wc := [(x, .inr (2, [.ref h1, .ref h2, .ref h3])), (h3, .inr (1, [.ref a3, .int (nI 0)])), (a3, .inl (cI, 200, .inl f))]) hF (c_X2_pop_x l hfl D x h1 h2 h3 a3 cI f) (cwV 0 hts gL_pop_X2_pop rfl rfl rfl (by decide +kernel) ⟨Nat.le_of_ble_eq_true rfl, Nat.le_of_ble_eq_true rfl⟩) hP hK hD hS hA hv (fun U hU hW => hZ.move hW (by rw [hU]; exact Nat.le_refl _) (fun q hq => by rw [hU])) [0, 1, 2] [1] rfl (by decide) rfl 0 2 rfl rfl rfl rfl hl.1 rfl (Nat.le_of_ble_eq_true rfl) dL_pop_3 ⟨Nat.le_of_ble_eq_true rfl, Nat.le_of_ble_eq_true rfl⟩ (fun ce q9 H locs hP hS hce hcv hcl => ?_)
  refine vx_catch (E := "java/util/NoSuchElementException") (name := "java/util/NoSuchElementException") hown [] ⟨0, 8, 11, 22⟩ [] htab (fun z h => absurd h List.not_mem_nil) (by decide) (by decide) (hts (.classLink RL 22 "java/util/NoSuchElementException") (by decide +kernel)) (va_Nw.use rfl hv.2.1) hce hcv hcl ?_
  refine lv_astore_n (lv' := [(2, .ref q9), (0, .ref x), (1, .ref o)]) hx hb dL_pop_11 rfl hl (by decide) rfl (fun ls hl => ?_)
  refine lv_iconst (v := 1) hx hb dL_pop_12 (by decide) ?_
  exact hH_iret hx hb hr hlocks rfl hP hD hS rfl dL_pop_13 (by decide) (by decide)
set_option maxHeartbeats 4000000 in
set_option maxRecDepth 100000 in
theorem c_L_removeLast (l : Launch) (D : va_G) (x h1 h2 h3 a3 : Nat) (cL cI : ClassId) (f : Nat → Int32) (c : Nat) (o : Nat) (g : Nat → Int64) (h1c : 1 ≤ c) (hc : c ≤ 200) : mH l yL_removeLast wsL_removeLast ({ frames := 3, cells := 1, slots := 6, locals := 61 }) [.ref x, .ref o] D [(cL, .long), (cI, .int)] [(x, .inr (2, [.ref h1, .ref h2, .ref h3])), (h3, .inr (1, [.ref a3, .int (nI c)])), (a3, .inl (cI, 200, .inl f)), (o, .inl (cL, 1, .inr (.inl g)))] [(x, .inr (2, [.ref h1, .ref h2, .ref h3])), (h3, .inr (1, [.ref a3, .int (nI (c - 1))])), (a3, .inl (cI, 200, .inl f)), (o, .inl (cL, 1, .inr (.inl (vp_updL g 0 ((f (c - 1)).toInt64)))))] (0) := by
  refine hH_body (cc := cL_removeLast) (maxL := 3) (ret := some .int) (hh := [(0, 8, 11, 22)]) (by decide) rfl (Nat.le_of_ble_eq_true rfl) ?_
  intro p e s m below meth cd A ls hat htab hZ hA hP hK hD hS hl
  obtain ⟨hF, hr, hlocks, hv⟩ := id hat
  obtain ⟨hx, hb, hml, hown, hts⟩ := id hF
  have hown : s.vm.findClass RL = some m.cls := hown
  have hl : lv_has ls 3 [(0, .ref x), (1, .ref o)] := hl
  have hP : va_P D vwCl [(x, .inr (2, [.ref h1, .ref h2, .ref h3])), (h3, .inr (1, [.ref a3, .int (nI c)])), (a3, .inl (cI, 200, .inl f)), (o, .inl (cL, 1, .inr (.inl g)))] s.heap := hP
  have hD : va_D A [(x, .inr (2, [.ref h1, .ref h2, .ref h3])), (h3, .inr (1, [.ref a3, .int (nI c)])), (a3, .inl (cI, 200, .inl f)), (o, .inl (cL, 1, .inr (.inl g)))] := hD
  refine lv_aload_n hx hb dL_removeLast_0 rfl (lv_at hl 1 rfl) ?_
  refine lv_iconst (v := nI 0) hx hb dL_removeLast_1 (by decide +kernel) ?_
  refine lv_aload_n hx hb dL_removeLast_2 rfl (lv_at hl 0 rfl) ?_
  refine hc_iV (As := []) (rest := [.int (nI 0), .ref o]) (wc := [(x, .inr (2, [.ref h1, .ref h2, .ref h3])), (h3, .inr (1, [.ref a3, .int (nI c)])), (a3, .inl (cI, 200, .inl f))]) (wr := [(o, .inl (cL, 1, .inr (.inl g)))]) (w1 := [(x, .inr (2, [.ref h1, .ref h2, .ref h3])), (h3, .inr (1, [.ref a3, .int (nI (c - 1))])), (a3, .inl (cI, 200, .inl f))]) (w' := [(x, .inr (2, [.ref h1, .ref h2, .ref h3])), (h3, .inr (1, [.ref a3, .int (nI (c - 1))])), (a3, .inl (cI, 200, .inl f)), (o, .inl (cL, 1, .inr (.inl g)))]) hF (c_X2_removeLast l D x h1 h2 h3 a3 cI f c h1c hc) (cwV 0 hts gL_removeLast_X2_removeLast rfl rfl rfl (by decide +kernel) ⟨Nat.le_of_ble_eq_true rfl, Nat.le_of_ble_eq_true rfl⟩) hP hK hD hS hA hv [0, 1, 2] [3] [1, 2, 3, 0] [1] ⟨rfl, rfl, rfl, rfl, ⟨by decide, by decide, by decide⟩, by decide⟩ 0 2 rfl rfl rfl rfl hl.1 rfl (Nat.le_of_ble_eq_true rfl) dL_removeLast_3 ⟨Nat.zero_le _, Nat.zero_le _⟩ (fun H locs hP hD hS => ?_)
  refine lv_i2l hx hb dL_removeLast_6 rfl ?_
  refine h_last hx hb hK hP hD hS 3 0 rfl rfl (by decide) (by omega) dL_removeLast_7 (fun H locs hP hD hS => ?_)
  have hP : va_P D vwCl [(x, .inr (2, [.ref h1, .ref h2, .ref h3])), (h3, .inr (1, [.ref a3, .int (nI (c - 1))])), (a3, .inl (cI, 200, .inl f)), (o, .inl (cL, 1, .inr (.inl (vp_updL g 0 ((f (c - 1)).toInt64)))))] H := hP
  have hD : va_D A [(x, .inr (2, [.ref h1, .ref h2, .ref h3])), (h3, .inr (1, [.ref a3, .int (nI (c - 1))])), (a3, .inl (cI, 200, .inl f)), (o, .inl (cL, 1, .inr (.inl (vp_updL g 0 ((f (c - 1)).toInt64)))))] := hD
  refine lv_goto (tgt := 14) hx hb dL_removeLast_8 (by decide) ?_
  refine lv_iconst (v := 0) hx hb dL_removeLast_14 (by decide) ?_
  exact hH_iret hx hb hr hlocks rfl hP hD hS rfl dL_removeLast_15 (by decide) (by decide)
set_option maxHeartbeats 4000000 in
set_option maxRecDepth 100000 in
theorem c_L_removeLast_x (l : Launch) (hfl : l.stackTraces = false) (D : va_G) (x h1 h2 h3 a3 : Nat) (cL cI : ClassId) (f : Nat → Int32) (o : Nat) (g : Nat → Int64) : mH l yL_removeLast wsL_removeLast ({ frames := 9, cells := 1, slots := 6, locals := 145 }) [.ref x, .ref o] D [(cL, .long), (cI, .int)] [(x, .inr (2, [.ref h1, .ref h2, .ref h3])), (h3, .inr (1, [.ref a3, .int (nI 0)])), (a3, .inl (cI, 200, .inl f)), (o, .inl (cL, 1, .inr (.inl g)))] [(x, .inr (2, [.ref h1, .ref h2, .ref h3])), (h3, .inr (1, [.ref a3, .int (nI 0)])), (a3, .inl (cI, 200, .inl f)), (o, .inl (cL, 1, .inr (.inl g)))] (1) := by
  refine hH_body (cc := cL_removeLast) (maxL := 3) (ret := some .int) (hh := [(0, 8, 11, 22)]) (by decide) rfl (Nat.le_of_ble_eq_true rfl) ?_
  intro p e s m below meth cd A ls hat htab hZ hA hP hK hD hS hl
  obtain ⟨hF, hr, hlocks, hv⟩ := id hat
  obtain ⟨hx, hb, hml, hown, hts⟩ := id hF
  have hown : s.vm.findClass RL = some m.cls := hown
  have hl : lv_has ls 3 [(0, .ref x), (1, .ref o)] := hl
  have hP : va_P D vwCl [(x, .inr (2, [.ref h1, .ref h2, .ref h3])), (h3, .inr (1, [.ref a3, .int (nI 0)])), (a3, .inl (cI, 200, .inl f)), (o, .inl (cL, 1, .inr (.inl g)))] s.heap := hP
  have hD : va_D A [(x, .inr (2, [.ref h1, .ref h2, .ref h3])), (h3, .inr (1, [.ref a3, .int (nI 0)])), (a3, .inl (cI, 200, .inl f)), (o, .inl (cL, 1, .inr (.inl g)))] := hD
  refine lv_aload_n hx hb dL_removeLast_0 rfl (lv_at hl 1 rfl) ?_
  refine lv_iconst (v := nI 0) hx hb dL_removeLast_1 (by decide +kernel) ?_
  refine lv_aload_n hx hb dL_removeLast_2 rfl (lv_at hl 0 rfl) ?_
  refine hx_callV (As := []) (rest := [.int (nI 0), .ref o]) (wc := [(x, .inr (2, [.ref h1, .ref h2, .ref h3])), (h3, .inr (1, [.ref a3, .int (nI 0)])), (a3, .inl (cI, 200, .inl f))]) hF (c_X2_removeLast_x l hfl D x h1 h2 h3 a3 cI f) (cwV 0 hts gL_removeLast_X2_removeLast rfl rfl rfl (by decide +kernel) ⟨Nat.le_of_ble_eq_true rfl, Nat.le_of_ble_eq_true rfl⟩) hP hK hD hS hA hv (fun U hU hW => hZ.move hW (by rw [hU]; exact Nat.le_refl _) (fun q hq => by rw [hU])) [0, 1, 2] [1] rfl (by decide) rfl 0 2 rfl rfl rfl rfl hl.1 rfl (Nat.le_of_ble_eq_true rfl) dL_removeLast_3 ⟨Nat.le_of_ble_eq_true rfl, Nat.le_of_ble_eq_true rfl⟩ (fun ce q9 H locs hP hS hce hcv hcl => ?_)
  refine vx_catch (E := "java/util/NoSuchElementException") (name := "java/util/NoSuchElementException") hown [] ⟨0, 8, 11, 22⟩ [] htab (fun z h => absurd h List.not_mem_nil) (by decide) (by decide) (hts (.classLink RL 22 "java/util/NoSuchElementException") (by decide +kernel)) (va_Nw.use rfl hv.2.1) hce hcv hcl ?_
  refine lv_astore_n (lv' := [(2, .ref q9), (0, .ref x), (1, .ref o)]) hx hb dL_removeLast_11 rfl hl (by decide) rfl (fun ls hl => ?_)
  refine lv_iconst (v := 1) hx hb dL_removeLast_12 (by decide) ?_
  exact hH_iret hx hb hr hlocks rfl hP hD hS rfl dL_removeLast_13 (by decide) (by decide)
set_option maxHeartbeats 4000000 in
set_option maxRecDepth 100000 in
theorem c_L_at (l : Launch) (D : va_G) (x h1 h2 h3 a3 : Nat) (cL cI : ClassId) (f : Nat → Int32) (c : Nat) (q9 : Nat) (o : Nat) (g : Nat → Int64) (hq : q9 < c) (hc : c ≤ 200) : mH l yL_at wsL_at ({ frames := 2, cells := 1, slots := 6, locals := 42 }) [.ref x, .int (nI q9), .ref o] D [(cL, .long), (cI, .int)] [(x, .inr (2, [.ref h1, .ref h2, .ref h3])), (h3, .inr (1, [.ref a3, .int (nI c)])), (a3, .inl (cI, 200, .inl f)), (o, .inl (cL, 1, .inr (.inl g)))] [(x, .inr (2, [.ref h1, .ref h2, .ref h3])), (h3, .inr (1, [.ref a3, .int (nI c)])), (a3, .inl (cI, 200, .inl f)), (o, .inl (cL, 1, .inr (.inl (vp_updL g 0 ((f q9).toInt64)))))] (0) := by
  refine hH_body (cc := cL_at) (maxL := 4) (ret := some .int) (hh := [(0, 9, 12, 83)]) (by decide) rfl (Nat.le_of_ble_eq_true rfl) ?_
  intro p e s m below meth cd A ls hat htab hZ hA hP hK hD hS hl
  obtain ⟨hF, hr, hlocks, hv⟩ := id hat
  obtain ⟨hx, hb, hml, hown, hts⟩ := id hF
  have hown : s.vm.findClass RL = some m.cls := hown
  have hl : lv_has ls 4 [(0, .ref x), (1, .int (nI q9)), (2, .ref o)] := hl
  have hP : va_P D vwCl [(x, .inr (2, [.ref h1, .ref h2, .ref h3])), (h3, .inr (1, [.ref a3, .int (nI c)])), (a3, .inl (cI, 200, .inl f)), (o, .inl (cL, 1, .inr (.inl g)))] s.heap := hP
  have hD : va_D A [(x, .inr (2, [.ref h1, .ref h2, .ref h3])), (h3, .inr (1, [.ref a3, .int (nI c)])), (a3, .inl (cI, 200, .inl f)), (o, .inl (cL, 1, .inr (.inl g)))] := hD
  refine lv_aload_n hx hb dL_at_0 rfl (lv_at hl 2 rfl) ?_
  refine lv_iconst (v := nI 0) hx hb dL_at_1 (by decide +kernel) ?_
  refine lv_aload_n hx hb dL_at_2 rfl (lv_at hl 0 rfl) ?_
  refine lv_iload_n hx hb dL_at_3 rfl (lv_at hl 1 rfl) ?_
  refine hc_iV (As := [.int (nI q9)]) (rest := [.int (nI 0), .ref o]) (wc := [(x, .inr (2, [.ref h1, .ref h2, .ref h3])), (h3, .inr (1, [.ref a3, .int (nI c)])), (a3, .inl (cI, 200, .inl f))]) (wr := [(o, .inl (cL, 1, .inr (.inl g)))]) (w1 := [(x, .inr (2, [.ref h1, .ref h2, .ref h3])), (h3, .inr (1, [.ref a3, .int (nI c)])), (a3, .inl (cI, 200, .inl f))]) (w' := [(x, .inr (2, [.ref h1, .ref h2, .ref h3])), (h3, .inr (1, [.ref a3, .int (nI c)])), (a3, .inl (cI, 200, .inl f)), (o, .inl (cL, 1, .inr (.inl g)))]) hF (c_X2_at l D x h1 h2 h3 a3 cI f c q9 hq hc) (cwV 1 hts gL_at_X2_at rfl rfl rfl (by decide +kernel) ⟨Nat.le_of_ble_eq_true rfl, Nat.le_of_ble_eq_true rfl⟩) hP hK hD hS hA hv [0, 1, 2] [3] [1, 2, 3, 0] [1] ⟨rfl, rfl, rfl, rfl, ⟨by decide, by decide, by decide⟩, by decide⟩ 0 2 rfl rfl rfl rfl hl.1 rfl (Nat.le_of_ble_eq_true rfl) dL_at_4 ⟨Nat.zero_le _, Nat.zero_le _⟩ (fun H locs hP hD hS => ?_)
  refine lv_i2l hx hb dL_at_7 rfl ?_
  refine h_last hx hb hK hP hD hS 3 0 rfl rfl (by decide) (by omega) dL_at_8 (fun H locs hP hD hS => ?_)
  have hP : va_P D vwCl [(x, .inr (2, [.ref h1, .ref h2, .ref h3])), (h3, .inr (1, [.ref a3, .int (nI c)])), (a3, .inl (cI, 200, .inl f)), (o, .inl (cL, 1, .inr (.inl (vp_updL g 0 ((f q9).toInt64)))))] H := hP
  have hD : va_D A [(x, .inr (2, [.ref h1, .ref h2, .ref h3])), (h3, .inr (1, [.ref a3, .int (nI c)])), (a3, .inl (cI, 200, .inl f)), (o, .inl (cL, 1, .inr (.inl (vp_updL g 0 ((f q9).toInt64)))))] := hD
  refine lv_goto (tgt := 15) hx hb dL_at_9 (by decide) ?_
  refine lv_iconst (v := 0) hx hb dL_at_15 (by decide) ?_
  exact hH_iret hx hb hr hlocks rfl hP hD hS rfl dL_at_16 (by decide) (by decide)
set_option maxHeartbeats 4000000 in
set_option maxRecDepth 100000 in
theorem c_L_at_x (l : Launch) (hfl : l.stackTraces = false) (D : va_G) (x h1 h2 h3 a3 : Nat) (cL cI : ClassId) (f : Nat → Int32) (c : Nat) (v : Int32) (o : Nat) (g : Nat → Int64) (hq : v < 0 ∨ nI c ≤ v) : mH l yL_at wsL_at ({ frames := 8, cells := 1, slots := 6, locals := 126 }) [.ref x, .int v, .ref o] D [(cL, .long), (cI, .int)] [(x, .inr (2, [.ref h1, .ref h2, .ref h3])), (h3, .inr (1, [.ref a3, .int (nI c)])), (a3, .inl (cI, 200, .inl f)), (o, .inl (cL, 1, .inr (.inl g)))] [(x, .inr (2, [.ref h1, .ref h2, .ref h3])), (h3, .inr (1, [.ref a3, .int (nI c)])), (a3, .inl (cI, 200, .inl f)), (o, .inl (cL, 1, .inr (.inl g)))] (1) := by
  refine hH_body (cc := cL_at) (maxL := 4) (ret := some .int) (hh := [(0, 9, 12, 83)]) (by decide) rfl (Nat.le_of_ble_eq_true rfl) ?_
  intro p e s m below meth cd A ls hat htab hZ hA hP hK hD hS hl
  obtain ⟨hF, hr, hlocks, hv⟩ := id hat
  obtain ⟨hx, hb, hml, hown, hts⟩ := id hF
  have hown : s.vm.findClass RL = some m.cls := hown
  have hl : lv_has ls 4 [(0, .ref x), (1, .int v), (2, .ref o)] := hl
  have hP : va_P D vwCl [(x, .inr (2, [.ref h1, .ref h2, .ref h3])), (h3, .inr (1, [.ref a3, .int (nI c)])), (a3, .inl (cI, 200, .inl f)), (o, .inl (cL, 1, .inr (.inl g)))] s.heap := hP
  have hD : va_D A [(x, .inr (2, [.ref h1, .ref h2, .ref h3])), (h3, .inr (1, [.ref a3, .int (nI c)])), (a3, .inl (cI, 200, .inl f)), (o, .inl (cL, 1, .inr (.inl g)))] := hD
  refine lv_aload_n hx hb dL_at_0 rfl (lv_at hl 2 rfl) ?_
  refine lv_iconst (v := nI 0) hx hb dL_at_1 (by decide +kernel) ?_
  refine lv_aload_n hx hb dL_at_2 rfl (lv_at hl 0 rfl) ?_
  refine lv_iload_n hx hb dL_at_3 rfl (lv_at hl 1 rfl) ?_
  refine hx_callV (As := [.int v]) (rest := [.int (nI 0), .ref o]) (wc := [(x, .inr (2, [.ref h1, .ref h2, .ref h3])), (h3, .inr (1, [.ref a3, .int (nI c)])), (a3, .inl (cI, 200, .inl f))]) hF (c_X2_at_x l hfl D x h1 h2 h3 a3 cI f c v hq) (cwV 1 hts gL_at_X2_at rfl rfl rfl (by decide +kernel) ⟨Nat.le_of_ble_eq_true rfl, Nat.le_of_ble_eq_true rfl⟩) hP hK hD hS hA hv (fun U hU hW => hZ.move hW (by rw [hU]; exact Nat.le_refl _) (fun q hq => by rw [hU])) [0, 1, 2] [1] rfl (by decide) rfl 0 2 rfl rfl rfl rfl hl.1 rfl (Nat.le_of_ble_eq_true rfl) dL_at_4 ⟨Nat.le_of_ble_eq_true rfl, Nat.le_of_ble_eq_true rfl⟩ (fun ce q9 H locs hP hS hce hcv hcl => ?_)
  refine vx_catch (E := "java/lang/IndexOutOfBoundsException") (name := "java/lang/IndexOutOfBoundsException") hown [] ⟨0, 9, 12, 83⟩ [] htab (fun z h => absurd h List.not_mem_nil) (by decide) (by decide) (hts (.classLink RL 83 "java/lang/IndexOutOfBoundsException") (by decide +kernel)) (va_Nw.use rfl hv.2.2.1) hce hcv hcl ?_
  refine lv_astore_n (lv' := [(3, .ref q9), (0, .ref x), (1, .int v), (2, .ref o)]) hx hb dL_at_12 rfl hl (by decide) rfl (fun ls hl => ?_)
  refine lv_iconst (v := 1) hx hb dL_at_13 (by decide) ?_
  exact hH_iret hx hb hr hlocks rfl hP hD hS rfl dL_at_14 (by decide) (by decide)
set_option maxHeartbeats 4000000 in
set_option maxRecDepth 100000 in
theorem c_L_back (l : Launch) (D : va_G) (x h1 h2 h3 a3 : Nat) (cL cI : ClassId) (f : Nat → Int32) (c : Nat) (q9 : Nat) (o : Nat) (g : Nat → Int64) (hq : q9 < c) (hc : c ≤ 200) : mH l yL_back wsL_back ({ frames := 2, cells := 1, slots := 6, locals := 42 }) [.ref x, .int (nI q9), .ref o] D [(cL, .long), (cI, .int)] [(x, .inr (2, [.ref h1, .ref h2, .ref h3])), (h3, .inr (1, [.ref a3, .int (nI c)])), (a3, .inl (cI, 200, .inl f)), (o, .inl (cL, 1, .inr (.inl g)))] [(x, .inr (2, [.ref h1, .ref h2, .ref h3])), (h3, .inr (1, [.ref a3, .int (nI c)])), (a3, .inl (cI, 200, .inl f)), (o, .inl (cL, 1, .inr (.inl (vp_updL g 0 ((f (c - 1 - q9)).toInt64)))))] (0) := by
  refine hH_body (cc := cL_back) (maxL := 4) (ret := some .int) (hh := [(0, 9, 12, 83)]) (by decide) rfl (Nat.le_of_ble_eq_true rfl) ?_
  intro p e s m below meth cd A ls hat htab hZ hA hP hK hD hS hl
  obtain ⟨hF, hr, hlocks, hv⟩ := id hat
  obtain ⟨hx, hb, hml, hown, hts⟩ := id hF
  have hown : s.vm.findClass RL = some m.cls := hown
  have hl : lv_has ls 4 [(0, .ref x), (1, .int (nI q9)), (2, .ref o)] := hl
  have hP : va_P D vwCl [(x, .inr (2, [.ref h1, .ref h2, .ref h3])), (h3, .inr (1, [.ref a3, .int (nI c)])), (a3, .inl (cI, 200, .inl f)), (o, .inl (cL, 1, .inr (.inl g)))] s.heap := hP
  have hD : va_D A [(x, .inr (2, [.ref h1, .ref h2, .ref h3])), (h3, .inr (1, [.ref a3, .int (nI c)])), (a3, .inl (cI, 200, .inl f)), (o, .inl (cL, 1, .inr (.inl g)))] := hD
  refine lv_aload_n hx hb dL_back_0 rfl (lv_at hl 2 rfl) ?_
  refine lv_iconst (v := nI 0) hx hb dL_back_1 (by decide +kernel) ?_
  refine lv_aload_n hx hb dL_back_2 rfl (lv_at hl 0 rfl) ?_
  refine lv_iload_n hx hb dL_back_3 rfl (lv_at hl 1 rfl) ?_
  refine hc_iV (As := [.int (nI q9)]) (rest := [.int (nI 0), .ref o]) (wc := [(x, .inr (2, [.ref h1, .ref h2, .ref h3])), (h3, .inr (1, [.ref a3, .int (nI c)])), (a3, .inl (cI, 200, .inl f))]) (wr := [(o, .inl (cL, 1, .inr (.inl g)))]) (w1 := [(x, .inr (2, [.ref h1, .ref h2, .ref h3])), (h3, .inr (1, [.ref a3, .int (nI c)])), (a3, .inl (cI, 200, .inl f))]) (w' := [(x, .inr (2, [.ref h1, .ref h2, .ref h3])), (h3, .inr (1, [.ref a3, .int (nI c)])), (a3, .inl (cI, 200, .inl f)), (o, .inl (cL, 1, .inr (.inl g)))]) hF (c_X2_back l D x h1 h2 h3 a3 cI f c q9 hq hc) (cwV 1 hts gL_back_X2_back rfl rfl rfl (by decide +kernel) ⟨Nat.le_of_ble_eq_true rfl, Nat.le_of_ble_eq_true rfl⟩) hP hK hD hS hA hv [0, 1, 2] [3] [1, 2, 3, 0] [1] ⟨rfl, rfl, rfl, rfl, ⟨by decide, by decide, by decide⟩, by decide⟩ 0 2 rfl rfl rfl rfl hl.1 rfl (Nat.le_of_ble_eq_true rfl) dL_back_4 ⟨Nat.zero_le _, Nat.zero_le _⟩ (fun H locs hP hD hS => ?_)
  refine lv_i2l hx hb dL_back_7 rfl ?_
  refine h_last hx hb hK hP hD hS 3 0 rfl rfl (by decide) (by omega) dL_back_8 (fun H locs hP hD hS => ?_)
  have hP : va_P D vwCl [(x, .inr (2, [.ref h1, .ref h2, .ref h3])), (h3, .inr (1, [.ref a3, .int (nI c)])), (a3, .inl (cI, 200, .inl f)), (o, .inl (cL, 1, .inr (.inl (vp_updL g 0 ((f (c - 1 - q9)).toInt64)))))] H := hP
  have hD : va_D A [(x, .inr (2, [.ref h1, .ref h2, .ref h3])), (h3, .inr (1, [.ref a3, .int (nI c)])), (a3, .inl (cI, 200, .inl f)), (o, .inl (cL, 1, .inr (.inl (vp_updL g 0 ((f (c - 1 - q9)).toInt64)))))] := hD
  refine lv_goto (tgt := 15) hx hb dL_back_9 (by decide) ?_
  refine lv_iconst (v := 0) hx hb dL_back_15 (by decide) ?_
  exact hH_iret hx hb hr hlocks rfl hP hD hS rfl dL_back_16 (by decide) (by decide)
set_option maxHeartbeats 4000000 in
set_option maxRecDepth 100000 in
theorem c_L_back_x (l : Launch) (hfl : l.stackTraces = false) (D : va_G) (x h1 h2 h3 a3 : Nat) (cL cI : ClassId) (f : Nat → Int32) (c : Nat) (v : Int32) (o : Nat) (g : Nat → Int64) (hq : v < 0 ∨ nI c ≤ v) : mH l yL_back wsL_back ({ frames := 8, cells := 1, slots := 6, locals := 126 }) [.ref x, .int v, .ref o] D [(cL, .long), (cI, .int)] [(x, .inr (2, [.ref h1, .ref h2, .ref h3])), (h3, .inr (1, [.ref a3, .int (nI c)])), (a3, .inl (cI, 200, .inl f)), (o, .inl (cL, 1, .inr (.inl g)))] [(x, .inr (2, [.ref h1, .ref h2, .ref h3])), (h3, .inr (1, [.ref a3, .int (nI c)])), (a3, .inl (cI, 200, .inl f)), (o, .inl (cL, 1, .inr (.inl g)))] (1) := by
  refine hH_body (cc := cL_back) (maxL := 4) (ret := some .int) (hh := [(0, 9, 12, 83)]) (by decide) rfl (Nat.le_of_ble_eq_true rfl) ?_
  intro p e s m below meth cd A ls hat htab hZ hA hP hK hD hS hl
  obtain ⟨hF, hr, hlocks, hv⟩ := id hat
  obtain ⟨hx, hb, hml, hown, hts⟩ := id hF
  have hown : s.vm.findClass RL = some m.cls := hown
  have hl : lv_has ls 4 [(0, .ref x), (1, .int v), (2, .ref o)] := hl
  have hP : va_P D vwCl [(x, .inr (2, [.ref h1, .ref h2, .ref h3])), (h3, .inr (1, [.ref a3, .int (nI c)])), (a3, .inl (cI, 200, .inl f)), (o, .inl (cL, 1, .inr (.inl g)))] s.heap := hP
  have hD : va_D A [(x, .inr (2, [.ref h1, .ref h2, .ref h3])), (h3, .inr (1, [.ref a3, .int (nI c)])), (a3, .inl (cI, 200, .inl f)), (o, .inl (cL, 1, .inr (.inl g)))] := hD
  refine lv_aload_n hx hb dL_back_0 rfl (lv_at hl 2 rfl) ?_
  refine lv_iconst (v := nI 0) hx hb dL_back_1 (by decide +kernel) ?_
  refine lv_aload_n hx hb dL_back_2 rfl (lv_at hl 0 rfl) ?_
  refine lv_iload_n hx hb dL_back_3 rfl (lv_at hl 1 rfl) ?_
  refine hx_callV (As := [.int v]) (rest := [.int (nI 0), .ref o]) (wc := [(x, .inr (2, [.ref h1, .ref h2, .ref h3])), (h3, .inr (1, [.ref a3, .int (nI c)])), (a3, .inl (cI, 200, .inl f))]) hF (c_X2_back_x l hfl D x h1 h2 h3 a3 cI f c v hq) (cwV 1 hts gL_back_X2_back rfl rfl rfl (by decide +kernel) ⟨Nat.le_of_ble_eq_true rfl, Nat.le_of_ble_eq_true rfl⟩) hP hK hD hS hA hv (fun U hU hW => hZ.move hW (by rw [hU]; exact Nat.le_refl _) (fun q hq => by rw [hU])) [0, 1, 2] [1] rfl (by decide) rfl 0 2 rfl rfl rfl rfl hl.1 rfl (Nat.le_of_ble_eq_true rfl) dL_back_4 ⟨Nat.le_of_ble_eq_true rfl, Nat.le_of_ble_eq_true rfl⟩ (fun ce q9 H locs hP hS hce hcv hcl => ?_)
  refine vx_catch (E := "java/lang/IndexOutOfBoundsException") (name := "java/lang/IndexOutOfBoundsException") hown [] ⟨0, 9, 12, 83⟩ [] htab (fun z h => absurd h List.not_mem_nil) (by decide) (by decide) (hts (.classLink RL 83 "java/lang/IndexOutOfBoundsException") (by decide +kernel)) (va_Nw.use rfl hv.2.2.1) hce hcv hcl ?_
  refine lv_astore_n (lv' := [(3, .ref q9), (0, .ref x), (1, .int v), (2, .ref o)]) hx hb dL_back_12 rfl hl (by decide) rfl (fun ls hl => ?_)
  refine lv_iconst (v := 1) hx hb dL_back_13 (by decide) ?_
  exact hH_iret hx hb hr hlocks rfl hP hD hS rfl dL_back_14 (by decide) (by decide)
