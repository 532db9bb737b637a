/-! the law: a turn of its loop, the loop, its start -/
set_option maxHeartbeats 4000000 in
set_option maxRecDepth 100000 in
theorem law_turn {p : Program} {l : Launch} {e : Env} {s : State} {m : MethodId} {below : List Frame} {meth : Method} {c : Code} {b L : Nat} {xs : Nat → Int32} {D : va_G} {cL cI : ClassId} {x h1 a1 h2 a2 h3 a3 mo b1 b2 b3 b4 o : Nat} {i N M : Nat} {Q : State → Prop} (hfl : l.stackTraces = false) (C : LC p s m meth c b L xs D cL cI) (hi : i + 3 ≤ L) (hL : L ≤ 1536) (hN : N + 1 ≤ 1048) (hM : M + 6 ≤ 9676)
    (kk : LK p l e s m below meth c b D cL cI x h1 a1 h2 a2 h3 a3 mo b1 b2 b3 b4 o i N M Q) {fq fp : Nat → Int64} {fr fh fo fk ft : Nat → Int32} {n1 n2 n3 : Nat} {th : Int32} {g : Nat → Int64} (rq : relQ fq fh n1) (rp : relP fp fk ft n2) (rr : relR fr fo n3)
    {H : Heap} {locs : List Loc} {ls : Array Slot} (hP : va_P D vwCl (wL x h1 a1 h2 a2 h3 a3 mo b1 b2 b3 b4 o cL cI fq fp fr fh fo fk ft n1 n2 n3 th g) H) (hD : va_D (fun q => s.heap.size ≤ q) (wL x h1 a1 h2 a2 h3 a3 mo b1 b2 b3 b4 o cL cI fq fp fr fh fo fk ft n1 n2 n3 th g)) (hS : va_S (fun q => s.heap.size ≤ q) s.heap H locs) (hl : lv_has ls 8 [(0, .ref b), (1, .ref x), (2, .ref mo), (3, .ref o), (4, .int (nI i))]) :
    W p l e room_1 s m #[Value.ref b] below meth c H locs N M Q (F0 m 32 ls []) := by
  obtain ⟨⟨hx, hb, hr, hml, hown, htl, hX, hbl, hlocks, hgv⟩, hv, hZ, hK⟩ := id C
  have hbA : ¬ (fun q : Nat => s.heap.size ≤ q) b := Nat.not_le.mpr hbl
  refine lv_aload_n hx hb dL_law_32 rfl (lv_at hl 0 rfl) ?_
  refine lv_iload hx hb dL_law_33 (lv_at hl 4 rfl) ?_
  refine va_sld hx hb hX hbl hbA hS (vp_in_nI (show i < L by omega) (by omega)) dL_law_35 ?_
  refine hw_i (y := xs i) (by rw [nI_clamp (show i < 2 ^ 31 by omega)]) ?_
  refine lv_bipush (v := 63) hx hb dL_law_36 (by decide +kernel) ?_
  refine lv_iand hx hb dL_law_38 ?_
  obtain ⟨j, hj, ej⟩ := pk_andE (xs i) (m := 63) 6 (by decide +kernel)
  refine hw_i (y := nI j) ej ?_
  have hj2 : j = 0 ∨ j = 1 ∨ j = 2 ∨ j = 3 ∨ j = 4 ∨ j = 5 ∨ j = 6 ∨ j = 7 ∨ j = 8 ∨ j = 9 ∨ j = 10 ∨ j = 11 ∨ j = 12 ∨ j = 13 ∨ j = 14 ∨ j = 15 ∨ j = 16 ∨ j = 17 ∨ j = 18 ∨ j = 19 ∨ j = 20 ∨ j = 21 ∨ j = 22 ∨ j = 23 ∨ j = 24 ∨ j = 25 ∨ j = 26 ∨ j = 27 ∨ j = 28 ∨ j = 29 ∨ j = 30 ∨ j = 31 ∨ j = 32 ∨ j = 33 ∨ j = 34 ∨ j = 35 ∨ 36 ≤ j := by omega
  rcases hj2 with rfl | rfl | rfl | rfl | rfl | rfl | rfl | rfl | rfl | rfl | rfl | rfl | rfl | rfl | rfl | rfl | rfl | rfl | rfl | rfl | rfl | rfl | rfl | rfl | rfl | rfl | rfl | rfl | rfl | rfl | rfl | rfl | rfl | rfl | rfl | rfl | hj3
  · refine lv_tableIn (tgt := 196) (off := 157) hx hb dL_law_39 (by decide +kernel) (by decide +kernel) (by decide +kernel) (by decide) ?_
    rcases Nat.lt_or_ge n1 200 with h9 | h9
    · exact law_offer hfl C hi hL hN hM kk rq rp rr h9 hP hD hS hl
    · have e9 : n1 = 200 := Nat.le_antisymm rq.1 h9
      subst e9
      exact law_offer_x hfl C hi hL hN hM kk rq rp rr hP hD hS hl
  · refine lv_tableIn (tgt := 252) (off := 213) hx hb dL_law_39 (by decide +kernel) (by decide +kernel) (by decide +kernel) (by decide) ?_
    rcases Nat.lt_or_ge n1 200 with h9 | h9
    · exact law_add hfl C hi hL hN hM kk rq rp rr h9 hP hD hS hl
    · have e9 : n1 = 200 := Nat.le_antisymm rq.1 h9
      subst e9
      exact law_add_x hfl C hi hL hN hM kk rq rp rr hP hD hS hl
  · refine lv_tableIn (tgt := 308) (off := 269) hx hb dL_law_39 (by decide +kernel) (by decide +kernel) (by decide +kernel) (by decide) ?_
    rcases Nat.eq_zero_or_pos n1 with e9 | h9
    · subst e9
      exact law_peek_x hfl C hi hL hN hM kk rq rp rr hP hD hS hl
    · exact law_peek hfl C hi hL hN hM kk rq rp rr h9 hP hD hS hl
  · refine lv_tableIn (tgt := 352) (off := 313) hx hb dL_law_39 (by decide +kernel) (by decide +kernel) (by decide +kernel) (by decide) ?_
    rcases Nat.eq_zero_or_pos n1 with e9 | h9
    · subst e9
      exact law_poll_x hfl C hi hL hN hM kk rq rp rr hP hD hS hl
    · exact law_poll hfl C hi hL hN hM kk rq rp rr h9 hP hD hS hl
  · refine lv_tableIn (tgt := 396) (off := 357) hx hb dL_law_39 (by decide +kernel) (by decide +kernel) (by decide +kernel) (by decide) ?_
    have hh := relQ_has rq (xs (i + 1))
    rcases hf : s_fL fq (xs (i + 1)).toInt64 n1 0 with _ | q9
    · rcases hg : s_fI fh (xs (i + 1)) n1 0 with _ | p9
      · exact law_remove_n hfl C hi hL hN hM kk rq rp rr hf hg hP hD hS hl
      · rw [hf, hg] at hh; cases hh
    · rcases hg : s_fI fh (xs (i + 1)) n1 0 with _ | p9
      · rw [hf, hg] at hh; cases hh
      · exact law_remove_s hfl C hi hL hN hM kk rq rp rr q9 p9 hf hg hP hD hS hl
  · refine lv_tableIn (tgt := 421) (off := 382) hx hb dL_law_39 (by decide +kernel) (by decide +kernel) (by decide +kernel) (by decide) ?_
    exact law_contains hfl C hi hL hN hM kk rq rp rr hP hD hS hl
  · refine lv_tableIn (tgt := 446) (off := 407) hx hb dL_law_39 (by decide +kernel) (by decide +kernel) (by decide +kernel) (by decide) ?_
    exact law_size hfl C hi hL hN hM kk rq rp rr hP hD hS hl
  · refine lv_tableIn (tgt := 459) (off := 420) hx hb dL_law_39 (by decide +kernel) (by decide +kernel) (by decide +kernel) (by decide) ?_
    exact law_clear hfl C hi hL hN hM kk rq rp rr hP hD hS hl
  · refine lv_tableIn (tgt := 472) (off := 433) hx hb dL_law_39 (by decide +kernel) (by decide +kernel) (by decide +kernel) (by decide) ?_
    rcases Nat.lt_or_ge 200 (n1 + n3) with h9 | h9
    · exact law_addAll_x hfl C hi hL hN hM kk rq rp rr h9 hP hD hS hl
    · exact law_addAll hfl C hi hL hN hM kk rq rp rr h9 hP hD hS hl
  · refine lv_tableIn (tgt := 516) (off := 477) hx hb dL_law_39 (by decide +kernel) (by decide +kernel) (by decide +kernel) (by decide) ?_
    rcases Nat.lt_or_ge 200 (n3 + n1) with h9 | h9
    · exact law_drain_x hfl C hi hL hN hM kk rq rp rr h9 hP hD hS hl
    · exact law_drain hfl C hi hL hN hM kk rq rp rr h9 hP hD hS hl
  · refine lv_tableIn (tgt := 560) (off := 521) hx hb dL_law_39 (by decide +kernel) (by decide +kernel) (by decide +kernel) (by decide) ?_
    by_cases ht0 : (xs (i + 2)) < 0
    · exact law_offerPair_t hfl C hi hL hN hM kk rq rp rr (Or.inl ht0) hP hD hS hl
    by_cases ht1 : (xs (i + 2)) ≤ nI 999
    · rcases Nat.lt_or_ge n2 200 with h9 | h9
      · exact law_offerPair hfl C hi hL hN hM kk rq rp rr ht0 ht1 h9 hP hD hS hl
      · have e9 : n2 = 200 := Nat.le_antisymm rp.1 h9
        subst e9
        exact law_offerPair_x hfl C hi hL hN hM kk rq rp rr ht0 ht1 hP hD hS hl
    · exact law_offerPair_t hfl C hi hL hN hM kk rq rp rr (Or.inr ht1) hP hD hS hl
  · refine lv_tableIn (tgt := 628) (off := 589) hx hb dL_law_39 (by decide +kernel) (by decide +kernel) (by decide +kernel) (by decide) ?_
    rcases Nat.eq_zero_or_pos n2 with e9 | h9
    · subst e9
      exact law_peekPair_x hfl C hi hL hN hM kk rq rp rr hP hD hS hl
    · exact law_peekPair hfl C hi hL hN hM kk rq rp rr h9 hP hD hS hl
  · refine lv_tableIn (tgt := 671) (off := 632) hx hb dL_law_39 (by decide +kernel) (by decide +kernel) (by decide +kernel) (by decide) ?_
    rcases Nat.eq_zero_or_pos n2 with e9 | h9
    · subst e9
      exact law_pollPair_x hfl C hi hL hN hM kk rq rp rr hP hD hS hl
    · exact law_pollPair hfl C hi hL hN hM kk rq rp rr h9 hP hD hS hl
  · refine lv_tableIn (tgt := 714) (off := 675) hx hb dL_law_39 (by decide +kernel) (by decide +kernel) (by decide +kernel) (by decide) ?_
    by_cases ht0 : (xs (i + 2)) < 0
    · exact law_removePair_t hfl C hi hL hN hM kk rq rp rr (Or.inl ht0) hP hD hS hl
    by_cases ht1 : (xs (i + 2)) ≤ nI 999
    · have hh := relP_has (k := (xs (i + 1))) ⟨ht0, ht1⟩ rp
      rcases hf : s_fL fp (s_rank (xs (i + 1)) (xs (i + 2))) n2 0 with _ | q9
      · rcases hg : s_fP fk ft (xs (i + 1)) (xs (i + 2)) n2 0 with _ | p9
        · exact law_removePair_n hfl C hi hL hN hM kk rq rp rr ht0 ht1 hf hg hP hD hS hl
        · rw [hf, hg] at hh; cases hh
      · rcases hg : s_fP fk ft (xs (i + 1)) (xs (i + 2)) n2 0 with _ | p9
        · rw [hf, hg] at hh; cases hh
        · exact law_removePair_s hfl C hi hL hN hM kk rq rp rr ht0 ht1 q9 p9 hf hg hP hD hS hl
    · exact law_removePair_t hfl C hi hL hN hM kk rq rp rr (Or.inr ht1) hP hD hS hl
  · refine lv_tableIn (tgt := 789) (off := 750) hx hb dL_law_39 (by decide +kernel) (by decide +kernel) (by decide +kernel) (by decide) ?_
    by_cases ht0 : (xs (i + 2)) < 0
    · exact law_containsPair_t hfl C hi hL hN hM kk rq rp rr (Or.inl ht0) hP hD hS hl
    by_cases ht1 : (xs (i + 2)) ≤ nI 999
    · exact law_containsPair hfl C hi hL hN hM kk rq rp rr ht0 ht1 hP hD hS hl
    · exact law_containsPair_t hfl C hi hL hN hM kk rq rp rr (Or.inr ht1) hP hD hS hl
  · refine lv_tableIn (tgt := 864) (off := 825) hx hb dL_law_39 (by decide +kernel) (by decide +kernel) (by decide +kernel) (by decide) ?_
    exact law_sizePairs hfl C hi hL hN hM kk rq rp rr hP hD hS hl
  · refine lv_tableIn (tgt := 877) (off := 838) hx hb dL_law_39 (by decide +kernel) (by decide +kernel) (by decide +kernel) (by decide) ?_
    exact law_clearPairs hfl C hi hL hN hM kk rq rp rr hP hD hS hl
  · refine lv_tableIn (tgt := 890) (off := 851) hx hb dL_law_39 (by decide +kernel) (by decide +kernel) (by decide +kernel) (by decide) ?_
    rcases Nat.lt_or_ge 200 (n3 + n2) with h9 | h9
    · exact law_drainPairs_x hfl C hi hL hN hM kk rq rp rr h9 hP hD hS hl
    · exact law_drainPairs hfl C hi hL hN hM kk rq rp rr h9 hP hD hS hl
  · refine lv_tableIn (tgt := 934) (off := 895) hx hb dL_law_39 (by decide +kernel) (by decide +kernel) (by decide +kernel) (by decide) ?_
    rcases Nat.lt_or_ge n3 200 with h9 | h9
    · exact law_addFirst hfl C hi hL hN hM kk rq rp rr h9 hP hD hS hl
    · have e9 : n3 = 200 := Nat.le_antisymm rr.1 h9
      subst e9
      exact law_addFirst_x hfl C hi hL hN hM kk rq rp rr hP hD hS hl
  · refine lv_tableIn (tgt := 990) (off := 951) hx hb dL_law_39 (by decide +kernel) (by decide +kernel) (by decide +kernel) (by decide) ?_
    rcases Nat.lt_or_ge n3 200 with h9 | h9
    · exact law_addLast hfl C hi hL hN hM kk rq rp rr h9 hP hD hS hl
    · have e9 : n3 = 200 := Nat.le_antisymm rr.1 h9
      subst e9
      exact law_addLast_x hfl C hi hL hN hM kk rq rp rr hP hD hS hl
  · refine lv_tableIn (tgt := 1046) (off := 1007) hx hb dL_law_39 (by decide +kernel) (by decide +kernel) (by decide +kernel) (by decide) ?_
    rcases Nat.eq_zero_or_pos n3 with e9 | h9
    · subst e9
      exact law_getFirst_x hfl C hi hL hN hM kk rq rp rr hP hD hS hl
    · exact law_getFirst hfl C hi hL hN hM kk rq rp rr h9 hP hD hS hl
  · refine lv_tableIn (tgt := 1090) (off := 1051) hx hb dL_law_39 (by decide +kernel) (by decide +kernel) (by decide +kernel) (by decide) ?_
    rcases Nat.eq_zero_or_pos n3 with e9 | h9
    · subst e9
      exact law_getLast_x hfl C hi hL hN hM kk rq rp rr hP hD hS hl
    · exact law_getLast hfl C hi hL hN hM kk rq rp rr h9 hP hD hS hl
  · refine lv_tableIn (tgt := 1134) (off := 1095) hx hb dL_law_39 (by decide +kernel) (by decide +kernel) (by decide +kernel) (by decide) ?_
    rcases Nat.eq_zero_or_pos n3 with e9 | h9
    · subst e9
      exact law_removeFirst_x hfl C hi hL hN hM kk rq rp rr hP hD hS hl
    · exact law_removeFirst hfl C hi hL hN hM kk rq rp rr h9 hP hD hS hl
  · refine lv_tableIn (tgt := 1178) (off := 1139) hx hb dL_law_39 (by decide +kernel) (by decide +kernel) (by decide +kernel) (by decide) ?_
    rcases Nat.eq_zero_or_pos n3 with e9 | h9
    · subst e9
      exact law_removeLast_x hfl C hi hL hN hM kk rq rp rr hP hD hS hl
    · exact law_removeLast hfl C hi hL hN hM kk rq rp rr h9 hP hD hS hl
  · refine lv_tableIn (tgt := 1222) (off := 1183) hx hb dL_law_39 (by decide +kernel) (by decide +kernel) (by decide +kernel) (by decide) ?_
    rcases Nat.lt_or_ge n3 200 with h9 | h9
    · exact law_push hfl C hi hL hN hM kk rq rp rr h9 hP hD hS hl
    · have e9 : n3 = 200 := Nat.le_antisymm rr.1 h9
      subst e9
      exact law_push_x hfl C hi hL hN hM kk rq rp rr hP hD hS hl
  · refine lv_tableIn (tgt := 1278) (off := 1239) hx hb dL_law_39 (by decide +kernel) (by decide +kernel) (by decide +kernel) (by decide) ?_
    rcases Nat.eq_zero_or_pos n3 with e9 | h9
    · subst e9
      exact law_pop_x hfl C hi hL hN hM kk rq rp rr hP hD hS hl
    · exact law_pop hfl C hi hL hN hM kk rq rp rr h9 hP hD hS hl
  · refine lv_tableIn (tgt := 1322) (off := 1283) hx hb dL_law_39 (by decide +kernel) (by decide +kernel) (by decide +kernel) (by decide) ?_
    have hcg : s_fI fr (xs (i + 1)) n3 0 = s_fI fo (xs (i + 1)) n3 0 := fI_congr (fun j _ h => rr.2 j (by omega))
    rcases hf : s_fI fr (xs (i + 1)) n3 0 with _ | q9
    · exact law_removeFirstOccurrence_n hfl C hi hL hN hM kk rq rp rr hf (by rw [← hcg]; exact hf) hP hD hS hl
    · exact law_removeFirstOccurrence_s hfl C hi hL hN hM kk rq rp rr q9 hf (by rw [← hcg]; exact hf) hP hD hS hl
  · refine lv_tableIn (tgt := 1347) (off := 1308) hx hb dL_law_39 (by decide +kernel) (by decide +kernel) (by decide +kernel) (by decide) ?_
    have hcg : s_last fr (xs (i + 1)) n3 = s_last fo (xs (i + 1)) n3 := last_congr rr.2
    rcases hf : s_last fr (xs (i + 1)) n3 with _ | q9
    · exact law_removeLastOccurrence_n hfl C hi hL hN hM kk rq rp rr hf (by rw [← hcg]; exact hf) hP hD hS hl
    · exact law_removeLastOccurrence_s hfl C hi hL hN hM kk rq rp rr q9 hf (by rw [← hcg]; exact hf) hP hD hS hl
  · refine lv_tableIn (tgt := 1372) (off := 1333) hx hb dL_law_39 (by decide +kernel) (by decide +kernel) (by decide +kernel) (by decide) ?_
    exact law_has hfl C hi hL hN hM kk rq rp rr hP hD hS hl
  · refine lv_tableIn (tgt := 1397) (off := 1358) hx hb dL_law_39 (by decide +kernel) (by decide +kernel) (by decide +kernel) (by decide) ?_
    exact law_length hfl C hi hL hN hM kk rq rp rr hP hD hS hl
  · refine lv_tableIn (tgt := 1410) (off := 1371) hx hb dL_law_39 (by decide +kernel) (by decide +kernel) (by decide +kernel) (by decide) ?_
    exact law_wipe hfl C hi hL hN hM kk rq rp rr hP hD hS hl
  · refine lv_tableIn (tgt := 1423) (off := 1384) hx hb dL_law_39 (by decide +kernel) (by decide +kernel) (by decide +kernel) (by decide) ?_
    rcases pk_ix (xs (i + 1)) (n := n3) (by have := rr.1; omega) with h9 | h9 | ⟨q9, hq, ex⟩
    · exact law_at_x hfl C hi hL hN hM kk rq rp rr (Or.inl h9) hP hD hS hl
    · exact law_at_x hfl C hi hL hN hM kk rq rp rr (Or.inr h9) hP hD hS hl
    · exact law_at hfl C hi hL hN hM kk rq rp rr q9 hq ex hP hD hS hl
  · refine lv_tableIn (tgt := 1479) (off := 1440) hx hb dL_law_39 (by decide +kernel) (by decide +kernel) (by decide +kernel) (by decide) ?_
    rcases pk_ix (xs (i + 1)) (n := n3) (by have := rr.1; omega) with h9 | h9 | ⟨q9, hq, ex⟩
    · exact law_back_x hfl C hi hL hN hM kk rq rp rr (Or.inl h9) hP hD hS hl
    · exact law_back_x hfl C hi hL hN hM kk rq rp rr (Or.inr h9) hP hD hS hl
    · exact law_back hfl C hi hL hN hM kk rq rp rr q9 hq ex hP hD hS hl
  · refine lv_tableIn (tgt := 1535) (off := 1496) hx hb dL_law_39 (by decide +kernel) (by decide +kernel) (by decide +kernel) (by decide) ?_
    exact law_dropLike hfl C hi hL hN hM kk rq rp rr hP hD hS hl
  · refine lv_tableIn (tgt := 1560) (off := 1521) hx hb dL_law_39 (by decide +kernel) (by decide +kernel) (by decide +kernel) (by decide) ?_
    exact law_walk hfl C hi hL hN hM kk rq rp rr hP hD hS hl
  · refine lv_tableIn (tgt := 1574) (off := 1535) hx hb dL_law_39 (by decide +kernel) (by decide +kernel) (by decide +kernel) (by decide) ?_
    exact law_walkBack hfl C hi hL hN hM kk rq rp rr hP hD hS hl
  · refine lv_tableOut (tgt := 1588) hx hb dL_law_39 (Or.inr (by rw [nI_toInt (by omega)]; omega)) (by decide) ?_
    refine W.widen (Nat.le_add_right N 1) (Nat.le_add_right M 6) ?_
    exact kk _ _ _ _ _ _ _ _ _ _ _ _ rq rp rr _ _ _ hP hD hS hl
set_option maxHeartbeats 4000000 in
set_option maxRecDepth 100000 in
theorem law_loop {p : Program} {l : Launch} {e : Env} {s : State} {m : MethodId} {below : List Frame} {meth : Method} {c : Code} {b L : Nat} {xs : Nat → Int32} {D : va_G} {cL cI : ClassId} {x h1 a1 h2 a2 h3 a3 mo b1 b2 b3 b4 o : Nat} (hfl : l.stackTraces = false) (C : LC p s m meth c b L xs D cL cI) (hL : L ≤ 1536) :
    ∀ (r i N M : Nat), L < i + 3 * r + 3 → i ≤ 1536 → N + r ≤ 1048 → M + 6 * r ≤ 9676 → ∀ (fq fp : Nat → Int64) (fr fh fo fk ft : Nat → Int32) (n1 n2 n3 : Nat) (th : Int32) (g : Nat → Int64), relQ fq fh n1 → relP fp fk ft n2 → relR fr fo n3 →
    ∀ (H : Heap) (locs : List Loc) (ls : Array Slot), va_P D vwCl (wL x h1 a1 h2 a2 h3 a3 mo b1 b2 b3 b4 o cL cI fq fp fr fh fo fk ft n1 n2 n3 th g) H → va_D (fun q => s.heap.size ≤ q) (wL x h1 a1 h2 a2 h3 a3 mo b1 b2 b3 b4 o cL cI fq fp fr fh fo fk ft n1 n2 n3 th g) → va_S (fun q => s.heap.size ≤ q) s.heap H locs → lv_has ls 8 [(0, .ref b), (1, .ref x), (2, .ref mo), (3, .ref o), (4, .int (nI i))] →
    W p l e room_1 s m #[Value.ref b] below meth c H locs N M (lw_Z below #[Value.ref b] s) (F0 m 23 ls []) := by
  obtain ⟨⟨hx, hb, hr, hml, hown, htl, hX, hbl, hlocks, hgv⟩, hv, hZ, hK⟩ := id C
  have hbA : ¬ (fun q : Nat => s.heap.size ≤ q) b := Nat.not_le.mpr hbl
  have hcmp : ∀ i : Nat, i ≤ 1536 → (nI L - nI 3 < nI i ↔ L < i + 3) := fun i h => by rw [Int32.lt_iff_toInt_lt, pk_sub_toInt (by omega) (by omega), nI_toInt (by omega)]; omega
  intro r
  induction r with
  | zero =>
    intro i N M hr1 hi0 hN hM fq fp fr fh fo fk ft n1 n2 n3 th g rq rp rr H locs ls hP hD hS hl
    refine lv_iload hx hb dL_law_23 (lv_at hl 4 rfl) ?_
    refine lv_aload_n hx hb dL_law_25 rfl (lv_at hl 0 rfl) ?_
    refine va_slen hx hb hX hbl hbA hS dL_law_26 ?_
    refine lv_iconst (v := nI 3) hx hb dL_law_27 (by decide +kernel) ?_
    refine lv_isub hx hb dL_law_28 ?_
    refine lv_icmp_gt (tgt := 1594) hx hb dL_law_29 (by decide) (fun c9 => ?_) (fun c9 => ?_)
    · refine lv_iconst (v := 1) hx hb dL_law_1594 (by decide) ?_
      refine va_forget (fun q hq => hS.2.2 q hq) ?_
      refine W.widen (k := 1048) (n := 9676) (by omega) (by omega) ?_
      exact lw_ret hx hb hr hlocks dL_law_1595
    · exact absurd ((hcmp i hi0).mpr (by omega)) c9
  | succ r ih =>
    intro i N M hr1 hi0 hN hM fq fp fr fh fo fk ft n1 n2 n3 th g rq rp rr H locs ls hP hD hS hl
    refine lv_iload hx hb dL_law_23 (lv_at hl 4 rfl) ?_
    refine lv_aload_n hx hb dL_law_25 rfl (lv_at hl 0 rfl) ?_
    refine va_slen hx hb hX hbl hbA hS dL_law_26 ?_
    refine lv_iconst (v := nI 3) hx hb dL_law_27 (by decide +kernel) ?_
    refine lv_isub hx hb dL_law_28 ?_
    refine lv_icmp_gt (tgt := 1594) hx hb dL_law_29 (by decide) (fun c9 => ?_) (fun c9 => ?_)
    · refine lv_iconst (v := 1) hx hb dL_law_1594 (by decide) ?_
      refine va_forget (fun q hq => hS.2.2 q hq) ?_
      refine W.widen (k := 1048) (n := 9676) (by omega) (by omega) ?_
      exact lw_ret hx hb hr hlocks dL_law_1595
    · have hi : i + 3 ≤ L := Nat.not_lt.mp (fun h => c9 ((hcmp i hi0).mpr h))
      refine law_turn hfl C hi hL (by omega) (by omega) ?_ rq rp rr hP hD hS hl
      intro fq fp fr fh fo fk ft n1 n2 n3 th g rq rp rr H locs ls hP hD hS hl
      refine lv_iinc (v := nI (i + 3)) (lv' := [(4, .int (nI (i + 3))), (0, .ref b), (1, .ref x), (2, .ref mo), (3, .ref o)]) hx hb dL_law_1588 hl (k := 4) rfl (nI_add i 3) (by decide) rfl (fun ls hl => ?_)
      refine lv_goto (tgt := 23) hx hb dL_law_1591 (by decide) ?_
      exact ih (i + 3) (N + 1) (M + 6) (by omega) (by omega) (by omega) (by omega) _ _ _ _ _ _ _ _ _ _ _ _ rq rp rr _ _ _ hP hD hS (lv_sub hl [1, 2, 3, 4, 0] rfl)
theorem h_str {args : Array Value} {s : State} {own tx : String} {k : Nat} (h1 : (Cond.stringRef own k tx).before args s = true) (h2 : (Cond.exactly (.string own k) "java/lang/String").before args s = true) : ∃ a, vk_R own k tx a s := by
  obtain ⟨a, c, cA, kA, q1, -⟩ := Cond.exactly_spec (args := args) (first := s) (o := none) (s := s) (idx := []) (t := .string own k) (cls := "java/lang/String") h2
  exact ⟨a, vk_R.of (A := args) h1 q1⟩
set_option maxRecDepth 100000 in
theorem lw_hV {s : State} {b : Nat} (htl : ∀ w ∈ lw_tbl, w.before #[Value.ref b] s = true) (hgv : (Jvm.Cond.and given_1 narrow_1).before #[Value.ref b] s = true) : hV s := by
  have hs := flat_of_before _ hgv
  exact ⟨va_Nw.of rfl (htl _ (by decide +kernel)), va_Nw.of rfl (htl _ (by decide +kernel)), va_Nw.of rfl (htl _ (by decide +kernel)), va_Nw.of rfl (htl _ (by decide +kernel)), va_Nw.of rfl (htl _ (by decide +kernel)), va_Nw.of rfl (htl _ (by decide +kernel)), va_Nw.of rfl (htl _ (by decide +kernel)), va_Nw.of rfl (htl _ (by decide +kernel)), va_Nw.of rfl (htl _ (by decide +kernel)), va_Nw.of rfl (htl _ (by decide +kernel)), va_Nw.of rfl (htl _ (by decide +kernel)), va_Nc.of (hs _ (by decide +kernel))⟩
set_option maxRecDepth 100000 in
theorem lw_hZ {s : State} {b : Nat} (htl : ∀ w ∈ lw_tbl, w.before #[Value.ref b] s = true) (hgv : (Jvm.Cond.and given_1 narrow_1).before #[Value.ref b] s = true) : hZ s := by
  have hs := flat_of_before _ hgv
  have hA : ∀ a : Nat, a < s.heap.size → ¬ (fun q : Nat => s.heap.size ≤ q) a := fun a h => Nat.not_le.mpr h
  refine ⟨vx_Zqof (args := #[Value.ref b]) (htl _ (by decide +kernel)) (htl _ (by decide +kernel)) (hs _ (by decide +kernel)) hA, vx_Zqof (args := #[Value.ref b]) (htl _ (by decide +kernel)) (htl _ (by decide +kernel)) (hs _ (by decide +kernel)) hA, ?_, ?_, ?_, ?_, ?_, ?_, ?_, ?_⟩
  all_goals exact h_str (args := #[Value.ref b]) (htl _ (by decide +kernel)) (hs _ (by decide +kernel))
set_option maxHeartbeats 4000000 in
set_option maxRecDepth 100000 in
/-- THE LAW, from its entry -/
theorem whole_start {p : Program} {e : Env} {s : State} {m : MethodId} {below : List Frame} {meth : Method} {c : Code} (l : Launch) (hflags : l.flags = flags0) {b L : Nat} {xs : Nat → Int32} (hL : L ≤ 1536) (C0 : lw_At p s m meth c b L xs) : W p l e room_1 s m #[Value.ref b] below meth c s.heap [] 0 0 (lw_Z below #[Value.ref b] s) (entryFrame m ([Value.ref b] : List Value).toArray 8) := by
  obtain ⟨hx, hb, hr, hml, hown, htl, hX, hbl, hlocks, hgv⟩ := id C0
  have hfl : l.stackTraces = false := by show Launch.stackTraces l = false; unfold Launch.stackTraces; rw [hflags]; decide
  have hts : ∀ w ∈ wsL_law, w.before #[Value.ref b] s = true := fun w h => htl w (wsL_law_in w h)
  have hown : s.vm.findClass RL = some m.cls := hown
  have hv := lw_hV htl hgv
  have hz := lw_hZ htl hgv
  have hA : ∀ q : Nat, s.heap.size ≤ q → (fun q : Nat => s.heap.size ≤ q) q := fun _ h => h
  obtain ⟨c0, iS0, hKn0⟩ := u_known (C := RX0) (T := TX0) (N := 2) (n := 2) htl inX0 (htl (.instantiable RX0 2) (by decide +kernel))
  obtain ⟨c1, iS1, hKn1⟩ := u_known (C := RX1) (T := TX1) (N := 2) (n := 2) htl inX1 (htl (.instantiable RX1 2) (by decide +kernel))
  obtain ⟨c2, iS2, hKn2⟩ := u_known (C := RX2) (T := TX2) (N := 3) (n := 3) htl inX2 (htl (.instantiable RX2 3) (by decide +kernel))
  obtain ⟨c3, iS3, hKn3⟩ := u_known (C := RX3) (T := TX3) (N := 8) (n := 8) htl inX3 (htl (.instantiable RX3 8) (by decide +kernel))
  obtain ⟨D, hKc⟩ : ∃ D : va_G, ∀ (k : Nat) (q : vw_C), vwCl[k]? = some q → u_Kn s q.1 q.2.1 q.2.2 (D.1 k) (D.2 k) := by
    refine ⟨(fun k => if k = 0 then c0 else if k = 1 then c1 else if k = 2 then c2 else c3, fun k => if k = 0 then iS0 else if k = 1 then iS1 else if k = 2 then iS2 else iS3), ?_⟩
    intro k q hq
    match k, hq with
    | 0, hq => cases hq; exact hKn0
    | 1, hq => cases hq; exact hKn1
    | 2, hq => cases hq; exact hKn2
    | 3, hq => cases hq; exact hKn3
    | k + 4, hq => simp [vwCl] at hq
  have hS : va_S (fun q : Nat => s.heap.size ≤ q) s.heap s.heap [] := va_S.rf
  have hK : va_K D vwCl [] s := ⟨hKc, fun k q h => by simp at h⟩
  have hP : va_P D vwCl [] s.heap := fun k q h => by simp at h
  have hD : va_D (fun q : Nat => s.heap.size ≤ q) [] := ⟨fun i j p q h => by simp at h, fun k q h => by simp at h⟩
  have hl := lv_entry ([.ref b]) (n := 8) (Nat.le_of_ble_eq_true rfl)
  rw [lg_entry_eq]
  generalize (lg_sl ([.ref b]) ++ List.replicate (8 - (lg_sl ([.ref b])).length) Slot.unset).toArray = ls at hl ⊢
  have hl : lv_has ls 8 [(0, .ref b)] := hl
  refine va_new (ci := 2) (fs := [.null, .null, .null]) (C := RX2) (T := TX2) (N := 3) hx hb htl inX2 tyX2 tyX2_ok hown (htl (.classLink RL 8 RX2) (by decide +kernel)) (htl (.instantiable RX2 3) (by decide +kernel)) (htl (.initialized RX2) (by decide +kernel)) hK hP hD hS hA rfl (fun j hj => by rcases (show j = 0 ∨ j = 1 ∨ j = 2 by omega) with rfl | rfl | rfl <;> rfl) (Nat.le_of_ble_eq_true rfl) (Nat.le_of_ble_eq_true rfl) dL_law_0 (fun x H hP hD hS => ?_)
  have hP : va_P D vwCl [(x, .inr (2, [.null, .null, .null]))] H := hP
  have hD : va_D (fun q : Nat => s.heap.size ≤ q) [(x, .inr (2, [.null, .null, .null]))] := hD
  refine W.widen (k := 1) (n := 3) (Nat.le_of_ble_eq_true rfl) (Nat.le_of_ble_eq_true rfl) ?_
  refine lv_dup hx hb dL_law_3 rfl ?_
  have hPc := hP.sub (ws' := [(x, .inr (2, [.null, .null, .null]))]) [0] rfl
  have hDc := hD.sub (ws' := [(x, .inr (2, [.null, .null, .null]))]) [0] (by decide) rfl
  have hKc := hK.sub (tys' := []) [] rfl
  have hFc := va_free (wc := [(x, .inr (2, [.null, .null, .null]))]) hD hS hA [0] rfl
  refine va_callv (va_runI (As := []) (rest := [.ref x]) ⟨hx, hb, hml, hown, hts⟩ (c_X2_init l D x H.size) (cwI 0 hts gL_law_X2_init rfl rfl rfl (htl (.initialized RX2) (by decide +kernel)) (htl (.methodLink RL 88 yX2_init) (by decide +kernel)) (htl (.instanceMethod yX2_init) (by decide +kernel)) rfl (by decide +kernel) ⟨Nat.le_of_ble_eq_true rfl, Nat.le_of_ble_eq_true rfl⟩) ⟨h_blind, fun U hU hW => ⟨rfl, by rw [hU], by rw [hU]; exact hPc, va_K.moved hW.alike hKc, hDc.weaken (fun _ _ _ _ => trivial), hV.warm hW hv⟩⟩ rfl rfl hl.1 rfl (lv_room (Nat.le_of_ble_eq_true rfl)) dL_law_4 ⟨Nat.le_of_ble_eq_true rfl, Nat.le_of_ble_eq_true rfl⟩) hS (fun q _ h => hFc q h) hFc (fun u t H1 locs ht hvm hw hB hz1 hk1 hS => ?_)
  obtain ⟨h1, a1, h2, a2, h3, a3, cL, cI⟩ := u
  obtain ⟨hP1, hK1, hD1⟩ := hB
  rw [ht] at hP1
  have hK1 := va_K.moved hvm.symm hK1
  obtain ⟨hP, hD⟩ := va_join (wr := []) (w1 := (wX x h1 a1 h2 a2 h3 a3 cL cI hz64 0 hz64 0 hz32 0)) hP hD [0] [] rfl rfl (by decide) (by decide) hk1 hFc hP1 hD1
  have hK := hK.app hK1
  generalize H1 = H at hP hS ⊢
  have hP : va_P D vwCl (wX x h1 a1 h2 a2 h3 a3 cL cI hz64 0 hz64 0 hz32 0) H := hP
  have hD : va_D (fun q : Nat => s.heap.size ≤ q) (wX x h1 a1 h2 a2 h3 a3 cL cI hz64 0 hz64 0 hz32 0) := hD
  have hK : va_K D vwCl [(cL, .long), (cI, .int)] s := hK
  refine W.widen (k := 7) (n := 609) (Nat.le_of_ble_eq_true rfl) (Nat.le_of_ble_eq_true rfl) ?_
  refine lv_astore_n (lv' := [(1, .ref x), (0, .ref b)]) hx hb dL_law_7 rfl hl (by decide) rfl (fun ls hl => ?_)
  refine va_new (ci := 3) (fs := [.null, .null, .null, .null, .int 0, .int 0, .int 0, .int 0]) (C := RX3) (T := TX3) (N := 8) hx hb htl inX3 tyX3 tyX3_ok hown (htl (.classLink RL 89 RX3) (by decide +kernel)) (htl (.instantiable RX3 8) (by decide +kernel)) (htl (.initialized RX3) (by decide +kernel)) hK hP hD hS hA rfl (fun j hj => by rcases (show j = 0 ∨ j = 1 ∨ j = 2 ∨ j = 3 ∨ j = 4 ∨ j = 5 ∨ j = 6 ∨ j = 7 by omega) with rfl | rfl | rfl | rfl | rfl | rfl | rfl | rfl <;> rfl) (Nat.le_of_ble_eq_true rfl) (Nat.le_of_ble_eq_true rfl) dL_law_8 (fun mo H hP hD hS => ?_)
  have hP : va_P D vwCl ((wX x h1 a1 h2 a2 h3 a3 cL cI hz64 0 hz64 0 hz32 0) ++ [(mo, .inr (3, [.null, .null, .null, .null, .int 0, .int 0, .int 0, .int 0]))]) H := hP
  have hD : va_D (fun q : Nat => s.heap.size ≤ q) ((wX x h1 a1 h2 a2 h3 a3 cL cI hz64 0 hz64 0 hz32 0) ++ [(mo, .inr (3, [.null, .null, .null, .null, .int 0, .int 0, .int 0, .int 0]))]) := hD
  refine W.widen (k := 8) (n := 617) (Nat.le_of_ble_eq_true rfl) (Nat.le_of_ble_eq_true rfl) ?_
  refine lv_dup hx hb dL_law_11 rfl ?_
  have hPc := hP.sub (ws' := [(mo, .inr (3, [.null, .null, .null, .null, .int 0, .int 0, .int 0, .int 0]))]) [7] rfl
  have hDc := hD.sub (ws' := [(mo, .inr (3, [.null, .null, .null, .null, .int 0, .int 0, .int 0, .int 0]))]) [7] (by decide) rfl
  have hKc := hK.sub (tys' := []) [] rfl
  have hFc := va_free (wc := [(mo, .inr (3, [.null, .null, .null, .null, .int 0, .int 0, .int 0, .int 0]))]) hD hS hA [7] rfl
  refine va_callv (va_runI (As := []) (rest := [.ref mo]) ⟨hx, hb, hml, hown, hts⟩ (c_X3_init l D mo H.size) (cwI 0 hts gL_law_X3_init rfl rfl rfl (htl (.initialized RX3) (by decide +kernel)) (htl (.methodLink RL 91 yX3_init) (by decide +kernel)) (htl (.instanceMethod yX3_init) (by decide +kernel)) rfl (by decide +kernel) ⟨Nat.le_of_ble_eq_true rfl, Nat.le_of_ble_eq_true rfl⟩) ⟨h_blind, fun U hU hW => ⟨rfl, by rw [hU], by rw [hU]; exact hPc, va_K.moved hW.alike hKc, hDc.weaken (fun _ _ _ _ => trivial), hV.warm hW hv⟩⟩ rfl rfl hl.1 rfl (lv_room (Nat.le_of_ble_eq_true rfl)) dL_law_12 ⟨Nat.le_of_ble_eq_true rfl, Nat.le_of_ble_eq_true rfl⟩) hS (fun q _ h => hFc q h) hFc (fun u t H1 locs ht hvm hw hB hz1 hk1 hS => ?_)
  obtain ⟨b1, b2, b3, b4, cI2⟩ := u
  obtain ⟨hP1, hK1, hD1⟩ := hB
  rw [ht] at hP1
  have hK1 := va_K.moved hvm.symm hK1
  obtain ⟨hP, hD⟩ := va_join (wr := (wX x h1 a1 h2 a2 h3 a3 cL cI hz64 0 hz64 0 hz32 0)) (w1 := (wM mo b1 b2 b3 b4 cI2 hz32 hz32 hz32 hz32 0 0 0 0)) hP hD [7] [0, 1, 2, 3, 4, 5, 6] rfl rfl (by decide) (by decide) hk1 hFc hP1 hD1
  have hK := hK.app hK1
  generalize H1 = H at hP hS ⊢
  have hK : va_K D vwCl [(cL, .long), (cI, .int), (cI2, .int)] s := hK
  have e1 : cI = cI2 := h_Keq hK 1 2 rfl rfl (Or.inr rfl)
  subst e1
  have hP : va_P D vwCl ((wX x h1 a1 h2 a2 h3 a3 cL cI hz64 0 hz64 0 hz32 0) ++ (wM mo b1 b2 b3 b4 cI hz32 hz32 hz32 hz32 0 0 0 0)) H := hP
  have hD : va_D (fun q : Nat => s.heap.size ≤ q) ((wX x h1 a1 h2 a2 h3 a3 cL cI hz64 0 hz64 0 hz32 0) ++ (wM mo b1 b2 b3 b4 cI hz32 hz32 hz32 hz32 0 0 0 0)) := hD
  refine W.widen (k := 12) (n := 1417) (Nat.le_of_ble_eq_true rfl) (Nat.le_of_ble_eq_true rfl) ?_
  refine lv_astore_n (lv' := [(2, .ref mo), (1, .ref x), (0, .ref b)]) hx hb dL_law_15 rfl hl (by decide) rfl (fun ls hl => ?_)
  refine lv_iconst (v := nI 1) hx hb dL_law_16 (by decide +kernel) ?_
  refine va_newa (atype := .long) (ty := .long) (N' := 1) (a0 := (1, .inr (.inl hz64))) hx hb (htl (.arrayClass .long) (by decide +kernel)) rfl hK hP hD hS hA (fun _ => rfl) (by decide +kernel) (by decide +kernel) (Nat.le_of_ble_eq_true rfl) (Nat.le_of_ble_eq_true rfl) (Nat.le_of_ble_eq_true rfl) dL_law_17 (fun o cL2 H hK hP hD hS => ?_)
  have hK : va_K D vwCl [(cL, .long), (cI, .int), (cI, .int), (cL2, .long)] s := hK
  have e2 : cL = cL2 := h_Keq hK 0 3 rfl rfl (Or.inl rfl)
  subst e2
  have hK : va_K D vwCl [(cL, .long), (cI, .int)] s := hK.sub [0, 1] rfl
  have hP : va_P D vwCl (wL x h1 a1 h2 a2 h3 a3 mo b1 b2 b3 b4 o cL cI hz64 hz64 hz32 hz32 hz32 hz32 hz32 0 0 0 0 hz64) H := hP
  have hD : va_D (fun q : Nat => s.heap.size ≤ q) (wL x h1 a1 h2 a2 h3 a3 mo b1 b2 b3 b4 o cL cI hz64 hz64 hz32 hz32 hz32 hz32 hz32 0 0 0 0 hz64) := hD
  refine W.widen (k := 13) (n := 1418) (Nat.le_of_ble_eq_true rfl) (Nat.le_of_ble_eq_true rfl) ?_
  refine lv_astore_n (lv' := [(3, .ref o), (2, .ref mo), (1, .ref x), (0, .ref b)]) hx hb dL_law_19 rfl hl (by decide) rfl (fun ls hl => ?_)
  refine lv_iconst (v := nI 0) hx hb dL_law_20 (by decide +kernel) ?_
  refine lv_istore (lv' := [(4, .int (nI 0)), (3, .ref o), (2, .ref mo), (1, .ref x), (0, .ref b)]) hx hb dL_law_21 hl (by decide) rfl (fun ls hl => ?_)
  exact law_loop hfl ⟨C0, hv, hz, hK⟩ hL 512 0 13 1418 (by omega) (by omega) (by omega) (by omega) _ _ _ _ _ _ _ _ _ _ _ _ (relQ_0 _ _) (relP_0 _ _ _) (relR_0 _ _) _ _ _ hP hD hS (lv_sub hl [4, 3, 2, 1, 0] rfl)
