/-! Pairs: a pair as one long keeps the order of the pairs, and gives key and tag back. -/
theorem bm64 {x : Int} (h1 : -9223372036854775808 ≤ x) (h2 : x < 9223372036854775808) : x.bmod (2 ^ 64) = x := Int.bmod_eq_of_le_mul_two (by omega) (by omega)
theorem bm32 {x : Int} (h1 : -2147483648 ≤ x) (h2 : x < 2147483648) : x.bmod (2 ^ 32) = x := Int.bmod_eq_of_le_mul_two (by omega) (by omega)
theorem i32_b (x : Int32) : -2147483648 ≤ x.toInt ∧ x.toInt < 2147483648 := by
  have h1 := Int32.le_toInt x
  have h2 := Int32.toInt_lt x
  constructor <;> omega
theorem t999 : (nI 999).toInt = 999 := nI_toInt (by decide)
def okT (t : Int32) : Prop := ¬ t < 0 ∧ t ≤ nI 999
theorem okT_i {t : Int32} (h : okT t) : 0 ≤ t.toInt ∧ t.toInt ≤ 999 := by
  have h1 := h.1
  have h2 := h.2
  rw [Int32.lt_iff_toInt_lt] at h1
  rw [Int32.le_iff_toInt_le, t999] at h2
  have e : (0 : Int32).toInt = 0 := rfl
  rw [e] at h1
  omega
theorem rank_i (k : Int32) {t : Int32} (h : okT t) : (s_rank k t).toInt = k.toInt * 1000 + (999 - t.toInt) := by
  have a := okT_i h
  have b := i32_b k
  unfold s_rank
  have e1 : (nI 999 - t).toInt64.toInt = 999 - t.toInt := by
    rw [Int32.toInt_toInt64, Int32.toInt_sub, t999]
    exact bm32 (by omega) (by omega)
  have e2 : (k.toInt64 * 1000).toInt = k.toInt * 1000 := by
    rw [Int64.toInt_mul, Int32.toInt_toInt64, show (1000 : Int64).toInt = 1000 from rfl]
    exact bm64 (by omega) (by omega)
  rw [Int64.toInt_add, e1, e2]
  exact bm64 (by omega) (by omega)
theorem rank_le {k k' t t' : Int32} (h : okT t) (h' : okT t') : s_rank k t ≤ s_rank k' t' ↔ k.toInt * 1000 + (999 - t.toInt) ≤ k'.toInt * 1000 + (999 - t'.toInt) := by
  rw [Int64.le_iff_toInt_le, rank_i k h, rank_i k' h']
theorem rank_inj {k k' t t' : Int32} (h : okT t) (h' : okT t') (e : s_rank k t = s_rank k' t') : k = k' ∧ t = t' := by
  have e1 := congrArg Int64.toInt e
  rw [rank_i k h, rank_i k' h'] at e1
  have a := okT_i h
  have a' := okT_i h'
  exact ⟨Int32.toInt_inj.mp (by omega), Int32.toInt_inj.mp (by omega)⟩
theorem xor_neg (x : Int64) : x ^^^ 1000 < 0 ↔ x < 0 := by
  have e0 : (0 : Int64).toInt = 0 := rfl
  rw [Int64.lt_iff_toInt_lt, Int64.lt_iff_toInt_lt, e0]
  have h1 : (x ^^^ 1000).toBitVec.msb = decide ((x ^^^ 1000).toInt < 0) := BitVec.msb_eq_toInt
  have h2 : x.toBitVec.msb = decide (x.toInt < 0) := BitVec.msb_eq_toInt
  have h3 : (x ^^^ 1000).toBitVec.msb = x.toBitVec.msb := by
    show (x.toBitVec ^^^ (1000 : Int64).toBitVec).msb = x.toBitVec.msb
    rw [BitVec.msb_xor, show (1000 : Int64).toBitVec.msb = false from by decide +kernel, Bool.xor_false]
  rw [h1, h2] at h3
  simpa using h3
theorem tdiv1000 (X : Int) : X.tdiv 1000 = if 0 ≤ X ∨ X % 1000 = 0 then X / 1000 else X / 1000 + 1 := by
  rw [Int.tdiv_eq_ediv]
  by_cases h : 0 ≤ X ∨ X % 1000 = 0
  · rw [if_pos h, if_pos (h.imp id Int.dvd_of_emod_eq_zero)]; omega
  · rw [if_neg h, if_neg (fun h2 => h (h2.imp id Int.emod_eq_zero_of_dvd))]; rfl
theorem div_i (x : Int64) : (x / 1000).toInt = x.toInt.tdiv 1000 := by
  rw [Int64.toInt_div_of_ne_right _ _ (by decide +kernel)]; rfl
theorem neg_i (x : Int64) : x < 0 ↔ x.toInt < 0 := by rw [Int64.lt_iff_toInt_lt]; rfl
theorem mul_i (x : Int64) : (x / 1000 * 1000).toInt = x.toInt.tdiv 1000 * 1000 := by
  have h1 : (-9223372036854775808 : Int) ≤ x.toInt := Int64.le_toInt x
  have h2 : x.toInt < 9223372036854775808 := Int64.toInt_lt x
  rw [Int64.toInt_mul, div_i, show (1000 : Int64).toInt = 1000 from rfl]
  rw [tdiv1000]
  split <;> exact bm64 (by omega) (by omega)
theorem fd_i (x : Int64) : (s_fd x 1000).toInt = x.toInt / 1000 := by
  have h1 : (-9223372036854775808 : Int) ≤ x.toInt := Int64.le_toInt x
  have h2 : x.toInt < 9223372036854775808 := Int64.toInt_lt x
  have hm := mul_i x
  have hd := div_i x
  rw [tdiv1000] at hm hd
  have hq : x / 1000 * 1000 = x ↔ (x / 1000 * 1000).toInt = x.toInt := Int64.toInt_inj.symm
  unfold s_fd
  by_cases h : 0 ≤ x.toInt ∨ x.toInt % 1000 = 0
  · rw [if_pos h] at hd hm
    have hc : ¬ (x ^^^ 1000 < 0 ∧ ¬ x / 1000 * 1000 = x) := by rw [xor_neg, neg_i, hq, hm]; omega
    rw [if_neg hc, hd]
  · rw [if_neg h] at hd hm
    have hc : x ^^^ 1000 < 0 ∧ ¬ x / 1000 * 1000 = x := by rw [xor_neg, neg_i, hq, hm]; omega
    rw [if_pos hc, Int64.toInt_sub, hd, show (1 : Int64).toInt = 1 from rfl, bm64 (by omega) (by omega)]
    omega
theorem fm_i (x : Int64) : (s_fm x 1000).toInt = x.toInt % 1000 := by
  have h1 : (-9223372036854775808 : Int) ≤ x.toInt := Int64.le_toInt x
  have h2 : x.toInt < 9223372036854775808 := Int64.toInt_lt x
  have hm := mul_i x
  have hr : (x - x / 1000 * 1000).toInt = x.toInt - x.toInt.tdiv 1000 * 1000 := by
    rw [Int64.toInt_sub, hm, tdiv1000]
    split <;> exact bm64 (by omega) (by omega)
  rw [tdiv1000] at hr
  have hq : x - x / 1000 * 1000 = 0 ↔ (x - x / 1000 * 1000).toInt = 0 := Int64.toInt_inj.symm
  unfold s_fm
  by_cases h : 0 ≤ x.toInt ∨ x.toInt % 1000 = 0
  · rw [if_pos h] at hr
    have hc : ¬ (x ^^^ 1000 < 0 ∧ ¬ x - x / 1000 * 1000 = 0) := by rw [xor_neg, neg_i, hq, hr]; omega
    rw [if_neg hc, hr]
    omega
  · rw [if_neg h] at hr
    have hc : x ^^^ 1000 < 0 ∧ ¬ x - x / 1000 * 1000 = 0 := by rw [xor_neg, neg_i, hq, hr]; omega
    rw [if_pos hc, Int64.toInt_add, hr, show (1000 : Int64).toInt = 1000 from rfl, bm64 (by omega) (by omega)]
    omega
theorem key_rank (k : Int32) {t : Int32} (h : okT t) : s_key (s_rank k t) = k := by
  have a := okT_i h
  have b := i32_b k
  apply Int32.toInt_inj.mp
  unfold s_key
  rw [Int64.toInt_toInt32, fd_i, rank_i k h, show (k.toInt * 1000 + (999 - t.toInt)) / 1000 = k.toInt by omega]
  exact bm32 b.1 b.2
theorem tell_rank (k : Int32) {t : Int32} (h : okT t) : s_tell (s_rank k t) = 1000 * k.toInt64 + t.toInt64 := by
  have a := okT_i h
  have b := i32_b k
  apply Int64.toInt_inj.mp
  unfold s_tell
  rw [key_rank k h]
  have e1 : (999 - s_fm (s_rank k t) 1000).toInt = t.toInt := by
    rw [Int64.toInt_sub, fm_i, rank_i k h, show (999 : Int64).toInt = 999 from rfl, show (k.toInt * 1000 + (999 - t.toInt)) % 1000 = 999 - t.toInt by omega, bm64 (by omega) (by omega)]
    omega
  have e2 : (k.toInt64 * 1000).toInt = k.toInt * 1000 := by
    rw [Int64.toInt_mul, Int32.toInt_toInt64, show (1000 : Int64).toInt = 1000 from rfl]
    exact bm64 (by omega) (by omega)
  have e3 : (1000 * k.toInt64).toInt = k.toInt * 1000 := by
    rw [Int64.toInt_mul, Int32.toInt_toInt64, show (1000 : Int64).toInt = 1000 from rfl, Int.mul_comm]
    exact bm64 (by omega) (by omega)
  rw [Int64.toInt_add, Int64.toInt_add, e1, e2, e3, Int32.toInt_toInt64]
def relP (f : Nat → Int64) (fk ft : Nat → Int32) (n : Nat) : Prop := n ≤ 200 ∧ relG f (fun i => s_rank (fk i) (ft i)) n ∧ ∀ i, i < n → okT (ft i)
theorem relP_0 (f : Nat → Int64) (fk ft : Nat → Int32) : relP f fk ft 0 := ⟨by omega, relG_0 _ _, fun i hi => by omega⟩
theorem rm_rank (fk ft : Nat → Int32) (p n : Nat) : (fun i => s_rank (s_rm fk p n i) (s_rm ft p n i)) = s_rmL (fun i => s_rank (fk i) (ft i)) p n := by
  funext i; unfold s_rm s_rmL; dsimp only; split <;> rfl
theorem rm_tag {ft : Nat → Int32} {n : Nat} (p : Nat) (h : ∀ i, i < n → okT (ft i)) : ∀ i, i < n - 1 → okT (s_rm ft p n i) := by
  intro i hi
  unfold s_rm
  split <;> exact h _ (by omega)
theorem relP_put {f : Nat → Int64} {fk ft : Nat → Int32} {n : Nat} {k t : Int32} (ht : okT t) (r : relP f fk ft n) (hn : n < 200) : relP (s_put (s_rank k t) n f) (upd fk n k) (upd ft n t) (n + 1) := by
  refine ⟨hn, relG_congr (relG_put (s_rank k t) r.2.1) (fun i hi => ?_), fun i hi => ?_⟩
  · by_cases e : i = n
    · rw [e, updL_at, upd_at, upd_at]
    · rw [updL_ne _ _ e, upd_ne _ _ e, upd_ne _ _ e]
  · by_cases e : i = n
    · rw [e, upd_at]; exact ht
    · rw [upd_ne _ _ e]; exact r.2.2 i (by omega)
theorem lq_min {fk ft : Nat → Int32} : ∀ (n : Nat), (∀ i, i ≤ n → okT (ft i)) → ∀ i, i ≤ n → s_rank (fk (s_lq fk ft n)) (ft (s_lq fk ft n)) ≤ s_rank (fk i) (ft i) := by
  intro n
  induction n with
  | zero => intro _ i hi; have : i = 0 := by omega
            rw [this]; exact Int64.le_refl _
  | succ n ih =>
    intro ht i hi
    have hl := s_lq_le fk ft n
    have ih2 := ih (fun j hj => ht j (by omega))
    have a := okT_i (ht (n + 1) (Nat.le_refl _))
    have b := okT_i (ht (s_lq fk ft n) (by omega))
    have key : (fk (n + 1) < fk (s_lq fk ft n) ∨ (fk (n + 1) = fk (s_lq fk ft n) ∧ ft (s_lq fk ft n) < ft (n + 1))) ↔ ¬ s_rank (fk (s_lq fk ft n)) (ft (s_lq fk ft n)) ≤ s_rank (fk (n + 1)) (ft (n + 1)) := by
      rw [rank_le (ht _ (by omega)) (ht _ (Nat.le_refl _)), Int32.lt_iff_toInt_lt, Int32.lt_iff_toInt_lt, ← Int32.toInt_inj]
      omega
    unfold s_lq
    split
    next hc =>
      have h3 := key.mp hc
      by_cases e : i = n + 1
      · rw [e]; exact Int64.le_refl _
      · rcases Int64.le_total (s_rank (fk (s_lq fk ft n)) (ft (s_lq fk ft n))) (s_rank (fk (n + 1)) (ft (n + 1))) with h4 | h4
        · exact absurd h4 h3
        · exact Int64.le_trans h4 (ih2 i (by omega))
    next hc =>
      by_cases e : i = n + 1
      · rw [e]; exact Decidable.not_not.mp (fun h => hc (key.mpr h))
      · exact ih2 i (by omega)
theorem relP_min {f : Nat → Int64} {fk ft : Nat → Int32} {n : Nat} (r : relP f fk ft (n + 1)) : f n = s_rank (fk (s_lq fk ft n)) (ft (s_lq fk ft n)) :=
  relG_min r.2.1 (s_lq_le fk ft n) (lq_min n (fun i hi => r.2.2 i (by omega)))
theorem relP_poll {f : Nat → Int64} {fk ft : Nat → Int32} {n : Nat} (r : relP f fk ft (n + 1)) : relP f (s_rm fk (s_lq fk ft n) (n + 1)) (s_rm ft (s_lq fk ft n) (n + 1)) n := by
  refine ⟨by have := r.1; omega, ?_, rm_tag (n := n + 1) _ r.2.2⟩
  rw [rm_rank]
  exact relG_poll r.2.1 (s_lq_le fk ft n) (lq_min n (fun i hi => r.2.2 i (by omega)))
theorem relP_min' {f : Nat → Int64} {fk ft : Nat → Int32} {n : Nat} (r : relP f fk ft n) (h1 : 1 ≤ n) : s_tell (f (n - 1)) = s_told fk ft (s_lq fk ft (n - 1)) := by
  obtain ⟨k, rfl⟩ : ∃ k, n = k + 1 := ⟨n - 1, by omega⟩
  have hl := s_lq_le fk ft k
  rw [Nat.add_sub_cancel, relP_min r, tell_rank _ (r.2.2 _ (by omega))]; rfl
theorem relP_poll' {f : Nat → Int64} {fk ft : Nat → Int32} {n : Nat} (r : relP f fk ft n) (h1 : 1 ≤ n) : relP f (s_rm fk (s_lq fk ft (n - 1)) n) (s_rm ft (s_lq fk ft (n - 1)) n) (n - 1) := by
  obtain ⟨k, rfl⟩ : ∃ k, n = k + 1 := ⟨n - 1, by omega⟩
  exact relP_poll r
theorem relP_has {f : Nat → Int64} {fk ft : Nat → Int32} {n : Nat} {k t : Int32} (ht : okT t) (r : relP f fk ft n) : (s_fL f (s_rank k t) n 0).isSome = (s_fP fk ft k t n 0).isSome := by
  have e : (s_fL f (s_rank k t) n 0).isSome = true ↔ (s_fP fk ft k t n 0).isSome = true := by
    rw [fL_mem, fP_mem, r.2.1.2.mem_iff, toL_mem]
    constructor
    · rintro ⟨i, hi, e⟩; exact ⟨i, hi, rank_inj (r.2.2 i hi) ht e⟩
    · rintro ⟨i, hi, e1, e2⟩; exact ⟨i, hi, by rw [e1, e2]⟩
  cases h1 : (s_fL f (s_rank k t) n 0).isSome <;> cases h2 : (s_fP fk ft k t n 0).isSome <;> simp_all
theorem relP_rm {f : Nat → Int64} {fk ft : Nat → Int32} {n q p : Nat} {k t : Int32} (r : relP f fk ft n) (hq : s_fL f (s_rank k t) n 0 = some q) (hp : s_fP fk ft k t n 0 = some p) : relP (s_rmL f q n) (s_rm fk p n) (s_rm ft p n) (n - 1) := by
  refine ⟨by have := r.1; omega, ?_, rm_tag _ r.2.2⟩
  rw [rm_rank]
  have a := s_fL_spec hq
  have b := s_fP_spec hp
  exact relG_rm r.2.1 (by omega) (by omega) (by rw [a.2.2.1, b.2.2.1.1, b.2.2.1.2])
theorem drainP_rel : ∀ {n : Nat} {f : Nat → Int64} {fk ft g u : Nat → Int32} {r : Nat}, relP f fk ft n → relR u g r → r + n ≤ 200 → relR (s_xp f n u r) (s_mp n fk ft g r).2.2 (r + n) := by
  intro n
  induction n with
  | zero => intro f fk ft g u r _ b _; exact b
  | succ n ih =>
    intro f fk ft g u r a b hr
    unfold s_xp s_mp
    have hl := s_lq_le fk ft n
    have e : s_key (f n) = fk (s_lq fk ft n) := by rw [relP_min a, key_rank _ (a.2.2 _ (by omega))]
    rw [e, show r + (n + 1) = r + 1 + n by omega]
    exact ih (relP_poll a) (relR_upd _ b (by omega)) (by omega)
