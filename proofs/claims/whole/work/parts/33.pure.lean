/-! The two sides tied: what the sorted rows of the class hold is what the plain rows of the model hold, in some order. -/
def toL {α : Type} (f : Nat → α) (n : Nat) : List α := (List.range n).map f
theorem toL_0 {α : Type} (f : Nat → α) : toL f 0 = [] := rfl
theorem toL_s {α : Type} (f : Nat → α) (n : Nat) : toL f (n + 1) = toL f n ++ [f n] := by simp [toL, List.range_succ]
theorem toL_congr {α : Type} {f g : Nat → α} {n : Nat} (h : ∀ i, i < n → f i = g i) : toL f n = toL g n := by
  unfold toL
  exact List.map_congr_left (fun i hi => h i (List.mem_range.mp hi))
theorem toL_mem {α : Type} {f : Nat → α} {n : Nat} {x : α} : x ∈ toL f n ↔ ∃ i, i < n ∧ f i = x := by
  unfold toL
  rw [List.mem_map]
  constructor
  · rintro ⟨i, hi, e⟩; exact ⟨i, List.mem_range.mp hi, e⟩
  · rintro ⟨i, hi, e⟩; exact ⟨i, List.mem_range.mpr hi, e⟩
theorem toL_len {α : Type} (f : Nat → α) (n : Nat) : (toL f n).length = n := by simp [toL]
theorem toL_eq {α : Type} {f g : Nat → α} : ∀ {n : Nat}, toL f n = toL g n → ∀ i, i < n → f i = g i := by
  intro n
  induction n with
  | zero => intro _ i hi; omega
  | succ n ih =>
    intro h i hi
    rw [toL_s, toL_s] at h
    have h2 := List.append_inj' h rfl
    by_cases e : i = n
    · rw [e]; simpa using h2.2
    · exact ih h2.1 i (by omega)
def srt (f : Nat → Int64) (n : Nat) : Prop := ∀ i j, i ≤ j → j < n → f j ≤ f i
def relG (f K : Nat → Int64) (n : Nat) : Prop := srt f n ∧ (toL f n).Perm (toL K n)
theorem relG_0 (f K : Nat → Int64) : relG f K 0 := ⟨fun i j h1 h2 => by omega, List.Perm.refl _⟩
theorem relG_congr {f K K' : Nat → Int64} {n : Nat} (h : relG f K n) (e : ∀ i, i < n → K i = K' i) : relG f K' n := ⟨h.1, by rw [← toL_congr e]; exact h.2⟩
theorem put_hi (v : Int64) : ∀ (n : Nat) (f : Nat → Int64) (j : Nat), n < j → s_put v n f j = f j := by
  intro n
  induction n with
  | zero => intro f j h; unfold s_put vp_updL; exact if_neg (by omega)
  | succ n ih =>
    intro f j h
    unfold s_put
    split
    · rw [ih _ j (by omega)]; unfold vp_updL; exact if_neg (by omega)
    · unfold vp_updL; exact if_neg (by omega)
theorem updL_lo (f : Nat → Int64) (k : Nat) (v : Int64) (n : Nat) (h : n ≤ k) : toL (vp_updL f k v) n = toL f n := toL_congr (fun i hi => by unfold vp_updL; exact if_neg (by omega))
theorem updL_at (f : Nat → Int64) (k : Nat) (v : Int64) : vp_updL f k v k = v := by unfold vp_updL; exact if_pos rfl
theorem updL_ne (f : Nat → Int64) {k j : Nat} (v : Int64) (h : j ≠ k) : vp_updL f k v j = f j := by unfold vp_updL; exact if_neg h
theorem put_perm (v : Int64) : ∀ (n : Nat) (f : Nat → Int64), (toL (s_put v n f) (n + 1)).Perm (v :: toL f n) := by
  intro n
  induction n with
  | zero => intro f; unfold s_put; rw [toL_s, updL_at, toL_0, toL_0]; exact List.Perm.refl _
  | succ n ih =>
    intro f
    unfold s_put
    split
    · rw [toL_s, put_hi v n _ (n + 1) (by omega), updL_at, toL_s f n]
      have h := ih (vp_updL f (n + 1) (f n))
      rw [updL_lo f (n + 1) (f n) n (by omega)] at h
      have h2 := h.append_right [f n]
      exact h2
    · rw [toL_s, updL_at, updL_lo f (n + 1) v (n + 1) (by omega)]
      exact List.perm_append_singleton v _
theorem put_srt (v : Int64) : ∀ (n : Nat) (f : Nat → Int64), srt f n → srt (s_put v n f) (n + 1) := by
  intro n
  induction n with
  | zero =>
    intro f _ i j h1 h2
    have e1 : i = 0 := by omega
    have e2 : j = 0 := by omega
    rw [e1, e2]; exact Int64.le_refl _
  | succ n ih =>
    intro f hs
    unfold s_put
    split
    next hlt =>
      have hs' : srt (vp_updL f (n + 1) (f n)) n := fun i j h1 h2 => by
        rw [updL_ne f _ (show j ≠ n + 1 by omega), updL_ne f _ (show i ≠ n + 1 by omega)]
        exact hs i j h1 (by omega)
      have h1 := ih _ hs'
      intro i j hij hj
      by_cases e : j = n + 1
      · by_cases e2 : i = n + 1
        · rw [e, e2]; exact Int64.le_refl _
        · rw [e, put_hi v n _ (n + 1) (by omega), updL_at]
          have hm : s_put v n (vp_updL f (n + 1) (f n)) i ∈ toL (s_put v n (vp_updL f (n + 1) (f n))) (n + 1) := toL_mem.mpr ⟨i, by omega, rfl⟩
          have hm2 := (put_perm v n (vp_updL f (n + 1) (f n))).mem_iff.mp hm
          rw [updL_lo f (n + 1) (f n) n (by omega)] at hm2
          rcases List.mem_cons.mp hm2 with h | h
          · rw [h]; exact Int64.le_of_lt hlt
          · obtain ⟨k, hk, ek⟩ := toL_mem.mp h
            rw [← ek]; exact hs k n (by omega) (by omega)
      · exact h1 i j hij (by omega)
    next hge =>
      have hv : v ≤ f n := Int64.not_lt.mp hge
      intro i j hij hj
      by_cases e : j = n + 1
      · by_cases e2 : i = n + 1
        · rw [e, e2]; exact Int64.le_refl _
        · rw [e, updL_at, updL_ne f _ e2]
          exact Int64.le_trans hv (hs i n (by omega) (by omega))
      · rw [updL_ne f _ e, updL_ne f _ (show i ≠ n + 1 by omega)]
        exact hs i j hij (by omega)
theorem relG_put {f K : Nat → Int64} {n : Nat} (v : Int64) (h : relG f K n) : relG (s_put v n f) (vp_updL K n v) (n + 1) := by
  refine ⟨put_srt v n f h.1, (put_perm v n f).trans ?_⟩
  rw [toL_s, updL_at, updL_lo K n v n (Nat.le_refl n)]
  exact ((h.2.cons v).trans (List.perm_append_singleton v _).symm)
theorem rm_perm (K : Nat → Int64) : ∀ {n p : Nat}, p < n → (K p :: toL (s_rmL K p n) (n - 1)).Perm (toL K n) := by
  intro n
  induction n with
  | zero => intro p h; omega
  | succ n ih =>
    intro p h
    by_cases e : p = n
    · subst e
      rw [s_rmL_0, Nat.add_sub_cancel, toL_s]
      exact (List.perm_append_singleton (K p) _).symm
    · have hp : p < n := by omega
      obtain ⟨k, rfl⟩ : ∃ k, n = k + 1 := ⟨n - 1, by omega⟩
      rw [Nat.add_sub_cancel, toL_s K (k + 1), toL_s (s_rmL K p (k + 1 + 1)) k]
      have e1 : s_rmL K p (k + 1 + 1) k = K (k + 1) := by unfold s_rmL; exact if_pos (by omega)
      have e2 : toL (s_rmL K p (k + 1 + 1)) k = toL (s_rmL K p (k + 1)) k := toL_congr (fun i hi => by
        unfold s_rmL
        by_cases h1 : p ≤ i
        · rw [if_pos (by omega), if_pos (by omega)]
        · rw [if_neg (fun h => h1 h.1), if_neg (fun h => h1 h.1)])
      rw [e1, e2]
      have h3 := (ih hp).append_right [K (k + 1)]
      rw [Nat.add_sub_cancel] at h3
      exact h3
theorem rm_srt {f : Nat → Int64} {n q : Nat} (hs : srt f n) : srt (s_rmL f q n) (n - 1) := by
  intro i j hij hj
  unfold s_rmL
  by_cases h1 : q ≤ j
  · rw [if_pos (show q ≤ j ∧ j + 1 < n by omega)]
    by_cases h2 : q ≤ i
    · rw [if_pos (show q ≤ i ∧ i + 1 < n by omega)]; exact hs _ _ (by omega) (by omega)
    · rw [if_neg (fun h => h2 h.1)]; exact hs _ _ (by omega) (by omega)
  · rw [if_neg (fun h => h1 h.1), if_neg (fun h => h1 (by omega))]; exact hs _ _ hij (by omega)
/-- like ones taken out of both -/
theorem relG_rm {f K : Nat → Int64} {n q p : Nat} (h : relG f K n) (hq : q < n) (hp : p < n) (e : f q = K p) : relG (s_rmL f q n) (s_rmL K p n) (n - 1) := by
  refine ⟨rm_srt h.1, ?_⟩
  have h1 := ((rm_perm f hq).trans h.2).trans (rm_perm K hp).symm
  rw [e] at h1
  exact h1.cons_inv
/-- the least one: the class has it last -/
theorem relG_min {f K : Nat → Int64} {n p : Nat} (h : relG f K (n + 1)) (hp : p ≤ n) (hm : ∀ i, i ≤ n → K p ≤ K i) : f n = K p := by
  have h1 : f n ∈ toL K (n + 1) := h.2.mem_iff.mp (toL_mem.mpr ⟨n, by omega, rfl⟩)
  have h2 : K p ∈ toL f (n + 1) := h.2.mem_iff.mpr (toL_mem.mpr ⟨p, by omega, rfl⟩)
  obtain ⟨i, hi, ei⟩ := toL_mem.mp h1
  obtain ⟨j, hj, ej⟩ := toL_mem.mp h2
  refine Int64.le_antisymm ?_ ?_
  · rw [← ej]; exact h.1 j n (by omega) (by omega)
  · rw [← ei]; exact hm i (by omega)
theorem relG_poll {f K : Nat → Int64} {n p : Nat} (h : relG f K (n + 1)) (hp : p ≤ n) (hm : ∀ i, i ≤ n → K p ≤ K i) : relG f (s_rmL K p (n + 1)) n := by
  have h1 := relG_rm h (show n < n + 1 by omega) (show p < n + 1 by omega) (relG_min h hp hm)
  rw [s_rmL_0, Nat.add_sub_cancel] at h1
  exact h1
/-! searches -/
theorem fL_none {f : Nat → Int64} {v : Int64} : ∀ {k i : Nat}, s_fL f v k i = none → ∀ j, i ≤ j → j < i + k → f j ≠ v := by
  intro k
  induction k with
  | zero => intro i _ j h1 h2; omega
  | succ k ih =>
    intro i h j h1 h2
    unfold s_fL at h
    by_cases e : f i = v
    · rw [if_pos e] at h; cases h
    · rw [if_neg e] at h
      by_cases hj : j = i
      · rw [hj]; exact e
      · exact ih h j (by omega) (by omega)
theorem fI_none {f : Nat → Int32} {v : Int32} : ∀ {k i : Nat}, s_fI f v k i = none → ∀ j, i ≤ j → j < i + k → f j ≠ v := by
  intro k
  induction k with
  | zero => intro i _ j h1 h2; omega
  | succ k ih =>
    intro i h j h1 h2
    unfold s_fI at h
    by_cases e : f i = v
    · rw [if_pos e] at h; cases h
    · rw [if_neg e] at h
      by_cases hj : j = i
      · rw [hj]; exact e
      · exact ih h j (by omega) (by omega)
theorem fP_none {fk ft : Nat → Int32} {a b : Int32} : ∀ {k i : Nat}, s_fP fk ft a b k i = none → ∀ j, i ≤ j → j < i + k → ¬ (fk j = a ∧ ft j = b) := by
  intro k
  induction k with
  | zero => intro i _ j h1 h2; omega
  | succ k ih =>
    intro i h j h1 h2
    unfold s_fP at h
    by_cases e : fk i = a ∧ ft i = b
    · rw [if_pos e] at h; cases h
    · rw [if_neg e] at h
      by_cases hj : j = i
      · rw [hj]; exact e
      · exact ih h j (by omega) (by omega)
theorem fL_mem {f : Nat → Int64} {v : Int64} {n : Nat} : (s_fL f v n 0).isSome = true ↔ v ∈ toL f n := by
  rcases h : s_fL f v n 0 with _ | q
  · constructor
    · intro h1; cases h1
    · intro h1
      obtain ⟨i, hi, e⟩ := toL_mem.mp h1
      exact absurd e (fL_none h i (Nat.zero_le i) (by omega))
  · have := s_fL_spec h
    exact ⟨fun _ => toL_mem.mpr ⟨q, by omega, this.2.2.1⟩, fun _ => rfl⟩
theorem fI_mem {f : Nat → Int32} {v : Int32} {n : Nat} : (s_fI f v n 0).isSome = true ↔ v ∈ toL f n := by
  rcases h : s_fI f v n 0 with _ | q
  · constructor
    · intro h1; cases h1
    · intro h1
      obtain ⟨i, hi, e⟩ := toL_mem.mp h1
      exact absurd e (fI_none h i (Nat.zero_le i) (by omega))
  · have := s_fI_spec h
    exact ⟨fun _ => toL_mem.mpr ⟨q, by omega, this.2.2.1⟩, fun _ => rfl⟩
theorem fP_mem {fk ft : Nat → Int32} {a b : Int32} {n : Nat} : (s_fP fk ft a b n 0).isSome = true ↔ ∃ i, i < n ∧ fk i = a ∧ ft i = b := by
  rcases h : s_fP fk ft a b n 0 with _ | q
  · constructor
    · intro h1; cases h1
    · rintro ⟨i, hi, e⟩
      exact absurd e (fP_none h i (Nat.zero_le i) (by omega))
  · have := s_fP_spec h
    exact ⟨fun _ => ⟨q, by omega, this.2.2.1.1, this.2.2.1.2⟩, fun _ => rfl⟩
/-! the queue of numbers -/
def relQ (f : Nat → Int64) (h : Nat → Int32) (n : Nat) : Prop := n ≤ 200 ∧ relG f (fun i => (h i).toInt64) n
theorem i64_inj {a b : Int32} : a.toInt64 = b.toInt64 ↔ a = b := ⟨fun h => by have := congrArg Int64.toInt32 h; simpa using this, fun h => by rw [h]⟩
theorem upd_at (f : Nat → Int32) (k : Nat) (v : Int32) : upd f k v k = v := by unfold upd; exact if_pos rfl
theorem upd_ne (f : Nat → Int32) {k j : Nat} (v : Int32) (h : j ≠ k) : upd f k v j = f j := by unfold upd; exact if_neg h
theorem rm_64 (h : Nat → Int32) (p n : Nat) : (fun i => (s_rm h p n i).toInt64) = s_rmL (fun i => (h i).toInt64) p n := by
  funext i; unfold s_rm s_rmL; dsimp only; split <;> rfl
theorem relQ_put {f : Nat → Int64} {h : Nat → Int32} {n : Nat} (x : Int32) (r : relQ f h n) (hn : n < 200) : relQ (s_put x.toInt64 n f) (upd h n x) (n + 1) := by
  refine ⟨hn, relG_congr (relG_put x.toInt64 r.2) (fun i hi => ?_)⟩
  by_cases e : i = n
  · rw [e, updL_at, upd_at]
  · rw [updL_ne _ _ e, upd_ne _ _ e]
theorem lp_min (h : Nat → Int32) : ∀ (n i : Nat), i ≤ n → h (s_lp h n) ≤ h i := by
  intro n
  induction n with
  | zero => intro i hi; have : i = 0 := by omega
            rw [this]; exact Int32.le_refl _
  | succ n ih =>
    intro i hi
    unfold s_lp
    split
    next hlt =>
      by_cases e : i = n + 1
      · rw [e]; exact Int32.le_refl _
      · exact Int32.le_trans (Int32.le_of_lt hlt) (ih i (by omega))
    next hge =>
      by_cases e : i = n + 1
      · rw [e]; exact Int32.not_lt.mp hge
      · exact ih i (by omega)
theorem relQ_min {f : Nat → Int64} {h : Nat → Int32} {n : Nat} (r : relQ f h (n + 1)) : f n = (h (s_lp h n)).toInt64 :=
  relG_min r.2 (s_lp_le h n) (fun i hi => Int32.toInt64_le.mpr (lp_min h n i hi))
theorem relQ_poll {f : Nat → Int64} {h : Nat → Int32} {n : Nat} (r : relQ f h (n + 1)) : relQ f (s_rm h (s_lp h n) (n + 1)) n := by
  refine ⟨by have := r.1; omega, ?_⟩
  rw [rm_64]
  exact relG_poll r.2 (s_lp_le h n) (fun i hi => Int32.toInt64_le.mpr (lp_min h n i hi))
theorem relQ_min' {f : Nat → Int64} {h : Nat → Int32} {n : Nat} (r : relQ f h n) (h1 : 1 ≤ n) : (f (n - 1)).toInt32 = h (s_lp h (n - 1)) := by
  obtain ⟨k, rfl⟩ : ∃ k, n = k + 1 := ⟨n - 1, by omega⟩
  rw [Nat.add_sub_cancel, relQ_min r, Int32.toInt32_toInt64]
theorem relQ_poll' {f : Nat → Int64} {h : Nat → Int32} {n : Nat} (r : relQ f h n) (h1 : 1 ≤ n) : relQ f (s_rm h (s_lp h (n - 1)) n) (n - 1) := by
  obtain ⟨k, rfl⟩ : ∃ k, n = k + 1 := ⟨n - 1, by omega⟩
  exact relQ_poll r
theorem relQ_has {f : Nat → Int64} {h : Nat → Int32} {n : Nat} (r : relQ f h n) (x : Int32) : (s_fL f x.toInt64 n 0).isSome = (s_fI h x n 0).isSome := by
  have e : (s_fL f x.toInt64 n 0).isSome = true ↔ (s_fI h x n 0).isSome = true := by
    rw [fL_mem, fI_mem, r.2.2.mem_iff, toL_mem, toL_mem]
    constructor
    · rintro ⟨i, hi, e⟩; exact ⟨i, hi, i64_inj.mp e⟩
    · rintro ⟨i, hi, e⟩; exact ⟨i, hi, i64_inj.mpr e⟩
  cases h1 : (s_fL f x.toInt64 n 0).isSome <;> cases h2 : (s_fI h x n 0).isSome <;> simp_all
theorem relQ_rm {f : Nat → Int64} {h : Nat → Int32} {n q p : Nat} {x : Int32} (r : relQ f h n) (hq : s_fL f x.toInt64 n 0 = some q) (hp : s_fI h x n 0 = some p) : relQ (s_rmL f q n) (s_rm h p n) (n - 1) := by
  refine ⟨by have := r.1; omega, ?_⟩
  rw [rm_64]
  have a := s_fL_spec hq
  have b := s_fI_spec hp
  exact relG_rm r.2 (by omega) (by omega) (by rw [a.2.2.1, b.2.2.1])
theorem relQ_0 (f : Nat → Int64) (h : Nat → Int32) : relQ f h 0 := ⟨by omega, relG_0 _ _⟩
/-! the row -/
def relR (f g : Nat → Int32) (n : Nat) : Prop := n ≤ 200 ∧ ∀ i, i < n → f i = g i
theorem relR_0 (f g : Nat → Int32) : relR f g 0 := ⟨by omega, fun i hi => by omega⟩
theorem relR_upd {f g : Nat → Int32} {n : Nat} (x : Int32) (r : relR f g n) (hn : n < 200) : relR (upd f n x) (upd g n x) (n + 1) := by
  refine ⟨hn, fun i hi => ?_⟩
  by_cases e : i = n
  · rw [e, upd_at, upd_at]
  · rw [upd_ne _ _ e, upd_ne _ _ e]; exact r.2 i (by omega)
theorem relR_ins {f g : Nat → Int32} {n : Nat} (x : Int32) (r : relR f g n) (hn : n < 200) : relR (s_ins f x n) (s_ins g x n) (n + 1) := by
  refine ⟨hn, fun i hi => ?_⟩
  unfold s_ins
  by_cases e : i = 0
  · rw [if_pos e, if_pos e]
  · rw [if_neg e, if_neg e, if_pos (by omega), if_pos (by omega)]; exact r.2 _ (by omega)
theorem relR_rm {f g : Nat → Int32} {n : Nat} (p : Nat) (r : relR f g n) : relR (s_rm f p n) (s_rm g p n) (n - 1) := by
  refine ⟨by have := r.1; omega, fun i hi => ?_⟩
  unfold s_rm
  by_cases e : p ≤ i ∧ i + 1 < n
  · rw [if_pos e, if_pos e]; exact r.2 _ (by omega)
  · rw [if_neg e, if_neg e]; exact r.2 _ (by omega)
/-- the class takes the last one off by its count alone -/
theorem relR_last {f g : Nat → Int32} {n : Nat} (r : relR f g n) : relR f (s_rm g (n - 1) n) (n - 1) := by
  refine ⟨by have := r.1; omega, fun i hi => ?_⟩
  unfold s_rm
  rw [if_neg (by omega)]; exact r.2 i (by omega)
theorem fI_congr {f g : Nat → Int32} {x : Int32} : ∀ {k i : Nat}, (∀ j, i ≤ j → j < i + k → f j = g j) → s_fI f x k i = s_fI g x k i := by
  intro k
  induction k with
  | zero => intro i _; rfl
  | succ k ih =>
    intro i h
    unfold s_fI
    rw [h i (Nat.le_refl i) (by omega), ih (fun j h1 h2 => h j (by omega) (by omega))]
theorem last_congr {f g : Nat → Int32} {x : Int32} : ∀ {n : Nat}, (∀ j, j < n → f j = g j) → s_last f x n = s_last g x n := by
  intro n
  induction n with
  | zero => intro _; rfl
  | succ n ih =>
    intro h
    unfold s_last
    rw [h n (by omega), ih (fun j hj => h j (by omega))]
theorem up_congr {f g : Nat → Int32} : ∀ {n : Nat}, (∀ j, j < n → f j = g j) → s_up f n = s_up g n := by
  intro n
  induction n with
  | zero => intro _; rfl
  | succ n ih =>
    intro h
    unfold s_up
    rw [h n (by omega), ih (fun j hj => h j (by omega))]
theorem dn_congr {f g : Nat → Int32} : ∀ {n : Nat} {a : Int64}, (∀ j, j < n → f j = g j) → s_dn f n a = s_dn g n a := by
  intro n
  induction n with
  | zero => intro a _; rfl
  | succ n ih =>
    intro a h
    unfold s_dn
    rw [h n (by omega), ih (fun j hj => h j (by omega))]
/-! addAll, drain -/
theorem relQ_all {f : Nat → Int64} {h fr fo : Nat → Int32} {n r : Nat} (a : relQ f h n) (b : ∀ i, i < r → fr i = fo i) : ∀ i, i ≤ r → n + i ≤ 200 → relQ (s_xa fr f n i) (s_ma h fo n i) (n + i) := by
  intro i
  induction i with
  | zero => intro _ _; exact a
  | succ i ih =>
    intro h1 h2
    unfold s_xa s_ma
    rw [b i (by omega)]
    exact relQ_put (fo i) (ih (by omega) (by omega)) (by omega)
theorem drain_rel : ∀ {n : Nat} {f : Nat → Int64} {h g u : Nat → Int32} {r : Nat}, relQ f h n → relR u g r → r + n ≤ 200 → relR (s_xd f n u r) (s_md n h g r).2 (r + n) := by
  intro n
  induction n with
  | zero => intro f h g u r _ b _; exact b
  | succ n ih =>
    intro f h g u r a b hr
    unfold s_xd s_md
    have e : (f n).toInt32 = h (s_lp h n) := by rw [relQ_min a, Int32.toInt32_toInt64]
    rw [e, show r + (n + 1) = r + 1 + n by omega]
    exact ih (relQ_poll a) (relR_upd _ b (by omega)) (by omega)
/-! dropLike -/
theorem cmp_list (x : Int32) : ∀ {n i k : Nat} {f : Nat → Int32}, k ≤ i → toL (s_cmp x n i k f).1 (s_cmp x n i k f).2 = toL f k ++ ((List.range' i n).map f).filter (fun y => decide (y ≠ x)) := by
  intro n
  induction n with
  | zero => intro i k f _; unfold s_cmp; simp
  | succ n ih =>
    intro i k f hk
    unfold s_cmp
    rw [List.range'_succ, List.map_cons]
    by_cases e : f i = x
    · rw [if_pos e, ih (by omega), List.filter_cons_of_neg (by simp [e])]
    · rw [if_neg e, ih (by omega), List.filter_cons_of_pos (by simp [e]), toL_s, upd_at]
      have e1 : toL (upd f k (f i)) k = toL f k := toL_congr (fun j hj => upd_ne _ _ (by omega))
      have e2 : (List.range' (i + 1) n).map (upd f k (f i)) = (List.range' (i + 1) n).map f := List.map_congr_left (fun j hj => upd_ne _ _ (by have := List.mem_range'_1.mp hj; omega))
      rw [e1, e2, List.append_assoc]; rfl
theorem toL_range' {α : Type} (f : Nat → α) (n : Nat) : (List.range' 0 n).map f = toL f n := by unfold toL; rw [List.range_eq_range']
theorem filter_all {l : List Int32} {x : Int32} (h : ∀ y ∈ l, y ≠ x) : l.filter (fun y => decide (y ≠ x)) = l := List.filter_eq_self.mpr (fun y hy => by simpa using h y hy)
theorem rm_filter {g : Nat → Int32} {x : Int32} : ∀ {n p : Nat}, p < n → g p = x → (toL (s_rm g p n) (n - 1)).filter (fun y => decide (y ≠ x)) = (toL g n).filter (fun y => decide (y ≠ x)) := by
  intro n
  induction n with
  | zero => intro p h; omega
  | succ n ih =>
    intro p hp e
    by_cases e1 : p = n
    · subst e1
      rw [s_rm_0, Nat.add_sub_cancel, toL_s, List.filter_append]
      simp [e]
    · obtain ⟨k, rfl⟩ : ∃ k, n = k + 1 := ⟨n - 1, by omega⟩
      have h1 := ih (p := p) (by omega) e
      rw [Nat.add_sub_cancel] at h1 ⊢
      have e2 : s_rm g p (k + 1 + 1) k = g (k + 1) := by unfold s_rm; exact if_pos (by omega)
      have e3 : toL (s_rm g p (k + 1 + 1)) k = toL (s_rm g p (k + 1)) k := toL_congr (fun i hi => by
        unfold s_rm
        by_cases h1 : p ≤ i
        · rw [if_pos (by omega), if_pos (by omega)]
        · rw [if_neg (fun h => h1 h.1), if_neg (fun h => h1 h.1)])
      rw [toL_s g (k + 1), toL_s (s_rm g p (k + 1 + 1)) k, e2, e3, List.filter_append, List.filter_append, h1]
theorem dl_list (x : Int32) : ∀ {n : Nat} {g : Nat → Int32}, toL (s_dl x n g).1 (s_dl x n g).2 = (toL g n).filter (fun y => decide (y ≠ x)) := by
  intro n
  induction n with
  | zero => intro g; unfold s_dl; rfl
  | succ n ih =>
    intro g
    unfold s_dl
    rcases h : s_fI g x (n + 1) 0 with _ | p
    · dsimp only
      exact (filter_all (fun y hy => by
        obtain ⟨i, hi, e⟩ := toL_mem.mp hy
        rw [← e]; exact fI_none h i (Nat.zero_le i) (by omega))).symm
    · dsimp only
      have a := s_fI_spec h
      rw [ih]
      exact rm_filter (n := n + 1) (by omega) a.2.2.1
theorem drop_rel {f g : Nat → Int32} {n : Nat} (x : Int32) (r : relR f g n) : (s_cmp x n 0 0 f).2 = (s_dl x n g).2 ∧ relR (s_cmp x n 0 0 f).1 (s_dl x n g).1 (s_dl x n g).2 := by
  have e1 := cmp_list x (n := n) (i := 0) (k := 0) (f := f) (Nat.le_refl 0)
  rw [toL_range', toL_0, List.nil_append, toL_congr r.2, ← dl_list x] at e1
  have e2 : (s_cmp x n 0 0 f).2 = (s_dl x n g).2 := by
    have := congrArg List.length e1
    rwa [toL_len, toL_len] at this
  refine ⟨e2, ?_, ?_⟩
  · have h1 := congrArg List.length (dl_list x (n := n) (g := g))
    rw [toL_len] at h1
    rw [h1]
    have h2 := List.length_filter_le (fun y => decide (y ≠ x)) (toL g n)
    rw [toL_len] at h2
    have := r.1
    omega
  · rw [e2] at e1
    exact toL_eq e1
