/-! What each method does, as functions of the arrays' contents and the counts: each follows its method's own loop. -/
def s_put (v : Int64) : Nat → (Nat → Int64) → (Nat → Int64)
  | 0, f => vp_updL f 0 v
  | n + 1, f => if f n < v then s_put v n (vp_updL f (n + 1) (f n)) else vp_updL f (n + 1) v
def s_fL (f : Nat → Int64) (v : Int64) : Nat → Nat → Option Nat
  | 0, _ => none
  | k + 1, i => if f i = v then some i else s_fL f v k (i + 1)
def s_fI (f : Nat → Int32) (v : Int32) : Nat → Nat → Option Nat
  | 0, _ => none
  | k + 1, i => if f i = v then some i else s_fI f v k (i + 1)
def s_fP (fk ft : Nat → Int32) (a b : Int32) : Nat → Nat → Option Nat
  | 0, _ => none
  | k + 1, i => if fk i = a ∧ ft i = b then some i else s_fP fk ft a b k (i + 1)
def s_o : Option Nat → Int32
  | none => -1
  | some i => nI i
def s_b (x : Bool) : Int32 := if x = true then 1 else 0
def s_rmL (f : Nat → Int64) (p c : Nat) : Nat → Int64 := fun j => if p ≤ j ∧ j + 1 < c then f (j + 1) else f j
def s_rm (f : Nat → Int32) (p c : Nat) : Nat → Int32 := fun j => if p ≤ j ∧ j + 1 < c then f (j + 1) else f j
def s_ins (f : Nat → Int32) (x : Int32) (c : Nat) : Nat → Int32 := fun j => if j = 0 then x else if j ≤ c then f (j - 1) else f j
/-- the shift to the right, from c down to k, without the first place -/
def s_sh (f : Nat → Int32) (k c : Nat) : Nat → Int32 := fun j => if k < j ∧ j ≤ c then f (j - 1) else f j
def s_cmp (x : Int32) : Nat → Nat → Nat → (Nat → Int32) → (Nat → Int32) × Nat
  | 0, _, k, f => (f, k)
  | n + 1, i, k, f => if f i = x then s_cmp x n (i + 1) k f else s_cmp x n (i + 1) (k + 1) (upd f k (f i))
def s_up (f : Nat → Int32) : Nat → Int64
  | 0 => 7
  | n + 1 => 31 * s_up f n + (f n).toInt64
def s_dn (f : Nat → Int32) : Nat → Int64 → Int64
  | 0, a => a
  | n + 1, a => s_dn f n (31 * a + (f n).toInt64)
def s_last (f : Nat → Int32) (x : Int32) : Nat → Option Nat
  | 0 => none
  | n + 1 => if f n = x then some n else s_last f x n
def s_lp (f : Nat → Int32) : Nat → Nat
  | 0 => 0
  | i + 1 => if f (i + 1) < f (s_lp f i) then i + 1 else s_lp f i
def s_lq (fk ft : Nat → Int32) : Nat → Nat
  | 0 => 0
  | i + 1 => if fk (i + 1) < fk (s_lq fk ft i) ∨ (fk (i + 1) = fk (s_lq fk ft i) ∧ ft (s_lq fk ft i) < ft (i + 1)) then i + 1 else s_lq fk ft i
def s_fd (x y : Int64) : Int64 := if x ^^^ y < 0 ∧ ¬ x / y * y = x then x / y - 1 else x / y
def s_fm (x y : Int64) : Int64 := if x ^^^ y < 0 ∧ ¬ x - x / y * y = 0 then x - x / y * y + y else x - x / y * y
def s_rank (k t : Int32) : Int64 := k.toInt64 * 1000 + (nI 999 - t).toInt64
def s_key (r : Int64) : Int32 := (s_fd r 1000).toInt32
def s_tell (r : Int64) : Int64 := (s_key r).toInt64 * 1000 + (999 - s_fm r 1000)
def s_told (fk ft : Nat → Int32) (p : Nat) : Int64 := 1000 * (fk p).toInt64 + (ft p).toInt64
def s_xd (f : Nat → Int64) : Nat → (Nat → Int32) → Nat → (Nat → Int32)
  | 0, g, _ => g
  | n + 1, g, r => s_xd f n (upd g r (f n).toInt32) (r + 1)
def s_xp (f : Nat → Int64) : Nat → (Nat → Int32) → Nat → (Nat → Int32)
  | 0, g, _ => g
  | n + 1, g, r => s_xp f n (upd g r (s_key (f n))) (r + 1)
def s_xa (g : Nat → Int32) (f : Nat → Int64) (c : Nat) : Nat → (Nat → Int64)
  | 0 => f
  | i + 1 => s_put (g i).toInt64 (c + i) (s_xa g f c i)
def s_ma (h g : Nat → Int32) (c : Nat) : Nat → (Nat → Int32)
  | 0 => h
  | i + 1 => upd (s_ma h g c i) (c + i) (g i)
def s_md : Nat → (Nat → Int32) → (Nat → Int32) → Nat → (Nat → Int32) × (Nat → Int32)
  | 0, h, g, _ => (h, g)
  | n + 1, h, g, r => s_md n (s_rm h (s_lp h n) (n + 1)) (upd g r (h (s_lp h n))) (r + 1)
def s_mp : Nat → (Nat → Int32) → (Nat → Int32) → (Nat → Int32) → Nat → (Nat → Int32) × (Nat → Int32) × (Nat → Int32)
  | 0, k, t, g, _ => (k, t, g)
  | n + 1, k, t, g, r => s_mp n (s_rm k (s_lq k t n) (n + 1)) (s_rm t (s_lq k t n) (n + 1)) (upd g r (k (s_lq k t n))) (r + 1)
def s_dl (x : Int32) : Nat → (Nat → Int32) → (Nat → Int32) × Nat
  | 0, g => (g, 0)
  | n + 1, g => match s_fI g x (n + 1) 0 with
    | none => (g, n + 1)
    | some p => s_dl x n (s_rm g p (n + 1))
/-! the worlds -/
abbrev wQ (h a : Nat) (cL : ClassId) (f : Nat → Int64) (c : Nat) : va_W := [(h, .inr (0, [.ref a, .int (nI c)])), (a, .inl (cL, 200, .inr (.inl f)))]
abbrev wR (h a : Nat) (cI : ClassId) (f : Nat → Int32) (c : Nat) : va_W := [(h, .inr (1, [.ref a, .int (nI c)])), (a, .inl (cI, 200, .inl f))]
/-! shifts, a step at a time -/
theorem s_rmL_0 (f : Nat → Int64) (p : Nat) : s_rmL f p (p + 1) = f := by
  funext j; unfold s_rmL; split
  · omega
  · rfl
theorem s_rm_0 (f : Nat → Int32) (p : Nat) : s_rm f p (p + 1) = f := by
  funext j; unfold s_rm; split
  · omega
  · rfl
theorem s_rmL_s (f : Nat → Int64) {p i : Nat} (h : p < i) : vp_updL (s_rmL f p i) (i - 1) (s_rmL f p i i) = s_rmL f p (i + 1) := by
  funext j; unfold s_rmL vp_updL; dsimp only
  by_cases h1 : j = i - 1
  · subst h1
    have e : i - 1 + 1 = i := by omega
    rw [if_pos rfl, if_neg (by omega), if_pos (by omega), e]
  · rw [if_neg h1]
    by_cases h2 : p ≤ j ∧ j + 1 < i
    · rw [if_pos h2, if_pos (by omega)]
    · rw [if_neg h2, if_neg (by omega)]
theorem s_rm_s (f : Nat → Int32) {p i : Nat} (h : p < i) : upd (s_rm f p i) (i - 1) (s_rm f p i i) = s_rm f p (i + 1) := by
  funext j; unfold s_rm upd; dsimp only
  by_cases h1 : j = i - 1
  · subst h1
    have e : i - 1 + 1 = i := by omega
    rw [if_pos rfl, if_neg (by omega), if_pos (by omega), e]
  · rw [if_neg h1]
    by_cases h2 : p ≤ j ∧ j + 1 < i
    · rw [if_pos h2, if_pos (by omega)]
    · rw [if_neg h2, if_neg (by omega)]
theorem s_sh_0 (f : Nat → Int32) (c : Nat) : s_sh f c c = f := by
  funext j; unfold s_sh; split
  · omega
  · rfl
theorem s_sh_s (f : Nat → Int32) {k c : Nat} (h : k < c) : upd (s_sh f (k + 1) c) (k + 1) (s_sh f (k + 1) c k) = s_sh f k c := by
  funext j; unfold s_sh upd; dsimp only
  by_cases h1 : j = k + 1
  · subst h1
    rw [if_pos rfl, if_neg (by omega), if_pos (by omega)]; rfl
  · rw [if_neg h1]
    by_cases h2 : k + 1 < j ∧ j ≤ c
    · rw [if_pos h2, if_pos (by omega)]
    · rw [if_neg h2, if_neg (by omega)]
theorem s_ins_sh (f : Nat → Int32) (x : Int32) (c : Nat) : upd (s_sh f 0 c) 0 x = s_ins f x c := by
  funext j; unfold s_sh s_ins upd; dsimp only
  by_cases h1 : j = 0
  · rw [if_pos h1, if_pos h1]
  · rw [if_neg h1, if_neg h1]
    by_cases h2 : j ≤ c
    · rw [if_pos ⟨by omega, h2⟩, if_pos h2]
    · rw [if_neg (fun h => h2 h.2), if_neg h2]
theorem s_b_n (b : Bool) : narrow .boolean (.int (s_b b)) = .int (s_b b) := by cases b <;> decide +kernel
