/-! the same bodies with an end that is handed in (Q is any) -/
section HB2
variable {l : Launch} {y : MethodName} {ws ws' : List Cond} {rm : Room} {av : List Value} {D : va_G} {tys : List (ClassId × FieldType)} {w0 w1 : va_W} {cc : ByteArray} {maxL : Nat}
theorem hI_body {ty : FieldType} {r : Int32} (hy : plainName y.cls = true) (hw : ws = .code y cc maxL (some ty) :: ws') (hn : (lg_sl av).length ≤ maxL) (hnr : narrow ty (.int r) = .int r)
    (body : ∀ (p : Program) (e : Env) (s : State) (m : MethodId) (below : List Frame) (meth : Method) (cd : Code) (A : Nat → Prop) (ls : Array Slot) (Q : State → Prop), hAt p s m meth cd av cc maxL (some ty) ws y.cls →
      (∀ q, s.heap.size ≤ q → A q) → va_P D vwCl w0 s.heap → va_K D vwCl tys s → va_D A w0 → va_S A s.heap s.heap [] → lv_has ls maxL (lv_args 0 av) →
      (∀ (H : Heap) (locs : List Loc) (ls : Array Slot) (pc : Nat) (v : Int32), va_P D vwCl w1 H → va_D A w1 → va_S A s.heap H locs → v = r → decode cc pc = .ok (.ireturn, 1) → W p l e rm s m av.toArray below meth cd H locs 0 0 Q (F0 m pc ls [.int v])) →
      W p l e rm s m av.toArray below meth cd s.heap [] 0 0 Q (F0 m 0 ls [])) : mI l y ws rm av D tys w0 w1 r :=
  h_body (Qc := hQI D w1 r) hy hw hn (fun p e s m below meth c A ls hat hA hP hK hD hS hl => body p e s m below meth c A ls _ hat hA hP hK hD hS hl
    (fun H locs ls pc v hP hD hS hv hd => h_iret hat.1.1 hat.1.2.1 hat.2.1 hat.2.2.1 (by rw [hv]; exact hnr) hP hD hS hv hd))
theorem hL_body {r : Int64} (hy : plainName y.cls = true) (hw : ws = .code y cc maxL (some .long) :: ws') (hn : (lg_sl av).length ≤ maxL)
    (body : ∀ (p : Program) (e : Env) (s : State) (m : MethodId) (below : List Frame) (meth : Method) (cd : Code) (A : Nat → Prop) (ls : Array Slot) (Q : State → Prop), hAt p s m meth cd av cc maxL (some .long) ws y.cls →
      (∀ q, s.heap.size ≤ q → A q) → va_P D vwCl w0 s.heap → va_K D vwCl tys s → va_D A w0 → va_S A s.heap s.heap [] → lv_has ls maxL (lv_args 0 av) →
      (∀ (H : Heap) (locs : List Loc) (ls : Array Slot) (pc : Nat) (v : Int64), va_P D vwCl w1 H → va_D A w1 → va_S A s.heap H locs → v = r → decode cc pc = .ok (.lreturn, 1) → W p l e rm s m av.toArray below meth cd H locs 0 0 Q (F0 m pc ls [.long v])) →
      W p l e rm s m av.toArray below meth cd s.heap [] 0 0 Q (F0 m 0 ls [])) : mL l y ws rm av D tys w0 w1 r :=
  h_body (Qc := hQL D w1 r) hy hw hn (fun p e s m below meth c A ls hat hA hP hK hD hS hl => body p e s m below meth c A ls _ hat hA hP hK hD hS hl
    (fun H locs ls pc v hP hD hS hv hd => h_lret hat.1.1 hat.1.2.1 hat.2.1 hat.2.2.1 hP hD hS hv hd))
theorem hV_body (hy : plainName y.cls = true) (hw : ws = .code y cc maxL none :: ws') (hn : (lg_sl av).length ≤ maxL)
    (body : ∀ (p : Program) (e : Env) (s : State) (m : MethodId) (below : List Frame) (meth : Method) (cd : Code) (A : Nat → Prop) (ls : Array Slot) (Q : State → Prop), hAt p s m meth cd av cc maxL none ws y.cls →
      (∀ q, s.heap.size ≤ q → A q) → va_P D vwCl w0 s.heap → va_K D vwCl tys s → va_D A w0 → va_S A s.heap s.heap [] → lv_has ls maxL (lv_args 0 av) →
      (∀ (H : Heap) (locs : List Loc) (ls : Array Slot) (pc : Nat), va_P D vwCl w1 H → va_D A w1 → va_S A s.heap H locs → decode cc pc = .ok (.return_, 1) → W p l e rm s m av.toArray below meth cd H locs 0 0 Q (F0 m pc ls [])) →
      W p l e rm s m av.toArray below meth cd s.heap [] 0 0 Q (F0 m 0 ls [])) : mV l y ws rm av D tys w0 w1 :=
  h_body (Qc := hQV D w1) hy hw hn (fun p e s m below meth c A ls hat hA hP hK hD hS hl => body p e s m below meth c A ls _ hat hA hP hK hD hS hl
    (fun H locs ls pc hP hD hS hd => h_vret hat.1.1 hat.1.2.1 hat.2.1 hat.2.2.1 hP hD hS hd))
end HB2
theorem s_fL_spec {f : Nat → Int64} {v : Int64} : ∀ {k i p : Nat}, s_fL f v k i = some p → i ≤ p ∧ p < i + k ∧ f p = v ∧ ∀ j, i ≤ j → j < p → f j ≠ v := by
  intro k
  induction k with
  | zero => intro i p h; cases h
  | succ k ih =>
    intro i p h
    unfold s_fL at h
    by_cases e : f i = v
    · rw [if_pos e] at h
      cases h
      exact ⟨Nat.le_refl _, by omega, e, fun j h1 h2 => by omega⟩
    · rw [if_neg e] at h
      obtain ⟨a1, a2, a3, a4⟩ := ih h
      refine ⟨by omega, by omega, a3, fun j h1 h2 => ?_⟩
      by_cases hj : j = i
      · rw [hj]; exact e
      · exact a4 j (by omega) h2
theorem s_fI_spec {f : Nat → Int32} {v : Int32} : ∀ {k i p : Nat}, s_fI f v k i = some p → i ≤ p ∧ p < i + k ∧ f p = v ∧ ∀ j, i ≤ j → j < p → f j ≠ v := by
  intro k
  induction k with
  | zero => intro i p h; cases h
  | succ k ih =>
    intro i p h
    unfold s_fI at h
    by_cases e : f i = v
    · rw [if_pos e] at h
      cases h
      exact ⟨Nat.le_refl _, by omega, e, fun j h1 h2 => by omega⟩
    · rw [if_neg e] at h
      obtain ⟨a1, a2, a3, a4⟩ := ih h
      refine ⟨by omega, by omega, a3, fun j h1 h2 => ?_⟩
      by_cases hj : j = i
      · rw [hj]; exact e
      · exact a4 j (by omega) h2
theorem s_fP_spec {fk ft : Nat → Int32} {a b : Int32} : ∀ {k i p : Nat}, s_fP fk ft a b k i = some p → i ≤ p ∧ p < i + k ∧ (fk p = a ∧ ft p = b) ∧ ∀ j, i ≤ j → j < p → ¬ (fk j = a ∧ ft j = b) := by
  intro k
  induction k with
  | zero => intro i p h; cases h
  | succ k ih =>
    intro i p h
    unfold s_fP at h
    by_cases e : fk i = a ∧ ft i = b
    · rw [if_pos e] at h
      cases h
      exact ⟨Nat.le_refl _, by omega, e, fun j h1 h2 => by omega⟩
    · rw [if_neg e] at h
      obtain ⟨a1, a2, a3, a4⟩ := ih h
      refine ⟨by omega, by omega, a3, fun j h1 h2 => ?_⟩
      by_cases hj : j = i
      · rw [hj]; exact e
      · exact a4 j (by omega) h2
theorem s_last_spec {f : Nat → Int32} {v : Int32} : ∀ {n p : Nat}, s_last f v n = some p → p < n ∧ f p = v ∧ ∀ j, p < j → j < n → f j ≠ v := by
  intro n
  induction n with
  | zero => intro p h; cases h
  | succ n ih =>
    intro p h
    unfold s_last at h
    by_cases e : f n = v
    · rw [if_pos e] at h
      cases h
      exact ⟨Nat.lt_succ_self _, e, fun j h1 h2 => by omega⟩
    · rw [if_neg e] at h
      obtain ⟨a1, a2, a3⟩ := ih h
      refine ⟨by omega, a2, fun j h1 h2 => ?_⟩
      by_cases hj : j = n
      · rw [hj]; exact e
      · exact a3 j h1 (by omega)
theorem s_lp_le (f : Nat → Int32) : ∀ i, s_lp f i ≤ i := by
  intro i
  induction i with
  | zero => exact Nat.le_refl _
  | succ i ih => unfold s_lp; split <;> omega
theorem s_lq_le (fk ft : Nat → Int32) : ∀ i, s_lq fk ft i ≤ i := by
  intro i
  induction i with
  | zero => exact Nat.le_refl _
  | succ i ih => unfold s_lq; split <;> omega
theorem s_o_ge (p : Nat) (h : p < 2 ^ 31) : ¬ s_o (some p) < 0 := nI_pos h
theorem s_o_lt : s_o none < 0 := by decide +kernel
theorem nI_le0 : nI 0 ≤ 0 := by decide +kernel
theorem h_m1 (x : Int32) : x + Int32.ofInt (-1) = x - 1 := by rw [Int32.sub_eq_add_neg]; rfl
