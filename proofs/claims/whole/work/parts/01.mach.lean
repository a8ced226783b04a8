/-! THE MACHINE: a small machine over numbers, whose runs the claim's machine follows (soundness: a later part). A value is an int, a long (both as whole numbers), or a reference (by number, none is null). -/
abbrev mm_V : Type := Int ⊕ (Int ⊕ Option Nat)
abbrev mm_I : Type := Nat → Nat → Int
abbrev mm_P : Type := Nat → Nat → Option Nat
/-- pc, locals, the longs among the locals, stack, cells made, ints, longs, references -/
abbrev mm_S : Type := Nat × List mm_V × List (Option Int) × List mm_V × Nat × mm_I × mm_I × mm_P
abbrev mm_A : Type := Option mm_V × Nat × mm_I × mm_I × mm_P
abbrev mm_R : Type := Nat → List mm_V → Nat → mm_I → mm_I → mm_P → Option mm_A
abbrev mm_T : Type := mm_R → List mm_V → List (Option Int) → List mm_V → Nat → mm_I → mm_I → mm_P → Option (mm_S ⊕ mm_A)
def mm_ex (R : mm_R) (code : Nat → mm_T) : Nat → mm_S → Option mm_A
  | 0, _ => none
  | k + 1, (pc, lv, ll, st, n, I, L, P) => match code pc R lv ll st n I L P with
    | some (.inl s) => if n ≤ s.2.2.2.2.1 then mm_ex R code k s else none
    | some (.inr a) => if n ≤ a.2.1 then some a else none
    | none => none
noncomputable def mm_ev (R : mm_R) (code : Nat → mm_T) (s : mm_S) : Option mm_A :=
  haveI := Classical.propDecidable (∃ k a, mm_ex R code k s = some a)
  if h : ∃ k a, mm_ex R code k s = some a then some (Classical.choose (Classical.choose_spec h)) else none
theorem mm_ex_up {R : mm_R} {code : Nat → mm_T} : ∀ (k : Nat) (s : mm_S) (a : mm_A), mm_ex R code k s = some a → mm_ex R code (k + 1) s = some a := by
  intro k
  induction k with
  | zero => intro s a h; cases h
  | succ k ih =>
    intro s a h
    obtain ⟨pc, lv, ll, st, n, I, L, P⟩ := s
    rw [mm_ex] at h ⊢
    split at h
    · rename_i s2 e1
      by_cases hn : n ≤ s2.2.2.2.2.1
      · simp only [hn, if_true] at h ⊢
        exact ih _ _ h
      · simp only [hn, if_false] at h
        cases h
    · exact h
    · cases h
theorem mm_ex_le {R : mm_R} {code : Nat → mm_T} {k j : Nat} (hkj : k ≤ j) {s : mm_S} {a : mm_A} (h : mm_ex R code k s = some a) : mm_ex R code j s = some a := by
  induction hkj with
  | refl => exact h
  | step _ ih => exact mm_ex_up _ _ _ ih
theorem mm_ev_of {R : mm_R} {code : Nat → mm_T} {k : Nat} {s : mm_S} {a : mm_A} (h : mm_ex R code k s = some a) : mm_ev R code s = some a := by
  have hh : ∃ k a, mm_ex R code k s = some a := ⟨k, a, h⟩
  unfold mm_ev
  rw [dif_pos hh]
  have h2 := Classical.choose_spec (Classical.choose_spec hh)
  have h3 := mm_ex_le (Nat.le_max_left k (Classical.choose hh)) h
  have h4 := mm_ex_le (Nat.le_max_right k (Classical.choose hh)) h2
  rw [h3] at h4
  exact h4.symm
theorem mm_ev_some {R : mm_R} {code : Nat → mm_T} {s : mm_S} {a : mm_A} (h : mm_ev R code s = some a) : ∃ k, mm_ex R code k s = some a := by
  by_cases hh : ∃ k a, mm_ex R code k s = some a
  · obtain ⟨k, b, hb⟩ := hh
    have := mm_ev_of hb
    rw [this] at h
    cases h
    exact ⟨k, hb⟩
  · unfold mm_ev at h
    rw [dif_neg hh] at h
    cases h
theorem mm_ev_none {R : mm_R} {code : Nat → mm_T} {s : mm_S} (h : ∀ k, mm_ex R code k s = none) : mm_ev R code s = none := by
  unfold mm_ev
  rw [dif_neg]
  intro ⟨k, a, hk⟩
  rw [h k] at hk
  cases hk
theorem mm_ev_s {R : mm_R} {code : Nat → mm_T} {pc : Nat} {lv : List mm_V} {ll : List (Option Int)} {st : List mm_V} {n : Nat} {I L : mm_I} {P : mm_P} {s : mm_S} (h : code pc R lv ll st n I L P = some (.inl s)) (hn : n ≤ s.2.2.2.2.1) : mm_ev R code (pc, lv, ll, st, n, I, L, P) = mm_ev R code s := by
  cases e : mm_ev R code s with
  | some a =>
    obtain ⟨k, hk⟩ := mm_ev_some e
    refine mm_ev_of (k := k + 1) ?_
    rw [mm_ex, h]
    simp only [hn, if_true]
    exact hk
  | none =>
    refine mm_ev_none fun k => ?_
    cases k with
    | zero => rfl
    | succ k =>
      rw [mm_ex, h]
      simp only [hn, if_true]
      cases e2 : mm_ex R code k s with
      | none => rfl
      | some a => rw [mm_ev_of e2] at e; cases e
theorem mm_ev_r {R : mm_R} {code : Nat → mm_T} {pc : Nat} {lv : List mm_V} {ll : List (Option Int)} {st : List mm_V} {n : Nat} {I L : mm_I} {P : mm_P} {a : mm_A} (h : code pc R lv ll st n I L P = some (.inr a)) (hn : n ≤ a.2.1) : mm_ev R code (pc, lv, ll, st, n, I, L, P) = some a := by
  refine mm_ev_of (k := 1) ?_
  rw [mm_ex, h]
  simp only [hn, if_true]
