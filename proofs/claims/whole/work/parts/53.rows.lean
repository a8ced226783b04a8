/-! one row of the heap -/
def sp_row (I : mm_I) (a : Nat) (f : Nat → Int) : mm_I := fun b j => if b = a then f j else I b j
theorem sp_row_s {I : mm_I} {a : Nat} {f : Nat → Int} {j : Nat} : sp_row I a f a j = f j := if_pos rfl
theorem sp_row_o {I : mm_I} {a b : Nat} {f : Nat → Int} {j : Nat} (h : b ≠ a) : sp_row I a f b j = I b j := if_neg h
theorem sp_row_id {I : mm_I} {a : Nat} : sp_row I a (I a) = I := by
  funext b j
  unfold sp_row
  split
  · rename_i h; rw [h]
  · rfl
theorem sp_row_u {I : mm_I} {a k : Nat} {f : Nat → Int} {z : Int} : mm_ui (sp_row I a f) a k z = sp_row I a (fun j => if j = k then z else f j) := by
  funext b j
  unfold mm_ui sp_row
  by_cases h1 : b = a
  · by_cases h2 : j = k
    · simp [h1, h2]
    · simp [h1, h2]
  · simp [h1]
theorem sp_row_e {I : mm_I} {a : Nat} {f g : Nat → Int} (h : ∀ j, f j = g j) : sp_row I a f = sp_row I a g := by
  rw [funext h]
/-- the sizes, with a set of places made quiet -/
def sp_hush (N : Nat → Int) (m k : Nat) : Nat → Int := fun j => if 16 ≤ j ∧ j < 16 + k ∧ Nat.testBit m (j - 16) = true then 0 else N j
theorem sp_mcry {d n s p : Nat} {I L : mm_I} {P : mm_P} (hM : sp_M n P) (hs : I 239 26 = (s : Int)) (hs8 : s ≤ 8) (hp : p < 8) (hat : I 257 24 = (p : Int)) {m : Nat} (hm : m = sp_mask (fun q => decide (0 < I 257 (16 + q))) s &&& sp_mask (fun o => decide (I 256 (8 * p + o) ≤ I 253 1)) s) :
    mm_rn (d + 3) 210 [.inr (.inr (some 239))] n I L P = some (some (.inl (sp_pc m : Int)), n, sp_row I 257 (sp_hush (I 257) m s), L, P) := by
  have ok := hM.ok
  have hM2 := hM
  obtain ⟨h0, h⟩ := hM
  have i24 : mm_ix n 257 20 24 := sp_mix (k := 211) h0 (by omega) (by decide +kernel) (by omega) (by omega)
  have e24 : Int.toNat 24 = 24 := rfl
  have hp8 := sp_pow8 (k := s) hs8
  have hl1 := sp_mask_lt (fun q => decide (0 < I 257 (16 + q))) s
  have hm2 : m < 256 := by rw [hm]; exact Nat.lt_of_le_of_lt Nat.and_le_left (by omega)
  rw [eX12_cryNow]
  simp (disch := assumption) only [kX12_cryNow]
  rw [sp_mtroubles hM2 hs hs8, mm_kr_s]
  simp (disch := assumption) only [kX12_cryNow, h, e24, hat]
  rw [sp_mseen hM2 hs hs8 hp, mm_kr_s]
  simp (disch := assumption) only [kX12_cryNow]
  rw [nb_and (by omega), ← hm]
  clear hm hl1 hp8
  have key := nb_loop (fun k => mm_E (d + 2) 210 19 [.inr (.inr (some 239)), .inl (m : Int), .inl (k : Nat)] [] [] n (sp_row I 257 (sp_hush (I 257) m k)) L P) s (fun k hk => by
    have hk8 : ¬ (s : Int) ≤ (k : Int) := by omega
    have e1 : mm_add 16 (k : Int) = ((16 + k : Nat) : Int) := by rw [nb_add (by omega) (by omega)]; omega
    have hix : mm_ix n 257 20 ((16 + k : Nat) : Int) := sp_mix (k := 211) h0 (by omega) (by decide +kernel) (by omega) (by omega)
    have hss : sp_row I 257 (sp_hush (I 257) m k) 239 26 = (s : Int) := by rw [sp_row_o (by omega)]; exact hs
    rw [hX12_cryNow_19]
    simp (disch := assumption) only [kX12_cryNow, hss, hk8, if_false, h, e1]
    rw [sp_mhas hm2 (by omega), mm_kr_s]
    simp (disch := assumption) only [kX12_cryNow, h, e1, Int.toNat_natCast]
    rw [nb_add (by omega) (by omega)]
    have hstep : ∀ z : Int, z = (if Nat.testBit m k = true then 0 else sp_hush (I 257) m k (16 + k)) → mm_ui (sp_row I 257 (sp_hush (I 257) m k)) 257 (16 + k) z = sp_row I 257 (sp_hush (I 257) m (k + 1)) := by
      intro z hz
      rw [sp_row_u]
      refine sp_row_e (fun j => ?_)
      unfold sp_hush at hz ⊢
      by_cases hj : j = 16 + k
      · subst hj
        rw [if_pos rfl, hz, Nat.add_sub_cancel_left]
        cases hb : Nat.testBit m k
        · simp
        · simp
      · rw [if_neg hj]
        have e9 : (16 ≤ j ∧ j < 16 + k ∧ Nat.testBit m (j - 16) = true) = (16 ≤ j ∧ j < 16 + (k + 1) ∧ Nat.testBit m (j - 16) = true) := by
          apply propext
          constructor
          · intro ⟨q1, q2, q3⟩; exact ⟨q1, by omega, q3⟩
          · intro ⟨q1, q2, q3⟩; exact ⟨q1, by omega, q3⟩
        simp only [e9]
    cases hb : Nat.testBit m k with
    | true =>
      simp only [if_true, Int.reduceEq, if_false]
      rw [hstep 0 (by rw [hb]; rfl)]
      rfl
    | false =>
      simp only [if_true, Bool.false_eq_true, if_false]
      rw [sp_row_s, hstep _ (by rw [hb]; rfl)]
      rfl)
  have e0 : sp_row I 257 (sp_hush (I 257) m 0) = I := by
    rw [sp_row_e (g := I 257), sp_row_id]
    intro j
    unfold sp_hush
    rw [if_neg (by omega)]
  rw [e0] at key
  refine key.trans ?_
  have hss : sp_row I 257 (sp_hush (I 257) m s) 239 26 = (s : Int) := by rw [sp_row_o (by omega)]; exact hs
  rw [hX12_cryNow_19]
  simp (disch := assumption) only [kX12_cryNow, hss, Int.le_refl, if_true]
  rw [sp_bits hm2, mm_kr_s]
  simp only [kX12_cryNow]
