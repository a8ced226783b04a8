/-! nights -/
theorem nb_cpy_0 {I : mm_I} {s d k j : Nat} (h : j < k) : mm_cpy I s 0 d 0 k d j = I s j := by
  unfold mm_cpy
  rw [if_pos ⟨rfl, by omega, by omega⟩]
  congr 1
  omega
theorem nb_cpy_o {I : mm_I} {s sp d k j : Nat} (h : k ≤ j) : mm_cpy I s sp d 0 k d j = I d j := if_neg (fun q => by omega)
theorem nb_cpy_a {I : mm_I} {s sp d dp k b j : Nat} (h : b ≠ d) : mm_cpy I s sp d dp k b j = I b j := if_neg (fun q => h q.1)
def sp_N (n : Nat) (P : mm_P) (a : Nat) : Prop := a + 3 < n ∧ mm_ty a = (5, 9) ∧ mm_ty (a + 1) = (20, 8) ∧ mm_ty (a + 2) = (20, 8) ∧ mm_ty (a + 3) = (20, 8) ∧ P a 0 = some (a + 1) ∧ P a 1 = some (a + 2) ∧ P a 2 = some (a + 3)
theorem sp_N.ok {n : Nat} {P : mm_P} {a : Nat} (h : sp_N n P a) : mm_ok n a 5 := ⟨by have := h.1; omega, by rw [h.2.1]⟩
def sp_cp (I : mm_I) (a b : Nat) : mm_I := fun c j => if c = a + 1 ∧ j < 8 then I (b + 1) j else if c = a + 2 ∧ j < 8 then I (b + 2) j else if c = a + 3 ∧ j < 8 then I (b + 3) j else if c = a ∧ 3 ≤ j ∧ j < 9 then I b j else I c j
set_option maxHeartbeats 1000000 in
theorem sp_copy {d n a b : Nat} {I L : mm_I} {P : mm_P} (ha : sp_N n P a) (hb : sp_N n P b) (hab : a + 3 < b ∨ b + 3 < a) : mm_rn (d + 1) 41 [.inr (.inr (some a)), .inr (.inr (some b))] n I L P = some (none, n, sp_cp I a b, L, P) := by
  have oa := ha.ok
  have ob := hb.ok
  obtain ⟨a0, a1, a2, a3, a4, a5, a6, a7⟩ := ha
  obtain ⟨b0, b1, b2, b3, b4, b5, b6, b7⟩ := hb
  rw [eX5_copyFrom]
  have c1 : b + 1 < n ∧ a + 1 < n ∧ b + 1 ≠ a + 1 ∧ (mm_ty (b + 1)).1 = 20 ∧ (mm_ty (a + 1)).1 = 20 ∧ 0 ≤ (8 : Int) ∧ 0 ≤ (0 : Int) ∧ 0 ≤ (0 : Int) ∧ 0 + 8 ≤ ((mm_ty (b + 1)).2 : Int) ∧ 0 + 8 ≤ ((mm_ty (a + 1)).2 : Int) := by
    rw [a2, b2]; exact ⟨by omega, by omega, by omega, rfl, rfl, by omega, by omega, by omega, by decide, by decide⟩
  have c2 : b + 2 < n ∧ a + 2 < n ∧ b + 2 ≠ a + 2 ∧ (mm_ty (b + 2)).1 = 20 ∧ (mm_ty (a + 2)).1 = 20 ∧ 0 ≤ (8 : Int) ∧ 0 ≤ (0 : Int) ∧ 0 ≤ (0 : Int) ∧ 0 + 8 ≤ ((mm_ty (b + 2)).2 : Int) ∧ 0 + 8 ≤ ((mm_ty (a + 2)).2 : Int) := by
    rw [a3, b3]; exact ⟨by omega, by omega, by omega, rfl, rfl, by omega, by omega, by omega, by decide, by decide⟩
  have c3 : b + 3 < n ∧ a + 3 < n ∧ b + 3 ≠ a + 3 ∧ (mm_ty (b + 3)).1 = 20 ∧ (mm_ty (a + 3)).1 = 20 ∧ 0 ≤ (8 : Int) ∧ 0 ≤ (0 : Int) ∧ 0 ≤ (0 : Int) ∧ 0 + 8 ≤ ((mm_ty (b + 3)).2 : Int) ∧ 0 + 8 ≤ ((mm_ty (a + 3)).2 : Int) := by
    rw [a4, b4]; exact ⟨by omega, by omega, by omega, rfl, rfl, by omega, by omega, by omega, by decide, by decide⟩
  simp (disch := first | assumption | omega) only [kX5_copyFrom, a5, a6, a7, b5, b6, b7, nb_ui_a, nb_cpy_a]
  have e8 : Int.toNat 8 = 8 := rfl
  have e0 : Int.toNat 0 = 0 := rfl
  rw [e8, e0]
  congr 3
  congr 1
  funext c j
  unfold sp_cp
  by_cases h1 : c = a
  · subst h1
    unfold mm_ui
    repeat' split
    all_goals first | rfl | omega | (simp_all; done) | (rw [nb_cpy_a (by omega), nb_cpy_a (by omega), nb_cpy_a (by omega)])
  · simp (disch := omega) only [nb_ui_a]
    by_cases h2 : c = a + 1
    · subst h2
      by_cases h3 : j < 8
      · simp (disch := omega) only [nb_cpy_0, nb_cpy_a]
        rw [if_pos ⟨trivial, h3⟩]
      · simp (disch := omega) only [nb_cpy_o, nb_cpy_a]
        rw [if_neg (by omega), if_neg (by omega), if_neg (by omega), if_neg (by omega)]
    · by_cases h4 : c = a + 2
      · subst h4
        by_cases h3 : j < 8
        · simp (disch := omega) only [nb_cpy_0, nb_cpy_a]
          rw [if_neg (by omega), if_pos ⟨trivial, h3⟩]
        · simp (disch := omega) only [nb_cpy_o, nb_cpy_a]
          rw [if_neg (by omega), if_neg (by omega), if_neg (by omega), if_neg (by omega)]
      · by_cases h5 : c = a + 3
        · subst h5
          by_cases h3 : j < 8
          · simp (disch := omega) only [nb_cpy_0, nb_cpy_a]
            rw [if_neg (by omega), if_neg (by omega), if_pos ⟨trivial, h3⟩]
          · simp (disch := omega) only [nb_cpy_o, nb_cpy_a]
            rw [if_neg (by omega), if_neg (by omega), if_neg (by omega), if_neg (by omega)]
        · simp (disch := omega) only [nb_cpy_a]
          rw [if_neg (by omega), if_neg (by omega), if_neg (by omega), if_neg (by omega)]
/-! sets of places as bits -/
def sp_mask (f : Nat → Bool) : Nat → Nat
  | 0 => 0
  | k + 1 => sp_mask f k + (if f k = true then 2 ^ k else 0)
theorem sp_mask_lt (f : Nat → Bool) (k : Nat) : sp_mask f k < 2 ^ k := by
  induction k with
  | zero => exact Nat.one_pos
  | succ k ih =>
    have : 2 ^ (k + 1) = 2 ^ k + 2 ^ k := by rw [Nat.pow_succ]; omega
    unfold sp_mask
    split <;> omega
theorem sp_pow8 {k : Nat} (h : k ≤ 8) : 2 ^ k ≤ 256 := Nat.pow_le_pow_right (by omega) h
theorem sp_orbit {x k : Nat} (hx : x < 2 ^ k) (hk : k < 8) : mm_or (x : Int) (mm_shl 1 (k : Int)) = ((x + 2 ^ k : Nat) : Int) := by
  have := sp_pow8 (k := k) (by omega)
  rw [nb_set0 x (by omega) k hk, Nat.testBit_lt_two_pow hx]
  rfl
set_option maxHeartbeats 400000 in
theorem sp_troubles {d n : Nat} {I L : mm_I} {P : mm_P} {a : Nat} (ha : sp_N n P a) : mm_rn (d + 1) 42 [.inr (.inr (some a))] n I L P = some (some (.inl (sp_mask (fun p => decide (0 < I (a + 3) p)) 8 : Nat)), n, I, L, P) := by
  have oa := ha.ok
  obtain ⟨a0, a1, a2, a3, a4, a5, a6, a7⟩ := ha
  rw [eX5_troubles]
  simp only [kX5_troubles]
  have key := nb_loop (fun k => mm_E d 42 4 [.inr (.inr (some a)), .inl (sp_mask (fun p => decide (0 < I (a + 3) p)) k : Nat), .inl (k : Nat)] [] [] n I L P) 8 (fun k hk => by
    have hk8 : ¬ (8 : Int) ≤ (k : Int) := by omega
    have hix : mm_ix n (a + 3) 20 (k : Int) := nb_ix a0 a4 (by omega) (by omega)
    rw [hX5_troubles_4]
    simp (disch := assumption) only [kX5_troubles, hk8, if_false, a7, Int.toNat_natCast]
    rw [nb_add (by omega) (by omega), sp_mask]
    by_cases hc : 0 < I (a + 3) k
    · have hc2 : ¬ I (a + 3) k ≤ 0 := by omega
      simp only [hc, hc2, decide_true, if_true, if_false]
      rw [sp_orbit (sp_mask_lt _ _) hk]
      rfl
    · have hc2 : I (a + 3) k ≤ 0 := by omega
      simp only [hc, hc2, decide_false, if_true, Bool.false_eq_true, if_false, Nat.add_zero]
      rfl)
  refine key.trans ?_
  rw [hX5_troubles_4]
  simp [kX5_troubles]
