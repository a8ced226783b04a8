/-! the town: has, way, joined; bitCount, min, max -/
def sp_T (n : Nat) (P : mm_P) (t : Nat) : Prop := t + 5 < n ∧ mm_ty t = (9, 9) ∧ mm_ty (t + 1) = (20, 8) ∧ mm_ty (t + 2) = (20, 8) ∧ mm_ty (t + 3) = (20, 8) ∧ mm_ty (t + 4) = (20, 8) ∧ mm_ty (t + 5) = (20, 64) ∧ P t 4 = some (t + 1) ∧ P t 5 = some (t + 2) ∧ P t 6 = some (t + 3) ∧ P t 7 = some (t + 4) ∧ P t 8 = some (t + 5)
theorem sp_T.ok {n : Nat} {P : mm_P} {a : Nat} (h : sp_T n P a) : mm_ok n a 9 := ⟨by have := h.1; omega, by rw [h.2.1]⟩
theorem sp_has {d n t : Nat} {I L : mm_I} {P : mm_P} (ht : sp_T n P t) (p : Int) : mm_rn (d + 1) 63 [.inr (.inr (some t)), .inl p] n I L P = some (some (.inl (if 0 ≤ p ∧ p < I t 0 then 1 else 0)), n, I, L, P) := by
  have oa := ht.ok
  rw [eX9_has]
  by_cases h1 : 0 ≤ p
  · have h1' : ¬ p < 0 := by omega
    by_cases h2 : p < I t 0
    · have h2' : ¬ I t 0 ≤ p := by omega
      simp (disch := first | assumption | omega) [kX9_has, h1, h1', h2, h2']
    · have h2' : I t 0 ≤ p := by omega
      simp (disch := first | assumption | omega) [kX9_has, h1, h1', h2, h2']
  · have h1' : p < 0 := by omega
    simp (disch := first | assumption | omega) [kX9_has, h1, h1']
theorem sp_hasN {d n t p s : Nat} {I L : mm_I} {P : mm_P} (ht : sp_T n P t) (hs : I t 0 = (s : Int)) (hp : p < s) : mm_rn (d + 1) 63 [.inr (.inr (some t)), .inl (p : Int)] n I L P = some (some (.inl 1), n, I, L, P) := by
  rw [sp_has ht, if_pos ⟨by omega, by rw [hs]; omega⟩]
theorem sp_way {d n t p q s : Nat} {I L : mm_I} {P : mm_P} (ht : sp_T n P t) (hs : I t 0 = (s : Int)) (hs8 : s ≤ 8) (hp : p < s) (hq : q < s) : mm_rn (d + 2) 64 [.inr (.inr (some t)), .inl (p : Int), .inl (q : Int)] n I L P = some (some (.inl (I (t + 5) (8 * p + q))), n, I, L, P) := by
  have oa := ht.ok
  have ht0 := ht
  obtain ⟨a0, a1, a2, a3, a4, a5, a6, a7, a8, a9, a10, a11⟩ := ht
  have e1 : mm_add (mm_mul (p : Int) 8) (q : Int) = ((8 * p + q : Nat) : Int) := by
    rw [nb_mul (by omega) (by omega), nb_add (by omega) (by omega)]; omega
  have h3 : mm_ix n (t + 5) 20 ((8 * p + q : Nat) : Int) := nb_ix a0 a6 (by omega) (by omega)
  rw [eX9_way]
  simp (disch := assumption) only [kX9_way]
  rw [sp_hasN (d := d) ht0 hs hp, mm_kr_s]
  simp (disch := assumption) only [kX9_way, Int.reduceEq, if_false]
  rw [sp_hasN (d := d) ht0 hs hq, mm_kr_s]
  simp (disch := assumption) only [kX9_way, Int.reduceEq, if_false, a11, e1, Int.toNat_natCast]
theorem sp_beside {d n t p s : Nat} {I L : mm_I} {P : mm_P} (ht : sp_T n P t) (hs : I t 0 = (s : Int)) (hs8 : s ≤ 8) (hp : p < s) : mm_rn (d + 2) 287 [.inr (.inr (some t)), .inl (p : Int)] n I L P = some (some (.inl (I (t + 3) p)), n, I, L, P) := by
  have oa := ht.ok
  have ht0 := ht
  obtain ⟨a0, a1, a2, a3, a4, a5, a6, a7, a8, a9, a10, a11⟩ := ht
  have h3 : mm_ix n (t + 3) 20 (p : Int) := nb_ix (by omega) a4 (by omega) (by omega)
  rw [eX9_besideOf]
  simp (disch := assumption) only [kX9_besideOf]
  rw [sp_hasN (d := d) ht0 hs hp, mm_kr_s]
  simp (disch := assumption) only [kX9_besideOf, Int.reduceEq, if_false, a9, Int.toNat_natCast]
theorem sp_viewOf {d n t p s : Nat} {I L : mm_I} {P : mm_P} (ht : sp_T n P t) (hs : I t 0 = (s : Int)) (hs8 : s ≤ 8) (hp : p < s) : mm_rn (d + 2) 288 [.inr (.inr (some t)), .inl (p : Int)] n I L P = some (some (.inl (I (t + 4) p)), n, I, L, P) := by
  have oa := ht.ok
  have ht0 := ht
  obtain ⟨a0, a1, a2, a3, a4, a5, a6, a7, a8, a9, a10, a11⟩ := ht
  have h3 : mm_ix n (t + 4) 20 (p : Int) := nb_ix (by omega) a5 (by omega) (by omega)
  rw [eX9_viewOf]
  simp (disch := assumption) only [kX9_viewOf]
  rw [sp_hasN (d := d) ht0 hs hp, mm_kr_s]
  simp (disch := assumption) only [kX9_viewOf, Int.reduceEq, if_false, a10, Int.toNat_natCast]
theorem sp_joined {d n t p q m s : Nat} {I L : mm_I} {P : mm_P} (ht : sp_T n P t) (hs : I t 0 = (s : Int)) (hs8 : s ≤ 8) (hp : p < s) (hq : q < s) (hm : I (t + 3) p = (m : Int)) (hm2 : m < 256) : mm_rn (d + 3) 65 [.inr (.inr (some t)), .inl (p : Int), .inl (q : Int)] n I L P = some (some (.inl (if Nat.testBit m q = true then 1 else 0)), n, I, L, P) := by
  have oa := ht.ok
  rw [eX9_joined]
  simp (disch := assumption) only [kX9_joined]
  rw [sp_hasN (d := d + 1) ht hs hq, mm_kr_s]
  simp (disch := assumption) only [kX9_joined, Int.reduceEq, if_false]
  rw [sp_beside (d := d) ht hs hs8 hp, mm_kr_s, hm]
  simp (disch := assumption) only [kX9_joined]
  rw [nb_tst0 m hm2 q (by omega)]
  cases hb : Nat.testBit m q <;> simp [kX9_joined]
def sp_pc (m : Nat) : Nat := ((List.range 8).filter (fun k => Nat.testBit m k)).length
theorem sp_bits {d n m : Nat} {I L : mm_I} {P : mm_P} (hm : m < 256) : mm_rn (d + 1) 263 [.inl (m : Int)] n I L P = some (some (.inl (sp_pc m : Int)), n, I, L, P) := by
  rw [eJ6_bitCount_0f7a4]
  simp only [kJ6_bitCount_0f7a4]
  congr 4
  revert m
  decide +kernel
