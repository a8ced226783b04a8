/-! min, max; the model's cells, its small questions -/
theorem sp_max {d n : Nat} {I L : mm_I} {P : mm_P} (x y : Int) : mm_rn (d + 1) 265 [.inl x, .inl y] n I L P = some (some (.inl (max x y)), n, I, L, P) := by
  rw [eJ9_max_7cf53]
  by_cases h : x < y
  · simp only [kJ9_max_7cf53, h, if_true]
    rw [show max x y = y by omega]
  · simp only [kJ9_max_7cf53, h, if_false]
    rw [show max x y = x by omega]
theorem sp_min {d n : Nat} {I L : mm_I} {P : mm_P} (x y : Int) : mm_rn (d + 1) 267 [.inl x, .inl y] n I L P = some (some (.inl (min x y)), n, I, L, P) := by
  rw [eJ9_min_7cf53]
  by_cases h : y < x
  · simp only [kJ9_min_7cf53, h, if_true]
    rw [show min x y = y by omega]
  · simp only [kJ9_min_7cf53, h, if_false]
    rw [show min x y = x by omega]
/-- the model's references -/
def sp_M (n : Nat) (P : mm_P) : Prop := 268 < n ∧ P 239 1 = some 240 ∧ P 239 6 = some 241 ∧ P 239 7 = some 242 ∧ P 239 8 = some 243 ∧ P 239 9 = some 244 ∧ P 239 10 = some 245 ∧ P 239 11 = some 246 ∧ P 239 12 = some 247 ∧ P 239 15 = some 248 ∧ P 239 16 = some 249 ∧ P 239 17 = some 250 ∧ P 239 18 = some 251 ∧ P 239 19 = some 252 ∧ P 239 22 = some 253 ∧ P 239 23 = some 254 ∧ P 239 24 = some 255 ∧ P 239 25 = some 256 ∧ P 239 27 = some 257 ∧ P 239 28 = some 258 ∧ P 239 31 = some 259 ∧ P 239 32 = some 260 ∧ P 239 35 = some 261 ∧ P 239 38 = some 262 ∧ P 239 39 = some 263 ∧ P 239 40 = some 264 ∧ P 239 41 = some 265 ∧ P 239 43 = some 266 ∧ P 239 44 = some 267 ∧ P 239 45 = some 268
theorem sp_M.ok {n : Nat} {P : mm_P} (h : sp_M n P) : mm_ok n 239 12 := ⟨by have := h.1; omega, by decide +kernel⟩
theorem sp_mix {n i k : Nat} {z : Int} (hn : 268 < n) (hi : i < 269) (ht : mm_ty i = (20, k)) (h0 : 0 ≤ z) (h1 : z < (k : Int)) : mm_ix n i 20 z := nb_ix (by omega) ht h0 h1
theorem sp_min2 {d n : Nat} {I L : mm_I} {P : mm_P} (v lo hi : Int) : mm_rn (d + 1) 145 [.inl v, .inl lo, .inl hi] n I L P = some (some (.inl (if lo ≤ v ∧ v ≤ hi then 1 else 0)), n, I, L, P) := by
  rw [eX12_in]
  by_cases h1 : lo ≤ v
  · have h1' : ¬ v < lo := by omega
    by_cases h2 : v ≤ hi
    · have h2' : ¬ hi < v := by omega
      simp (disch := first | assumption | omega) [kX12_in, h1, h1', h2, h2']
    · have h2' : hi < v := by omega
      simp (disch := first | assumption | omega) [kX12_in, h1, h1', h2, h2']
  · have h1' : v < lo := by omega
    simp (disch := first | assumption | omega) [kX12_in, h1, h1']
theorem sp_mhas {d n m k : Nat} {I L : mm_I} {P : mm_P} (hm : m < 256) (hk : k < 8) : mm_rn (d + 1) 146 [.inl (m : Int), .inl (k : Int)] n I L P = some (some (.inl (if Nat.testBit m k = true then 1 else 0)), n, I, L, P) := by
  rw [eX12_has]
  simp only [kX12_has]
  rw [nb_tst0 m hm k hk]
  cases hb : Nat.testBit m k <;> simp [kX12_has]
theorem sp_isSpot {d n : Nat} {I L : mm_I} {P : mm_P} (hM : sp_M n P) (p : Int) (hs : 0 ≤ I 239 26 ∧ I 239 26 ≤ 8) : mm_rn (d + 2) 191 [.inr (.inr (some 239)), .inl p] n I L P = some (some (.inl (if 0 ≤ p ∧ p < I 239 26 then 1 else 0)), n, I, L, P) := by
  have ok := hM.ok
  rw [eX12_isSpot]
  have e1 : mm_sub (I 239 26) 1 = I 239 26 - 1 := nb_sub (by omega) (by omega)
  simp (disch := first | assumption | omega) only [kX12_isSpot, e1, sp_min2, mm_kr_s]
  have e2 : (0 ≤ p ∧ p ≤ I 239 26 - 1) = (0 ≤ p ∧ p < I 239 26) := by
    apply propext; constructor <;> intro h <;> omega
  simp only [e2]
theorem sp_steps {d n p q : Nat} {I L : mm_I} {P : mm_P} (hM : sp_M n P) (hp : p < 8) (hq : q < 8) : mm_rn (d + 1) 192 [.inr (.inr (some 239)), .inl (p : Int), .inl (q : Int)] n I L P = some (some (.inl (I 256 (8 * p + q))), n, I, L, P) := by
  have ok := hM.ok
  obtain ⟨h0, h⟩ := hM
  have e1 : mm_add (mm_mul 8 (p : Int)) (q : Int) = ((8 * p + q : Nat) : Int) := by
    rw [nb_mul (by omega) (by omega), nb_add (by omega) (by omega)]; omega
  have h3 : mm_ix n 256 20 ((8 * p + q : Nat) : Int) := sp_mix (k := 64) h0 (by omega) (by decide +kernel) (by omega) (by omega)
  rw [eX12_stepsFrom]
  simp (disch := assumption) only [kX12_stepsFrom, h, e1, Int.toNat_natCast]
theorem sp_isT {d n p : Nat} {I L : mm_I} {P : mm_P} (hM : sp_M n P) (hp : p < 8) : mm_rn (d + 1) 193 [.inr (.inr (some 239)), .inl (p : Int)] n I L P = some (some (.inl (if 0 < I 257 (16 + p) then 1 else 0)), n, I, L, P) := by
  have ok := hM.ok
  obtain ⟨h0, h⟩ := hM
  have e1 : mm_add 16 (p : Int) = ((16 + p : Nat) : Int) := by rw [nb_add (by omega) (by omega)]; omega
  have h3 : mm_ix n 257 20 ((16 + p : Nat) : Int) := sp_mix (k := 211) h0 (by omega) (by decide +kernel) (by omega) (by omega)
  rw [eX12_isTrouble]
  by_cases hc : 0 < I 257 (16 + p)
  · have hc' : ¬ I 257 (16 + p) ≤ 0 := by omega
    simp (disch := first | assumption | omega) only [kX12_isTrouble, h, e1, Int.toNat_natCast, hc, hc', if_true, if_false]
  · have hc' : I 257 (16 + p) ≤ 0 := by omega
    simp (disch := first | assumption | omega) only [kX12_isTrouble, h, e1, Int.toNat_natCast, hc, hc', if_true, if_false]
