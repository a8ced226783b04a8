/-! the model's troubles -/
theorem sp_or0 {x : Nat} (hx : x < 2147483648) : mm_or (x : Int) 0 = (x : Int) := by
  have := nb_or (a := x) (b := 0) hx (by omega)
  rw [Nat.or_zero] at this
  exact this
theorem sp_mtroubles {d n s : Nat} {I L : mm_I} {P : mm_P} (hM : sp_M n P) (hs : I 239 26 = (s : Int)) (hs8 : s ≤ 8) : mm_rn (d + 2) 194 [.inr (.inr (some 239))] n I L P = some (some (.inl (sp_mask (fun p => decide (0 < I 257 (16 + p))) s : Nat)), n, I, L, P) := by
  have ok := hM.ok
  rw [eX12_troubles]
  simp only [kX12_troubles]
  have key := nb_loop (fun k => mm_E (d + 1) 194 4 [.inr (.inr (some 239)), .inl (sp_mask (fun p => decide (0 < I 257 (16 + p))) k : Nat), .inl (k : Nat)] [] [] n I L P) s (fun k hk => by
    have hk8 : ¬ (s : Int) ≤ (k : Int) := by omega
    have hlt := sp_mask_lt (fun p => decide (0 < I 257 (16 + p))) k
    have hp8 := sp_pow8 (k := k) (by omega)
    rw [hX12_troubles_4]
    simp (disch := assumption) only [kX12_troubles, hs, hk8, if_false]
    rw [sp_isT hM (by omega), mm_kr_s]
    simp only [kX12_troubles]
    rw [sp_mask, nb_add (by omega) (by omega)]
    by_cases hc : 0 < I 257 (16 + k)
    · simp only [hc, decide_true, if_true, Int.reduceEq, if_false]
      rw [sp_orbit hlt (by omega)]
      rfl
    · simp only [hc, decide_false, if_true, Bool.false_eq_true, if_false, Nat.add_zero]
      rw [sp_or0 (by omega)]
      rfl)
  refine key.trans ?_
  rw [hX12_troubles_4]
  simp (disch := assumption) [kX12_troubles, hs]
