/-! the model's view from a place -/
theorem sp_mseen {d n s p : Nat} {I L : mm_I} {P : mm_P} (hM : sp_M n P) (hs : I 239 26 = (s : Int)) (hs8 : s ≤ 8) (hp : p < 8) : mm_rn (d + 2) 195 [.inr (.inr (some 239)), .inl (p : Int)] n I L P = some (some (.inl (sp_mask (fun o => decide (I 256 (8 * p + o) ≤ I 253 1)) s : Nat)), n, I, L, P) := by
  have ok := hM.ok
  have hM2 := hM
  obtain ⟨h0, h⟩ := hM
  have h3 : mm_ix n 253 20 1 := sp_mix (k := 3) h0 (by omega) (by decide +kernel) (by omega) (by omega)
  rw [eX12_seenFrom]
  simp only [kX12_seenFrom]
  have key := nb_loop (fun k => mm_E (d + 1) 195 4 [.inr (.inr (some 239)), .inl (p : Int), .inl (sp_mask (fun o => decide (I 256 (8 * p + o) ≤ I 253 1)) k : Nat), .inl (k : Nat)] [] [] n I L P) s (fun k hk => by
    have hk8 : ¬ (s : Int) ≤ (k : Int) := by omega
    have hlt := sp_mask_lt (fun o => decide (I 256 (8 * p + o) ≤ I 253 1)) k
    have hp8 := sp_pow8 (k := k) (by omega)
    have e1 : Int.toNat 1 = 1 := rfl
    rw [hX12_seenFrom_4]
    simp (disch := assumption) only [kX12_seenFrom, hs, hk8, if_false]
    rw [sp_steps hM2 hp (by omega), mm_kr_s]
    simp (disch := assumption) only [kX12_seenFrom, h, e1]
    rw [sp_mask, nb_add (by omega) (by omega)]
    by_cases hc : I 256 (8 * p + k) ≤ I 253 1
    · have hc' : ¬ I 253 1 < I 256 (8 * p + k) := by omega
      simp only [hc, hc', decide_true, if_true, if_false]
      rw [sp_orbit hlt (by omega)]
      rfl
    · have hc' : I 253 1 < I 256 (8 * p + k) := by omega
      simp only [hc, hc', decide_false, if_true, Bool.false_eq_true, if_false, Nat.add_zero]
      rw [sp_or0 (by omega)]
      rfl)
  refine key.trans ?_
  rw [hX12_seenFrom_4]
  simp (disch := assumption) [kX12_seenFrom, hs]
