/-! the model's hour: what is taken -/
def sv_w1 (N : Nat → Int) (k : Nat) : Nat → Int := fun j => if j < k then N j - sv_tk N j else N j
theorem sp_live1 {d n s : Nat} {I L : mm_I} {P : mm_P} (hM : sp_M n P) (hs : I 239 26 = (s : Int)) (hs8 : s ≤ 8) (hN : ∀ p, p < 8 → (0 ≤ I 257 p ∧ I 257 p ≤ 99) ∧ (0 ≤ I 257 (16 + p) ∧ I 257 (16 + p) ≤ 9)) (m : mm_V) (l4 : mm_V) :
    ∃ l4', mm_E (d + 2) 198 9 [.inr (.inr (some 239)), m, .inl 0, .inl 0, l4] [] [] n I L P = mm_E (d + 2) 198 63 [.inr (.inr (some 239)), m, .inl (sv_lost (I 257) s), .inl (s : Int), l4'] [] [] n (sp_row I 257 (sv_w1 (I 257) s)) L P := by
  have ok := hM.ok
  obtain ⟨h0, h⟩ := hM
  have tk : ∀ p, p < 8 → 0 ≤ sv_tk (I 257) p ∧ sv_tk (I 257) p ≤ 9 ∧ sv_tk (I 257) p ≤ I 257 p := by
    intro p hp
    obtain ⟨⟨q1, q2⟩, q3, q4⟩ := hN p hp
    unfold sv_tk
    omega
  have step : ∀ k, k ≤ s → ∃ l4', mm_E (d + 2) 198 9 [.inr (.inr (some 239)), m, .inl 0, .inl 0, l4] [] [] n I L P = mm_E (d + 2) 198 9 [.inr (.inr (some 239)), m, .inl (sv_lost (I 257) k), .inl (k : Nat), l4'] [] [] n (sp_row I 257 (sv_w1 (I 257) k)) L P := by
    intro k
    induction k with
    | zero =>
      intro _
      refine ⟨l4, ?_⟩
      have e0 : sp_row I 257 (sv_w1 (I 257) 0) = I := by
        rw [sp_row_e (g := I 257), sp_row_id]
        intro j
        unfold sv_w1
        rw [if_neg (by omega)]
      rw [e0]
      rfl
    | succ k ih =>
      intro hk
      obtain ⟨l5, e⟩ := ih (by omega)
      refine ⟨.inl (sv_tk (I 257) k), e.trans ?_⟩
      clear e ih
      obtain ⟨t1, t2, t3⟩ := tk k (by omega)
      obtain ⟨⟨q1, q2⟩, q3, q4⟩ := hN k (by omega)
      obtain ⟨r1, r2⟩ := sp_sum_rg (f := sv_tk (I 257)) (M := 9) (by omega) k (fun j hj => ⟨(tk j (by omega)).1, (tk j (by omega)).2.1⟩)
      have hk8 : ¬ (s : Int) ≤ (k : Int) := by omega
      have e1 : mm_add 0 (k : Int) = (k : Int) := by rw [nb_add (by omega) (by omega)]; omega
      have e16 : mm_add 16 (k : Int) = ((16 + k : Nat) : Int) := by rw [nb_add (by omega) (by omega)]; omega
      have ix1 : mm_ix n 257 20 (k : Int) := sp_mix (k := 211) h0 (by omega) (by decide +kernel) (by omega) (by omega)
      have ix2 : mm_ix n 257 20 ((16 + k : Nat) : Int) := sp_mix (k := 211) h0 (by omega) (by decide +kernel) (by omega) (by omega)
      have hss : sp_row I 257 (sv_w1 (I 257) k) 239 26 = (s : Int) := by rw [sp_row_o (by omega)]; exact hs
      have v1 : sp_row I 257 (sv_w1 (I 257) k) 257 k = I 257 k := by rw [sp_row_s]; unfold sv_w1; rw [if_neg (by omega)]
      have v2 : sp_row I 257 (sv_w1 (I 257) k) 257 (16 + k) = I 257 (16 + k) := by rw [sp_row_s]; unfold sv_w1; rw [if_neg (by omega)]
      rw [hX12_live_9]
      simp (disch := assumption) only [kX12_live, hss, hk8, if_false, h, e1, e16, Int.toNat_natCast, v1, v2]
      rw [sp_min, mm_kr_s]
      simp (disch := assumption) only [kX12_live, h, e1, e16, Int.toNat_natCast, v1, v2]
      have e3 : min (I 257 k) (I 257 (16 + k)) = sv_tk (I 257) k := rfl
      rw [e3, nb_sub (by omega) (by omega), nb_add (x := (k : Int)) (by omega) (by omega), nb_add (by unfold sv_lost; omega) (by unfold sv_lost; omega), sp_row_u, sp_row_e (g := sv_w1 (I 257) (k + 1))]
      · rfl
      · intro j
        unfold sv_w1
        by_cases hj : j = k
        · subst hj
          rw [if_pos rfl, if_pos (by omega)]
        · rw [if_neg hj]
          by_cases hj2 : j < k
          · rw [if_pos hj2, if_pos (by omega)]
          · rw [if_neg hj2, if_neg (by omega)]
  obtain ⟨l5, e⟩ := step s (Nat.le_refl s)
  refine ⟨l5, e.trans ?_⟩
  have hss : sp_row I 257 (sv_w1 (I 257) s) 239 26 = (s : Int) := by rw [sp_row_o (by omega)]; exact hs
  rw [hX12_live_9]
  simp (disch := assumption) only [kX12_live, hss, Int.le_refl, if_true]
