/-! the model's spread of fires -/
set_option maxHeartbeats 2000000 in
theorem sq_mspread {n s d : Nat} {I L : mm_I} {P : mm_P} {B : Nat → Nat} {N : Nat → Int} (hM : sp_M n P) (hs8 : s ≤ 8) (hs : I 239 26 = (s : Int)) (hB : ∀ p, p < 8 → I 255 p = (B p : Int) ∧ B p < 256) (hN : sq_mN I N) (hok : sv_ok s N) :
    sq_X none n L P (fun I' => sq_mN I' (sw_spr B s N) ∧ sq_fr [257] I I') (mm_rn (d + 3) 197 [.inr (.inr (some 239))] n I L P) := by
  have ok := hM.ok
  have hM2 := hM
  obtain ⟨hn, hP⟩ := hM
  rw [eX12_spread]
  simp (disch := (first | assumption | omega | exact nb_ix (by omega) (by assumption) (by omega) (by omega) | exact nb_ix (by omega) rfl (by omega) (by omega) | exact nb_ok (by omega) rfl | decide)) only [kX12_spread, nb_add, nb_sub, nb_mul, Int.toNat_natCast, mm_kr_s, mm_kv_s, if_pos, if_neg, sq_tn, Int.toNat_zero, Int.reduceToNat, Int.reduceNeg, Nat.reduceAdd, Int.reduceAdd, Int.reduceEq, Int.reduceLT, Int.reduceLE, Int.zero_add, nb_ui_s, nb_ui_k, nb_ui_a, sp_min, sp_max, sp_bits]
  have flt : ∀ k, k ≤ s → sv_or (fun p => if N (8 + p) = 0 ∧ 5 ≤ N (16 + p) then B p else 0) k < 256 := by
    intro k hk
    refine sv_or_lt (M := 8) k (fun j hj => ?_)
    split
    · exact (hB j (by omega)).2
    · decide
  refine sq_for (fun k => mm_E (d + 2) 197 4 [.inr (.inr (some 239)), .inl ((sv_or (fun p => if N (8 + p) = 0 ∧ 5 ≤ N (16 + p) then B p else 0) k : Nat)), .inl ((k : Nat))] [] [] n I L P) s (fun k hk => ?_) ?_
  · have hlt := flt k (by omega)
    obtain ⟨b1, b2⟩ := hB k (by omega)
    have e8 := hN (8 + k) (by omega)
    have e16 := hN (16 + k) (by omega)
    have efr : sv_or (fun p => if N (8 + p) = 0 ∧ 5 ≤ N (16 + p) then B p else 0) (k + 1) = sv_or (fun p => if N (8 + p) = 0 ∧ 5 ≤ N (16 + p) then B p else 0) k ||| (if N (8 + k) = 0 ∧ 5 ≤ N (16 + k) then B k else 0) := rfl
    rw [hX12_spread_4]
    rw [efr]
    clear efr flt
    generalize sv_or (fun p => if N (8 + p) = 0 ∧ 5 ≤ N (16 + p) then B p else 0) k = x at hlt ⊢
    by_cases c1 : N (8 + k) = 0
    · by_cases c2 : 5 ≤ N (16 + k)
      · simp (disch := (first | assumption | omega | exact nb_ix (by omega) (by assumption) (by omega) (by omega) | exact nb_ix (by omega) rfl (by omega) (by omega) | exact nb_ok (by omega) rfl | decide)) only [kX12_spread, hP, hs, e8, e16, b1, nb_or, nb_add, nb_sub, nb_mul, Int.toNat_natCast, mm_kr_s, mm_kv_s, if_pos, if_neg, sq_tn, Int.toNat_zero, Int.reduceToNat, Int.reduceNeg, Nat.reduceAdd, Int.reduceAdd, Int.reduceEq, Int.reduceLT, Int.reduceLE, Int.zero_add, nb_ui_s, nb_ui_k, nb_ui_a, sp_min, sp_max, sp_bits]
        rfl
      · simp (disch := (first | assumption | omega | exact nb_ix (by omega) (by assumption) (by omega) (by omega) | exact nb_ix (by omega) rfl (by omega) (by omega) | exact nb_ok (by omega) rfl | decide)) only [kX12_spread, hP, hs, e8, e16, b1, sp_or0, nb_add, nb_sub, nb_mul, Int.toNat_natCast, mm_kr_s, mm_kv_s, if_pos, if_neg, sq_tn, Int.toNat_zero, Int.reduceToNat, Int.reduceNeg, Nat.reduceAdd, Int.reduceAdd, Int.reduceEq, Int.reduceLT, Int.reduceLE, Int.zero_add, nb_ui_s, nb_ui_k, nb_ui_a, sp_min, sp_max, sp_bits]
        rw [Nat.or_zero]
        rfl
    · simp (disch := (first | assumption | omega | exact nb_ix (by omega) (by assumption) (by omega) (by omega) | exact nb_ix (by omega) rfl (by omega) (by omega) | exact nb_ok (by omega) rfl | decide)) only [kX12_spread, hP, hs, e8, e16, b1, sp_or0, nb_add, nb_sub, nb_mul, Int.toNat_natCast, mm_kr_s, mm_kv_s, if_pos, if_neg, sq_tn, Int.toNat_zero, Int.reduceToNat, Int.reduceNeg, Nat.reduceAdd, Int.reduceAdd, Int.reduceEq, Int.reduceLT, Int.reduceLE, Int.zero_add, nb_ui_s, nb_ui_k, nb_ui_a, sp_min, sp_max, sp_bits]
      rw [Nat.or_zero]
      rfl
  · have hlt := flt s (Nat.le_refl s)
    have efr : sv_or (fun p => if N (8 + p) = 0 ∧ 5 ≤ N (16 + p) then B p else 0) s = sw_fr B s N := rfl
    rw [efr] at hlt ⊢
    obtain ⟨r, hr1, hr2, hr3⟩ := sq_andn (f := sw_fr B s N) (t := sp_mask (fun q => decide (0 < I 257 (16 + q))) s) hlt
    have etr := sp_mtroubles (d := d) (L := L) hM2 hs hs8
    rw [hX12_spread_4]
    simp (disch := (first | assumption | omega | exact nb_ix (by omega) (by assumption) (by omega) (by omega) | exact nb_ix (by omega) rfl (by omega) (by omega) | exact nb_ok (by omega) rfl | decide)) only [kX12_spread, hP, hs, etr, hr1, nb_add, nb_sub, nb_mul, Int.toNat_natCast, mm_kr_s, mm_kv_s, if_pos, if_neg, sq_tn, Int.toNat_zero, Int.reduceToNat, Int.reduceNeg, Nat.reduceAdd, Int.reduceAdd, Int.reduceEq, Int.reduceLT, Int.reduceLE, Int.zero_add, nb_ui_s, nb_ui_k, nb_ui_a, sp_min, sp_max, sp_bits]
    refine sq_loop (fun k (J : mm_I) => mm_E (d + 2) 197 67 [.inr (.inr (some 239)), .inl ((r : Int)), .inl ((k : Nat))] [] [] n J L P) (fun k J => (∀ j, j < 211 → J 257 j = sw_spk (sw_new B s N) k N j) ∧ sq_fr [257] I J) s (s0 := I) ⟨?_, sq_fr_refl _ _⟩ ?_ ?_
    · intro j hj
      rw [hN j hj]
      unfold sw_spk
      rw [if_neg (by omega), if_neg (by omega)]
    · intro k J hk ⟨h1, h2⟩ ih
      have e239 : J 239 = I 239 := h2 239 (by decide)
      have w1 : J 257 k = N k := by
        rw [h1 k (by omega)]
        unfold sw_spk
        rw [if_neg (by omega), if_neg (by omega)]
      have hbit : Nat.testBit r k = (Nat.testBit (sw_fr B s N) k && !decide (0 < N (16 + k))) := by
        rw [hr3, sp_mask_bit, hN (16 + k) (by omega)]
        simp [hk]
      have hz := (hok.1 k (by omega)).2.2.1
      rw [hX12_spread_67]
      by_cases hnew : sw_new B s N k = true
      · have hn2 := hnew
        unfold sw_new at hn2
        simp at hn2
        have hb : Nat.testBit r k = true := by
          rw [hbit, hn2.1]
          simp
          omega
        have hw := hn2.2.2
        simp (disch := (first | assumption | omega | exact nb_ix (by omega) (by assumption) (by omega) (by omega) | exact nb_ix (by omega) rfl (by omega) (by omega) | exact nb_ok (by omega) rfl | decide)) only [kX12_spread, hP, e239, hs, w1, sp_mhas, hb, nb_add, nb_sub, nb_mul, Int.toNat_natCast, mm_kr_s, mm_kv_s, if_pos, if_neg, sq_tn, Int.toNat_zero, Int.reduceToNat, Int.reduceNeg, Nat.reduceAdd, Int.reduceAdd, Int.reduceEq, Int.reduceLT, Int.reduceLE, Int.zero_add, nb_ui_s, nb_ui_k, nb_ui_a, sp_min, sp_max, sp_bits]
        refine ih _ ⟨fun j hj => ?_, sq_fr_up (sq_fr_up h2 (by simp)) (by simp)⟩
        rw [sw_spk_up (by omega), ← h1 j hj, hnew]
        unfold mm_ui
        grind
      · have hkeep : ∀ j, j < 211 → J 257 j = sw_spk (sw_new B s N) (k + 1) N j := by
          intro j hj
          rw [sw_spk_up (by omega), ← h1 j hj]
          simp [hnew]
        by_cases hb : Nat.testBit r k = true
        · have hw : N k ≤ 0 := by
            unfold sw_new at hnew
            rw [hbit] at hb
            simp at hnew hb
            have := hnew hb.1 (by omega)
            omega
          simp (disch := (first | assumption | omega | exact nb_ix (by omega) (by assumption) (by omega) (by omega) | exact nb_ix (by omega) rfl (by omega) (by omega) | exact nb_ok (by omega) rfl | decide)) only [kX12_spread, hP, e239, hs, w1, sp_mhas, hb, nb_add, nb_sub, nb_mul, Int.toNat_natCast, mm_kr_s, mm_kv_s, if_pos, if_neg, sq_tn, Int.toNat_zero, Int.reduceToNat, Int.reduceNeg, Nat.reduceAdd, Int.reduceAdd, Int.reduceEq, Int.reduceLT, Int.reduceLE, Int.zero_add, nb_ui_s, nb_ui_k, nb_ui_a, sp_min, sp_max, sp_bits]
          exact ih _ ⟨hkeep, h2⟩
        · simp (disch := (first | assumption | omega | exact nb_ix (by omega) (by assumption) (by omega) (by omega) | exact nb_ix (by omega) rfl (by omega) (by omega) | exact nb_ok (by omega) rfl | decide)) only [kX12_spread, hP, e239, hs, w1, sp_mhas, hb, nb_add, nb_sub, nb_mul, Int.toNat_natCast, mm_kr_s, mm_kv_s, if_pos, if_neg, sq_tn, Int.toNat_zero, Int.reduceToNat, Int.reduceNeg, Nat.reduceAdd, Int.reduceAdd, Int.reduceEq, Int.reduceLT, Int.reduceLE, Int.zero_add, nb_ui_s, nb_ui_k, nb_ui_a, sp_min, sp_max, sp_bits]
          exact ih _ ⟨hkeep, h2⟩
    · intro J ⟨h1, h2⟩
      have e239 : J 239 = I 239 := h2 239 (by decide)
      rw [hX12_spread_67]
      simp (disch := (first | assumption | omega | exact nb_ix (by omega) (by assumption) (by omega) (by omega) | exact nb_ix (by omega) rfl (by omega) (by omega) | exact nb_ok (by omega) rfl | decide)) only [kX12_spread, e239, hs, nb_add, nb_sub, nb_mul, Int.toNat_natCast, mm_kr_s, mm_kv_s, if_pos, if_neg, sq_tn, Int.toNat_zero, Int.reduceToNat, Int.reduceNeg, Nat.reduceAdd, Int.reduceAdd, Int.reduceEq, Int.reduceLT, Int.reduceLE, Int.zero_add, nb_ui_s, nb_ui_k, nb_ui_a, sp_min, sp_max, sp_bits]
      exact sq_ret ⟨h1, h2⟩
