/-! the model's hour -/
theorem sw_take_ge {s : Nat} {N : Nat → Int} {k : Nat} (h : s ≤ k) : sw_take s N k = N k := by
  unfold sw_take
  rw [if_neg (by omega)]
theorem sw_sz {s : Nat} {N : Nat → Int} {k : Nat} (h : k < s) : sv_am N s = sv_am N s ∧ Nat.testBit (sv_am N s) k = decide (0 < N (16 + k)) := by
  refine ⟨rfl, ?_⟩
  unfold sv_am
  rw [sp_mask_bit]
  simp [h]
theorem sv_am_lt {s : Nat} {N : Nat → Int} (h : s ≤ 8) : sv_am N s < 256 := Nat.lt_of_lt_of_le (sp_mask_lt _ s) (sp_pow8 h)
set_option maxHeartbeats 4000000 in
theorem sq_mlive {n c s d : Nat} {I L : mm_I} {P : mm_P} {ev : sv_E} {D : Nat → Int} {B : Nat → Nat} {g v : Int} {N : Nat → Int} (hd : c ≤ d) (hM : sp_M n P) (hT : sq_MT I s D B g v) (hH : sq_MH n c P I ev) (hN : sq_mN I N) (hok : sv_ok s N) (hh : N 29 ≤ 1000000) :
    sq_X (some (.inl (sv_lost N s))) n L P (fun I' => sq_mN I' (sw_live ev D B g s N) ∧ sq_fr [248, 249, 257, 259] I I') (mm_rn (d + 5) 198 [.inr (.inr (some 239))] n I L P) := by
  have ok := hM.ok
  have hM2 := hM
  have hT2 := hT
  obtain ⟨hn, hP⟩ := hM
  obtain ⟨hs8, hs, hD, hB, hg, hv⟩ := hT
  have ham : sp_mask (fun q => decide (0 < I 257 (16 + q))) s = sv_am N s := by
    unfold sv_am
    exact sp_mask_ext (fun p hp => by rw [hN (16 + p) (by omega)]) s (Nat.le_refl s) (fun p h1 h2 => by omega)
  have haml := sv_am_lt (N := N) hs8
  have etr := sp_mtroubles (d := d + 2) (L := L) hM2 hs hs8
  rw [ham] at etr
  rw [eX12_live]
  simp (disch := (first | assumption | omega | exact nb_ix (by omega) (by assumption) (by omega) (by omega) | exact nb_ix (by omega) rfl (by omega) (by omega) | exact nb_ok (by omega) rfl | decide)) only [kX12_live, etr, nb_add, nb_sub, nb_mul, Int.toNat_natCast, mm_kr_s, mm_kv_s, if_pos, if_neg, sq_tn, Int.toNat_zero, Int.reduceToNat, Int.reduceNeg, Nat.reduceAdd, Int.reduceAdd, Int.reduceEq, Int.reduceLT, Int.reduceLE, Int.zero_add, nb_ui_s, nb_ui_k, nb_ui_a, sp_min, sp_max, sp_bits]
  refine sq_loop2 (fun k (x : mm_V) (J : mm_I) => mm_E (d + 4) 198 9 [.inr (.inr (some 239)), .inl ((sv_am N s : Int)), .inl (sv_lost N k), .inl ((k : Nat)), x] [] [] n J L P) (fun k _ J => (∀ j, j < 211 → J 257 j = sw_take k N j) ∧ sq_fr [257] I J) s (s0 := mm_junk) (t0 := I) ⟨?_, sq_fr_refl _ _⟩ ?_ ?_
  · intro j hj
    rw [sw_take_ge (by omega)]
    exact hN j hj
  · intro k x4 J hk ⟨h1, h2⟩ ih
    have e239 : J 239 = I 239 := h2 239 (by decide)
    have w1 : J 257 k = N k := by rw [h1 k (by omega), sw_take_ge (by omega)]
    have w2 : J 257 (16 + k) = N (16 + k) := by rw [h1 (16 + k) (by omega), sw_take_ge (by omega)]
    have tk := sv_tk_rg hok (show k < 8 by omega)
    have lr := sp_sum_rg (f := sv_tk N) (M := 9) (by omega) k (fun j hj => ⟨(sv_tk_rg hok (show j < 8 by omega)).1, (sv_tk_rg hok (show j < 8 by omega)).2.1⟩)
    have e3 : min (N k) (N (16 + k)) = sv_tk N k := rfl
    have e4 : sv_lost N k + sv_tk N k = sv_lost N (k + 1) := rfl
    have lr1 : 0 ≤ sv_lost N k := lr.1
    have lr2 : sv_lost N k ≤ k * 9 := lr.2
    have hwr := (hok.1 k (by omega)).1
    rw [hX12_live_9]
    simp (disch := (first | assumption | omega | exact nb_ix (by omega) (by assumption) (by omega) (by omega) | exact nb_ix (by omega) rfl (by omega) (by omega) | exact nb_ok (by omega) rfl | decide)) only [kX12_live, hP, e239, hs, w1, w2, e3, e4, nb_add, nb_sub, nb_mul, Int.toNat_natCast, mm_kr_s, mm_kv_s, if_pos, if_neg, sq_tn, Int.toNat_zero, Int.reduceToNat, Int.reduceNeg, Nat.reduceAdd, Int.reduceAdd, Int.reduceEq, Int.reduceLT, Int.reduceLE, Int.zero_add, nb_ui_s, nb_ui_k, nb_ui_a, sp_min, sp_max, sp_bits]
    refine ih _ _ ⟨fun j hj => ?_, sq_fr_up h2 (by simp)⟩
    have := h1 j hj
    unfold sw_take at this ⊢
    unfold mm_ui
    grind
  intro x4 J ⟨h1, h2⟩
  have e239 : J 239 = I 239 := h2 239 (by decide)
  rw [hX12_live_9]
  simp (disch := (first | assumption | omega | exact nb_ix (by omega) (by assumption) (by omega) (by omega) | exact nb_ix (by omega) rfl (by omega) (by omega) | exact nb_ok (by omega) rfl | decide)) only [kX12_live, e239, hs, nb_add, nb_sub, nb_mul, Int.toNat_natCast, mm_kr_s, mm_kv_s, if_pos, if_neg, sq_tn, Int.toNat_zero, Int.reduceToNat, Int.reduceNeg, Nat.reduceAdd, Int.reduceAdd, Int.reduceEq, Int.reduceLT, Int.reduceLE, Int.zero_add, nb_ui_s, nb_ui_k, nb_ui_a, sp_min, sp_max, sp_bits]
  have hTJ : ∀ K, sq_fr [248, 249, 257, 259] I K → sq_MT K s D B g v := by
    intro K hK
    unfold sq_MT
    rw [hK 239 (by decide), hK 256 (by decide), hK 255 (by decide), hK 253 (by decide)]
    exact hT2
  have hHJ : ∀ K, sq_fr [248, 249, 257, 259] I K → sq_MH n c P K ev := by
    intro K hK
    unfold sq_MH at hH ⊢
    rw [hK 239 (by decide)]
    cases ev with
    | none => exact hH
    | some e =>
      refine ⟨hH.1, fun d I0 L hd e1 => hH.2 d I0 L hd (fun b q1 q2 => ?_)⟩
      rw [e1 b q1 q2]
      exact hK b (by simp; omega)
  refine sq_loop (fun k (K : mm_I) => mm_E (d + 4) 198 65 [.inr (.inr (some 239)), .inl ((sv_am N s : Int)), .inl (sv_lost N s), .inl ((k : Nat)), _] [] [] n K L P) (fun k K => (∀ j, j < 211 → K 257 j = sw_take s N j) ∧ (∀ j, j < k → 0 < N (16 + j) → K 259 j = max (-9) (min 9 (sv_gr ev D B N s j))) ∧ sq_fr [248, 249, 257, 259] I K) s (s0 := J) ⟨h1, fun j hj => by omega, sq_fr_sub h2 (by simp)⟩ ?_ ?_
  · intro k K hk ⟨k1, k2, k3⟩ ih
    have e239 : K 239 = I 239 := k3 239 (by decide)
    have hb := (sw_sz (N := N) hk).2
    rw [hX12_live_65]
    by_cases hz : 0 < N (16 + k)
    · rw [decide_eq_true hz] at hb
      simp (disch := (first | assumption | omega | exact nb_ix (by omega) (by assumption) (by omega) (by omega) | exact nb_ix (by omega) rfl (by omega) (by omega) | exact nb_ok (by omega) rfl | decide)) only [kX12_live, hP, e239, hs, sp_mhas, hb, nb_add, nb_sub, nb_mul, Int.toNat_natCast, mm_kr_s, mm_kv_s, if_pos, if_neg, sq_tn, Int.toNat_zero, Int.reduceToNat, Int.reduceNeg, Nat.reduceAdd, Int.reduceAdd, Int.reduceEq, Int.reduceLT, Int.reduceLE, Int.zero_add, nb_ui_s, nb_ui_k, nb_ui_a, sp_min, sp_max, sp_bits]
      refine sq_kr (sq_mgrow (d := d + 1) (N := N) (by omega) hM2 (hTJ K k3) (hHJ K k3) hok hk (by rw [k1 _ (by omega), sw_take_ge (by omega)]) (by rw [k1 _ (by omega), sw_take_ge (by omega)]) (by rw [k1 _ (by omega)]; unfold sw_take; rw [if_pos hk]) (by rw [k1 _ (by omega), sw_take_ge (by omega)]) (by rw [k1 _ (by omega), sw_take_ge (by omega)]) rfl) (fun K2 hK2 => ?_)
      simp (disch := (first | assumption | omega | exact nb_ix (by omega) (by assumption) (by omega) (by omega) | exact nb_ix (by omega) rfl (by omega) (by omega) | exact nb_ok (by omega) rfl | decide)) only [kX12_live, nb_add, nb_sub, nb_mul, Int.toNat_natCast, mm_kr_s, mm_kv_s, if_pos, if_neg, sq_tn, Int.toNat_zero, Int.reduceToNat, Int.reduceNeg, Nat.reduceAdd, Int.reduceAdd, Int.reduceEq, Int.reduceLT, Int.reduceLE, Int.zero_add, nb_ui_s, nb_ui_k, nb_ui_a, sp_min, sp_max, sp_bits]
      refine ih _ ⟨fun j hj => ?_, fun j hj hj2 => ?_, ?_⟩
      · rw [nb_ui_a (by decide), hK2 257 (by decide)]
        exact k1 j hj
      · by_cases hjk : j = k
        · subst hjk
          rw [nb_ui_s]
        · rw [nb_ui_k hjk, hK2 259 (by decide)]
          exact k2 j (by omega) hj2
      · exact sq_fr_up (sq_fr_trans k3 hK2 (by simp) (by simp)) (by simp)
    · rw [decide_eq_false hz] at hb
      simp (disch := (first | assumption | omega | exact nb_ix (by omega) (by assumption) (by omega) (by omega) | exact nb_ix (by omega) rfl (by omega) (by omega) | exact nb_ok (by omega) rfl | decide)) only [kX12_live, hP, e239, hs, sp_mhas, hb, nb_add, nb_sub, nb_mul, Int.toNat_natCast, mm_kr_s, mm_kv_s, if_pos, if_neg, sq_tn, Int.toNat_zero, Int.reduceToNat, Int.reduceNeg, Nat.reduceAdd, Int.reduceAdd, Int.reduceEq, Int.reduceLT, Int.reduceLE, Int.zero_add, nb_ui_s, nb_ui_k, nb_ui_a, sp_min, sp_max, sp_bits]
      refine ih _ ⟨fun j hj => ?_, fun j hj hj2 => ?_, ?_⟩
      · rw [nb_ui_a (by decide)]
        exact k1 j hj
      · rw [nb_ui_k (by intro e; subst e; exact hz hj2)]
        exact k2 j (by have : j ≠ k := by intro e; subst e; exact hz hj2
                       omega) hj2
      · exact sq_fr_up k3 (by simp)
  intro K ⟨k1, k2, k3⟩
  have e239 : K 239 = I 239 := k3 239 (by decide)
  rw [hX12_live_65]
  simp (disch := (first | assumption | omega | exact nb_ix (by omega) (by assumption) (by omega) (by omega) | exact nb_ix (by omega) rfl (by omega) (by omega) | exact nb_ok (by omega) rfl | decide)) only [kX12_live, e239, hs, nb_add, nb_sub, nb_mul, Int.toNat_natCast, mm_kr_s, mm_kv_s, if_pos, if_neg, sq_tn, Int.toNat_zero, Int.reduceToNat, Int.reduceNeg, Nat.reduceAdd, Int.reduceAdd, Int.reduceEq, Int.reduceLT, Int.reduceLE, Int.zero_add, nb_ui_s, nb_ui_k, nb_ui_a, sp_min, sp_max, sp_bits]
  refine sq_loop (fun k (J : mm_I) => mm_E (d + 4) 198 105 [.inr (.inr (some 239)), .inl ((sv_am N s : Int)), .inl (sv_lost N s), .inl ((k : Nat)), _] [] [] n J L P) (fun k J => (∀ j, j < 211 → J 257 j = if 16 ≤ j ∧ j < 16 + k then sv_s1 ev D B N s (j - 16) else sw_take s N j) ∧ J 259 = K 259 ∧ sq_fr [248, 249, 257, 259] I J) s (s0 := K) ⟨fun j hj => ?_, rfl, k3⟩ ?_ ?_
  · rw [if_neg (by omega)]
    exact k1 j hj
  · intro k J hk ⟨j1, j2, j3⟩ ih
    have e239 : J 239 = I 239 := j3 239 (by decide)
    have hb := (sw_sz (N := N) hk).2
    have w2 : J 257 (16 + k) = N (16 + k) := by rw [j1 (16 + k) (by omega), if_neg (by omega), sw_take_ge (by omega)]
    have hzr := (hok.1 k (by omega)).2.2.1
    rw [hX12_live_105]
    have hup : ∀ z, z = sv_s1 ev D B N s k → ∀ j, j < 211 → mm_ui J 257 (16 + k) z 257 j = if 16 ≤ j ∧ j < 16 + (k + 1) then sv_s1 ev D B N s (j - 16) else sw_take s N j := by
      intro z hz j hj
      by_cases hjk : j = 16 + k
      · subst hjk
        rw [nb_ui_s, if_pos (by omega), hz, Nat.add_sub_cancel_left]
      · rw [nb_ui_k hjk, j1 j hj]
        by_cases c : 16 ≤ j ∧ j < 16 + k
        · rw [if_pos c, if_pos (by omega)]
        · rw [if_neg c, if_neg (by omega)]
    by_cases hz : 0 < N (16 + k)
    · rw [decide_eq_true hz] at hb
      have w3 : J 259 k = max (-9) (min 9 (sv_gr ev D B N s k)) := by rw [j2]; exact k2 k hk hz
      simp (disch := (first | assumption | omega | exact nb_ix (by omega) (by assumption) (by omega) (by omega) | exact nb_ix (by omega) rfl (by omega) (by omega) | exact nb_ok (by omega) rfl | decide)) only [kX12_live, hP, e239, hs, sp_mhas, hb, w2, w3, nb_add, nb_sub, nb_mul, Int.toNat_natCast, mm_kr_s, mm_kv_s, if_pos, if_neg, sq_tn, Int.toNat_zero, Int.reduceToNat, Int.reduceNeg, Nat.reduceAdd, Int.reduceAdd, Int.reduceEq, Int.reduceLT, Int.reduceLE, Int.zero_add, nb_ui_s, nb_ui_k, nb_ui_a, sp_min, sp_max, sp_bits]
      refine ih _ ⟨hup _ ?_, ?_, ?_⟩
      · unfold sv_s1
        rw [if_pos hz]
      · rw [nb_ui_r (by decide)]
        exact j2
      · exact sq_fr_up j3 (by simp)
    · rw [decide_eq_false hz] at hb
      simp (disch := (first | assumption | omega | exact nb_ix (by omega) (by assumption) (by omega) (by omega) | exact nb_ix (by omega) rfl (by omega) (by omega) | exact nb_ok (by omega) rfl | decide)) only [kX12_live, hP, e239, hs, sp_mhas, hb, w2, nb_add, nb_sub, nb_mul, Int.toNat_natCast, mm_kr_s, mm_kv_s, if_pos, if_neg, sq_tn, Int.toNat_zero, Int.reduceToNat, Int.reduceNeg, Nat.reduceAdd, Int.reduceAdd, Int.reduceEq, Int.reduceLT, Int.reduceLE, Int.zero_add, nb_ui_s, nb_ui_k, nb_ui_a, sp_min, sp_max, sp_bits]
      refine ih _ ⟨hup _ ?_, ?_, ?_⟩
      · unfold sv_s1
        rw [if_neg hz]
      · rw [nb_ui_r (by decide)]
        exact j2
      · exact sq_fr_up j3 (by simp)
  intro J2 ⟨j1, j2, j3⟩
  have e239' : J2 239 = I 239 := j3 239 (by decide)
  rw [hX12_live_105]
  simp (disch := (first | assumption | omega | exact nb_ix (by omega) (by assumption) (by omega) (by omega) | exact nb_ix (by omega) rfl (by omega) (by omega) | exact nb_ok (by omega) rfl | decide)) only [kX12_live, hP, e239', hs, nb_add, nb_sub, nb_mul, Int.toNat_natCast, mm_kr_s, mm_kv_s, if_pos, if_neg, sq_tn, Int.toNat_zero, Int.reduceToNat, Int.reduceNeg, Nat.reduceAdd, Int.reduceAdd, Int.reduceEq, Int.reduceLT, Int.reduceLE, Int.zero_add, nb_ui_s, nb_ui_k, nb_ui_a, sp_min, sp_max, sp_bits]
  have hgN : sq_mN J2 (sw_grow ev D B s N) := j1
  refine sq_kv (sq_mspread (d := d + 1) hM2 hs8 (by rw [e239']; exact hs) (by rw [j3 255 (by decide)]; exact hB) hgN (sw_grow_ok hok hs8)) (fun J3 hJ3 => ?_)
  obtain ⟨m1, m2⟩ := hJ3
  have g28 : sw_spr B s (sw_grow ev D B s N) 28 = N 28 := by
    unfold sw_spr sw_grow
    rw [if_neg (by omega), if_neg (by omega), if_neg (by omega), sw_take_ge (by omega)]
  have g29 : sw_spr B s (sw_grow ev D B s N) 29 = N 29 := by
    unfold sw_spr sw_grow
    rw [if_neg (by omega), if_neg (by omega), if_neg (by omega), sw_take_ge (by omega)]
  have e28 : J3 257 28 = N 28 := by rw [m1 28 (by omega), g28]
  have e29 : J3 257 29 = N 29 := by rw [m1 29 (by omega), g29]
  have e253 : J3 253 0 = g := by rw [m2 253 (by decide), j3 253 (by decide)]; exact hg
  have lr := sv_lost_rg hok hs8
  obtain ⟨_, _, _, _, _, r28, r29⟩ := hok
  simp (disch := (first | assumption | omega | exact nb_ix (by omega) (by assumption) (by omega) (by omega) | exact nb_ix (by omega) rfl (by omega) (by omega) | exact nb_ok (by omega) rfl | decide)) only [kX12_live, hP, e28, e29, e253, nb_add, nb_sub, nb_mul, Int.toNat_natCast, mm_kr_s, mm_kv_s, if_pos, if_neg, sq_tn, Int.toNat_zero, Int.reduceToNat, Int.reduceNeg, Nat.reduceAdd, Int.reduceAdd, Int.reduceEq, Int.reduceLT, Int.reduceLE, Int.zero_add, nb_ui_s, nb_ui_k, nb_ui_a, sp_min, sp_max, sp_bits]
  refine sq_ret ⟨fun j hj => ?_, ?_⟩
  · have hj2 := m1 j hj
    revert hj2
    unfold sw_live
    generalize sw_spr B s (sw_grow ev D B s N) = M
    intro hj2
    unfold mm_ui
    grind
  · refine sq_fr_up (sq_fr_up (sq_fr_up (sq_fr_trans j3 m2 (by simp) (by simp)) (by simp)) (by simp)) (by simp)
