/-! what would come, in the model -/
section MA
variable {n c s d : Nat} {I L : mm_I} {P : mm_P} {D : Nat → Int} {B : Nat → Nat} {g v : Int} {ev : sv_E} {N : Nat → Int}
theorem sq_maside {q : Nat} (hM : sp_M n P) (hq : q < 9) : sq_X none n L P (fun I' => (∀ k, k < 30 → I' 261 (30 * q + k) = I 257 k) ∧ (∀ j, (j < 30 * q ∨ 30 * q + 30 ≤ j) → I' 261 j = I 261 j) ∧ sq_fr [261] I I') (mm_rn (d + 1) 223 [.inr (.inr (some 239)), .inl ((q : Int))] n I L P) := by
  have ok := hM.ok
  obtain ⟨hn, hP⟩ := hM
  rw [eX12_putAside]
  simp (disch := (first | assumption | omega | exact nb_ix (by omega) (by assumption) (by omega) (by omega) | exact nb_ix (by omega) rfl (by omega) (by omega) | exact nb_ok (by omega) rfl | decide)) only [kX12_putAside, nb_add, nb_sub, nb_mul, Int.toNat_natCast, mm_kr_s, mm_kv_s, if_pos, if_neg, sq_tn, Int.toNat_zero, Int.reduceToNat, Int.reduceNeg, Nat.reduceAdd, Int.reduceAdd, Int.reduceEq, Int.reduceLT, Int.reduceLE, Int.zero_add, nb_ui_s, nb_ui_k, nb_ui_a, sp_min, sp_max, sp_bits]
  refine sq_loop (fun i (J : mm_I) => mm_E d 223 2 [.inr (.inr (some 239)), .inl ((q : Int)), .inl ((i : Nat))] [] [] n J L P) (fun i J => (∀ k, k < i → J 261 (30 * q + k) = I 257 k) ∧ (∀ j, (j < 30 * q ∨ 30 * q + 30 ≤ j) → J 261 j = I 261 j) ∧ sq_fr [261] I J) 30 (s0 := I) ⟨fun k hk => by omega, fun j _ => rfl, sq_fr_refl _ _⟩ ?_ ?_
  · intro i J hi ⟨h1, h2, h3⟩ ih
    have e7 : J 257 = I 257 := h3 257 (by decide)
    have e8 : (30 * (q : Int) + (i : Int)).toNat = 30 * q + i := by omega
    rw [hX12_putAside_2]
    simp (disch := (first | assumption | omega | exact nb_ix (by omega) (by assumption) (by omega) (by omega) | exact nb_ix (by omega) rfl (by omega) (by omega) | exact nb_ok (by omega) rfl | decide)) only [kX12_putAside, hP, e7, e8, nb_add, nb_sub, nb_mul, Int.toNat_natCast, mm_kr_s, mm_kv_s, if_pos, if_neg, sq_tn, Int.toNat_zero, Int.reduceToNat, Int.reduceNeg, Nat.reduceAdd, Int.reduceAdd, Int.reduceEq, Int.reduceLT, Int.reduceLE, Int.zero_add, nb_ui_s, nb_ui_k, nb_ui_a, sp_min, sp_max, sp_bits]
    refine ih _ ⟨fun k hk => ?_, fun j hj => ?_, sq_fr_up h3 (by simp)⟩
    · by_cases hki : k = i
      · subst hki
        rw [nb_ui_s]
      · rw [nb_ui_k (by omega)]
        exact h1 k (by omega)
    · rw [nb_ui_k (by omega)]
      exact h2 j hj
  · intro J h
    rw [hX12_putAside_2]
    simp (disch := (first | assumption | omega | exact nb_ix (by omega) (by assumption) (by omega) (by omega) | exact nb_ix (by omega) rfl (by omega) (by omega) | exact nb_ok (by omega) rfl | decide)) only [kX12_putAside, nb_add, nb_sub, nb_mul, Int.toNat_natCast, mm_kr_s, mm_kv_s, if_pos, if_neg, sq_tn, Int.toNat_zero, Int.reduceToNat, Int.reduceNeg, Nat.reduceAdd, Int.reduceAdd, Int.reduceEq, Int.reduceLT, Int.reduceLE, Int.zero_add, nb_ui_s, nb_ui_k, nb_ui_a, sp_min, sp_max, sp_bits]
    exact sq_ret h
theorem sq_mback {q : Nat} (hM : sp_M n P) (hq : q < 9) : sq_X none n L P (fun I' => (∀ k, k < 30 → I' 257 k = I 261 (30 * q + k)) ∧ (∀ j, 30 ≤ j → I' 257 j = I 257 j) ∧ sq_fr [257] I I') (mm_rn (d + 1) 224 [.inr (.inr (some 239)), .inl ((q : Int))] n I L P) := by
  have ok := hM.ok
  obtain ⟨hn, hP⟩ := hM
  rw [eX12_takeBack]
  simp (disch := (first | assumption | omega | exact nb_ix (by omega) (by assumption) (by omega) (by omega) | exact nb_ix (by omega) rfl (by omega) (by omega) | exact nb_ok (by omega) rfl | decide)) only [kX12_takeBack, nb_add, nb_sub, nb_mul, Int.toNat_natCast, mm_kr_s, mm_kv_s, if_pos, if_neg, sq_tn, Int.toNat_zero, Int.reduceToNat, Int.reduceNeg, Nat.reduceAdd, Int.reduceAdd, Int.reduceEq, Int.reduceLT, Int.reduceLE, Int.zero_add, nb_ui_s, nb_ui_k, nb_ui_a, sp_min, sp_max, sp_bits]
  refine sq_loop (fun i (J : mm_I) => mm_E d 224 2 [.inr (.inr (some 239)), .inl ((q : Int)), .inl ((i : Nat))] [] [] n J L P) (fun i J => (∀ k, k < i → J 257 k = I 261 (30 * q + k)) ∧ (∀ j, 30 ≤ j → J 257 j = I 257 j) ∧ sq_fr [257] I J) 30 (s0 := I) ⟨fun k hk => by omega, fun j _ => rfl, sq_fr_refl _ _⟩ ?_ ?_
  · intro i J hi ⟨h1, h2, h3⟩ ih
    have e7 : J 261 = I 261 := h3 261 (by decide)
    have e8 : (30 * (q : Int) + (i : Int)).toNat = 30 * q + i := by omega
    rw [hX12_takeBack_2]
    simp (disch := (first | assumption | omega | exact nb_ix (by omega) (by assumption) (by omega) (by omega) | exact nb_ix (by omega) rfl (by omega) (by omega) | exact nb_ok (by omega) rfl | decide)) only [kX12_takeBack, hP, e7, e8, nb_add, nb_sub, nb_mul, Int.toNat_natCast, mm_kr_s, mm_kv_s, if_pos, if_neg, sq_tn, Int.toNat_zero, Int.reduceToNat, Int.reduceNeg, Nat.reduceAdd, Int.reduceAdd, Int.reduceEq, Int.reduceLT, Int.reduceLE, Int.zero_add, nb_ui_s, nb_ui_k, nb_ui_a, sp_min, sp_max, sp_bits]
    refine ih _ ⟨fun k hk => ?_, fun j hj => ?_, sq_fr_up h3 (by simp)⟩
    · by_cases hki : k = i
      · subst hki
        rw [nb_ui_s]
      · rw [nb_ui_k (by omega)]
        exact h1 k (by omega)
    · rw [nb_ui_k (by omega)]
      exact h2 j hj
  · intro J h
    rw [hX12_takeBack_2]
    simp (disch := (first | assumption | omega | exact nb_ix (by omega) (by assumption) (by omega) (by omega) | exact nb_ix (by omega) rfl (by omega) (by omega) | exact nb_ok (by omega) rfl | decide)) only [kX12_takeBack, nb_add, nb_sub, nb_mul, Int.toNat_natCast, mm_kr_s, mm_kv_s, if_pos, if_neg, sq_tn, Int.toNat_zero, Int.reduceToNat, Int.reduceNeg, Nat.reduceAdd, Int.reduceAdd, Int.reduceEq, Int.reduceLT, Int.reduceLE, Int.zero_add, nb_ui_s, nb_ui_k, nb_ui_a, sp_min, sp_max, sp_bits]
    exact sq_ret h
theorem sq_mtroub (hW : sq_MW n c P I s D B g v ev) (hN : sq_mN I N) : mm_rn (d + 2) 194 [.inr (.inr (some 239))] n I L P = some (some (.inl ((sv_am N s : Nat))), n, I, L, P) := by
  obtain ⟨hM, hT, _⟩ := hW
  have ham : sp_mask (fun q => decide (0 < I 257 (16 + q))) s = sv_am N s := by
    unfold sv_am
    exact sp_mask_ext (fun p hp => by rw [hN (16 + p) (by have := hT.1; omega)]) s (Nat.le_refl s) (fun p h1 h2 => by omega)
  rw [sp_mtroubles hM hT.2.1 hT.1, ham]
theorem sq_mhours {k : Nat} (hd : c ≤ d) (hW : sq_MW n c P I s D B g v ev) (hN : sq_mN I N) (hok : sv_ok s N) (hh : N 29 ≤ 100000) (hk : k ≤ 100) :
    sq_X (some (.inl (sw_sm (sw_live ev D B g s) s k N))) n L P (fun I' => sq_mN I' (sw_it (sw_live ev D B g s) k N) ∧ sq_fr [248, 249, 257, 259] I I') (mm_rn (d + 6) 225 [.inr (.inr (some 239)), .inl ((k : Int))] n I L P) := by
  have ok := hW.1.ok
  have hs8 : s ≤ 8 := hW.2.1.1
  have hg5 := hW.2.2.2
  rw [eX12_liveHours]
  simp (disch := (first | assumption | omega | exact nb_ix (by omega) (by assumption) (by omega) (by omega) | exact nb_ix (by omega) rfl (by omega) (by omega) | exact nb_ok (by omega) rfl | decide)) only [kX12_liveHours, nb_add, nb_sub, nb_mul, Int.toNat_natCast, mm_kr_s, mm_kv_s, if_pos, if_neg, sq_tn, Int.toNat_zero, Int.reduceToNat, Int.reduceNeg, Nat.reduceAdd, Int.reduceAdd, Int.reduceEq, Int.reduceLT, Int.reduceLE, Int.zero_add, nb_ui_s, nb_ui_k, nb_ui_a, sp_min, sp_max, sp_bits]
  refine sq_loop (fun i (J : mm_I) => mm_E (d + 5) 225 4 [.inr (.inr (some 239)), .inl ((k : Int)), .inl (sw_sm (sw_live ev D B g s) s i N), .inl ((i : Nat))] [] [] n J L P) (fun i J => sq_mN J (sw_it (sw_live ev D B g s) i N) ∧ sq_fr [248, 249, 257, 259] I J) k (s0 := I) ⟨hN, sq_fr_refl _ _⟩ ?_ ?_
  · intro i J hi ⟨h1, h2⟩ ih
    have lr := sw_sm_rg (ev := ev) (D := D) (B := B) hok hs8 hg5 i
    have lr2 := sv_lost_rg (sw_it_ok (ev := ev) (D := D) (B := B) hok hs8 hg5 i) hs8
    have hW2 := sq_MW_keepf hW h2 (by simp)
    have e4 : sw_sm (sw_live ev D B g s) s i N + sv_lost (sw_it (sw_live ev D B g s) i N) s = sw_sm (sw_live ev D B g s) s (i + 1) N := rfl
    rw [hX12_liveHours_4]
    simp (disch := (first | assumption | omega | exact nb_ix (by omega) (by assumption) (by omega) (by omega) | exact nb_ix (by omega) rfl (by omega) (by omega) | exact nb_ok (by omega) rfl | decide)) only [kX12_liveHours, nb_add, nb_sub, nb_mul, Int.toNat_natCast, mm_kr_s, mm_kv_s, if_pos, if_neg, sq_tn, Int.toNat_zero, Int.reduceToNat, Int.reduceNeg, Nat.reduceAdd, Int.reduceAdd, Int.reduceEq, Int.reduceLT, Int.reduceLE, Int.zero_add, nb_ui_s, nb_ui_k, nb_ui_a, sp_min, sp_max, sp_bits]
    refine sq_kr (sq_mlive hd hW2.1 hW2.2.1 hW2.2.2.1 h1 (sw_it_ok hok hs8 hg5 i) (by rw [sw_it_29]; omega)) (fun K hK => ?_)
    simp (disch := (first | assumption | omega | exact nb_ix (by omega) (by assumption) (by omega) (by omega) | exact nb_ix (by omega) rfl (by omega) (by omega) | exact nb_ok (by omega) rfl | decide)) only [kX12_liveHours, e4, nb_add, nb_sub, nb_mul, Int.toNat_natCast, mm_kr_s, mm_kv_s, if_pos, if_neg, sq_tn, Int.toNat_zero, Int.reduceToNat, Int.reduceNeg, Nat.reduceAdd, Int.reduceAdd, Int.reduceEq, Int.reduceLT, Int.reduceLE, Int.zero_add, nb_ui_s, nb_ui_k, nb_ui_a, sp_min, sp_max, sp_bits]
    exact ih _ ⟨hK.1, sq_fr_trans h2 hK.2 (by simp) (by simp)⟩
  · intro J h
    rw [hX12_liveHours_4]
    simp (disch := (first | assumption | omega | exact nb_ix (by omega) (by assumption) (by omega) (by omega) | exact nb_ix (by omega) rfl (by omega) (by omega) | exact nb_ok (by omega) rfl | decide)) only [kX12_liveHours, nb_add, nb_sub, nb_mul, Int.toNat_natCast, mm_kr_s, mm_kv_s, if_pos, if_neg, sq_tn, Int.toNat_zero, Int.reduceToNat, Int.reduceNeg, Nat.reduceAdd, Int.reduceAdd, Int.reduceEq, Int.reduceLT, Int.reduceLE, Int.zero_add, nb_ui_s, nb_ui_k, nb_ui_a, sp_min, sp_max, sp_bits]
    exact sq_ret h
theorem sq_mcry (hW : sq_MW n c P I s D B g v ev) (hs1 : 0 < s) (hN : sq_mN I N) (hok : sv_ok s N) : sq_X (some (.inl ((sp_pc (sw_m D v s N) : Nat)))) n L P (fun I' => sq_mN I' (sw_hush D v s N) ∧ sq_fr [257] I I') (mm_rn (d + 3) 210 [.inr (.inr (some 239))] n I L P) := by
  obtain ⟨hM, hT, hH, hg5⟩ := hW
  obtain ⟨hs8, hs, hD, hB, hg, hv⟩ := hT
  obtain ⟨q, hq⟩ : ∃ q : Nat, N 24 = (q : Int) := ⟨(N 24).toNat, by have := hok.2.1; omega⟩
  have hqs : q < s := by have := hok.2.1; omega
  have hqn : (N 24).toNat = q := by omega
  have ham : sp_mask (fun q => decide (0 < I 257 (16 + q))) s = sv_am N s := by
    unfold sv_am
    exact sp_mask_ext (fun p hp => by rw [hN (16 + p) (by omega)]) s (Nat.le_refl s) (fun p h1 h2 => by omega)
  have hvm : sp_mask (fun o => decide (I 256 (8 * q + o) ≤ I 253 1)) s = sp_mask (fun o => decide (D (8 * q + o) ≤ v)) s :=
    sp_mask_ext (fun p hp => by rw [(hD (8 * q + p) (by omega)).1, hv]) s (Nat.le_refl s) (fun p h1 h2 => by omega)
  refine ⟨_, sp_mcry (p := q) hM hs hs8 (by omega) (by rw [hN 24 (by omega), hq]) (m := sw_m D v s N) ?_, ?_, ?_⟩
  · rw [ham, hvm]
    unfold sw_m
    rw [hqn]
  · intro j hj
    rw [sp_row_s]
    unfold sp_hush sw_hush
    rw [hN j hj]
    by_cases c1 : 16 ≤ j ∧ j < 24 ∧ Nat.testBit (sw_m D v s N) (j - 16) = true
    · have := sw_m_bit c1.2.2
      rw [if_pos c1, if_pos ⟨c1.1, by omega, c1.2.2⟩]
    · rw [if_neg c1, if_neg (fun q => c1 ⟨q.1, by have := sw_m_bit q.2.2; omega, q.2.2⟩)]
  · intro b hb
    simp at hb
    funext j
    exact sp_row_o hb
set_option maxHeartbeats 1000000 in
theorem sq_mlostBy {m k : Nat} (hd : c ≤ d) (hW : sq_MW n c P I s D B g v ev) (hs1 : 0 < s) (hN : sq_mN I N) (hok : sv_ok s N) (hh : N 29 ≤ 9999) (hm : m ≤ 100) (hk : k ≤ m) :
    sq_X (some (.inl (sw_A ev D B g v s N m k))) n L P (fun I' => sq_mN I' N ∧ sq_fr [248, 249, 257, 259, 261] I I') (mm_rn (d + 7) 226 [.inr (.inr (some 239)), .inl ((m : Int)), .inl ((k : Int))] n I L P) := by
  have ok := hW.1.ok
  have hs8 : s ≤ 8 := hW.2.1.1
  have hg5 := hW.2.2.2
  have lr := sw_sm_rg (ev := ev) (D := D) (B := B) hok hs8 hg5 k
  have hoki := sw_it_ok (ev := ev) (D := D) (B := B) hok hs8 hg5 k
  have h29 := sw_it_29 (ev := ev) (D := D) (B := B) (g := g) (s := s) (N := N) k
  have lr3 := sw_sm_rg (ev := ev) (D := D) (B := B) (sw_hush_ok (D := D) (v := v) hoki) hs8 hg5 (m - k)
  have e6 : (m : Int) - (k : Int) = ((m - k : Nat) : Int) := by omega
  have e5 : sw_sm (sw_live ev D B g s) s k N + sw_sm (sw_live ev D B g s) s (m - k) (sw_hush D v s (sw_it (sw_live ev D B g s) k N)) = sw_A ev D B g v s N m k := rfl
  rw [eX12_lostBy]
  simp (disch := (first | assumption | omega | exact nb_ix (by omega) (by assumption) (by omega) (by omega) | exact nb_ix (by omega) rfl (by omega) (by omega) | exact nb_ok (by omega) rfl | decide)) only [kX12_lostBy, nb_add, nb_sub, nb_mul, Int.toNat_natCast, mm_kr_s, mm_kv_s, if_pos, if_neg, sq_tn, Int.toNat_zero, Int.reduceToNat, Int.reduceNeg, Nat.reduceAdd, Int.reduceAdd, Int.reduceEq, Int.reduceLT, Int.reduceLE, Int.zero_add, nb_ui_s, nb_ui_k, nb_ui_a, sp_min, sp_max, sp_bits]
  refine sq_kv (sq_maside (q := 0) (d := d + 5) hW.1 (by omega)) (fun J hJ => ?_)
  obtain ⟨j1, j2, j3⟩ := hJ
  have hN1 : sq_mN J N := fun j hj => by rw [j3 257 (by decide)]; exact hN j hj
  have hW1 := sq_MW_keepf hW j3 (by simp)
  simp (disch := (first | assumption | omega | exact nb_ix (by omega) (by assumption) (by omega) (by omega) | exact nb_ix (by omega) rfl (by omega) (by omega) | exact nb_ok (by omega) rfl | decide)) only [kX12_lostBy, nb_add, nb_sub, nb_mul, Int.toNat_natCast, mm_kr_s, mm_kv_s, if_pos, if_neg, sq_tn, Int.toNat_zero, Int.reduceToNat, Int.reduceNeg, Nat.reduceAdd, Int.reduceAdd, Int.reduceEq, Int.reduceLT, Int.reduceLE, Int.zero_add, nb_ui_s, nb_ui_k, nb_ui_a, sp_min, sp_max, sp_bits]
  refine sq_kr (sq_mhours hd hW1 hN1 hok (by omega) (by omega)) (fun K hK => ?_)
  have hW2 := sq_MW_keepf hW1 hK.2 (by simp)
  simp (disch := (first | assumption | omega | exact nb_ix (by omega) (by assumption) (by omega) (by omega) | exact nb_ix (by omega) rfl (by omega) (by omega) | exact nb_ok (by omega) rfl | decide)) only [kX12_lostBy, nb_add, nb_sub, nb_mul, Int.toNat_natCast, mm_kr_s, mm_kv_s, if_pos, if_neg, sq_tn, Int.toNat_zero, Int.reduceToNat, Int.reduceNeg, Nat.reduceAdd, Int.reduceAdd, Int.reduceEq, Int.reduceLT, Int.reduceLE, Int.zero_add, nb_ui_s, nb_ui_k, nb_ui_a, sp_min, sp_max, sp_bits]
  refine sq_kr (sq_mcry (d := d + 3) hW2 hs1 hK.1 hoki) (fun M hM => ?_)
  have hW3 := sq_MW_keepf hW2 hM.2 (by simp)
  simp (disch := (first | assumption | omega | exact nb_ix (by omega) (by assumption) (by omega) (by omega) | exact nb_ix (by omega) rfl (by omega) (by omega) | exact nb_ok (by omega) rfl | decide)) only [kX12_lostBy, e6, nb_add, nb_sub, nb_mul, Int.toNat_natCast, mm_kr_s, mm_kv_s, if_pos, if_neg, sq_tn, Int.toNat_zero, Int.reduceToNat, Int.reduceNeg, Nat.reduceAdd, Int.reduceAdd, Int.reduceEq, Int.reduceLT, Int.reduceLE, Int.zero_add, nb_ui_s, nb_ui_k, nb_ui_a, sp_min, sp_max, sp_bits]
  refine sq_kr (sq_mhours hd hW3 hM.1 (sw_hush_ok hoki) (by rw [sw_hush_hi (by omega)]; omega) (by omega)) (fun Q hQ => ?_)
  simp (disch := (first | assumption | omega | exact nb_ix (by omega) (by assumption) (by omega) (by omega) | exact nb_ix (by omega) rfl (by omega) (by omega) | exact nb_ok (by omega) rfl | decide)) only [kX12_lostBy, e5, nb_add, nb_sub, nb_mul, Int.toNat_natCast, mm_kr_s, mm_kv_s, if_pos, if_neg, sq_tn, Int.toNat_zero, Int.reduceToNat, Int.reduceNeg, Nat.reduceAdd, Int.reduceAdd, Int.reduceEq, Int.reduceLT, Int.reduceLE, Int.zero_add, nb_ui_s, nb_ui_k, nb_ui_a, sp_min, sp_max, sp_bits]
  refine sq_kv (sq_mback (q := 0) (d := d + 5) hW.1 (by omega)) (fun R hR => ?_)
  obtain ⟨r1, r2, r3⟩ := hR
  simp (disch := (first | assumption | omega | exact nb_ix (by omega) (by assumption) (by omega) (by omega) | exact nb_ix (by omega) rfl (by omega) (by omega) | exact nb_ok (by omega) rfl | decide)) only [kX12_lostBy, nb_add, nb_sub, nb_mul, Int.toNat_natCast, mm_kr_s, mm_kv_s, if_pos, if_neg, sq_tn, Int.toNat_zero, Int.reduceToNat, Int.reduceNeg, Nat.reduceAdd, Int.reduceAdd, Int.reduceEq, Int.reduceLT, Int.reduceLE, Int.zero_add, nb_ui_s, nb_ui_k, nb_ui_a, sp_min, sp_max, sp_bits]
  refine sq_ret ⟨fun j hj => ?_, ?_⟩
  · by_cases hj3 : j < 30
    · rw [r1 j hj3, hQ.2 261 (by decide), hM.2 261 (by decide), hK.2 261 (by decide), j1 j hj3]
      exact hN j hj
    · rw [r2 j (by omega), hQ.1 j hj, sw_it_hi hs8 (by omega), sw_hush_hi (by omega), sw_it_hi hs8 (by omega)]
  · intro b hb
    simp at hb
    rw [r3 b (by simp; omega), hQ.2 b (by simp; omega), hM.2 b (by simp; omega), hK.2 b (by simp; omega), j3 b (by simp; omega)]
end MA
