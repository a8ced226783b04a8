/-! which trouble it was: the model -/
section MQ2
variable {n c s d ck : Nat} {I L : mm_I} {P : mm_P} {D : Nat → Int} {B : Nat → Nat} {g v : Int} {ev : sv_E} {N W cm co : Nat → Int} {cp ch : Nat → Nat}
theorem sq_misCode {k : Nat} (hM : sp_M n P) (hs : I 239 26 = (s : Int)) (hk : k < 100000) : mm_rn (d + 1) 241 [.inr (.inr (some 239)), .inl ((k : Int))] n I L P = some (some (.inl (if sw_isC s k = true then 1 else 0)), n, I, L, P) := by
  have ok := hM.ok
  have q1 : k < 2147483648 := by omega
  have q2 : k / 10 < 2147483648 := by omega
  rw [eX12_isCode]
  by_cases c1 : k / 100 < s
  · by_cases c2 : k / 10 % 10 ≤ 2
    · by_cases c3 : 0 < k % 10
      · have : sw_isC s k = true := by unfold sw_isC; simp [c1, c2, c3]
        rw [if_pos this]
        simp (disch := (first | assumption | omega | exact nb_ix (by omega) (by assumption) (by omega) (by omega) | exact nb_ix (by omega) rfl (by omega) (by omega) | exact nb_ok (by omega) rfl | decide)) only [kX12_isCode, sq_d100, sq_d10, sq_m10, hs, nb_add, nb_sub, nb_mul, Int.toNat_natCast, mm_kr_s, mm_kv_s, if_pos, if_neg, sq_tn, Int.toNat_zero, Int.reduceToNat, Int.reduceNeg, Nat.reduceAdd, Int.reduceAdd, Int.reduceEq, Int.reduceLT, Int.reduceLE, Int.zero_add, nb_ui_s, nb_ui_k, nb_ui_a, sp_min, sp_max, sp_bits]
      · have : ¬ sw_isC s k = true := by unfold sw_isC; simp; omega
        rw [if_neg this]
        simp (disch := (first | assumption | omega | exact nb_ix (by omega) (by assumption) (by omega) (by omega) | exact nb_ix (by omega) rfl (by omega) (by omega) | exact nb_ok (by omega) rfl | decide)) only [kX12_isCode, sq_d100, sq_d10, sq_m10, hs, nb_add, nb_sub, nb_mul, Int.toNat_natCast, mm_kr_s, mm_kv_s, if_pos, if_neg, sq_tn, Int.toNat_zero, Int.reduceToNat, Int.reduceNeg, Nat.reduceAdd, Int.reduceAdd, Int.reduceEq, Int.reduceLT, Int.reduceLE, Int.zero_add, nb_ui_s, nb_ui_k, nb_ui_a, sp_min, sp_max, sp_bits]
    · have : ¬ sw_isC s k = true := by unfold sw_isC; simp; omega
      rw [if_neg this]
      simp (disch := (first | assumption | omega | exact nb_ix (by omega) (by assumption) (by omega) (by omega) | exact nb_ix (by omega) rfl (by omega) (by omega) | exact nb_ok (by omega) rfl | decide)) only [kX12_isCode, sq_d100, sq_d10, sq_m10, hs, nb_add, nb_sub, nb_mul, Int.toNat_natCast, mm_kr_s, mm_kv_s, if_pos, if_neg, sq_tn, Int.toNat_zero, Int.reduceToNat, Int.reduceNeg, Nat.reduceAdd, Int.reduceAdd, Int.reduceEq, Int.reduceLT, Int.reduceLE, Int.zero_add, nb_ui_s, nb_ui_k, nb_ui_a, sp_min, sp_max, sp_bits]
  · have : ¬ sw_isC s k = true := by unfold sw_isC; simp; omega
    rw [if_neg this]
    simp (disch := (first | assumption | omega | exact nb_ix (by omega) (by assumption) (by omega) (by omega) | exact nb_ix (by omega) rfl (by omega) (by omega) | exact nb_ok (by omega) rfl | decide)) only [kX12_isCode, sq_d100, sq_d10, sq_m10, hs, nb_add, nb_sub, nb_mul, Int.toNat_natCast, mm_kr_s, mm_kv_s, if_pos, if_neg, sq_tn, Int.toNat_zero, Int.reduceToNat, Int.reduceNeg, Nat.reduceAdd, Int.reduceAdd, Int.reduceEq, Int.reduceLT, Int.reduceLE, Int.zero_add, nb_ui_s, nb_ui_k, nb_ui_a, sp_min, sp_max, sp_bits]
set_option maxHeartbeats 2000000 in
theorem sq_mtrail {k : Nat} (hd : c ≤ d) (hW : sq_MW n c P I s D B g v ev) (hN : sq_mN I N) (hWt : ∀ p, p < s → I 254 (2 * p) = W p) (hWr : ∀ p, p < s → 0 ≤ W p ∧ W p ≤ 99) (hk : sw_isC s k = true) :
    sq_X none n L P (fun I' => (∀ h q, h ≤ 20 → q < 8 → I' 266 (8 * h + q) = sw_it (sw_live ev D B g s) h (sw_T0 s W g N k) q) ∧ sq_mN I' N ∧ sq_fr [248, 249, 257, 259, 261, 266] I I') (mm_rn (d + 6) 240 [.inr (.inr (some 239)), .inl ((k : Int))] n I L P) := by
  have hM := hW.1
  have ok := hM.ok
  have hs8 := hW.2.1.1
  have hg5 := hW.2.2.2
  have hok := sw_T0_ok (M := N) (cd := k) hs8 hWr hg5 hk
  have hk2 := hk
  unfold sw_isC at hk2
  simp at hk2
  have q1 : k < 2147483648 := by omega
  have q2 : k / 10 < 2147483648 := by omega
  have hT30 : ∀ j, 30 ≤ j → sw_T0 s W g N k j = N j := by
    intro j hj
    unfold sw_T0 sw_beg sw_told
    rw [if_neg (by omega), if_neg (by omega), if_neg (by omega), if_neg (by omega), if_neg (by omega), if_neg (by omega), if_neg (by omega)]
  have h29 : sw_T0 s W g N k 29 = 0 := by
    unfold sw_T0 sw_beg
    rw [if_neg (by omega), if_neg (by omega)]
    rfl
  have hP := hM.2
  have hn := hM.1
  rw [eX12_layTrail]
  simp (disch := (first | assumption | omega | exact nb_ix (by omega) (by assumption) (by omega) (by omega) | exact nb_ix (by omega) rfl (by omega) (by omega) | exact nb_ok (by omega) rfl | decide)) only [kX12_layTrail, nb_add, nb_sub, nb_mul, Int.toNat_natCast, mm_kr_s, mm_kv_s, if_pos, if_neg, sq_tn, Int.toNat_zero, Int.reduceToNat, Int.reduceNeg, Nat.reduceAdd, Int.reduceAdd, Int.reduceEq, Int.reduceLT, Int.reduceLE, Int.zero_add, nb_ui_s, nb_ui_k, nb_ui_a, sp_min, sp_max, sp_bits]
  refine sq_kv (sq_maside (q := 0) (d := d + 4) hM (by omega)) (fun J0 hJ => ?_)
  obtain ⟨j1, j2, j3⟩ := hJ
  have hW1 := sq_MW_keepf hW j3 (by simp)
  simp (disch := (first | assumption | omega | exact nb_ix (by omega) (by assumption) (by omega) (by omega) | exact nb_ix (by omega) rfl (by omega) (by omega) | exact nb_ok (by omega) rfl | decide)) only [kX12_layTrail, nb_add, nb_sub, nb_mul, Int.toNat_natCast, mm_kr_s, mm_kv_s, if_pos, if_neg, sq_tn, Int.toNat_zero, Int.reduceToNat, Int.reduceNeg, Nat.reduceAdd, Int.reduceAdd, Int.reduceEq, Int.reduceLT, Int.reduceLE, Int.zero_add, nb_ui_s, nb_ui_k, nb_ui_a, sp_min, sp_max, sp_bits]
  refine sq_kv (sq_mtold (d := d + 4) (N := N) (W := W) (g := g) hM hs8 hW1.2.1.2.1 hW1.2.1.2.2.2.2.1 (by rw [j3 254 (by decide)]; exact hWt) (fun j _ hj => by rw [j3 257 (by decide)]; exact hN j hj)) (fun J1 hJ1 => ?_)
  have hW2 := sq_MW_keepf hW1 hJ1.2 (by simp)
  simp (disch := (first | assumption | omega | exact nb_ix (by omega) (by assumption) (by omega) (by omega) | exact nb_ix (by omega) rfl (by omega) (by omega) | exact nb_ok (by omega) rfl | decide)) only [kX12_layTrail, sq_d100, sq_d10, sq_m10, nb_add, nb_sub, nb_mul, Int.toNat_natCast, mm_kr_s, mm_kv_s, if_pos, if_neg, sq_tn, Int.toNat_zero, Int.reduceToNat, Int.reduceNeg, Nat.reduceAdd, Int.reduceAdd, Int.reduceEq, Int.reduceLT, Int.reduceLE, Int.zero_add, nb_ui_s, nb_ui_k, nb_ui_a, sp_min, sp_max, sp_bits]
  refine sq_kv (sq_mbeg (d := d + 4) hM (show k / 100 < 8 by omega) hJ1.1) (fun J2 hJ2 => ?_)
  have hW3 := sq_MW_keepf hW2 hJ2.2 (by simp)
  have hJf : sq_fr [248, 249, 257, 259, 261, 266] I J2 := by
    intro b hb
    simp at hb
    rw [hJ2.2 b (by simp; omega), hJ1.2 b (by simp; omega), j3 b (by simp; omega)]
  have hJa : ∀ j, j < 30 → J2 261 j = N j := by
    intro j hj
    rw [hJ2.2 261 (by decide), hJ1.2 261 (by decide)]
    have := j1 j hj
    rw [show 30 * 0 + j = j by omega] at this
    rw [this]
    exact hN j (by omega)
  simp (disch := (first | assumption | omega | exact nb_ix (by omega) (by assumption) (by omega) (by omega) | exact nb_ix (by omega) rfl (by omega) (by omega) | exact nb_ok (by omega) rfl | decide)) only [kX12_layTrail, nb_add, nb_sub, nb_mul, Int.toNat_natCast, mm_kr_s, mm_kv_s, if_pos, if_neg, sq_tn, Int.toNat_zero, Int.reduceToNat, Int.reduceNeg, Nat.reduceAdd, Int.reduceAdd, Int.reduceEq, Int.reduceLT, Int.reduceLE, Int.zero_add, nb_ui_s, nb_ui_k, nb_ui_a, sp_min, sp_max, sp_bits]
  refine sq_loop2 (fun i (x : mm_V) (J : mm_I) => mm_E (d + 5) 240 30 [.inr (.inr (some 239)), .inl ((k : Int)), .inl ((i : Nat)), x] [] [] n J L P) (fun i _ J => sq_mN J (sw_it (sw_live ev D B g s) i (sw_T0 s W g N k)) ∧ sq_fr [248, 249, 257, 259, 261, 266] I J ∧ (∀ j, j < 30 → J 261 j = N j) ∧ (∀ h q, h < i → q < 8 → J 266 (8 * h + q) = sw_it (sw_live ev D B g s) h (sw_T0 s W g N k) q)) 21 (s0 := mm_junk) (t0 := J2) ⟨hJ2.1, hJf, hJa, fun h q hh => by omega⟩ ?_ ?_
  · intro i x J hi ⟨h1, h2, h3, h4⟩ ih
    have hoki := sw_it_ok (ev := ev) (D := D) (B := B) hok hs8 hg5 i
    have h29i := sw_it_29 (ev := ev) (D := D) (B := B) (g := g) (s := s) (N := sw_T0 s W g N k) i
    rw [h29] at h29i
    rw [hX12_layTrail_30]
    simp (disch := (first | assumption | omega | exact nb_ix (by omega) (by assumption) (by omega) (by omega) | exact nb_ix (by omega) rfl (by omega) (by omega) | exact nb_ok (by omega) rfl | decide)) only [kX12_layTrail, nb_add, nb_sub, nb_mul, Int.toNat_natCast, mm_kr_s, mm_kv_s, if_pos, if_neg, sq_tn, Int.toNat_zero, Int.reduceToNat, Int.reduceNeg, Nat.reduceAdd, Int.reduceAdd, Int.reduceEq, Int.reduceLT, Int.reduceLE, Int.zero_add, nb_ui_s, nb_ui_k, nb_ui_a, sp_min, sp_max, sp_bits]
    refine sq_loop (fun p (K : mm_I) => mm_E (d + 5) 240 38 [.inr (.inr (some 239)), .inl ((k : Int)), .inl ((i : Nat)), .inl ((p : Nat))] [] [] n K L P) (fun p K => sq_fr [266] J K ∧ (∀ h q, h < i → q < 8 → K 266 (8 * h + q) = sw_it (sw_live ev D B g s) h (sw_T0 s W g N k) q) ∧ (∀ q, q < p → K 266 (8 * i + q) = sw_it (sw_live ev D B g s) i (sw_T0 s W g N k) q)) 8 (s0 := J) ⟨sq_fr_refl _ _, h4, fun q hq => by omega⟩ ?_ ?_
    · intro p K hp ⟨m1, m2, m3⟩ ih2
      have e57 : K 257 p = sw_it (sw_live ev D B g s) i (sw_T0 s W g N k) p := by rw [m1 257 (by decide)]; exact h1 p (by omega)
      have e4 : (8 * (i : Int) + (p : Int)).toNat = 8 * i + p := by omega
      rw [hX12_layTrail_38]
      simp (disch := (first | assumption | omega | exact nb_ix (by omega) (by assumption) (by omega) (by omega) | exact nb_ix (by omega) rfl (by omega) (by omega) | exact nb_ok (by omega) rfl | decide)) only [kX12_layTrail, hP, e57, e4, nb_add, nb_sub, nb_mul, Int.toNat_natCast, mm_kr_s, mm_kv_s, if_pos, if_neg, sq_tn, Int.toNat_zero, Int.reduceToNat, Int.reduceNeg, Nat.reduceAdd, Int.reduceAdd, Int.reduceEq, Int.reduceLT, Int.reduceLE, Int.zero_add, nb_ui_s, nb_ui_k, nb_ui_a, sp_min, sp_max, sp_bits]
      refine ih2 _ ⟨?_, fun h q hh hq => ?_, fun q hq => ?_⟩
      · exact sq_fr_up m1 (by simp)
      · rw [nb_ui_k (by omega)]; exact m2 h q hh hq
      · by_cases hqp : q = p
        · subst hqp; rw [nb_ui_s]
        · rw [nb_ui_k (by omega)]; exact m3 q (by omega)
    · intro K ⟨m1, m2, m3⟩
      have hKf : sq_fr [248, 249, 257, 259, 261, 266] I K := sq_fr_trans h2 m1 (fun _ h => h) (by simp)
      have hW4 := sq_MW_keepf hW hKf (by simp)
      have hNK : sq_mN K (sw_it (sw_live ev D B g s) i (sw_T0 s W g N k)) := fun j hj => by rw [m1 257 (by decide)]; exact h1 j hj
      rw [hX12_layTrail_38]
      simp (disch := (first | assumption | omega | exact nb_ix (by omega) (by assumption) (by omega) (by omega) | exact nb_ix (by omega) rfl (by omega) (by omega) | exact nb_ok (by omega) rfl | decide)) only [kX12_layTrail, nb_add, nb_sub, nb_mul, Int.toNat_natCast, mm_kr_s, mm_kv_s, if_pos, if_neg, sq_tn, Int.toNat_zero, Int.reduceToNat, Int.reduceNeg, Nat.reduceAdd, Int.reduceAdd, Int.reduceEq, Int.reduceLT, Int.reduceLE, Int.zero_add, nb_ui_s, nb_ui_k, nb_ui_a, sp_min, sp_max, sp_bits]
      refine sq_kr (sq_mlive hd hW4.1 hW4.2.1 hW4.2.2.1 hNK hoki (by omega)) (fun Q hQ => ?_)
      simp (disch := (first | assumption | omega | exact nb_ix (by omega) (by assumption) (by omega) (by omega) | exact nb_ix (by omega) rfl (by omega) (by omega) | exact nb_ok (by omega) rfl | decide)) only [kX12_layTrail, nb_add, nb_sub, nb_mul, Int.toNat_natCast, mm_kr_s, mm_kv_s, if_pos, if_neg, sq_tn, Int.toNat_zero, Int.reduceToNat, Int.reduceNeg, Nat.reduceAdd, Int.reduceAdd, Int.reduceEq, Int.reduceLT, Int.reduceLE, Int.zero_add, nb_ui_s, nb_ui_k, nb_ui_a, sp_min, sp_max, sp_bits]
      refine ih _ _ ⟨hQ.1, sq_fr_trans hKf hQ.2 (fun _ h => h) (by simp), fun j hj => ?_, fun h q hh hq => ?_⟩
      · rw [hQ.2 261 (by decide), m1 261 (by decide)]
        exact h3 j hj
      · rw [hQ.2 266 (by decide)]
        by_cases hhi : h = i
        · subst hhi; exact m3 q hq
        · exact m2 h q (by omega) hq
  · intro x J ⟨h1, h2, h3, h4⟩
    rw [hX12_layTrail_30]
    simp (disch := (first | assumption | omega | exact nb_ix (by omega) (by assumption) (by omega) (by omega) | exact nb_ix (by omega) rfl (by omega) (by omega) | exact nb_ok (by omega) rfl | decide)) only [kX12_layTrail, nb_add, nb_sub, nb_mul, Int.toNat_natCast, mm_kr_s, mm_kv_s, if_pos, if_neg, sq_tn, Int.toNat_zero, Int.reduceToNat, Int.reduceNeg, Nat.reduceAdd, Int.reduceAdd, Int.reduceEq, Int.reduceLT, Int.reduceLE, Int.zero_add, nb_ui_s, nb_ui_k, nb_ui_a, sp_min, sp_max, sp_bits]
    refine sq_kv (sq_mback (q := 0) (d := d + 4) hM (by omega)) (fun R hR => ?_)
    obtain ⟨r1, r2, r3⟩ := hR
    simp (disch := (first | assumption | omega | exact nb_ix (by omega) (by assumption) (by omega) (by omega) | exact nb_ix (by omega) rfl (by omega) (by omega) | exact nb_ok (by omega) rfl | decide)) only [kX12_layTrail, nb_add, nb_sub, nb_mul, Int.toNat_natCast, mm_kr_s, mm_kv_s, if_pos, if_neg, sq_tn, Int.toNat_zero, Int.reduceToNat, Int.reduceNeg, Nat.reduceAdd, Int.reduceAdd, Int.reduceEq, Int.reduceLT, Int.reduceLE, Int.zero_add, nb_ui_s, nb_ui_k, nb_ui_a, sp_min, sp_max, sp_bits]
    refine sq_ret ⟨fun h q hh hq => ?_, fun j hj => ?_, ?_⟩
    · rw [r3 266 (by decide)]
      exact h4 h q (by omega) hq
    · by_cases c : j < 30
      · rw [r1 j c, show 30 * 0 + j = j by omega, h3 j c]
      · rw [r2 j (by omega), h1 j hj, sw_it_hi hs8 (by omega), hT30 j (by omega)]
    · intro b hb
      simp at hb
      rw [r3 b (by simp; omega), h2 b (by simp; omega)]
theorem sq_MK_keep {I I' : mm_I} (h : sq_MK I ck cp ch cm co) (h1 : I' 239 42 = I 239 42) (h2 : ∀ b, 262 ≤ b → b ≤ 265 → I' b = I b) : sq_MK I' ck cp ch cm co := by
  unfold sq_MK at h ⊢
  rw [h1, h2 262 (by omega) (by omega), h2 263 (by omega) (by omega), h2 264 (by omega) (by omega), h2 265 (by omega) (by omega)]
  exact h
set_option maxHeartbeats 1000000 in
theorem sq_misFit {k : Nat} (hd : c ≤ d) (hW : sq_MW n c P I s D B g v ev) (hN : sq_mN I N) (hWt : ∀ p, p < s → I 254 (2 * p) = W p) (hWr : ∀ p, p < s → 0 ≤ W p ∧ W p ≤ 99) (hc : sq_ck s ck cp ch cm co) (hK : sq_MK I ck cp ch cm co) (hk : k < 100000) :
    sq_X (some (.inl (if (sw_isC s k && sw_F (sw_live ev D B g s) s W g N ck cp ch cm co k) = true then 1 else 0))) n L P (fun I' => ((sw_isC s k && sw_F (sw_live ev D B g s) s W g N ck cp ch cm co k) = true → ∀ h q, h ≤ 20 → q < 8 → I' 266 (8 * h + q) = sw_it (sw_live ev D B g s) h (sw_T0 s W g N k) q) ∧ sq_mN I' N ∧ sq_fr [248, 249, 257, 259, 261, 266] I I') (mm_rn (d + 7) 242 [.inr (.inr (some 239)), .inl ((k : Int))] n I L P) := by
  have hM := hW.1
  have ok := hM.ok
  have hs8 := hW.2.1.1
  have hic := sq_misCode (d := d + 5) (L := L) hM hW.2.1.2.1 hk
  have hP := hM.2
  have hn := hM.1
  rw [eX12_isFit]
  cases hC : sw_isC s k with
  | false =>
    rw [hC] at hic
    simp (disch := (first | assumption | omega | exact nb_ix (by omega) (by assumption) (by omega) (by omega) | exact nb_ix (by omega) rfl (by omega) (by omega) | exact nb_ok (by omega) rfl | decide)) only [kX12_isFit, hic, Bool.false_and, nb_add, nb_sub, nb_mul, Int.toNat_natCast, mm_kr_s, mm_kv_s, if_pos, if_neg, sq_tn, Int.toNat_zero, Int.reduceToNat, Int.reduceNeg, Nat.reduceAdd, Int.reduceAdd, Int.reduceEq, Int.reduceLT, Int.reduceLE, Int.zero_add, nb_ui_s, nb_ui_k, nb_ui_a, sp_min, sp_max, sp_bits]
    exact sq_ret ⟨fun h => by simp at h, hN, sq_fr_refl _ _⟩
  | true =>
    rw [hC] at hic
    simp (disch := (first | assumption | omega | exact nb_ix (by omega) (by assumption) (by omega) (by omega) | exact nb_ix (by omega) rfl (by omega) (by omega) | exact nb_ok (by omega) rfl | decide)) only [kX12_isFit, hic, Bool.true_and, nb_add, nb_sub, nb_mul, Int.toNat_natCast, mm_kr_s, mm_kv_s, if_pos, if_neg, sq_tn, Int.toNat_zero, Int.reduceToNat, Int.reduceNeg, Nat.reduceAdd, Int.reduceAdd, Int.reduceEq, Int.reduceLT, Int.reduceLE, Int.zero_add, nb_ui_s, nb_ui_k, nb_ui_a, sp_min, sp_max, sp_bits]
    refine sq_kv (sq_mtrail hd hW hN hWt hWr hC) (fun J hJ => ?_)
    obtain ⟨j1, j2, j3⟩ := hJ
    obtain ⟨k1, k2⟩ := sq_MK_keep (I' := J) hK (by rw [j3 239 (by decide)]) (fun b h1 h2 => j3 b (by simp; omega))
    obtain ⟨c1, c2⟩ := hc
    simp (disch := (first | assumption | omega | exact nb_ix (by omega) (by assumption) (by omega) (by omega) | exact nb_ix (by omega) rfl (by omega) (by omega) | exact nb_ok (by omega) rfl | decide)) only [kX12_isFit, nb_add, nb_sub, nb_mul, Int.toNat_natCast, mm_kr_s, mm_kv_s, if_pos, if_neg, sq_tn, Int.toNat_zero, Int.reduceToNat, Int.reduceNeg, Nat.reduceAdd, Int.reduceAdd, Int.reduceEq, Int.reduceLT, Int.reduceLE, Int.zero_add, nb_ui_s, nb_ui_k, nb_ui_a, sp_min, sp_max, sp_bits]
    refine sq_loop (fun i (_ : Unit) => mm_E (d + 6) 242 17 [.inr (.inr (some 239)), .inl ((k : Int)), .inl ((i : Nat))] [] [] n J L P) (fun i _ => sw_all (sw_cl (sw_live ev D B g s) (sw_T0 s W g N k) cp ch cm co) i = true) ck (s0 := ()) rfl ?_ ?_
    · intro i _ hi h1 ih
      obtain ⟨b1, b2, b3, b4⟩ := k2 i hi
      obtain ⟨d1, d2, d3, d4⟩ := c2 i hi
      have hw := j1 (ch i) (cp i) (by omega) (by omega)
      have e4 : (8 * (ch i : Int) + (cp i : Int)).toNat = 8 * ch i + cp i := by omega
      have goon : (if cm i ≤ sw_it (sw_live ev D B g s) (ch i) (sw_T0 s W g N k) (cp i) then (1 : Int) else 0) = co i → sw_all (sw_cl (sw_live ev D B g s) (sw_T0 s W g N k) cp ch cm co) (i + 1) = true := by
        intro hh
        unfold sw_all
        rw [h1]
        unfold sw_cl
        rw [decide_eq_true hh]
        rfl
      have stop : ¬ (if cm i ≤ sw_it (sw_live ev D B g s) (ch i) (sw_T0 s W g N k) (cp i) then (1 : Int) else 0) = co i → ¬ sw_F (sw_live ev D B g s) s W g N ck cp ch cm co k = true := by
        intro hh h2
        unfold sw_F at h2
        rw [sw_all_iff] at h2
        have := h2 i hi
        unfold sw_cl at this
        exact hh (of_decide_eq_true this)
      rw [hX12_isFit_17]
      by_cases e2 : cm i ≤ sw_it (sw_live ev D B g s) (ch i) (sw_T0 s W g N k) (cp i)
      · by_cases e3 : co i = 1
        · have := ih () (goon (by rw [if_pos e2, e3]))
          simp (disch := (first | assumption | omega | exact nb_ix (by omega) (by assumption) (by omega) (by omega) | exact nb_ix (by omega) rfl (by omega) (by omega) | exact nb_ok (by omega) rfl | decide)) only [kX12_isFit, hP, k1, b1, b2, b3, b4, e4, hw, e3, nb_add, nb_sub, nb_mul, Int.toNat_natCast, mm_kr_s, mm_kv_s, if_pos, if_neg, sq_tn, Int.toNat_zero, Int.reduceToNat, Int.reduceNeg, Nat.reduceAdd, Int.reduceAdd, Int.reduceEq, Int.reduceLT, Int.reduceLE, Int.zero_add, nb_ui_s, nb_ui_k, nb_ui_a, sp_min, sp_max, sp_bits]
          exact this
        · have hst := stop (by rw [if_pos e2]; intro q; exact e3 q.symm)
          rw [if_neg hst]
          have e5 : co i = 0 := by omega
          simp (disch := (first | assumption | omega | exact nb_ix (by omega) (by assumption) (by omega) (by omega) | exact nb_ix (by omega) rfl (by omega) (by omega) | exact nb_ok (by omega) rfl | decide)) only [kX12_isFit, hP, k1, b1, b2, b3, b4, e4, hw, e5, nb_add, nb_sub, nb_mul, Int.toNat_natCast, mm_kr_s, mm_kv_s, if_pos, if_neg, sq_tn, Int.toNat_zero, Int.reduceToNat, Int.reduceNeg, Nat.reduceAdd, Int.reduceAdd, Int.reduceEq, Int.reduceLT, Int.reduceLE, Int.zero_add, nb_ui_s, nb_ui_k, nb_ui_a, sp_min, sp_max, sp_bits]
          exact sq_ret ⟨fun h => absurd h hst, j2, j3⟩
      · by_cases e3 : co i = 1
        · have hst := stop (by rw [if_neg e2, e3]; decide)
          rw [if_neg hst]
          simp (disch := (first | assumption | omega | exact nb_ix (by omega) (by assumption) (by omega) (by omega) | exact nb_ix (by omega) rfl (by omega) (by omega) | exact nb_ok (by omega) rfl | decide)) only [kX12_isFit, hP, k1, b1, b2, b3, b4, e4, hw, e3, nb_add, nb_sub, nb_mul, Int.toNat_natCast, mm_kr_s, mm_kv_s, if_pos, if_neg, sq_tn, Int.toNat_zero, Int.reduceToNat, Int.reduceNeg, Nat.reduceAdd, Int.reduceAdd, Int.reduceEq, Int.reduceLT, Int.reduceLE, Int.zero_add, nb_ui_s, nb_ui_k, nb_ui_a, sp_min, sp_max, sp_bits]
          exact sq_ret ⟨fun h => absurd h hst, j2, j3⟩
        · have e5 : co i = 0 := by omega
          have := ih () (goon (by rw [if_neg e2, e5]))
          simp (disch := (first | assumption | omega | exact nb_ix (by omega) (by assumption) (by omega) (by omega) | exact nb_ix (by omega) rfl (by omega) (by omega) | exact nb_ok (by omega) rfl | decide)) only [kX12_isFit, hP, k1, b1, b2, b3, b4, e4, hw, e5, nb_add, nb_sub, nb_mul, Int.toNat_natCast, mm_kr_s, mm_kv_s, if_pos, if_neg, sq_tn, Int.toNat_zero, Int.reduceToNat, Int.reduceNeg, Nat.reduceAdd, Int.reduceAdd, Int.reduceEq, Int.reduceLT, Int.reduceLE, Int.zero_add, nb_ui_s, nb_ui_k, nb_ui_a, sp_min, sp_max, sp_bits]
          exact this
    · intro _ h1
      have hF : sw_F (sw_live ev D B g s) s W g N ck cp ch cm co k = true := h1
      rw [hX12_isFit_17, if_pos hF]
      simp (disch := (first | assumption | omega | exact nb_ix (by omega) (by assumption) (by omega) (by omega) | exact nb_ix (by omega) rfl (by omega) (by omega) | exact nb_ok (by omega) rfl | decide)) only [kX12_isFit, k1, nb_add, nb_sub, nb_mul, Int.toNat_natCast, mm_kr_s, mm_kv_s, if_pos, if_neg, sq_tn, Int.toNat_zero, Int.reduceToNat, Int.reduceNeg, Nat.reduceAdd, Int.reduceAdd, Int.reduceEq, Int.reduceLT, Int.reduceLE, Int.zero_add, nb_ui_s, nb_ui_k, nb_ui_a, sp_min, sp_max, sp_bits]
      exact sq_ret ⟨fun _ => j1, j2, j3⟩
theorem om_fits (hd : c ≤ d) (hC : sq_MM n c P I s D B g v ev N) (hWt : ∀ p, p < s → I 254 (2 * p) = W p) (hWr : ∀ p, p < s → 0 ≤ W p ∧ W p ≤ 99) (hc : sq_ck s ck cp ch cm co) (hK : sq_MK I ck cp ch cm co) (x : Int) : sq_X (some (.inl (sa_fits (sw_F (sw_live ev D B g s) s W g N ck cp ch cm co) s x))) n L P (fun I' => sq_mN I' N ∧ sq_fr [248, 249, 257, 259, 261, 266] I I') (mm_rn (d + 10) 243 [.inr (.inr (some 239)), .inl x] n I L P) := by
  obtain ⟨hW, hN, hok, hh⟩ := hC
  have ok := hW.1.ok
  have hs : I 239 26 = (s : Int) := hW.2.1.2.1
  have hs8 := hW.2.1.1
  rw [eX12_fits]
  by_cases h0 : s = 0
  · have : sa_fits (sw_F (sw_live ev D B g s) s W g N ck cp ch cm co) s x = -1 := if_neg (by omega)
    rw [this]
    simp (disch := (first | assumption | omega | exact nb_ix (by omega) (by assumption) (by omega) (by omega) | exact nb_ix (by omega) rfl (by omega) (by omega) | exact nb_ok (by omega) rfl | decide)) only [kX12_fits, hs, nb_add, nb_sub, nb_mul, Int.toNat_natCast, mm_kr_s, mm_kv_s, if_pos, if_neg, sq_tn, Int.toNat_zero, Int.reduceToNat, Int.reduceNeg, Nat.reduceAdd, Int.reduceAdd, Int.reduceEq, Int.reduceLT, Int.reduceLE, Int.zero_add, nb_ui_s, nb_ui_k, nb_ui_a, sp_min, sp_max, sp_bits]
    exact sq_ret ⟨hN, sq_fr_refl _ _⟩
  by_cases hx : x < -1
  · have : sa_fits (sw_F (sw_live ev D B g s) s W g N ck cp ch cm co) s x = -1 := if_neg (by omega)
    rw [this]
    simp (disch := (first | assumption | omega | exact nb_ix (by omega) (by assumption) (by omega) (by omega) | exact nb_ix (by omega) rfl (by omega) (by omega) | exact nb_ok (by omega) rfl | decide)) only [kX12_fits, hs, nb_add, nb_sub, nb_mul, Int.toNat_natCast, mm_kr_s, mm_kv_s, if_pos, if_neg, sq_tn, Int.toNat_zero, Int.reduceToNat, Int.reduceNeg, Nat.reduceAdd, Int.reduceAdd, Int.reduceEq, Int.reduceLT, Int.reduceLE, Int.zero_add, nb_ui_s, nb_ui_k, nb_ui_a, sp_min, sp_max, sp_bits]
    exact sq_ret ⟨hN, sq_fr_refl _ _⟩
  have e1 : sa_fits (sw_F (sw_live ev D B g s) s W g N ck cp ch cm co) s x = sw_pl (fun k => sw_isC s k && sw_F (sw_live ev D B g s) s W g N ck cp ch cm co k) x (List.range' 0 (100 * s)) 0 := by
    unfold sa_fits
    rw [if_pos (by omega), sw_pl_filter, sw_codes s (by omega)]
  rw [e1]
  simp (disch := (first | assumption | omega | exact nb_ix (by omega) (by assumption) (by omega) (by omega) | exact nb_ix (by omega) rfl (by omega) (by omega) | exact nb_ok (by omega) rfl | decide)) only [kX12_fits, hs, nb_add, nb_sub, nb_mul, Int.toNat_natCast, mm_kr_s, mm_kv_s, if_pos, if_neg, sq_tn, Int.toNat_zero, Int.reduceToNat, Int.reduceNeg, Nat.reduceAdd, Int.reduceAdd, Int.reduceEq, Int.reduceLT, Int.reduceLE, Int.zero_add, nb_ui_s, nb_ui_k, nb_ui_a, sp_min, sp_max, sp_bits]
  refine sq_loop2 (fun k (f : Nat) (J : mm_I) => mm_E (d + 9) 243 18 [.inr (.inr (some 239)), .inl x, .inl ((f : Int)), .inl ((k : Nat))] [] [] n J L P) (fun k f J => sq_mN J N ∧ sq_fr [248, 249, 257, 259, 261, 266] I J ∧ f ≤ k ∧ sw_pl (fun k => sw_isC s k && sw_F (sw_live ev D B g s) s W g N ck cp ch cm co k) x (List.range' 0 (100 * s)) 0 = sw_pl (fun k => sw_isC s k && sw_F (sw_live ev D B g s) s W g N ck cp ch cm co k) x (List.range' k (100 * s - k)) f) (100 * s) (s0 := 0) (t0 := I) ⟨hN, sq_fr_refl _ _, Nat.le_refl _, rfl⟩ ?_ ?_
  · intro k f J hk ⟨h1, h2, h3, h4⟩ ih
    have hW2 := sq_MW_keepf hW h2 (by simp)
    have e239 : J 239 = I 239 := h2 239 (by decide)
    have er : List.range' k (100 * s - k) = k :: List.range' (k + 1) (100 * s - (k + 1)) := by
      rw [show 100 * s - k = (100 * s - (k + 1)) + 1 by omega, List.range'_succ]
    rw [er] at h4
    rw [hX12_fits_18]
    simp (disch := (first | assumption | omega | exact nb_ix (by omega) (by assumption) (by omega) (by omega) | exact nb_ix (by omega) rfl (by omega) (by omega) | exact nb_ok (by omega) rfl | decide)) only [kX12_fits, e239, hs, nb_add, nb_sub, nb_mul, Int.toNat_natCast, mm_kr_s, mm_kv_s, if_pos, if_neg, sq_tn, Int.toNat_zero, Int.reduceToNat, Int.reduceNeg, Nat.reduceAdd, Int.reduceAdd, Int.reduceEq, Int.reduceLT, Int.reduceLE, Int.zero_add, nb_ui_s, nb_ui_k, nb_ui_a, sp_min, sp_max, sp_bits]
    refine sq_kr (sq_misFit (d := d + 2) (by omega) hW2 h1 (by rw [h2 254 (by decide)]; exact hWt) hWr hc (sq_MK_keep hK (by rw [e239]) (fun b b1 b2 => h2 b (by simp; omega))) (by omega)) (fun K hKf => ?_)
    have hKc : sq_fr [248, 249, 257, 259, 261, 266] I K := sq_fr_trans h2 hKf.2.2 (fun _ h => h) (fun _ h => h)
    by_cases hF : (sw_isC s k && sw_F (sw_live ev D B g s) s W g N ck cp ch cm co k) = true
    · have h5 : ∀ l, sw_pl (fun k => sw_isC s k && sw_F (sw_live ev D B g s) s W g N ck cp ch cm co k) x (k :: l) f = if (f : Int) = x then (k : Int) else sw_pl (fun k => sw_isC s k && sw_F (sw_live ev D B g s) s W g N ck cp ch cm co k) x l (f + 1) := by
        intro l
        show (if _ = true then _ else _) = _
        rw [if_pos hF]
      rw [h5] at h4
      by_cases hfx : (f : Int) = x
      · rw [if_pos hfx] at h4
        simp (disch := (first | assumption | omega | exact nb_ix (by omega) (by assumption) (by omega) (by omega) | exact nb_ix (by omega) rfl (by omega) (by omega) | exact nb_ok (by omega) rfl | decide)) only [kX12_fits, hF, nb_add, nb_sub, nb_mul, Int.toNat_natCast, mm_kr_s, mm_kv_s, if_pos, if_neg, sq_tn, Int.toNat_zero, Int.reduceToNat, Int.reduceNeg, Nat.reduceAdd, Int.reduceAdd, Int.reduceEq, Int.reduceLT, Int.reduceLE, Int.zero_add, nb_ui_s, nb_ui_k, nb_ui_a, sp_min, sp_max, sp_bits]
        exact sq_ret2 (by rw [h4]) ⟨hKf.2.1, hKc⟩
      · rw [if_neg hfx] at h4
        simp (disch := (first | assumption | omega | exact nb_ix (by omega) (by assumption) (by omega) (by omega) | exact nb_ix (by omega) rfl (by omega) (by omega) | exact nb_ok (by omega) rfl | decide)) only [kX12_fits, hF, nb_add, nb_sub, nb_mul, Int.toNat_natCast, mm_kr_s, mm_kv_s, if_pos, if_neg, sq_tn, Int.toNat_zero, Int.reduceToNat, Int.reduceNeg, Nat.reduceAdd, Int.reduceAdd, Int.reduceEq, Int.reduceLT, Int.reduceLE, Int.zero_add, nb_ui_s, nb_ui_k, nb_ui_a, sp_min, sp_max, sp_bits]
        exact ih (f + 1) _ ⟨hKf.2.1, hKc, by omega, h4⟩
    · have h5 : ∀ l, sw_pl (fun k => sw_isC s k && sw_F (sw_live ev D B g s) s W g N ck cp ch cm co k) x (k :: l) f = sw_pl (fun k => sw_isC s k && sw_F (sw_live ev D B g s) s W g N ck cp ch cm co k) x l f := by
        intro l
        show (if _ = true then _ else _) = _
        rw [if_neg hF]
      rw [h5] at h4
      simp (disch := (first | assumption | omega | exact nb_ix (by omega) (by assumption) (by omega) (by omega) | exact nb_ix (by omega) rfl (by omega) (by omega) | exact nb_ok (by omega) rfl | decide)) only [kX12_fits, hF, nb_add, nb_sub, nb_mul, Int.toNat_natCast, mm_kr_s, mm_kv_s, if_pos, if_neg, sq_tn, Int.toNat_zero, Int.reduceToNat, Int.reduceNeg, Nat.reduceAdd, Int.reduceAdd, Int.reduceEq, Int.reduceLT, Int.reduceLE, Int.zero_add, nb_ui_s, nb_ui_k, nb_ui_a, sp_min, sp_max, sp_bits]
      exact ih f _ ⟨hKf.2.1, hKc, by omega, h4⟩
  · intro f J ⟨h1, h2, h3, h4⟩
    have e239 : J 239 = I 239 := h2 239 (by decide)
    rw [Nat.sub_self] at h4
    have h5 : sw_pl (fun k => sw_isC s k && sw_F (sw_live ev D B g s) s W g N ck cp ch cm co k) x (List.range' (100 * s) 0) f = if x = -1 then (f : Int) else -1 := rfl
    rw [h5] at h4
    have e100 : ((100 * s : Nat) : Int) = 100 * (s : Int) := by omega
    rw [hX12_fits_18]
    by_cases hx1 : x = -1
    · rw [if_pos hx1] at h4
      simp (disch := (first | assumption | omega | exact nb_ix (by omega) (by assumption) (by omega) (by omega) | exact nb_ix (by omega) rfl (by omega) (by omega) | exact nb_ok (by omega) rfl | decide)) only [kX12_fits, e239, hs, e100, nb_add, nb_sub, nb_mul, Int.toNat_natCast, mm_kr_s, mm_kv_s, if_pos, if_neg, sq_tn, Int.toNat_zero, Int.reduceToNat, Int.reduceNeg, Nat.reduceAdd, Int.reduceAdd, Int.reduceEq, Int.reduceLT, Int.reduceLE, Int.zero_add, nb_ui_s, nb_ui_k, nb_ui_a, sp_min, sp_max, sp_bits]
      exact sq_ret2 (by rw [h4]) ⟨h1, h2⟩
    · rw [if_neg hx1] at h4
      simp (disch := (first | assumption | omega | exact nb_ix (by omega) (by assumption) (by omega) (by omega) | exact nb_ix (by omega) rfl (by omega) (by omega) | exact nb_ok (by omega) rfl | decide)) only [kX12_fits, e239, hs, e100, nb_add, nb_sub, nb_mul, Int.toNat_natCast, mm_kr_s, mm_kv_s, if_pos, if_neg, sq_tn, Int.toNat_zero, Int.reduceToNat, Int.reduceNeg, Nat.reduceAdd, Int.reduceAdd, Int.reduceEq, Int.reduceLT, Int.reduceLE, Int.zero_add, nb_ui_s, nb_ui_k, nb_ui_a, sp_min, sp_max, sp_bits]
      exact sq_ret2 (by rw [h4]) ⟨h1, h2⟩
set_option maxHeartbeats 2000000 in
theorem om_ask (hd : c ≤ d) (hC : sq_MM n c P I s D B g v ev N) (hWt : ∀ p, p < s → I 254 (2 * p) = W p) (hWr : ∀ p, p < s → 0 ≤ W p ∧ W p ≤ 99) (hc : sq_ck s ck cp ch cm co) (hK : sq_MK I ck cp ch cm co) (x : Int) : sq_X (some (.inl (if 0 ≤ x ∧ x < s then sa_ask (sw_F (sw_live ev D B g s) s W g N ck cp ch cm co) (fun c h => sw_it (sw_live ev D B g s) h (sw_T0 s W g N c) x.toNat) ((List.range' 0 (27 * s)).map sw_cd) else -1))) n L P (fun I' => sq_mN I' N ∧ sq_fr [248, 249, 257, 259, 261, 266, 267] I I') (mm_rn (d + 10) 244 [.inr (.inr (some 239)), .inl x] n I L P) := by
  obtain ⟨hW, hN, hok, hh⟩ := hC
  have hM := hW.1
  have ok := hW.1.ok
  have hs : I 239 26 = (s : Int) := hW.2.1.2.1
  have hs8 := hW.2.1.1
  have hg5 := hW.2.2.2
  have his := sp_isSpot (d := d + 7) (L := L) hM x (I := I) (by omega)
  rw [hs] at his
  rw [eX12_ask]
  by_cases h : 0 ≤ x ∧ x < (s : Int)
  case neg =>
    rw [if_neg h]
    simp (disch := (first | assumption | omega | exact nb_ix (by omega) (by assumption) (by omega) (by omega) | exact nb_ix (by omega) rfl (by omega) (by omega) | exact nb_ok (by omega) rfl | decide)) only [kX12_ask, his, nb_add, nb_sub, nb_mul, Int.toNat_natCast, mm_kr_s, mm_kv_s, if_pos, if_neg, sq_tn, Int.toNat_zero, Int.reduceToNat, Int.reduceNeg, Nat.reduceAdd, Int.reduceAdd, Int.reduceEq, Int.reduceLT, Int.reduceLE, Int.zero_add, nb_ui_s, nb_ui_k, nb_ui_a, sp_min, sp_max, sp_bits]
    exact sq_ret ⟨hN, sq_fr_refl _ _⟩
  rw [if_pos h]
  obtain ⟨q, rfl⟩ : ∃ k : Nat, x = (k : Int) := ⟨x.toNat, by omega⟩
  rw [Int.toNat_natCast]
  have hqs : q < s := by omega
  have hP := hM.2
  have hn := hM.1
  -- the answer over codes
  have hans : sa_ask (sw_F (sw_live ev D B g s) s W g N ck cp ch cm co) (fun c h => sw_it (sw_live ev D B g s) h (sw_T0 s W g N c) q) ((List.range' 0 (27 * s)).map sw_cd) = sa_ask (fun k => sw_isC s k && sw_F (sw_live ev D B g s) s W g N ck cp ch cm co k) (fun c h => sw_it (sw_live ev D B g s) h (sw_T0 s W g N c) q) (List.range' 0 (100 * s)) := by
    unfold sa_ask
    rw [sw_cn_filter, sw_codes s (by omega)]
    have : sw_ak (fun k => sw_isC s k && sw_F (sw_live ev D B g s) s W g N ck cp ch cm co k) (fun c h => sw_it (sw_live ev D B g s) h (sw_T0 s W g N c) q) (List.range' 0 (100 * s)) = sw_ak (sw_F (sw_live ev D B g s) s W g N ck cp ch cm co) (fun c h => sw_it (sw_live ev D B g s) h (sw_T0 s W g N c) q) ((List.range' 0 (27 * s)).map sw_cd) := by
      funext i
      unfold sw_ak
      exact sw_mx_congr 100 (fun w hw => by rw [sw_ct_filter, sw_codes s (by omega)])
    rw [this]
  rw [hans]
  simp (disch := (first | assumption | omega | exact nb_ix (by omega) (by assumption) (by omega) (by omega) | exact nb_ix (by omega) rfl (by omega) (by omega) | exact nb_ok (by omega) rfl | decide)) only [kX12_ask, his, nb_add, nb_sub, nb_mul, Int.toNat_natCast, mm_kr_s, mm_kv_s, if_pos, if_neg, sq_tn, Int.toNat_zero, Int.reduceToNat, Int.reduceNeg, Nat.reduceAdd, Int.reduceAdd, Int.reduceEq, Int.reduceLT, Int.reduceLE, Int.zero_add, nb_ui_s, nb_ui_k, nb_ui_a, sp_min, sp_max, sp_bits]
  -- the row made zero
  refine sq_loop (fun i (J : mm_I) => mm_E (d + 9) 244 12 [.inr (.inr (some 239)), .inl ((q : Int)), .inl ((i : Nat)), mm_junk, mm_junk, mm_junk, mm_junk, mm_junk] [] [] n J L P) (fun i J => (∀ j, j < i → J 267 j = 0) ∧ sq_fr [267] I J) 1300 (s0 := I) ⟨fun j hj => by omega, sq_fr_refl _ _⟩ ?_ ?_
  · intro i J hi ⟨h1, h2⟩ ih
    rw [hX12_ask_12]
    simp (disch := (first | assumption | omega | exact nb_ix (by omega) (by assumption) (by omega) (by omega) | exact nb_ix (by omega) rfl (by omega) (by omega) | exact nb_ok (by omega) rfl | decide)) only [kX12_ask, hP, nb_add, nb_sub, nb_mul, Int.toNat_natCast, mm_kr_s, mm_kv_s, if_pos, if_neg, sq_tn, Int.toNat_zero, Int.reduceToNat, Int.reduceNeg, Nat.reduceAdd, Int.reduceAdd, Int.reduceEq, Int.reduceLT, Int.reduceLE, Int.zero_add, nb_ui_s, nb_ui_k, nb_ui_a, sp_min, sp_max, sp_bits]
    refine ih _ ⟨fun j hj => ?_, ?_⟩
    · by_cases hji : j = i
      · subst hji; rw [nb_ui_s]
      · rw [nb_ui_k hji]; exact h1 j (by omega)
    · exact sq_fr_up h2 (by simp)
  intro J0 ⟨z1, z2⟩
  rw [hX12_ask_12]
  simp (disch := (first | assumption | omega | exact nb_ix (by omega) (by assumption) (by omega) (by omega) | exact nb_ix (by omega) rfl (by omega) (by omega) | exact nb_ok (by omega) rfl | decide)) only [kX12_ask, nb_add, nb_sub, nb_mul, Int.toNat_natCast, mm_kr_s, mm_kv_s, if_pos, if_neg, sq_tn, Int.toNat_zero, Int.reduceToNat, Int.reduceNeg, Nat.reduceAdd, Int.reduceAdd, Int.reduceEq, Int.reduceLT, Int.reduceLE, Int.zero_add, nb_ui_s, nb_ui_k, nb_ui_a, sp_min, sp_max, sp_bits]
  -- the codes
  refine sq_loop2 (fun k (x4 : mm_V) (J : mm_I) => mm_E (d + 9) 244 36 [.inr (.inr (some 239)), .inl ((q : Int)), .inl ((sw_cn (fun k => sw_isC s k && sw_F (sw_live ev D B g s) s W g N ck cp ch cm co k) (List.range' 0 k) : Nat)), .inl ((k : Nat)), x4, mm_junk, mm_junk, mm_junk] [] [] n J L P) (fun k _ J => sq_mN J N ∧ sq_fr [248, 249, 257, 259, 261, 266, 267] I J ∧ (∀ h w, h ≤ 12 → w < 100 → 1 ≤ h → J 267 (100 * h + w) = (sw_ct (fun k => sw_isC s k && sw_F (sw_live ev D B g s) s W g N ck cp ch cm co k) (fun c h => sw_it (sw_live ev D B g s) h (sw_T0 s W g N c) q) (List.range' 0 k) h w : Nat)) ∧ (∀ j, j < 1300 → 0 ≤ J 267 j ∧ J 267 j ≤ (k : Int))) (100 * s) (s0 := mm_junk) (t0 := J0) ⟨fun j hj => ?_, ?_, fun h w h1 h2 _ => ?_, fun j hj => ?_⟩ ?_ ?_
  · rw [z2 257 (by decide)]; exact hN j hj
  · exact sq_fr_sub z2 (by simp)
  · rw [z1 (100 * h + w) (by omega)]; rfl
  · rw [z1 j hj]; omega
  · intro k x4 J hk ⟨h1, h2, h3, h4⟩ ih
    have hW2 := sq_MW_keepf hW h2 (by simp)
    have e239 : J 239 = I 239 := h2 239 (by decide)
    have er : List.range' 0 (k + 1) = List.range' 0 k ++ [k] := by
      rw [List.range'_concat]
      simp
    have hcl : sw_cn (fun k => sw_isC s k && sw_F (sw_live ev D B g s) s W g N ck cp ch cm co k) (List.range' 0 k) ≤ k := by
      have := sw_cn_le (F := fun k => sw_isC s k && sw_F (sw_live ev D B g s) s W g N ck cp ch cm co k) (l := List.range' 0 k)
      simpa using this
    rw [er] at ih
    rw [hX12_ask_36]
    simp (disch := (first | assumption | omega | exact nb_ix (by omega) (by assumption) (by omega) (by omega) | exact nb_ix (by omega) rfl (by omega) (by omega) | exact nb_ok (by omega) rfl | decide)) only [kX12_ask, e239, hs, nb_add, nb_sub, nb_mul, Int.toNat_natCast, mm_kr_s, mm_kv_s, if_pos, if_neg, sq_tn, Int.toNat_zero, Int.reduceToNat, Int.reduceNeg, Nat.reduceAdd, Int.reduceAdd, Int.reduceEq, Int.reduceLT, Int.reduceLE, Int.zero_add, nb_ui_s, nb_ui_k, nb_ui_a, sp_min, sp_max, sp_bits]
    refine sq_kr (sq_misFit (d := d + 2) (by omega) hW2 h1 (by rw [h2 254 (by decide)]; exact hWt) hWr hc (sq_MK_keep hK (by rw [e239]) (fun b b1 b2 => h2 b (by simp; omega))) (by omega)) (fun K hKf => ?_)
    obtain ⟨f1, f2, f3⟩ := hKf
    have hKc : sq_fr [248, 249, 257, 259, 261, 266, 267] I K := sq_fr_trans h2 f3 (fun _ h => h) (by simp)
    have hK67 : K 267 = J 267 := f3 267 (by decide)
    by_cases hF : (sw_isC s k && sw_F (sw_live ev D B g s) s W g N ck cp ch cm co k) = true
    · have hCk : sw_isC s k = true := by
        rw [Bool.and_eq_true] at hF
        exact hF.1
      have hokT := sw_T0_ok (M := N) (cd := k) hs8 hWr hg5 hCk
      have f1 := f1 hF
      have ih2 := ih
      rw [sw_cn_snoc, if_pos hF] at ih2
      generalize hcn : sw_cn (fun k => sw_isC s k && sw_F (sw_live ev D B g s) s W g N ck cp ch cm co k) (List.range' 0 k) = cnt at *
      simp (disch := (first | assumption | omega | exact nb_ix (by omega) (by assumption) (by omega) (by omega) | exact nb_ix (by omega) rfl (by omega) (by omega) | exact nb_ok (by omega) rfl | decide)) only [kX12_ask, hF, nb_add, nb_sub, nb_mul, Int.toNat_natCast, mm_kr_s, mm_kv_s, if_pos, if_neg, sq_tn, Int.toNat_zero, Int.reduceToNat, Int.reduceNeg, Nat.reduceAdd, Int.reduceAdd, Int.reduceEq, Int.reduceLT, Int.reduceLE, Int.zero_add, nb_ui_s, nb_ui_k, nb_ui_a, sp_min, sp_max, sp_bits]
      refine sq_loop (fun i (R : mm_I) => mm_E (d + 9) 244 61 [.inr (.inr (some 239)), .inl ((q : Int)), .inl (((cnt + 1 : Nat) : Int)), .inl ((k : Nat)), .inl (((i + 1 : Nat) : Int)), mm_junk, mm_junk, mm_junk] [] [] n R L P) (fun i R => sq_fr [267] K R ∧ (∀ h w, h ≤ 12 → w < 100 → R 267 (100 * h + w) = K 267 (100 * h + w) + (if 1 ≤ h ∧ h ≤ i ∧ sw_it (sw_live ev D B g s) h (sw_T0 s W g N k) q = (w : Int) then 1 else 0))) 12 (s0 := K) ⟨sq_fr_refl _ _, fun h w a b => by rw [if_neg (by omega), Int.add_zero]⟩ ?_ ?_
      · intro i R hi ⟨r1, r2⟩ ihR
        have e66 : R 266 = K 266 := r1 266 (by decide)
        have hw := f1 (i + 1) q (by omega) (by omega)
        rw [← e66] at hw
        have hwr := ((sw_it_ok (ev := ev) (D := D) (B := B) hokT hs8 hg5 (i + 1)).1 q (by omega)).1
        generalize hwe : sw_it (sw_live ev D B g s) (i + 1) (sw_T0 s W g N k) q = wq at *
        obtain ⟨w0, rfl⟩ : ∃ w0 : Nat, wq = (w0 : Int) := ⟨wq.toNat, by omega⟩
        have hv0 := r2 (i + 1) w0 (by omega) (by omega)
        rw [if_neg (by omega), Int.add_zero, hK67] at hv0
        have htl0 := h4 (100 * (i + 1) + w0) (by omega)
        have e4 : (100 * ((i + 1 : Nat) : Int) + (w0 : Int)).toNat = 100 * (i + 1) + w0 := by omega
        have e5 : (8 * ((i + 1 : Nat) : Int) + (q : Int)).toNat = 8 * (i + 1) + q := by omega
        rw [hX12_ask_61]
        simp (disch := (first | assumption | omega | exact nb_ix (by omega) (by assumption) (by omega) (by omega) | exact nb_ix (by omega) rfl (by omega) (by omega) | exact nb_ok (by omega) rfl | decide)) only [kX12_ask, hP, e5, hw, e4, hv0, nb_add, nb_sub, nb_mul, Int.toNat_natCast, mm_kr_s, mm_kv_s, if_pos, if_neg, sq_tn, Int.toNat_zero, Int.reduceToNat, Int.reduceNeg, Nat.reduceAdd, Int.reduceAdd, Int.reduceEq, Int.reduceLT, Int.reduceLE, Int.zero_add, nb_ui_s, nb_ui_k, nb_ui_a, sp_min, sp_max, sp_bits]
        refine ihR _ ⟨?_, fun h w hh hw2 => ?_⟩
        · exact sq_fr_up r1 (by simp)
        · by_cases hc : h = i + 1 ∧ w = w0
          · obtain ⟨rfl, rfl⟩ := hc
            rw [nb_ui_s, if_pos ⟨by omega, by omega, hwe⟩, hK67]
          · rw [nb_ui_k (by omega), r2 h w hh hw2]
            by_cases c1 : h = i + 1
            · subst c1
              rw [if_neg (by omega), if_neg (by rw [hwe]; omega)]
            · by_cases c2 : 1 ≤ h ∧ h ≤ i ∧ sw_it (sw_live ev D B g s) h (sw_T0 s W g N k) q = (w : Int)
              · rw [if_pos c2, if_pos ⟨c2.1, by omega, c2.2.2⟩]
              · rw [if_neg c2, if_neg (fun q => c2 ⟨q.1, by omega, q.2.2⟩)]
      · intro R ⟨r1, r2⟩
        rw [hX12_ask_61]
        simp (disch := (first | assumption | omega | exact nb_ix (by omega) (by assumption) (by omega) (by omega) | exact nb_ix (by omega) rfl (by omega) (by omega) | exact nb_ok (by omega) rfl | decide)) only [kX12_ask, nb_add, nb_sub, nb_mul, Int.toNat_natCast, mm_kr_s, mm_kv_s, if_pos, if_neg, sq_tn, Int.toNat_zero, Int.reduceToNat, Int.reduceNeg, Nat.reduceAdd, Int.reduceAdd, Int.reduceEq, Int.reduceLT, Int.reduceLE, Int.zero_add, nb_ui_s, nb_ui_k, nb_ui_a, sp_min, sp_max, sp_bits]
        refine ih2 _ R ⟨fun j hj => ?_, ?_, fun h w a b e => ?_, fun j hj => ?_⟩
        · rw [r1 257 (by decide)]; exact f2 j hj
        · exact sq_fr_trans hKc r1 (fun _ h => h) (by simp)
        · rw [r2 h w a b, hK67, h3 h w a b e, sw_ct_snoc]
          by_cases c : sw_it (sw_live ev D B g s) h (sw_T0 s W g N k) q = (w : Int)
          · rw [if_pos ⟨e, a, c⟩, if_pos ⟨hF, c⟩]; rfl
          · rw [if_neg (fun q => c q.2.2), if_neg (fun q => c q.2)]; rfl
        · have e1 := r2 (j / 100) (j % 100) (by omega) (by omega)
          rw [show 100 * (j / 100) + j % 100 = j by omega, hK67] at e1
          have e2 := h4 j hj
          rw [e1]
          split <;> omega
    · simp (disch := (first | assumption | omega | exact nb_ix (by omega) (by assumption) (by omega) (by omega) | exact nb_ix (by omega) rfl (by omega) (by omega) | exact nb_ok (by omega) rfl | decide)) only [kX12_ask, hF, nb_add, nb_sub, nb_mul, Int.toNat_natCast, mm_kr_s, mm_kv_s, if_pos, if_neg, sq_tn, Int.toNat_zero, Int.reduceToNat, Int.reduceNeg, Nat.reduceAdd, Int.reduceAdd, Int.reduceEq, Int.reduceLT, Int.reduceLE, Int.zero_add, nb_ui_s, nb_ui_k, nb_ui_a, sp_min, sp_max, sp_bits]
      have ih2 := ih x4 K
      rw [sw_cn_snoc, if_neg hF, Nat.add_zero] at ih2
      refine ih2 ⟨f2, hKc, fun h w a b e => ?_, by rw [hK67]; intro j hj; have := h4 j hj; omega⟩
      rw [hK67, h3 h w a b e, sw_ct_snoc, if_neg (fun q => hF q.1), Nat.add_zero]
  · intro x4 J ⟨h1, h2, h3, h4⟩
    have e239 : J 239 = I 239 := h2 239 (by decide)
    have e100 : ((100 * s : Nat) : Int) = 100 * (s : Int) := by omega
    have hak : ∀ i, i < 12 → sw_mx (fun w => J 267 (100 * (i + 1) + w)) 100 = sw_ak (fun k => sw_isC s k && sw_F (sw_live ev D B g s) s W g N ck cp ch cm co k) (fun c h => sw_it (sw_live ev D B g s) h (sw_T0 s W g N c) q) (List.range' 0 (100 * s)) i := by
      intro i hi
      unfold sw_ak
      exact sw_mx_congr 100 (fun w hw => h3 (i + 1) w (by omega) hw (by omega))
    unfold sa_ask
    revert hak
    generalize sw_ak (fun k => sw_isC s k && sw_F (sw_live ev D B g s) s W g N ck cp ch cm co k) (fun c h => sw_it (sw_live ev D B g s) h (sw_T0 s W g N c) q) (List.range' 0 (100 * s)) = A
    generalize sw_cn (fun k => sw_isC s k && sw_F (sw_live ev D B g s) s W g N ck cp ch cm co k) (List.range' 0 (100 * s)) = cnt
    intro hak
    rw [hX12_ask_36]
    simp (disch := (first | assumption | omega | exact nb_ix (by omega) (by assumption) (by omega) (by omega) | exact nb_ix (by omega) rfl (by omega) (by omega) | exact nb_ok (by omega) rfl | decide)) only [kX12_ask, e239, hs, e100, nb_add, nb_sub, nb_mul, Int.toNat_natCast, mm_kr_s, mm_kv_s, if_pos, if_neg, sq_tn, Int.toNat_zero, Int.reduceToNat, Int.reduceNeg, Nat.reduceAdd, Int.reduceAdd, Int.reduceEq, Int.reduceLT, Int.reduceLE, Int.zero_add, nb_ui_s, nb_ui_k, nb_ui_a, sp_min, sp_max, sp_bits]
    by_cases h0 : cnt = 0
    · rw [if_pos h0, h0]
      have e0 : ((0 : Nat) : Int) = 0 := rfl
      rw [hX12_ask_115]
      simp (disch := (first | assumption | omega | exact nb_ix (by omega) (by assumption) (by omega) (by omega) | exact nb_ix (by omega) rfl (by omega) (by omega) | exact nb_ok (by omega) rfl | decide)) only [kX12_ask, e0, nb_add, nb_sub, nb_mul, Int.toNat_natCast, mm_kr_s, mm_kv_s, if_pos, if_neg, sq_tn, Int.toNat_zero, Int.reduceToNat, Int.reduceNeg, Nat.reduceAdd, Int.reduceAdd, Int.reduceEq, Int.reduceLT, Int.reduceLE, Int.zero_add, nb_ui_s, nb_ui_k, nb_ui_a, sp_min, sp_max, sp_bits]
      exact sq_ret ⟨h1, h2⟩
    · rw [if_neg h0]
      refine sq_loop3 (fun i (y : Int × Int) (x6 x7 : mm_V) => mm_E (d + 9) 244 115 [.inr (.inr (some 239)), .inl ((q : Int)), .inl ((cnt : Int)), .inl y.1, .inl y.2, .inl (((i + 1 : Nat) : Int)), x6, x7] [] [] n J L P) (fun i y _ _ => (i = 0 → y = (-1, 0)) ∧ (0 < i → y = (((sw_bst A (i - 1)).1 : Int) + 1, (sw_bst A (i - 1)).2))) 12 (s0 := (-1, 0)) (t0 := mm_junk) (u0 := mm_junk) ⟨fun _ => rfl, fun h => by omega⟩ ?_ ?_
      · intro i y x6 x7 hi ⟨y1, y2⟩ ihB
        rw [hX12_ask_115]
        simp (disch := (first | assumption | omega | exact nb_ix (by omega) (by assumption) (by omega) (by omega) | exact nb_ix (by omega) rfl (by omega) (by omega) | exact nb_ok (by omega) rfl | decide)) only [kX12_ask, nb_add, nb_sub, nb_mul, Int.toNat_natCast, mm_kr_s, mm_kv_s, if_pos, if_neg, sq_tn, Int.toNat_zero, Int.reduceToNat, Int.reduceNeg, Nat.reduceAdd, Int.reduceAdd, Int.reduceEq, Int.reduceLT, Int.reduceLE, Int.zero_add, nb_ui_s, nb_ui_k, nb_ui_a, sp_min, sp_max, sp_bits]
        refine sq_for (fun w => mm_E (d + 9) 244 132 [.inr (.inr (some 239)), .inl ((q : Int)), .inl ((cnt : Int)), .inl y.1, .inl y.2, .inl (((i + 1 : Nat) : Int)), .inl (sw_mx (fun w => J 267 (100 * (i + 1) + w)) w), .inl ((w : Nat))] [] [] n J L P) 100 (fun w hw => ?_) ?_
        · have e4 : (100 * ((i + 1 : Nat) : Int) + (w : Int)).toNat = 100 * (i + 1) + w := by omega
          have e5 : sw_mx (fun w => J 267 (100 * (i + 1) + w)) (w + 1) = max (sw_mx (fun w => J 267 (100 * (i + 1) + w)) w) (J 267 (100 * (i + 1) + w)) := rfl
          rw [hX12_ask_132, e5]
          simp (disch := (first | assumption | omega | exact nb_ix (by omega) (by assumption) (by omega) (by omega) | exact nb_ix (by omega) rfl (by omega) (by omega) | exact nb_ok (by omega) rfl | decide)) only [kX12_ask, hP, e4, nb_add, nb_sub, nb_mul, Int.toNat_natCast, mm_kr_s, mm_kv_s, if_pos, if_neg, sq_tn, Int.toNat_zero, Int.reduceToNat, Int.reduceNeg, Nat.reduceAdd, Int.reduceAdd, Int.reduceEq, Int.reduceLT, Int.reduceLE, Int.zero_add, nb_ui_s, nb_ui_k, nb_ui_a, sp_min, sp_max, sp_bits]
          rfl
        · rw [hX12_ask_132, hak i hi]
          cases i with
          | zero =>
            rw [y1 rfl]
            simp (disch := (first | assumption | omega | exact nb_ix (by omega) (by assumption) (by omega) (by omega) | exact nb_ix (by omega) rfl (by omega) (by omega) | exact nb_ok (by omega) rfl | decide)) only [kX12_ask, nb_add, nb_sub, nb_mul, Int.toNat_natCast, mm_kr_s, mm_kv_s, if_pos, if_neg, sq_tn, Int.toNat_zero, Int.reduceToNat, Int.reduceNeg, Nat.reduceAdd, Int.reduceAdd, Int.reduceEq, Int.reduceLT, Int.reduceLE, Int.zero_add, nb_ui_s, nb_ui_k, nb_ui_a, sp_min, sp_max, sp_bits]
            refine ihB (_, _) _ _ ⟨fun h => by omega, fun _ => ?_⟩
            rfl
          | succ i =>
            have h5 := y2 (by omega)
            rw [Nat.add_sub_cancel] at h5
            rw [h5]
            have e8 : sw_bst A (i + 1) = if A (i + 1) < (sw_bst A i).2 then (i + 1, A (i + 1)) else sw_bst A i := rfl
            have hb1 : ¬ ((sw_bst A i).1 : Int) + 1 = -1 := by omega
            by_cases hlt : A (i + 1) < (sw_bst A i).2
            · rw [if_pos hlt] at e8
              simp (disch := (first | assumption | omega | exact nb_ix (by omega) (by assumption) (by omega) (by omega) | exact nb_ix (by omega) rfl (by omega) (by omega) | exact nb_ok (by omega) rfl | decide)) only [kX12_ask, nb_add, nb_sub, nb_mul, Int.toNat_natCast, mm_kr_s, mm_kv_s, if_pos, if_neg, sq_tn, Int.toNat_zero, Int.reduceToNat, Int.reduceNeg, Nat.reduceAdd, Int.reduceAdd, Int.reduceEq, Int.reduceLT, Int.reduceLE, Int.zero_add, nb_ui_s, nb_ui_k, nb_ui_a, sp_min, sp_max, sp_bits]
              refine ihB (_, _) _ _ ⟨fun h => by omega, fun _ => ?_⟩
              rw [Nat.add_sub_cancel, e8]
              rfl
            · rw [if_neg hlt] at e8
              simp (disch := (first | assumption | omega | exact nb_ix (by omega) (by assumption) (by omega) (by omega) | exact nb_ix (by omega) rfl (by omega) (by omega) | exact nb_ok (by omega) rfl | decide)) only [kX12_ask, nb_add, nb_sub, nb_mul, Int.toNat_natCast, mm_kr_s, mm_kv_s, if_pos, if_neg, sq_tn, Int.toNat_zero, Int.reduceToNat, Int.reduceNeg, Nat.reduceAdd, Int.reduceAdd, Int.reduceEq, Int.reduceLT, Int.reduceLE, Int.zero_add, nb_ui_s, nb_ui_k, nb_ui_a, sp_min, sp_max, sp_bits]
              refine ihB (_, _) _ _ ⟨fun h => by omega, fun _ => ?_⟩
              rw [Nat.add_sub_cancel, e8]
      · intro y x6 x7 ⟨y1, y2⟩
        have h5 := y2 (by omega)
        rw [h5, hX12_ask_115]
        simp (disch := (first | assumption | omega | exact nb_ix (by omega) (by assumption) (by omega) (by omega) | exact nb_ix (by omega) rfl (by omega) (by omega) | exact nb_ok (by omega) rfl | decide)) only [kX12_ask, nb_add, nb_sub, nb_mul, Int.toNat_natCast, mm_kr_s, mm_kv_s, if_pos, if_neg, sq_tn, Int.toNat_zero, Int.reduceToNat, Int.reduceNeg, Nat.reduceAdd, Int.reduceAdd, Int.reduceEq, Int.reduceLT, Int.reduceLE, Int.zero_add, nb_ui_s, nb_ui_k, nb_ui_a, sp_min, sp_max, sp_bits]
        exact sq_ret ⟨h1, h2⟩
end MQ2
