/-! odds of fires: the model -/
section MD
variable {n c s d : Nat} {I L : mm_I} {P : mm_P} {D : Nat → Int} {B : Nat → Nat} {g v : Int} {ev : sv_E} {N : Nat → Int}
set_option maxHeartbeats 4000000 in
theorem sq_modds {p : Nat} {w ch : Int} (hd : c ≤ d) (hp : p < s) (hc : 0 ≤ ch ∧ ch ≤ 100) : ∀ (k : Nat) (I : mm_I) (M : Nat → Int) (q : Nat) (l z : Int), sq_MW n c P I s D B g v ev → sq_mN I M → sv_ok s M → M 29 ≤ 100000 - k → q + k ≤ 6 → (0 ≤ l ∧ l ≤ 100000 - k * 100) → (0 ≤ z ∧ z ≤ 1000000000) →
    sq_X (some (.inl (sd_T (sw_live ev D B g s) s p ch w k M l z))) n L P (fun I' => sq_mN I' M ∧ (∀ j, j < 30 * q → I' 261 j = I 261 j) ∧ sq_fr [248, 249, 257, 259, 261] I I') (mm_rn (d + k + 6) 251 [.inr (.inr (some 239)), .inl ((q : Int)), .inl ((p : Int)), .inl w, .inl ((k : Int)), .inl ch, .inl l, .inl z] n I L P) := by
  intro k
  induction k with
  | zero =>
    intro I M q l z hW hN hok h29 hq hl hz
    have hk0 : ((0 : Nat) : Int) = 0 := rfl
    rw [eX12_oddsFrom]
    unfold sd_T
    by_cases hw : w ≤ l
    · simp (disch := (first | assumption | omega | exact nb_ix (by omega) (by assumption) (by omega) (by omega) | exact nb_ix (by omega) rfl (by omega) (by omega) | exact nb_ok (by omega) rfl | decide)) only [kX12_oddsFrom, hk0, ↓if_pos, ↓if_neg, nb_add, nb_sub, nb_mul, Int.toNat_natCast, mm_kr_s, mm_kv_s, if_pos, if_neg, sq_tn, Int.toNat_zero, Int.reduceToNat, Int.reduceNeg, Nat.reduceAdd, Int.reduceAdd, Int.reduceEq, Int.reduceLT, Int.reduceLE, Int.zero_add, nb_ui_s, nb_ui_k, nb_ui_a, sp_min, sp_max, sp_bits]
      exact sq_ret ⟨hN, fun _ _ => rfl, sq_fr_refl _ _⟩
    · simp (disch := (first | assumption | omega | exact nb_ix (by omega) (by assumption) (by omega) (by omega) | exact nb_ix (by omega) rfl (by omega) (by omega) | exact nb_ok (by omega) rfl | decide)) only [kX12_oddsFrom, hk0, ↓if_pos, ↓if_neg, nb_add, nb_sub, nb_mul, Int.toNat_natCast, mm_kr_s, mm_kv_s, if_pos, if_neg, sq_tn, Int.toNat_zero, Int.reduceToNat, Int.reduceNeg, Nat.reduceAdd, Int.reduceAdd, Int.reduceEq, Int.reduceLT, Int.reduceLE, Int.zero_add, nb_ui_s, nb_ui_k, nb_ui_a, sp_min, sp_max, sp_bits]
      exact sq_ret ⟨hN, fun _ _ => rfl, sq_fr_refl _ _⟩
  | succ k ih =>
    intro I M q l z hW hN hok h29 hq hl hz
    have hM := hW.1
    have ok := hM.ok
    have hs8 := hW.2.1.1
    have hg5 := hW.2.2.2
    obtain ⟨w1, w2⟩ := sd_w_rg hz hc
    have ew : mm_w (mm_wl (Int.tdiv (z * ch) 100)) = sd_w z ch := by
      rw [nb_wl (by show _ ≤ sd_w _ _; omega) (by show sd_w _ _ < _; omega), nb_w (by show _ ≤ sd_w _ _; omega) (by show sd_w _ _ < _; omega)]
      rfl
    have hk1 : ¬ ((k + 1 : Nat) : Int) = 0 := by omega
    have e1 : ((k + 1 : Nat) : Int) - 1 = (k : Int) := by omega
    have e2 : (q : Int) + 1 = ((q + 1 : Nat) : Int) := by omega
    have lr := sv_lost_rg hok hs8
    have okS := sd_st_ok hok hp hs8
    have lr2 := sv_lost_rg okS hs8
    have eT : sd_T (sw_live ev D B g s) s p ch w (k + 1) M l z = sd_T (sw_live ev D B g s) s p ch w k (sw_live ev D B g s M) (l + sv_lost M s) (z - sd_w z ch) + sd_T (sw_live ev D B g s) s p ch w k (sw_live ev D B g s (sd_st p M)) (l + sv_lost (sd_st p M) s) (sd_w z ch) := rfl
    have t1 := sd_T_rg (f := sw_live ev D B g s) (s := s) (p := p) (v := w) hc k (sw_live ev D B g s M) (l + sv_lost M s) (z - sd_w z ch) (by omega)
    have t2 := sd_T_rg (f := sw_live ev D B g s) (s := s) (p := p) (v := w) hc k (sw_live ev D B g s (sd_st p M)) (l + sv_lost (sd_st p M) s) (sd_w z ch) (by omega)
    rw [eT]
    generalize hT1 : sd_T (sw_live ev D B g s) s p ch w k (sw_live ev D B g s M) (l + sv_lost M s) (z - sd_w z ch) = T1 at *
    generalize hT2 : sd_T (sw_live ev D B g s) s p ch w k (sw_live ev D B g s (sd_st p M)) (l + sv_lost (sd_st p M) s) (sd_w z ch) = T2 at *
    have ed : d + (k + 1) + 6 = d + k + 6 + 1 := by omega
    rw [ed, eX12_oddsFrom]
    simp (disch := (first | assumption | omega | exact nb_ix (by omega) (by assumption) (by omega) (by omega) | exact nb_ix (by omega) rfl (by omega) (by omega) | exact nb_ok (by omega) rfl | decide)) only [kX12_oddsFrom, nb_lmul, ew, ↓if_pos, ↓if_neg, nb_add, nb_sub, nb_mul, Int.toNat_natCast, mm_kr_s, mm_kv_s, if_pos, if_neg, sq_tn, Int.toNat_zero, Int.reduceToNat, Int.reduceNeg, Nat.reduceAdd, Int.reduceAdd, Int.reduceEq, Int.reduceLT, Int.reduceLE, Int.zero_add, nb_ui_s, nb_ui_k, nb_ui_a, sp_min, sp_max, sp_bits]
    refine sq_kv (sq_maside (q := q) (d := d + k + 5) hM (by omega)) (fun J hJ => ?_)
    obtain ⟨j1, j2, j3⟩ := hJ
    have hNJ : sq_mN J M := fun j hj => by rw [j3 257 (by decide)]; exact hN j hj
    have hWJ := sq_MW_keepf hW j3 (by simp)
    have hJa : ∀ j, j < 30 → J 261 (30 * q + j) = M j := fun j hj => by rw [j1 j hj]; exact hN j (by omega)
    have hJb : ∀ j, j < 30 * q → J 261 j = I 261 j := fun j hj => j2 j (by omega)
    simp (disch := (first | assumption | omega | exact nb_ix (by omega) (by assumption) (by omega) (by omega) | exact nb_ix (by omega) rfl (by omega) (by omega) | exact nb_ok (by omega) rfl | decide)) only [kX12_oddsFrom, ↓if_pos, ↓if_neg, nb_add, nb_sub, nb_mul, Int.toNat_natCast, mm_kr_s, mm_kv_s, if_pos, if_neg, sq_tn, Int.toNat_zero, Int.reduceToNat, Int.reduceNeg, Nat.reduceAdd, Int.reduceAdd, Int.reduceEq, Int.reduceLT, Int.reduceLE, Int.zero_add, nb_ui_s, nb_ui_k, nb_ui_a, sp_min, sp_max, sp_bits]
    rw [hX12_oddsFrom_43]
    simp (disch := (first | assumption | omega | exact nb_ix (by omega) (by assumption) (by omega) (by omega) | exact nb_ix (by omega) rfl (by omega) (by omega) | exact nb_ok (by omega) rfl | decide)) only [kX12_oddsFrom, ↓if_pos, ↓if_neg, nb_add, nb_sub, nb_mul, Int.toNat_natCast, mm_kr_s, mm_kv_s, if_pos, if_neg, sq_tn, Int.toNat_zero, Int.reduceToNat, Int.reduceNeg, Nat.reduceAdd, Int.reduceAdd, Int.reduceEq, Int.reduceLT, Int.reduceLE, Int.zero_add, nb_ui_s, nb_ui_k, nb_ui_a, sp_min, sp_max, sp_bits]
    refine sq_kr (sq_mlive (d := d + k + 1) (by omega) hWJ.1 hWJ.2.1 hWJ.2.2.1 hNJ hok (by omega)) (fun K hK => ?_)
    have hWK := sq_MW_keepf hWJ hK.2 (by simp)
    simp (disch := (first | assumption | omega | exact nb_ix (by omega) (by assumption) (by omega) (by omega) | exact nb_ix (by omega) rfl (by omega) (by omega) | exact nb_ok (by omega) rfl | decide)) only [kX12_oddsFrom, e1, e2, ↓if_pos, ↓if_neg, nb_add, nb_sub, nb_mul, Int.toNat_natCast, mm_kr_s, mm_kv_s, if_pos, if_neg, sq_tn, Int.toNat_zero, Int.reduceToNat, Int.reduceNeg, Nat.reduceAdd, Int.reduceAdd, Int.reduceEq, Int.reduceLT, Int.reduceLE, Int.zero_add, nb_ui_s, nb_ui_k, nb_ui_a, sp_min, sp_max, sp_bits]
    refine sq_kr (ih K (sw_live ev D B g s M) (q + 1) (l + sv_lost M s) (z - sd_w z ch) hWK hK.1 (sw_live_ok hok hs8 hg5) (by rw [sw_live_29]; omega) (by omega) (by omega) (by omega)) (fun R hR => ?_)
    obtain ⟨r1, r2, r3⟩ := hR
    rw [hT1]
    simp (disch := (first | assumption | omega | exact nb_ix (by omega) (by assumption) (by omega) (by omega) | exact nb_ix (by omega) rfl (by omega) (by omega) | exact nb_ok (by omega) rfl | decide)) only [kX12_oddsFrom, ↓if_pos, ↓if_neg, nb_add, nb_sub, nb_mul, Int.toNat_natCast, mm_kr_s, mm_kv_s, if_pos, if_neg, sq_tn, Int.toNat_zero, Int.reduceToNat, Int.reduceNeg, Nat.reduceAdd, Int.reduceAdd, Int.reduceEq, Int.reduceLT, Int.reduceLE, Int.zero_add, nb_ui_s, nb_ui_k, nb_ui_a, sp_min, sp_max, sp_bits]
    refine sq_kv (sq_mback (q := q) (d := d + k + 5) hM (by omega)) (fun S hS => ?_)
    obtain ⟨s1, s2, s3⟩ := hS
    have hSa : ∀ j, j < 30 → S 261 (30 * q + j) = M j := fun j hj => by rw [s3 261 (by decide), r2 _ (by omega), hK.2 261 (by decide)]; exact hJa j hj
    have hSb : ∀ j, j < 30 * q → S 261 j = I 261 j := fun j hj => by rw [s3 261 (by decide), r2 _ (by omega), hK.2 261 (by decide)]; exact hJb j hj
    have hNS : sq_mN S M := by
      intro j hj
      by_cases c : j < 30
      · rw [s1 j c, r2 _ (by omega), hK.2 261 (by decide)]; exact hJa j c
      · rw [s2 j (by omega), r1 j hj, sw_live_hi hs8 (by omega)]
    have hSf : sq_fr [248, 249, 257, 259, 261] I S := by
      intro b hb
      simp at hb
      rw [s3 b (by simp; omega), r3 b (by simp; omega), hK.2 b (by simp; omega), j3 b (by simp; omega)]
    have hWS := sq_MW_keepf hW hSf (by simp)
    simp (disch := (first | assumption | omega | exact nb_ix (by omega) (by assumption) (by omega) (by omega) | exact nb_ix (by omega) rfl (by omega) (by omega) | exact nb_ok (by omega) rfl | decide)) only [kX12_oddsFrom, ↓if_pos, ↓if_neg, nb_add, nb_sub, nb_mul, Int.toNat_natCast, mm_kr_s, mm_kv_s, if_pos, if_neg, sq_tn, Int.toNat_zero, Int.reduceToNat, Int.reduceNeg, Nat.reduceAdd, Int.reduceAdd, Int.reduceEq, Int.reduceLT, Int.reduceLE, Int.zero_add, nb_ui_s, nb_ui_k, nb_ui_a, sp_min, sp_max, sp_bits]
    rw [hX12_oddsFrom_43]
    have hit := sp_isT (d := d + k + 5) (I := S) (L := L) hM (show p < 8 by omega)
    rw [hNS (16 + p) (by omega)] at hit
    have hz0 := (hok.1 p (by omega)).2.2.1
    -- the second half from a heap with the night with a fire
    have second : ∀ U : mm_I, sq_mN U (sd_st p M) → sq_fr [257] S U → sq_X (some (.inl (T1 + T2))) n L P (fun I' => sq_mN I' M ∧ (∀ j, j < 30 * q → I' 261 j = I 261 j) ∧ sq_fr [248, 249, 257, 259, 261] I I') (mm_E (d + k + 6) 251 70 [.inr (.inr (some 239)), .inl ((q : Int)), .inl ((p : Int)), .inl w, .inl (((k + 1 : Nat) : Int)), .inl ch, .inl l, .inl z, .inl (sd_w z ch), .inl T1, .inl 1, .inl (sv_lost M s)] [] [] n U L P) := by
      intro U hU1 hU2
      have hWU := sq_MW_keepf hWS hU2 (by simp)
      simp (disch := (first | assumption | omega | exact nb_ix (by omega) (by assumption) (by omega) (by omega) | exact nb_ix (by omega) rfl (by omega) (by omega) | exact nb_ok (by omega) rfl | decide)) only [kX12_oddsFrom, ↓if_pos, ↓if_neg, nb_add, nb_sub, nb_mul, Int.toNat_natCast, mm_kr_s, mm_kv_s, if_pos, if_neg, sq_tn, Int.toNat_zero, Int.reduceToNat, Int.reduceNeg, Nat.reduceAdd, Int.reduceAdd, Int.reduceEq, Int.reduceLT, Int.reduceLE, Int.zero_add, nb_ui_s, nb_ui_k, nb_ui_a, sp_min, sp_max, sp_bits]
      refine sq_kr (sq_mlive (d := d + k + 1) (by omega) hWU.1 hWU.2.1 hWU.2.2.1 hU1 okS (by rw [sd_st_hi (by omega) (by omega)]; omega)) (fun K2 hK2 => ?_)
      have hWK2 := sq_MW_keepf hWU hK2.2 (by simp)
      simp (disch := (first | assumption | omega | exact nb_ix (by omega) (by assumption) (by omega) (by omega) | exact nb_ix (by omega) rfl (by omega) (by omega) | exact nb_ok (by omega) rfl | decide)) only [kX12_oddsFrom, e1, e2, ↓if_pos, ↓if_neg, nb_add, nb_sub, nb_mul, Int.toNat_natCast, mm_kr_s, mm_kv_s, if_pos, if_neg, sq_tn, Int.toNat_zero, Int.reduceToNat, Int.reduceNeg, Nat.reduceAdd, Int.reduceAdd, Int.reduceEq, Int.reduceLT, Int.reduceLE, Int.zero_add, nb_ui_s, nb_ui_k, nb_ui_a, sp_min, sp_max, sp_bits]
      refine sq_kr (ih K2 (sw_live ev D B g s (sd_st p M)) (q + 1) (l + sv_lost (sd_st p M) s) (sd_w z ch) hWK2 hK2.1 (sw_live_ok okS hs8 hg5) (by rw [sw_live_29, sd_st_hi (by omega) (by omega)]; omega) (by omega) (by omega) (by omega)) (fun R2 hR2 => ?_)
      obtain ⟨u1, u2, u3⟩ := hR2
      rw [hT2]
      simp (disch := (first | assumption | omega | exact nb_ix (by omega) (by assumption) (by omega) (by omega) | exact nb_ix (by omega) rfl (by omega) (by omega) | exact nb_ok (by omega) rfl | decide)) only [kX12_oddsFrom, ↓if_pos, ↓if_neg, nb_add, nb_sub, nb_mul, Int.toNat_natCast, mm_kr_s, mm_kv_s, if_pos, if_neg, sq_tn, Int.toNat_zero, Int.reduceToNat, Int.reduceNeg, Nat.reduceAdd, Int.reduceAdd, Int.reduceEq, Int.reduceLT, Int.reduceLE, Int.zero_add, nb_ui_s, nb_ui_k, nb_ui_a, sp_min, sp_max, sp_bits]
      refine sq_kv (sq_mback (q := q) (d := d + k + 5) hM (by omega)) (fun S2 hS2 => ?_)
      obtain ⟨v1, v2, v3⟩ := hS2
      simp (disch := (first | assumption | omega | exact nb_ix (by omega) (by assumption) (by omega) (by omega) | exact nb_ix (by omega) rfl (by omega) (by omega) | exact nb_ok (by omega) rfl | decide)) only [kX12_oddsFrom, ↓if_pos, ↓if_neg, nb_add, nb_sub, nb_mul, Int.toNat_natCast, mm_kr_s, mm_kv_s, if_pos, if_neg, sq_tn, Int.toNat_zero, Int.reduceToNat, Int.reduceNeg, Nat.reduceAdd, Int.reduceAdd, Int.reduceEq, Int.reduceLT, Int.reduceLE, Int.zero_add, nb_ui_s, nb_ui_k, nb_ui_a, sp_min, sp_max, sp_bits]
      rw [hX12_oddsFrom_43]
      simp (disch := (first | assumption | omega | exact nb_ix (by omega) (by assumption) (by omega) (by omega) | exact nb_ix (by omega) rfl (by omega) (by omega) | exact nb_ok (by omega) rfl | decide)) only [kX12_oddsFrom, ↓if_pos, ↓if_neg, nb_add, nb_sub, nb_mul, Int.toNat_natCast, mm_kr_s, mm_kv_s, if_pos, if_neg, sq_tn, Int.toNat_zero, Int.reduceToNat, Int.reduceNeg, Nat.reduceAdd, Int.reduceAdd, Int.reduceEq, Int.reduceLT, Int.reduceLE, Int.zero_add, nb_ui_s, nb_ui_k, nb_ui_a, sp_min, sp_max, sp_bits]
      refine sq_ret ⟨fun j hj => ?_, fun j hj => ?_, ?_⟩
      · by_cases c : j < 30
        · rw [v1 j c, u2 _ (by omega), hK2.2 261 (by decide), hU2 261 (by decide)]; exact hSa j c
        · rw [v2 j (by omega), u1 j hj, sw_live_hi hs8 (by omega), sd_st_hi (by omega) (by omega)]
      · rw [v3 261 (by decide), u2 _ (by omega), hK2.2 261 (by decide), hU2 261 (by decide)]; exact hSb j hj
      · intro b hb
        simp at hb
        rw [v3 b (by simp; omega), u3 b (by simp; omega), hK2.2 b (by simp; omega), hU2 b (by simp; omega), hSf b (by simp; omega)]
    by_cases hzz : M (16 + p) = 0
    · have hzn : ¬ 0 < M (16 + p) := by omega
      have est : sd_st p M = sw_beg M p 0 1 := if_pos hzz
      rw [if_neg hzn] at hit
      simp (disch := (first | assumption | omega | exact nb_ix (by omega) (by assumption) (by omega) (by omega) | exact nb_ix (by omega) rfl (by omega) (by omega) | exact nb_ok (by omega) rfl | decide)) only [kX12_oddsFrom, hit, ↓if_pos, ↓if_neg, nb_add, nb_sub, nb_mul, Int.toNat_natCast, mm_kr_s, mm_kv_s, if_pos, if_neg, sq_tn, Int.toNat_zero, Int.reduceToNat, Int.reduceNeg, Nat.reduceAdd, Int.reduceAdd, Int.reduceEq, Int.reduceLT, Int.reduceLE, Int.zero_add, nb_ui_s, nb_ui_k, nb_ui_a, sp_min, sp_max, sp_bits]
      refine sq_kv (sq_mbeg (d := d + k + 5) hM (show p < 8 by omega) hNS) (fun U hU => ?_)
      exact second U (by rw [est]; exact hU.1) hU.2
    · have hzn : 0 < M (16 + p) := by omega
      have est : sd_st p M = M := if_neg hzz
      rw [if_pos hzn] at hit
      have h2 := second S (by rw [est]; exact hNS) (sq_fr_refl _ _)
      simp (disch := (first | assumption | omega | exact nb_ix (by omega) (by assumption) (by omega) (by omega) | exact nb_ix (by omega) rfl (by omega) (by omega) | exact nb_ok (by omega) rfl | decide)) only [kX12_oddsFrom, ↓if_pos, ↓if_neg, nb_add, nb_sub, nb_mul, Int.toNat_natCast, mm_kr_s, mm_kv_s, if_pos, if_neg, sq_tn, Int.toNat_zero, Int.reduceToNat, Int.reduceNeg, Nat.reduceAdd, Int.reduceAdd, Int.reduceEq, Int.reduceLT, Int.reduceLE, Int.zero_add, nb_ui_s, nb_ui_k, nb_ui_a, sp_min, sp_max, sp_bits] at h2
      simp (disch := (first | assumption | omega | exact nb_ix (by omega) (by assumption) (by omega) (by omega) | exact nb_ix (by omega) rfl (by omega) (by omega) | exact nb_ok (by omega) rfl | decide)) only [kX12_oddsFrom, hit, ↓if_pos, ↓if_neg, nb_add, nb_sub, nb_mul, Int.toNat_natCast, mm_kr_s, mm_kv_s, if_pos, if_neg, sq_tn, Int.toNat_zero, Int.reduceToNat, Int.reduceNeg, Nat.reduceAdd, Int.reduceAdd, Int.reduceEq, Int.reduceLT, Int.reduceLE, Int.zero_add, nb_ui_s, nb_ui_k, nb_ui_a, sp_min, sp_max, sp_bits]
      exact h2
theorem om_odds (hd : c ≤ d) (hC : sq_MM n c P I s D B g v ev N) (p x w ch : Int) : sq_X (some (.inl (sa_odds (sw_live ev D B g s) s N p x w ch))) n L P (fun I' => sq_mN I' N ∧ sq_fr [248, 249, 257, 259, 261] I I') (mm_rn (d + 14) 252 [.inr (.inr (some 239)), .inl p, .inl x, .inl w, .inl ch] n I L P) := by
  obtain ⟨hW, hN, hok, hh⟩ := hC
  have hM := hW.1
  have ok := hW.1.ok
  have hs : I 239 26 = (s : Int) := hW.2.1.2.1
  have hs8 : s ≤ 8 := hW.2.1.1
  have his := sp_isSpot (d := d + 11) (L := L) hM p (I := I) (by omega)
  rw [hs] at his
  rw [eX12_odds]
  by_cases p1 : 0 ≤ p ∧ p < (s : Int)
  · by_cases x1 : 0 ≤ x ∧ x ≤ 6
    · by_cases w1 : 0 ≤ w ∧ w ≤ 999
      · by_cases c1 : 0 ≤ ch ∧ ch ≤ 100
        · obtain ⟨k, rfl⟩ : ∃ k : Nat, x = (k : Int) := ⟨x.toNat, by omega⟩
          obtain ⟨q, rfl⟩ : ∃ k : Nat, p = (k : Int) := ⟨p.toNat, by omega⟩
          unfold sa_odds
          rw [if_pos ⟨p1, x1, w1, c1⟩, Int.toNat_natCast, Int.toNat_natCast]
          simp (disch := (first | assumption | omega | exact nb_ix (by omega) (by assumption) (by omega) (by omega) | exact nb_ix (by omega) rfl (by omega) (by omega) | exact nb_ok (by omega) rfl | decide)) only [kX12_odds, his, sp_min2, ↓if_pos, ↓if_neg, nb_add, nb_sub, nb_mul, Int.toNat_natCast, mm_kr_s, mm_kv_s, if_pos, if_neg, sq_tn, Int.toNat_zero, Int.reduceToNat, Int.reduceNeg, Nat.reduceAdd, Int.reduceAdd, Int.reduceEq, Int.reduceLT, Int.reduceLE, Int.zero_add, nb_ui_s, nb_ui_k, nb_ui_a, sp_min, sp_max, sp_bits]
          obtain ⟨e, he⟩ : ∃ e, d + 13 = e + k + 6 := ⟨d + 7 - k, by omega⟩
          rw [he]
          have e0 : ((0 : Nat) : Int) = 0 := rfl
          refine sq_kr (sq_modds (d := e) (by omega) (show q < s by omega) c1 k I N 0 0 1000000000 hW hN hok (by omega) (by omega) (by omega) (by omega)) (fun J hJ => ?_)
          simp (disch := (first | assumption | omega | exact nb_ix (by omega) (by assumption) (by omega) (by omega) | exact nb_ix (by omega) rfl (by omega) (by omega) | exact nb_ok (by omega) rfl | decide)) only [kX12_odds, ↓if_pos, ↓if_neg, nb_add, nb_sub, nb_mul, Int.toNat_natCast, mm_kr_s, mm_kv_s, if_pos, if_neg, sq_tn, Int.toNat_zero, Int.reduceToNat, Int.reduceNeg, Nat.reduceAdd, Int.reduceAdd, Int.reduceEq, Int.reduceLT, Int.reduceLE, Int.zero_add, nb_ui_s, nb_ui_k, nb_ui_a, sp_min, sp_max, sp_bits]
          exact sq_ret ⟨hJ.1, hJ.2.2⟩
        · have : sa_odds (sw_live ev D B g s) s N p x w ch = -1 := if_neg (fun z => c1 z.2.2.2)
          rw [this]
          simp (disch := (first | assumption | omega | exact nb_ix (by omega) (by assumption) (by omega) (by omega) | exact nb_ix (by omega) rfl (by omega) (by omega) | exact nb_ok (by omega) rfl | decide)) only [kX12_odds, his, sp_min2, ↓if_pos, ↓if_neg, nb_add, nb_sub, nb_mul, Int.toNat_natCast, mm_kr_s, mm_kv_s, if_pos, if_neg, sq_tn, Int.toNat_zero, Int.reduceToNat, Int.reduceNeg, Nat.reduceAdd, Int.reduceAdd, Int.reduceEq, Int.reduceLT, Int.reduceLE, Int.zero_add, nb_ui_s, nb_ui_k, nb_ui_a, sp_min, sp_max, sp_bits]
          exact sq_ret ⟨hN, sq_fr_refl _ _⟩
      · have : sa_odds (sw_live ev D B g s) s N p x w ch = -1 := if_neg (fun z => w1 z.2.2.1)
        rw [this]
        simp (disch := (first | assumption | omega | exact nb_ix (by omega) (by assumption) (by omega) (by omega) | exact nb_ix (by omega) rfl (by omega) (by omega) | exact nb_ok (by omega) rfl | decide)) only [kX12_odds, his, sp_min2, ↓if_pos, ↓if_neg, nb_add, nb_sub, nb_mul, Int.toNat_natCast, mm_kr_s, mm_kv_s, if_pos, if_neg, sq_tn, Int.toNat_zero, Int.reduceToNat, Int.reduceNeg, Nat.reduceAdd, Int.reduceAdd, Int.reduceEq, Int.reduceLT, Int.reduceLE, Int.zero_add, nb_ui_s, nb_ui_k, nb_ui_a, sp_min, sp_max, sp_bits]
        exact sq_ret ⟨hN, sq_fr_refl _ _⟩
    · have : sa_odds (sw_live ev D B g s) s N p x w ch = -1 := if_neg (fun z => x1 z.2.1)
      rw [this]
      simp (disch := (first | assumption | omega | exact nb_ix (by omega) (by assumption) (by omega) (by omega) | exact nb_ix (by omega) rfl (by omega) (by omega) | exact nb_ok (by omega) rfl | decide)) only [kX12_odds, his, sp_min2, ↓if_pos, ↓if_neg, nb_add, nb_sub, nb_mul, Int.toNat_natCast, mm_kr_s, mm_kv_s, if_pos, if_neg, sq_tn, Int.toNat_zero, Int.reduceToNat, Int.reduceNeg, Nat.reduceAdd, Int.reduceAdd, Int.reduceEq, Int.reduceLT, Int.reduceLE, Int.zero_add, nb_ui_s, nb_ui_k, nb_ui_a, sp_min, sp_max, sp_bits]
      exact sq_ret ⟨hN, sq_fr_refl _ _⟩
  · have : sa_odds (sw_live ev D B g s) s N p x w ch = -1 := if_neg (fun z => p1 z.1)
    rw [this]
    simp (disch := (first | assumption | omega | exact nb_ix (by omega) (by assumption) (by omega) (by omega) | exact nb_ix (by omega) rfl (by omega) (by omega) | exact nb_ok (by omega) rfl | decide)) only [kX12_odds, his, sp_min2, ↓if_pos, ↓if_neg, nb_add, nb_sub, nb_mul, Int.toNat_natCast, mm_kr_s, mm_kv_s, if_pos, if_neg, sq_tn, Int.toNat_zero, Int.reduceToNat, Int.reduceNeg, Nat.reduceAdd, Int.reduceAdd, Int.reduceEq, Int.reduceLT, Int.reduceLE, Int.zero_add, nb_ui_s, nb_ui_k, nb_ui_a, sp_min, sp_max, sp_bits]
    exact sq_ret ⟨hN, sq_fr_refl _ _⟩
end MD
