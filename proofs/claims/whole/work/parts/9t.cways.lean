/-! towns: the class reckons ways and views, joins its lanes -/
section CW
variable {n t d np : Nat} {I L : mm_I} {P : mm_P}
set_option maxHeartbeats 8000000 in
theorem zU_ways {B : Nat → Nat} (hT : sp_T n P t) (ht : 7 ≤ t) (hnp : np ≤ 8) (h0 : I t 0 = (np : Int)) (hB : ∀ p, p < np → I (t + 3) p = (B p : Int) ∧ B p < 256) : sq_X none n L P (fun I' => sq_fr [t + 5] I I' ∧ ∀ p o, p < np → o < np → I' (t + 5) (8 * p + o) = zDi B np (8 * p + o)) (mm_rn (d + 4) 67 [.inr (.inr (some t))] n I L P) := by
  have okT := hT.ok
  obtain ⟨a0, a1, a2, a3, a4, a5, a6, b1, b2, b3, b4, b5⟩ := hT
  have hT : sp_T n P t := ⟨a0, a1, a2, a3, a4, a5, a6, b1, b2, b3, b4, b5⟩
  rw [eX9_reckonWays]
  simp (disch := (first | assumption | omega | exact nb_ix (by omega) (by assumption) (by omega) (by omega) | exact nb_ix (by omega) rfl (by omega) (by omega) | exact nb_ok (by omega) rfl | decide)) only [kX9_reckonWays, ↓if_pos, ↓if_neg, nb_add, nb_sub, nb_mul, Int.toNat_natCast, mm_kr_s, mm_kv_s, if_pos, if_neg, sq_tn, Int.toNat_zero, Int.reduceToNat, Int.reduceNeg, Nat.reduceAdd, Int.reduceAdd, Int.reduceEq, Int.reduceLT, Int.reduceLE, Int.zero_add, nb_ui_s, nb_ui_k, nb_ui_a, sp_min, sp_max, sp_bits]
  refine sq_loop2 (fun k (J : mm_I) (x : mm_V) => mm_E (d + 3) 67 2 [.inr (.inr (some t)), .inl ((k : Int)), x, mm_junk, mm_junk] [] [] n J L P) (fun k J _ => sq_fr [t + 5] I J ∧ ∀ p o, p < k → o < np → J (t + 5) (8 * p + o) = zD0 B (8 * p + o)) np ⟨sq_fr_refl _ I, fun p o hp => by omega⟩ (fun k J x hk hJ nx => ?_) (fun J x hJ => ?_)
  · have j0 : J t 0 = (np : Int) := by rw [hJ.1 t (by simp)]; exact h0
    have c1 : ¬ (np : Int) ≤ (k : Int) := by omega
    rw [hX9_reckonWays_2]
    simp (disch := (first | assumption | omega | exact nb_ix (by omega) (by assumption) (by omega) (by omega) | exact nb_ix (by omega) rfl (by omega) (by omega) | exact nb_ok (by omega) rfl | decide)) only [kX9_reckonWays, j0, ↓if_pos, ↓if_neg, nb_add, nb_sub, nb_mul, Int.toNat_natCast, mm_kr_s, mm_kv_s, if_pos, if_neg, sq_tn, Int.toNat_zero, Int.reduceToNat, Int.reduceNeg, Nat.reduceAdd, Int.reduceAdd, Int.reduceEq, Int.reduceLT, Int.reduceLE, Int.zero_add, nb_ui_s, nb_ui_k, nb_ui_a, sp_min, sp_max, sp_bits]
    refine sq_loop (fun m (K : mm_I) => mm_E (d + 3) 67 12 [.inr (.inr (some t)), .inl ((k : Int)), .inl ((m : Int)), mm_junk, mm_junk] [] [] n K L P) (fun m K => sq_fr [t + 5] I K ∧ ∀ p o, (p < k ∨ (p = k ∧ o < m)) → o < np → K (t + 5) (8 * p + o) = zD0 B (8 * p + o)) np ⟨hJ.1, fun p o hp ho => hJ.2 p o (by omega) ho⟩ (fun m K hm hK nx2 => ?_) (fun K hK => ?_)
    · have k0 : K t 0 = (np : Int) := by rw [hK.1 t (by simp)]; exact h0
      have c2 : ¬ (np : Int) ≤ (m : Int) := by omega
      have e1 : (k : Int) * 8 + (m : Int) = ((8 * k + m : Nat) : Int) := by omega
      have e2 : (m : Int) + 1 = ((m + 1 : Nat) : Int) := by omega
      have kB : K (t + 3) k = (B k : Int) := by rw [hK.1 (t + 3) (by simp)]; exact (hB k hk).1
      have hj := sp_joined (d := d) (L := L) (I := K) hT k0 hnp hk hm kB (hB k hk).2
      have hix : mm_ix n (t + 5) 20 ((8 * k + m : Nat) : Int) := nb_ix a0 a6 (by omega) (by omega)
      have fin : ∀ z : Int, z = zD0 B (8 * k + m) → (sq_fr [t + 5] I (mm_ui K (t + 5) (8 * k + m) z) ∧ ∀ p o, (p < k ∨ (p = k ∧ o < m + 1)) → o < np → mm_ui K (t + 5) (8 * k + m) z (t + 5) (8 * p + o) = zD0 B (8 * p + o)) := by
        intro z hz
        refine ⟨sq_fr_up hK.1 (by simp), fun p o hp ho => ?_⟩
        by_cases e : 8 * p + o = 8 * k + m
        · rw [e, nb_ui_s, hz]
        · rw [nb_ui_k e]; exact hK.2 p o (by omega) ho
      rw [hX9_reckonWays_12]
      by_cases hkm : k = m
      · have c3 : (k : Int) = (m : Int) := by omega
        have c4 : (k : Int) * 8 + (k : Int) = ((8 * k + m : Nat) : Int) := by omega
        have hz : (0 : Int) = zD0 B (8 * k + m) := by unfold zD0; rw [(z8 (show m < 8 by omega)).1, (z8 (show m < 8 by omega)).2, if_pos hkm]
        simp (disch := (first | assumption | omega | exact nb_ix (by omega) (by assumption) (by omega) (by omega) | exact nb_ix (by omega) rfl (by omega) (by omega) | exact nb_ok (by omega) rfl | decide)) only [kX9_reckonWays, k0, e1, e2, b5, ↓if_pos, ↓if_neg, nb_add, nb_sub, nb_mul, Int.toNat_natCast, mm_kr_s, mm_kv_s, if_pos, if_neg, sq_tn, Int.toNat_zero, Int.reduceToNat, Int.reduceNeg, Nat.reduceAdd, Int.reduceAdd, Int.reduceEq, Int.reduceLT, Int.reduceLE, Int.zero_add, nb_ui_s, nb_ui_k, nb_ui_a, sp_min, sp_max, sp_bits]
        exact nx2 _ (fin 0 hz)
      · have c3 : ¬ (k : Int) = (m : Int) := by omega
        by_cases hb : Nat.testBit (B k) m = true
        · rw [if_pos hb] at hj
          have hz : (1 : Int) = zD0 B (8 * k + m) := by unfold zD0; rw [(z8 (show m < 8 by omega)).1, (z8 (show m < 8 by omega)).2, if_neg hkm, if_pos hb]
          simp (disch := (first | assumption | omega | exact nb_ix (by omega) (by assumption) (by omega) (by omega) | exact nb_ix (by omega) rfl (by omega) (by omega) | exact nb_ok (by omega) rfl | decide)) only [kX9_reckonWays, k0, e1, e2, b5, hj, ↓if_pos, ↓if_neg, nb_add, nb_sub, nb_mul, Int.toNat_natCast, mm_kr_s, mm_kv_s, if_pos, if_neg, sq_tn, Int.toNat_zero, Int.reduceToNat, Int.reduceNeg, Nat.reduceAdd, Int.reduceAdd, Int.reduceEq, Int.reduceLT, Int.reduceLE, Int.zero_add, nb_ui_s, nb_ui_k, nb_ui_a, sp_min, sp_max, sp_bits]
          exact nx2 _ (fin 1 hz)
        · rw [if_neg hb] at hj
          have hz : (99 : Int) = zD0 B (8 * k + m) := by unfold zD0; rw [(z8 (show m < 8 by omega)).1, (z8 (show m < 8 by omega)).2, if_neg hkm, if_neg hb]
          simp (disch := (first | assumption | omega | exact nb_ix (by omega) (by assumption) (by omega) (by omega) | exact nb_ix (by omega) rfl (by omega) (by omega) | exact nb_ok (by omega) rfl | decide)) only [kX9_reckonWays, k0, e1, e2, b5, hj, ↓if_pos, ↓if_neg, nb_add, nb_sub, nb_mul, Int.toNat_natCast, mm_kr_s, mm_kv_s, if_pos, if_neg, sq_tn, Int.toNat_zero, Int.reduceToNat, Int.reduceNeg, Nat.reduceAdd, Int.reduceAdd, Int.reduceEq, Int.reduceLT, Int.reduceLE, Int.zero_add, nb_ui_s, nb_ui_k, nb_ui_a, sp_min, sp_max, sp_bits]
          exact nx2 _ (fin 99 hz)
    · have k0 : K t 0 = (np : Int) := by rw [hK.1 t (by simp)]; exact h0
      have c2 : (np : Int) ≤ (np : Int) := Int.le_refl _
      have e2 : (k : Int) + 1 = ((k + 1 : Nat) : Int) := by omega
      rw [hX9_reckonWays_12]
      simp (disch := (first | assumption | omega | exact nb_ix (by omega) (by assumption) (by omega) (by omega) | exact nb_ix (by omega) rfl (by omega) (by omega) | exact nb_ok (by omega) rfl | decide)) only [kX9_reckonWays, k0, e2, ↓if_pos, ↓if_neg, nb_add, nb_sub, nb_mul, Int.toNat_natCast, mm_kr_s, mm_kv_s, if_pos, if_neg, sq_tn, Int.toNat_zero, Int.reduceToNat, Int.reduceNeg, Nat.reduceAdd, Int.reduceAdd, Int.reduceEq, Int.reduceLT, Int.reduceLE, Int.zero_add, nb_ui_s, nb_ui_k, nb_ui_a, sp_min, sp_max, sp_bits]
      exact nx K _ ⟨hK.1, fun p o hp ho => hK.2 p o (by omega) ho⟩
  · have j0 : J t 0 = (np : Int) := by rw [hJ.1 t (by simp)]; exact h0
    have c1 : (np : Int) ≤ (np : Int) := Int.le_refl _
    rw [hX9_reckonWays_2]
    simp (disch := (first | assumption | omega | exact nb_ix (by omega) (by assumption) (by omega) (by omega) | exact nb_ix (by omega) rfl (by omega) (by omega) | exact nb_ok (by omega) rfl | decide)) only [kX9_reckonWays, j0, ↓if_pos, ↓if_neg, nb_add, nb_sub, nb_mul, Int.toNat_natCast, mm_kr_s, mm_kv_s, if_pos, if_neg, sq_tn, Int.toNat_zero, Int.reduceToNat, Int.reduceNeg, Nat.reduceAdd, Int.reduceAdd, Int.reduceEq, Int.reduceLT, Int.reduceLE, Int.zero_add, nb_ui_s, nb_ui_k, nb_ui_a, sp_min, sp_max, sp_bits]
    refine sq_loop2 (fun b (K : mm_I) (y : mm_V × mm_V × mm_V) => mm_E (d + 3) 67 69 [.inr (.inr (some t)), .inl ((b : Int)), y.1, y.2.1, y.2.2] [] [] n K L P) (fun b K _ => sq_fr [t + 5] I K ∧ ∀ p o, p < np → o < np → K (t + 5) (8 * p + o) = zDi B b (8 * p + o)) np (s0 := J) (t0 := (x, mm_junk, mm_junk)) ⟨hJ.1, fun p o hp ho => hJ.2 p o hp ho⟩ (fun b K y hb hK nx => ?_) (fun K y hK => ?_)
    · have k0 : K t 0 = (np : Int) := by rw [hK.1 t (by simp)]; exact h0
      have c2 : ¬ (np : Int) ≤ (b : Int) := by omega
      rw [hX9_reckonWays_69]
      simp (disch := (first | assumption | omega | exact nb_ix (by omega) (by assumption) (by omega) (by omega) | exact nb_ix (by omega) rfl (by omega) (by omega) | exact nb_ok (by omega) rfl | decide)) only [kX9_reckonWays, k0, ↓if_pos, ↓if_neg, nb_add, nb_sub, nb_mul, Int.toNat_natCast, mm_kr_s, mm_kv_s, if_pos, if_neg, sq_tn, Int.toNat_zero, Int.reduceToNat, Int.reduceNeg, Nat.reduceAdd, Int.reduceAdd, Int.reduceEq, Int.reduceLT, Int.reduceLE, Int.zero_add, nb_ui_s, nb_ui_k, nb_ui_a, sp_min, sp_max, sp_bits]
      refine sq_loop2 (fun f (M : mm_I) (y : mm_V × mm_V) => mm_E (d + 3) 67 79 [.inr (.inr (some t)), .inl ((b : Int)), .inl ((f : Int)), y.1, y.2] [] [] n M L P) (fun f M _ => sq_fr [t + 5] I M ∧ ∀ p o, p < np → o < np → M (t + 5) (8 * p + o) = if p < f then zwb b (zDi B b) (8 * p + o) else zDi B b (8 * p + o)) np (s0 := K) (t0 := (y.2.1, y.2.2)) ⟨hK.1, fun p o hp ho => by rw [if_neg (by omega)]; exact hK.2 p o hp ho⟩ (fun f M y hf hM nx2 => ?_) (fun M y hM => ?_)
      · have m0 : M t 0 = (np : Int) := by rw [hM.1 t (by simp)]; exact h0
        have c3 : ¬ (np : Int) ≤ (f : Int) := by omega
        rw [hX9_reckonWays_79]
        simp (disch := (first | assumption | omega | exact nb_ix (by omega) (by assumption) (by omega) (by omega) | exact nb_ix (by omega) rfl (by omega) (by omega) | exact nb_ok (by omega) rfl | decide)) only [kX9_reckonWays, m0, ↓if_pos, ↓if_neg, nb_add, nb_sub, nb_mul, Int.toNat_natCast, mm_kr_s, mm_kv_s, if_pos, if_neg, sq_tn, Int.toNat_zero, Int.reduceToNat, Int.reduceNeg, Nat.reduceAdd, Int.reduceAdd, Int.reduceEq, Int.reduceLT, Int.reduceLE, Int.zero_add, nb_ui_s, nb_ui_k, nb_ui_a, sp_min, sp_max, sp_bits]
        refine sq_loop2 (fun m (G : mm_I) (y : mm_V) => mm_E (d + 3) 67 89 [.inr (.inr (some t)), .inl ((b : Int)), .inl ((f : Int)), .inl ((m : Int)), y] [] [] n G L P) (fun m G _ => sq_fr [t + 5] I G ∧ ∀ p o, p < np → o < np → G (t + 5) (8 * p + o) = if p < f ∨ (p = f ∧ o < m) then zwb b (zDi B b) (8 * p + o) else zDi B b (8 * p + o)) np (s0 := M) (t0 := y.2) ⟨hM.1, fun p o hp ho => by
            rw [hM.2 p o hp ho]
            by_cases e : p < f
            · rw [if_pos e, if_pos (Or.inl e)]
            · rw [if_neg e, if_neg (by omega)]⟩ (fun m G y hm hG nx3 => ?_) (fun G y hG => ?_)
        · have g0 : G t 0 = (np : Int) := by rw [hG.1 t (by simp)]; exact h0
          have c4 : ¬ (np : Int) ≤ (m : Int) := by omega
          have e1 : (f : Int) * 8 + (m : Int) = ((8 * f + m : Nat) : Int) := by omega
          have e2 : (m : Int) + 1 = ((m + 1 : Nat) : Int) := by omega
          have w1 := sp_way (d := d + 1) (L := L) (I := G) hT g0 hnp hf hb
          have w2 := sp_way (d := d + 1) (L := L) (I := G) hT g0 hnp hb hm
          have v1 : G (t + 5) (8 * f + b) = zDi B b (8 * f + b) := by
            rw [hG.2 f b hf hb]
            split
            · exact zst_col (by omega) (by omega)
            · rfl
          have v2 : G (t + 5) (8 * b + m) = zDi B b (8 * b + m) := by
            rw [hG.2 b m hb hm]
            split
            · exact zst_row (by omega) (by omega)
            · rfl
          have v3 : G (t + 5) (8 * f + m) = zDi B b (8 * f + m) := by
            rw [hG.2 f m hf hm, if_neg (by omega)]
          rw [v1] at w1
          rw [v2] at w2
          have r1 := zDi_rg B b (8 * f + b)
          have r2 := zDi_rg B b (8 * b + m)
          have hix : mm_ix n (t + 5) 20 ((8 * f + m : Nat) : Int) := nb_ix a0 a6 (by omega) (by omega)
          rw [hX9_reckonWays_89]
          simp (disch := (first | assumption | omega | exact nb_ix (by omega) (by assumption) (by omega) (by omega) | exact nb_ix (by omega) rfl (by omega) (by omega) | exact nb_ok (by omega) rfl | decide)) only [kX9_reckonWays, g0, e1, e2, b5, w1, w2, v3, ↓if_pos, ↓if_neg, nb_add, nb_sub, nb_mul, Int.toNat_natCast, mm_kr_s, mm_kv_s, if_pos, if_neg, sq_tn, Int.toNat_zero, Int.reduceToNat, Int.reduceNeg, Nat.reduceAdd, Int.reduceAdd, Int.reduceEq, Int.reduceLT, Int.reduceLE, Int.zero_add, nb_ui_s, nb_ui_k, nb_ui_a, sp_min, sp_max, sp_bits]
          refine nx3 _ _ ⟨sq_fr_up hG.1 (by simp), fun p o hp ho => ?_⟩
          by_cases e : 8 * p + o = 8 * f + m
          · have ep : p = f := by omega
            have eo : o = m := by omega
            subst ep
            subst eo
            rw [nb_ui_s, if_pos (by omega), zst_e (by omega)]
          · rw [nb_ui_k e, hG.2 p o hp ho]
            by_cases e3 : p < f ∨ (p = f ∧ o < m)
            · rw [if_pos e3, if_pos (by omega)]
            · rw [if_neg e3, if_neg (by omega)]
        · have g0 : G t 0 = (np : Int) := by rw [hG.1 t (by simp)]; exact h0
          have c4 : (np : Int) ≤ (np : Int) := Int.le_refl _
          have e2 : (f : Int) + 1 = ((f + 1 : Nat) : Int) := by omega
          rw [hX9_reckonWays_89]
          simp (disch := (first | assumption | omega | exact nb_ix (by omega) (by assumption) (by omega) (by omega) | exact nb_ix (by omega) rfl (by omega) (by omega) | exact nb_ok (by omega) rfl | decide)) only [kX9_reckonWays, g0, e2, ↓if_pos, ↓if_neg, nb_add, nb_sub, nb_mul, Int.toNat_natCast, mm_kr_s, mm_kv_s, if_pos, if_neg, sq_tn, Int.toNat_zero, Int.reduceToNat, Int.reduceNeg, Nat.reduceAdd, Int.reduceAdd, Int.reduceEq, Int.reduceLT, Int.reduceLE, Int.zero_add, nb_ui_s, nb_ui_k, nb_ui_a, sp_min, sp_max, sp_bits]
          refine nx2 G (_, y) ⟨hG.1, fun p o hp ho => ?_⟩
          rw [hG.2 p o hp ho]
          by_cases e3 : p < f + 1
          · rw [if_pos e3, if_pos (by omega)]
          · rw [if_neg e3, if_neg (by omega)]
      · have m0 : M t 0 = (np : Int) := by rw [hM.1 t (by simp)]; exact h0
        have c3 : (np : Int) ≤ (np : Int) := Int.le_refl _
        have e2 : (b : Int) + 1 = ((b + 1 : Nat) : Int) := by omega
        rw [hX9_reckonWays_79]
        simp (disch := (first | assumption | omega | exact nb_ix (by omega) (by assumption) (by omega) (by omega) | exact nb_ix (by omega) rfl (by omega) (by omega) | exact nb_ok (by omega) rfl | decide)) only [kX9_reckonWays, m0, e2, ↓if_pos, ↓if_neg, nb_add, nb_sub, nb_mul, Int.toNat_natCast, mm_kr_s, mm_kv_s, if_pos, if_neg, sq_tn, Int.toNat_zero, Int.reduceToNat, Int.reduceNeg, Nat.reduceAdd, Int.reduceAdd, Int.reduceEq, Int.reduceLT, Int.reduceLE, Int.zero_add, nb_ui_s, nb_ui_k, nb_ui_a, sp_min, sp_max, sp_bits]
        refine nx M (_, y) ⟨hM.1, fun p o hp ho => ?_⟩
        rw [hM.2 p o hp ho, if_pos hp]
        rfl
    · have k0 : K t 0 = (np : Int) := by rw [hK.1 t (by simp)]; exact h0
      have c2 : (np : Int) ≤ (np : Int) := Int.le_refl _
      rw [hX9_reckonWays_69]
      simp (disch := (first | assumption | omega | exact nb_ix (by omega) (by assumption) (by omega) (by omega) | exact nb_ix (by omega) rfl (by omega) (by omega) | exact nb_ok (by omega) rfl | decide)) only [kX9_reckonWays, k0, ↓if_pos, ↓if_neg, nb_add, nb_sub, nb_mul, Int.toNat_natCast, mm_kr_s, mm_kv_s, if_pos, if_neg, sq_tn, Int.toNat_zero, Int.reduceToNat, Int.reduceNeg, Nat.reduceAdd, Int.reduceAdd, Int.reduceEq, Int.reduceLT, Int.reduceLE, Int.zero_add, nb_ui_s, nb_ui_k, nb_ui_a, sp_min, sp_max, sp_bits]
      exact sq_ret hK
set_option maxHeartbeats 8000000 in
theorem zU_views {D : Nat → Int} {v : Int} (hT : sp_T n P t) (ht : 7 ≤ t) (hnp : np ≤ 8) (h0 : I t 0 = (np : Int)) (h2 : I t 2 = v) (hD : ∀ p o, p < np → o < np → I (t + 5) (8 * p + o) = D (8 * p + o)) : sq_X none n L P (fun I' => sq_fr [t + 4] I I' ∧ ∀ p, p < np → I' (t + 4) p = (sp_mask (fun o => decide (D (8 * p + o) ≤ v)) np : Nat)) (mm_rn (d + 3) 68 [.inr (.inr (some t))] n I L P) := by
  have okT := hT.ok
  obtain ⟨a0, a1, a2, a3, a4, a5, a6, b1, b2, b3, b4, b5⟩ := hT
  have hT : sp_T n P t := ⟨a0, a1, a2, a3, a4, a5, a6, b1, b2, b3, b4, b5⟩
  rw [eX9_reckonViews]
  simp (disch := (first | assumption | omega | exact nb_ix (by omega) (by assumption) (by omega) (by omega) | exact nb_ix (by omega) rfl (by omega) (by omega) | exact nb_ok (by omega) rfl | decide)) only [kX9_reckonViews, ↓if_pos, ↓if_neg, nb_add, nb_sub, nb_mul, Int.toNat_natCast, mm_kr_s, mm_kv_s, if_pos, if_neg, sq_tn, Int.toNat_zero, Int.reduceToNat, Int.reduceNeg, Nat.reduceAdd, Int.reduceAdd, Int.reduceEq, Int.reduceLT, Int.reduceLE, Int.zero_add, nb_ui_s, nb_ui_k, nb_ui_a, sp_min, sp_max, sp_bits]
  refine sq_loop2 (fun k (J : mm_I) (x : mm_V) => mm_E (d + 2) 68 2 [.inr (.inr (some t)), .inl ((k : Int)), x] [] [] n J L P) (fun k J _ => sq_fr [t + 4] I J ∧ ∀ p, p < k → J (t + 4) p = (sp_mask (fun o => decide (D (8 * p + o) ≤ v)) np : Nat)) np ⟨sq_fr_refl _ I, fun p hp => by omega⟩ (fun k J x hk hJ nx => ?_) (fun J x hJ => ?_)
  · have j0 : J t 0 = (np : Int) := by rw [hJ.1 t (by simp)]; exact h0
    have c1 : ¬ (np : Int) ≤ (k : Int) := by omega
    rw [hX9_reckonViews_2]
    simp (disch := (first | assumption | omega | exact nb_ix (by omega) (by assumption) (by omega) (by omega) | exact nb_ix (by omega) rfl (by omega) (by omega) | exact nb_ok (by omega) rfl | decide)) only [kX9_reckonViews, j0, b4, ↓if_pos, ↓if_neg, nb_add, nb_sub, nb_mul, Int.toNat_natCast, mm_kr_s, mm_kv_s, if_pos, if_neg, sq_tn, Int.toNat_zero, Int.reduceToNat, Int.reduceNeg, Nat.reduceAdd, Int.reduceAdd, Int.reduceEq, Int.reduceLT, Int.reduceLE, Int.zero_add, nb_ui_s, nb_ui_k, nb_ui_a, sp_min, sp_max, sp_bits]
    refine sq_loop (fun m (K : mm_I) => mm_E (d + 2) 68 19 [.inr (.inr (some t)), .inl ((k : Int)), .inl ((m : Int))] [] [] n K L P) (fun m K => sq_fr [t + 4] I K ∧ (∀ p, p < k → K (t + 4) p = (sp_mask (fun o => decide (D (8 * p + o) ≤ v)) np : Nat)) ∧ K (t + 4) k = (sp_mask (fun o => decide (D (8 * k + o) ≤ v)) m : Nat)) np ⟨sq_fr_up hJ.1 (by simp), fun p hp => by rw [nb_ui_k (by omega)]; exact hJ.2 p hp, by rw [nb_ui_s]; rfl⟩ (fun m K hm hK nx2 => ?_) (fun K hK => ?_)
    · obtain ⟨f1, f2, f3⟩ := hK
      have k0 : K t 0 = (np : Int) := by rw [f1 t (by simp)]; exact h0
      have k2 : K t 2 = v := by rw [f1 t (by simp)]; exact h2
      have c2 : ¬ (np : Int) ≤ (m : Int) := by omega
      have e2 : (m : Int) + 1 = ((m + 1 : Nat) : Int) := by omega
      have w1 := sp_way (d := d) (L := L) (I := K) hT k0 hnp hk hm
      rw [f1 (t + 5) (by simp), hD k m hk hm] at w1
      have hor := sp_orbit (sp_mask_lt (fun o => decide (D (8 * k + o) ≤ v)) m) (show m < 8 by omega)
      rw [hX9_reckonViews_19]
      by_cases hv : D (8 * k + m) ≤ v
      · have c3 : ¬ v < D (8 * k + m) := by omega
        have hm1 : sp_mask (fun o => decide (D (8 * k + o) ≤ v)) (m + 1) = sp_mask (fun o => decide (D (8 * k + o) ≤ v)) m + 2 ^ m := by
          show sp_mask _ m + (if decide (D (8 * k + m) ≤ v) = true then 2 ^ m else 0) = _
          rw [if_pos (decide_eq_true hv)]
        simp (disch := (first | assumption | omega | exact nb_ix (by omega) (by assumption) (by omega) (by omega) | exact nb_ix (by omega) rfl (by omega) (by omega) | exact nb_ok (by omega) rfl | decide)) only [kX9_reckonViews, k0, w1, k2, b4, f3, hor, e2, ↓if_pos, ↓if_neg, nb_add, nb_sub, nb_mul, Int.toNat_natCast, mm_kr_s, mm_kv_s, if_pos, if_neg, sq_tn, Int.toNat_zero, Int.reduceToNat, Int.reduceNeg, Nat.reduceAdd, Int.reduceAdd, Int.reduceEq, Int.reduceLT, Int.reduceLE, Int.zero_add, nb_ui_s, nb_ui_k, nb_ui_a, sp_min, sp_max, sp_bits]
        refine nx2 _ ⟨sq_fr_up f1 (by simp), fun p hp => by rw [nb_ui_k (by omega)]; exact f2 p hp, ?_⟩
        rw [nb_ui_s, hm1]
      · have c3 : v < D (8 * k + m) := by omega
        have hm1 : sp_mask (fun o => decide (D (8 * k + o) ≤ v)) (m + 1) = sp_mask (fun o => decide (D (8 * k + o) ≤ v)) m := by
          show sp_mask _ m + (if decide (D (8 * k + m) ≤ v) = true then 2 ^ m else 0) = _
          rw [if_neg (by simpa using hv), Nat.add_zero]
        simp (disch := (first | assumption | omega | exact nb_ix (by omega) (by assumption) (by omega) (by omega) | exact nb_ix (by omega) rfl (by omega) (by omega) | exact nb_ok (by omega) rfl | decide)) only [kX9_reckonViews, k0, w1, k2, e2, ↓if_pos, ↓if_neg, nb_add, nb_sub, nb_mul, Int.toNat_natCast, mm_kr_s, mm_kv_s, if_pos, if_neg, sq_tn, Int.toNat_zero, Int.reduceToNat, Int.reduceNeg, Nat.reduceAdd, Int.reduceAdd, Int.reduceEq, Int.reduceLT, Int.reduceLE, Int.zero_add, nb_ui_s, nb_ui_k, nb_ui_a, sp_min, sp_max, sp_bits]
        refine nx2 _ ⟨f1, f2, ?_⟩
        rw [hm1]; exact f3
    · obtain ⟨f1, f2, f3⟩ := hK
      have k0 : K t 0 = (np : Int) := by rw [f1 t (by simp)]; exact h0
      have c2 : (np : Int) ≤ (np : Int) := Int.le_refl _
      have e2 : (k : Int) + 1 = ((k + 1 : Nat) : Int) := by omega
      rw [hX9_reckonViews_19]
      simp (disch := (first | assumption | omega | exact nb_ix (by omega) (by assumption) (by omega) (by omega) | exact nb_ix (by omega) rfl (by omega) (by omega) | exact nb_ok (by omega) rfl | decide)) only [kX9_reckonViews, k0, e2, ↓if_pos, ↓if_neg, nb_add, nb_sub, nb_mul, Int.toNat_natCast, mm_kr_s, mm_kv_s, if_pos, if_neg, sq_tn, Int.toNat_zero, Int.reduceToNat, Int.reduceNeg, Nat.reduceAdd, Int.reduceAdd, Int.reduceEq, Int.reduceLT, Int.reduceLE, Int.zero_add, nb_ui_s, nb_ui_k, nb_ui_a, sp_min, sp_max, sp_bits]
      refine nx K _ ⟨f1, fun p hp => ?_⟩
      by_cases e : p = k
      · subst e; exact f3
      · exact f2 p (by omega)
  · have j0 : J t 0 = (np : Int) := by rw [hJ.1 t (by simp)]; exact h0
    have c1 : (np : Int) ≤ (np : Int) := Int.le_refl _
    rw [hX9_reckonViews_2]
    simp (disch := (first | assumption | omega | exact nb_ix (by omega) (by assumption) (by omega) (by omega) | exact nb_ix (by omega) rfl (by omega) (by omega) | exact nb_ok (by omega) rfl | decide)) only [kX9_reckonViews, j0, ↓if_pos, ↓if_neg, nb_add, nb_sub, nb_mul, Int.toNat_natCast, mm_kr_s, mm_kv_s, if_pos, if_neg, sq_tn, Int.toNat_zero, Int.reduceToNat, Int.reduceNeg, Nat.reduceAdd, Int.reduceAdd, Int.reduceEq, Int.reduceLT, Int.reduceLE, Int.zero_add, nb_ui_s, nb_ui_k, nb_ui_a, sp_min, sp_max, sp_bits]
    exact sq_ret hJ
theorem zU_join {B : Nat → Nat} {a b : Nat} (hT : sp_T n P t) (ha : a < 8) (hb : b < 8) (hab : a ≠ b) (hA : I (t + 3) a = (B a : Int) ∧ B a < 256) (hB : I (t + 3) b = (B b : Int) ∧ B b < 256) : mm_rn (d + 1) 66 [.inr (.inr (some t)), .inl ((a : Int)), .inl ((b : Int))] n I L P = some (none, n, mm_ui (mm_ui I (t + 3) a (zsb (B a) b : Int)) (t + 3) b (zsb (B b) a : Int), L, P) := by
  have okT := hT.ok
  obtain ⟨a0, a1, a2, a3, a4, a5, a6, b1, b2, b3, b4, b5⟩ := hT
  have o1 := nb_set0 (B a) hA.2 b hb
  have o2 := nb_set0 (B b) hB.2 a ha
  have g1 := hA.1
  have g2 := hB.1
  have x1 : mm_ix n (t + 3) 20 (a : Int) := nb_ix (by omega) a4 (by omega) (by omega)
  have x2 : mm_ix n (t + 3) 20 (b : Int) := nb_ix (by omega) a4 (by omega) (by omega)
  rw [eX9_join]
  simp (disch := (first | assumption | omega | exact nb_ix (by omega) (by assumption) (by omega) (by omega) | exact nb_ix (by omega) rfl (by omega) (by omega) | exact nb_ok (by omega) rfl | decide)) only [kX9_join, b3, g1, g2, o1, o2, ↓if_pos, ↓if_neg, nb_add, nb_sub, nb_mul, Int.toNat_natCast, mm_kr_s, mm_kv_s, if_pos, if_neg, sq_tn, Int.toNat_zero, Int.reduceToNat, Int.reduceNeg, Nat.reduceAdd, Int.reduceAdd, Int.reduceEq, Int.reduceLT, Int.reduceLE, Int.zero_add, nb_ui_s, nb_ui_k, nb_ui_a, sp_min, sp_max, sp_bits]
  rfl
end CW
