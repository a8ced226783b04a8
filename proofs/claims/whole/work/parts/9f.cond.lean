/-! conditions wherever they stand -/
section CO
variable {n a x S dp r i : Nat} {P : mm_P} {T : Nat → Int}
set_option maxHeartbeats 4000000 in
theorem zJ_truth (ha : 20 ≤ a) (hS : S ≤ 240) (hi : i ≤ S) (hsub : zun n P a x T S dp (2 * r + 4) i (5 * r + 9) 32 166) (hrec : ∀ i', i < i' → i' ≤ S → zct n P a x T S dp (2 * r + 4 + 1) i' (5 * r + 9) 31 167) : ztr n P a x T S dp (2 * r + 5) i (5 * r + 10) := by
  obtain ⟨o1, og, os, oc, om⟩ := hsub
  cases o1 with
  | inl p =>
    refine ⟨.inl p, og, trivial, fun d hd I L c0 hz h2 h3 h4 => ?_, fun d hd I L c0 hz h2 hw h5 hx14 h6 h7 => ?_⟩
    · obtain ⟨e, rfl⟩ : ∃ e, d = e + 1 := ⟨d - 1, by omega⟩
      show sq_X _ _ _ _ _ (mm_rn (e + 1) 31 _ n I L P)
      rw [eX4_readTruth]
      simp (disch := (first | assumption | omega | exact nb_ix (by omega) (by assumption) (by omega) (by omega) | exact nb_ix (by omega) rfl (by omega) (by omega) | exact nb_ok (by omega) rfl | decide)) only [kX4_readTruth, ↓if_pos, ↓if_neg, nb_add, nb_sub, nb_mul, Int.toNat_natCast, mm_kr_s, mm_kv_s, if_pos, if_neg, sq_tn, Int.toNat_zero, Int.reduceToNat, Int.reduceNeg, Nat.reduceAdd, Int.reduceAdd, Int.reduceEq, Int.reduceLT, Int.reduceLE, Int.zero_add, nb_ui_s, nb_ui_k, nb_ui_a, sp_min, sp_max, sp_bits]
      refine sq_kr (oc e (by omega) I L c0 hz h2 h3 h4) (fun I' hI => ?_)
      have e0 : zr (Sum.inl p : zo) = 0 := rfl
      simp (disch := (first | assumption | omega | exact nb_ix (by omega) (by assumption) (by omega) (by omega) | exact nb_ix (by omega) rfl (by omega) (by omega) | exact nb_ok (by omega) rfl | decide)) only [kX4_readTruth, e0, ↓if_pos, ↓if_neg, nb_add, nb_sub, nb_mul, Int.toNat_natCast, mm_kr_s, mm_kv_s, if_pos, if_neg, sq_tn, Int.toNat_zero, Int.reduceToNat, Int.reduceNeg, Nat.reduceAdd, Int.reduceAdd, Int.reduceEq, Int.reduceLT, Int.reduceLE, Int.zero_add, nb_ui_s, nb_ui_k, nb_ui_a, sp_min, sp_max, sp_bits]
      exact sq_ret hI
    · obtain ⟨e, rfl⟩ : ∃ e, d = e + 1 := ⟨d - 1, by omega⟩
      obtain ⟨I1, e1, hI⟩ := om (e + 1) (by omega) I L c0 hz h2 hw h5 hx14 h6 h7
      have ok := hz.1.ok
      refine ⟨I1, e1, ?_⟩
      have i1 := hI.1
      have cp : ¬ (p : Int) = -1 := by omega
      rw [eX12_goOnAnd, hX12_goOnAnd_0]
      simp (disch := (first | assumption | omega | exact nb_ix (by omega) (by assumption) (by omega) (by omega) | exact nb_ix (by omega) rfl (by omega) (by omega) | exact nb_ok (by omega) rfl | decide)) only [kX12_goOnAnd, i1, ↓if_pos, ↓if_neg, nb_add, nb_sub, nb_mul, Int.toNat_natCast, mm_kr_s, mm_kv_s, if_pos, if_neg, sq_tn, Int.toNat_zero, Int.reduceToNat, Int.reduceNeg, Nat.reduceAdd, Int.reduceAdd, Int.reduceEq, Int.reduceLT, Int.reduceLE, Int.zero_add, nb_ui_s, nb_ui_k, nb_ui_a, sp_min, sp_max, sp_bits]
      exact sq_ret hI
  | inr w =>
    obtain ⟨j1, t1⟩ := w
    obtain ⟨g1, g2, g3⟩ := og
    have g1' : i < j1 := g1
    have g2' : j1 ≤ S := g2
    have g3' : t1.length + i ≤ j1 := g3
    obtain ⟨o2, pg, ps, pc, pm⟩ := hrec j1 (by omega) (by omega)
    refine ⟨zj t1 o2, ?_, ?_, fun d hd I L c0 hz h2 h3 h4 => ?_, fun d hd I L c0 hz h2 hw h5 hx14 h6 h7 => ?_⟩
    · cases o2 with
      | inl p => exact pg
      | inr w =>
        obtain ⟨u1, u2, u3⟩ := pg
        refine ⟨by show i < w.1; omega, u2, ?_⟩
        show (t1 ++ w.2).length + i ≤ w.1
        simp
        omega
    · cases o2 with
      | inl p => trivial
      | inr w => exact sx_C_then os ps
    · rw [zr_zj]
      obtain ⟨e, rfl⟩ : ∃ e, d = e + 1 := ⟨d - 1, by omega⟩
      show sq_X _ _ _ _ _ (mm_rn (e + 1) 31 _ n I L P)
      rw [eX4_readTruth]
      simp (disch := (first | assumption | omega | exact nb_ix (by omega) (by assumption) (by omega) (by omega) | exact nb_ix (by omega) rfl (by omega) (by omega) | exact nb_ok (by omega) rfl | decide)) only [kX4_readTruth, ↓if_pos, ↓if_neg, nb_add, nb_sub, nb_mul, Int.toNat_natCast, mm_kr_s, mm_kv_s, if_pos, if_neg, sq_tn, Int.toNat_zero, Int.reduceToNat, Int.reduceNeg, Nat.reduceAdd, Int.reduceAdd, Int.reduceEq, Int.reduceLT, Int.reduceLE, Int.zero_add, nb_ui_s, nb_ui_k, nb_ui_a, sp_min, sp_max, sp_bits]
      refine sq_kr (oc e (by omega) I L c0 hz h2 h3 h4) (fun I' hI => ?_)
      obtain ⟨i1, i2, i3, i4, i5⟩ := hI
      have e0 : zr (Sum.inr (j1, t1) : zo) = 1 := rfl
      simp (disch := (first | assumption | omega | exact nb_ix (by omega) (by assumption) (by omega) (by omega) | exact nb_ix (by omega) rfl (by omega) (by omega) | exact nb_ok (by omega) rfl | decide)) only [kX4_readTruth, e0, ↓if_pos, ↓if_neg, nb_add, nb_sub, nb_mul, Int.toNat_natCast, mm_kr_s, mm_kv_s, if_pos, if_neg, sq_tn, Int.toNat_zero, Int.reduceToNat, Int.reduceNeg, Nat.reduceAdd, Int.reduceAdd, Int.reduceEq, Int.reduceLT, Int.reduceLE, Int.zero_add, nb_ui_s, nb_ui_k, nb_ui_a, sp_min, sp_max, sp_bits]
      refine sq_mono (pc e 0 _ (by omega) (by omega) I' L (c0 + t1.length) (i5.zc ha hz) i1 i2 (by omega)) (fun K hK => zcP_then i5 i4 i3 hK)
    · obtain ⟨e, rfl⟩ : ∃ e, d = e + 1 := ⟨d - 1, by omega⟩
      obtain ⟨I1, e1, hI⟩ := om (e + 1) (by omega) I L c0 hz h2 hw h5 hx14 h6 h7
      obtain ⟨i1, i2, i3, i4, i5, i6⟩ := hI
      refine ⟨I1, e1, ?_⟩
      rw [eX12_goOnAnd]
      refine sq_mono (pm e (by omega) I1 L (c0 + t1.length) (i6.zm hz) i1 i2 i3 (i6.tx hx14) i4 (by omega)) (fun K hK => zmP_then (i1 := j1) (by omega) (by omega) i6 i5 hK)
set_option maxHeartbeats 4000000 in
theorem zJ_cond (ha : 20 ≤ a) (hS : S ≤ 240) (hi : i ≤ S) (hsub : ztr n P a x T S dp (2 * r + 5) i (5 * r + 10)) (hrec : ∀ i', i < i' → i' ≤ S → zct n P a x T S dp (2 * r + 5 + 1) i' (5 * r + 10) 30 168) : zun n P a x T S dp (2 * r + 6) i (5 * r + 12) 30 169 := by
  obtain ⟨o1, og, os, oc, om⟩ := hsub
  cases o1 with
  | inl p =>
    refine ⟨.inl p, og, trivial, fun d hd I L c0 hz h2 h3 h4 => ?_, fun d hd I L c0 hz h2 hw h5 hx14 h6 h7 => ?_⟩
    · obtain ⟨e, rfl⟩ : ∃ e, d = e + 1 := ⟨d - 1, by omega⟩
      show sq_X _ _ _ _ _ (mm_rn (e + 1) 30 _ n I L P)
      rw [eX4_readCondition]
      simp (disch := (first | assumption | omega | exact nb_ix (by omega) (by assumption) (by omega) (by omega) | exact nb_ix (by omega) rfl (by omega) (by omega) | exact nb_ok (by omega) rfl | decide)) only [kX4_readCondition, ↓if_pos, ↓if_neg, nb_add, nb_sub, nb_mul, Int.toNat_natCast, mm_kr_s, mm_kv_s, if_pos, if_neg, sq_tn, Int.toNat_zero, Int.reduceToNat, Int.reduceNeg, Nat.reduceAdd, Int.reduceAdd, Int.reduceEq, Int.reduceLT, Int.reduceLE, Int.zero_add, nb_ui_s, nb_ui_k, nb_ui_a, sp_min, sp_max, sp_bits]
      refine sq_kr (oc e (by omega) I L c0 hz h2 h3 h4) (fun I' hI => ?_)
      have e0 : zr (Sum.inl p : zo) = 0 := rfl
      simp (disch := (first | assumption | omega | exact nb_ix (by omega) (by assumption) (by omega) (by omega) | exact nb_ix (by omega) rfl (by omega) (by omega) | exact nb_ok (by omega) rfl | decide)) only [kX4_readCondition, e0, ↓if_pos, ↓if_neg, nb_add, nb_sub, nb_mul, Int.toNat_natCast, mm_kr_s, mm_kv_s, if_pos, if_neg, sq_tn, Int.toNat_zero, Int.reduceToNat, Int.reduceNeg, Nat.reduceAdd, Int.reduceAdd, Int.reduceEq, Int.reduceLT, Int.reduceLE, Int.zero_add, nb_ui_s, nb_ui_k, nb_ui_a, sp_min, sp_max, sp_bits]
      exact sq_ret hI
    · obtain ⟨e, rfl⟩ : ∃ e, d = e + 2 := ⟨d - 2, by omega⟩
      obtain ⟨I1, e1, hX⟩ := om (e + 1) (by omega) I L c0 hz h2 hw h5 hx14 h6 h7
      have ok := hz.1.ok
      show sq_X _ _ _ _ _ (mm_rn (e + 2) 169 _ n I L P)
      rw [eX12_condition]
      simp (disch := (first | assumption | omega | exact nb_ix (by omega) (by assumption) (by omega) (by omega) | exact nb_ix (by omega) rfl (by omega) (by omega) | exact nb_ok (by omega) rfl | decide)) only [kX12_condition, e1, ↓if_pos, ↓if_neg, nb_add, nb_sub, nb_mul, Int.toNat_natCast, mm_kr_s, mm_kv_s, if_pos, if_neg, sq_tn, Int.toNat_zero, Int.reduceToNat, Int.reduceNeg, Nat.reduceAdd, Int.reduceAdd, Int.reduceEq, Int.reduceLT, Int.reduceLE, Int.zero_add, nb_ui_s, nb_ui_k, nb_ui_a, sp_min, sp_max, sp_bits]
      refine sq_kv hX (fun I' hI => ?_)
      have i1 := hI.1
      have cp : ¬ (p : Int) = -1 := by omega
      have e2 : mm_rn (e + 1) 168 [.inr (.inr (some 239))] n I' L P = some (none, n, I', L, P) := by
        rw [eX12_goOnOr, hX12_goOnOr_0]
        simp (disch := (first | assumption | omega | exact nb_ix (by omega) (by assumption) (by omega) (by omega) | exact nb_ix (by omega) rfl (by omega) (by omega) | exact nb_ok (by omega) rfl | decide)) only [kX12_goOnOr, i1, ↓if_pos, ↓if_neg, nb_add, nb_sub, nb_mul, Int.toNat_natCast, mm_kr_s, mm_kv_s, if_pos, if_neg, sq_tn, Int.toNat_zero, Int.reduceToNat, Int.reduceNeg, Nat.reduceAdd, Int.reduceAdd, Int.reduceEq, Int.reduceLT, Int.reduceLE, Int.zero_add, nb_ui_s, nb_ui_k, nb_ui_a, sp_min, sp_max, sp_bits]
      simp (disch := (first | assumption | omega | exact nb_ix (by omega) (by assumption) (by omega) (by omega) | exact nb_ix (by omega) rfl (by omega) (by omega) | exact nb_ok (by omega) rfl | decide)) only [kX12_condition, e2, ↓if_pos, ↓if_neg, nb_add, nb_sub, nb_mul, Int.toNat_natCast, mm_kr_s, mm_kv_s, if_pos, if_neg, sq_tn, Int.toNat_zero, Int.reduceToNat, Int.reduceNeg, Nat.reduceAdd, Int.reduceAdd, Int.reduceEq, Int.reduceLT, Int.reduceLE, Int.zero_add, nb_ui_s, nb_ui_k, nb_ui_a, sp_min, sp_max, sp_bits]
      exact sq_ret hI
  | inr w =>
    obtain ⟨j1, t1⟩ := w
    obtain ⟨g1, g2, g3⟩ := og
    have g1' : i < j1 := g1
    have g2' : j1 ≤ S := g2
    have g3' : t1.length + i ≤ j1 := g3
    obtain ⟨o2, pg, ps, pc, pm⟩ := hrec j1 (by omega) (by omega)
    refine ⟨zj t1 o2, ?_, ?_, fun d hd I L c0 hz h2 h3 h4 => ?_, fun d hd I L c0 hz h2 hw h5 hx14 h6 h7 => ?_⟩
    · cases o2 with
      | inl p => exact pg
      | inr w =>
        obtain ⟨u1, u2, u3⟩ := pg
        refine ⟨by show i < w.1; omega, u2, ?_⟩
        show (t1 ++ w.2).length + i ≤ w.1
        simp
        omega
    · cases o2 with
      | inl p => trivial
      | inr w => exact sx_C_then os ps
    · rw [zr_zj]
      obtain ⟨e, rfl⟩ : ∃ e, d = e + 1 := ⟨d - 1, by omega⟩
      show sq_X _ _ _ _ _ (mm_rn (e + 1) 30 _ n I L P)
      rw [eX4_readCondition]
      simp (disch := (first | assumption | omega | exact nb_ix (by omega) (by assumption) (by omega) (by omega) | exact nb_ix (by omega) rfl (by omega) (by omega) | exact nb_ok (by omega) rfl | decide)) only [kX4_readCondition, ↓if_pos, ↓if_neg, nb_add, nb_sub, nb_mul, Int.toNat_natCast, mm_kr_s, mm_kv_s, if_pos, if_neg, sq_tn, Int.toNat_zero, Int.reduceToNat, Int.reduceNeg, Nat.reduceAdd, Int.reduceAdd, Int.reduceEq, Int.reduceLT, Int.reduceLE, Int.zero_add, nb_ui_s, nb_ui_k, nb_ui_a, sp_min, sp_max, sp_bits]
      refine sq_kr (oc e (by omega) I L c0 hz h2 h3 h4) (fun I' hI => ?_)
      obtain ⟨i1, i2, i3, i4, i5⟩ := hI
      have e0 : zr (Sum.inr (j1, t1) : zo) = 1 := rfl
      simp (disch := (first | assumption | omega | exact nb_ix (by omega) (by assumption) (by omega) (by omega) | exact nb_ix (by omega) rfl (by omega) (by omega) | exact nb_ok (by omega) rfl | decide)) only [kX4_readCondition, e0, ↓if_pos, ↓if_neg, nb_add, nb_sub, nb_mul, Int.toNat_natCast, mm_kr_s, mm_kv_s, if_pos, if_neg, sq_tn, Int.toNat_zero, Int.reduceToNat, Int.reduceNeg, Nat.reduceAdd, Int.reduceAdd, Int.reduceEq, Int.reduceLT, Int.reduceLE, Int.zero_add, nb_ui_s, nb_ui_k, nb_ui_a, sp_min, sp_max, sp_bits]
      refine sq_mono (pc e 0 _ (by omega) (by omega) I' L (c0 + t1.length) (i5.zc ha hz) i1 i2 (by omega)) (fun K hK => zcP_then i5 i4 i3 hK)
    · obtain ⟨e, rfl⟩ : ∃ e, d = e + 2 := ⟨d - 2, by omega⟩
      obtain ⟨I1, e1, hX⟩ := om (e + 1) (by omega) I L c0 hz h2 hw h5 hx14 h6 h7
      have ok := hz.1.ok
      show sq_X _ _ _ _ _ (mm_rn (e + 2) 169 _ n I L P)
      rw [eX12_condition]
      simp (disch := (first | assumption | omega | exact nb_ix (by omega) (by assumption) (by omega) (by omega) | exact nb_ix (by omega) rfl (by omega) (by omega) | exact nb_ok (by omega) rfl | decide)) only [kX12_condition, e1, ↓if_pos, ↓if_neg, nb_add, nb_sub, nb_mul, Int.toNat_natCast, mm_kr_s, mm_kv_s, if_pos, if_neg, sq_tn, Int.toNat_zero, Int.reduceToNat, Int.reduceNeg, Nat.reduceAdd, Int.reduceAdd, Int.reduceEq, Int.reduceLT, Int.reduceLE, Int.zero_add, nb_ui_s, nb_ui_k, nb_ui_a, sp_min, sp_max, sp_bits]
      refine sq_kv hX (fun I' hI => ?_)
      obtain ⟨i1, i2, i3, i4, i5, i6⟩ := hI
      simp (disch := (first | assumption | omega | exact nb_ix (by omega) (by assumption) (by omega) (by omega) | exact nb_ix (by omega) rfl (by omega) (by omega) | exact nb_ok (by omega) rfl | decide)) only [kX12_condition, ↓if_pos, ↓if_neg, nb_add, nb_sub, nb_mul, Int.toNat_natCast, mm_kr_s, mm_kv_s, if_pos, if_neg, sq_tn, Int.toNat_zero, Int.reduceToNat, Int.reduceNeg, Nat.reduceAdd, Int.reduceAdd, Int.reduceEq, Int.reduceLT, Int.reduceLE, Int.zero_add, nb_ui_s, nb_ui_k, nb_ui_a, sp_min, sp_max, sp_bits]
      rw [eX12_goOnOr]
      refine sq_kv (pm e (by omega) I' L (c0 + t1.length) (i6.zm hz) i1 i2 i3 (i6.tx hx14) i4 (by omega)) (fun K hK => ?_)
      simp (disch := (first | assumption | omega | exact nb_ix (by omega) (by assumption) (by omega) (by omega) | exact nb_ix (by omega) rfl (by omega) (by omega) | exact nb_ok (by omega) rfl | decide)) only [kX12_condition, ↓if_pos, ↓if_neg, nb_add, nb_sub, nb_mul, Int.toNat_natCast, mm_kr_s, mm_kv_s, if_pos, if_neg, sq_tn, Int.toNat_zero, Int.reduceToNat, Int.reduceNeg, Nat.reduceAdd, Int.reduceAdd, Int.reduceEq, Int.reduceLT, Int.reduceLE, Int.zero_add, nb_ui_s, nb_ui_k, nb_ui_a, sp_min, sp_max, sp_bits]
      exact sq_ret (zmP_then (i1 := j1) (by omega) (by omega) i6 i5 hK)
theorem zJ_conds (hL : sp_L n P a) (ha : 20 ≤ a) (hx : x < 5) (hS : S ≤ 240) : ∀ (m i : Nat), S - i < m → i ≤ S → ∀ dp r, dp + r = 6 → zun n P a x T S dp (2 * r + 4) i (5 * r + 9) 32 166 ∧ zct n P a x T S dp (2 * r + 4 + 1) i (5 * r + 9) 31 167 ∧ ztr n P a x T S dp (2 * r + 5) i (5 * r + 10) ∧ zct n P a x T S dp (2 * r + 5 + 1) i (5 * r + 10) 30 168 ∧ zun n P a x T S dp (2 * r + 6) i (5 * r + 12) 30 169 := by
  intro m
  induction m with
  | zero => intro i h; omega
  | succ m ih =>
    intro i hm hi dp r hr
    have A := zJ_unit (T := T) (r := r) (dp := dp) hL ha hx hS hr hi (fun q hq i' h1 h2 => (ih i' (by omega) h2 (dp + 1) q (by omega)).1) (fun q hq i' h1 h2 => (ih i' (by omega) h2 (dp + 1) q (by omega)).2.2.2.2)
    have B := zct_and (T := T) (r := r) (dp := dp) hL ha hx hS hr hi (fun i' h1 h2 => (ih i' (by omega) h2 dp r hr).1) (fun i' h1 h2 => (ih i' (by omega) h2 dp r hr).2.1)
    have C := zJ_truth (T := T) (r := r) (dp := dp) ha hS hi A (fun i' h1 h2 => (ih i' (by omega) h2 dp r hr).2.1)
    have D := zct_or (T := T) (r := r) (dp := dp) hL ha hx hS hr hi (fun i' h1 h2 => (ih i' (by omega) h2 dp r hr).2.2.1) (fun i' h1 h2 => (ih i' (by omega) h2 dp r hr).2.2.2.1)
    have E := zJ_cond (T := T) (r := r) (dp := dp) ha hS hi C (fun i' h1 h2 => (ih i' (by omega) h2 dp r hr).2.2.2.1)
    exact ⟨A, B, C, D, E⟩
end CO
