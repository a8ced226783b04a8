/-! a condition whose first sum has been read, both halves at once -/
theorem sx_Cc_then {k : Nat} {t1 t2 : List (Nat × Int)} (h1 : sx_Cc k t1) (h2 : sx_Ct (k + 1) t2) : sx_Cc (k + 1) (t1 ++ t2) := by
  intro l hl x
  obtain ⟨y1, y01, e1⟩ := h1 l hl x
  obtain ⟨y, z01, e2⟩ := h2 l hl y1 y01
  refine ⟨y, z01, fun st hst => ?_⟩
  rw [sx_ev_app t1 (x :: st) (y1 :: st) (e1 st (by omega))]
  exact e2 st hst
/-- the model's hypotheses at a place -/
def zmh (n : Nat) (P : mm_P) (x : Nat) (T : Nat → Int) (S dp i c0 : Nat) (I : mm_I) : Prop := zm n P I T S ∧ I 239 3 = (i : Int) ∧ I 239 4 = -1 ∧ I 239 5 = (dp : Int) ∧ I 239 14 = (x : Int) ∧ I 243 x = (c0 : Int) ∧ c0 ≤ i
def ztb (n : Nat) (P : mm_P) (a x : Nat) (T : Nat → Int) (S dp k i m : Nat) : Prop := ∃ o : zo, zg S i o ∧ zw (sx_Cc k) o ∧ (∀ d, m ≤ d → zcX n P a T S (fun I L => mm_rn d 31 [.inr (.inr (some 1)), .inr (.inr (some a)), .inl ((dp : Int)), .inl 1] n I L P) i o) ∧ (∀ d, m ≤ d → ∀ (I L : mm_I) (c0 : Nat), zmh n P x T S dp i c0 I → ∃ I1, mm_rn d 165 [.inr (.inr (some 239))] n I L P = some (none, n, I1, L, P) ∧ sq_X none n L P (fun I' => zmP x dp i c0 S I I' o) (mm_rn d 167 [.inr (.inr (some 239))] n I1 L P))
def zbc (n : Nat) (P : mm_P) (a x : Nat) (T : Nat → Int) (S dp k i m : Nat) : Prop := ∃ o : zo, zg S i o ∧ zw (sx_Cc k) o ∧ (∀ d, m ≤ d → zcX n P a T S (fun I L => mm_rn d 30 [.inr (.inr (some 1)), .inr (.inr (some a)), .inl ((dp : Int)), .inl 1] n I L P) i o) ∧ (∀ d, m ≤ d → ∀ (I L : mm_I) (c0 : Nat), zmh n P x T S dp i c0 I → ∃ I1 I2, mm_rn d 165 [.inr (.inr (some 239))] n I L P = some (none, n, I1, L, P) ∧ mm_rn d 167 [.inr (.inr (some 239))] n I1 L P = some (none, n, I2, L, P) ∧ sq_X none n L P (fun I' => zmP x dp i c0 S I I' o) (mm_rn d 168 [.inr (.inr (some 239))] n I2 L P))
section BG
variable {n a x S dp r i : Nat} {P : mm_P} {T : Nat → Int}
set_option maxHeartbeats 4000000 in
theorem zJ_tb (ha : 20 ≤ a) (hS : S ≤ 240) (hi : i ≤ S) (hsub : zcmp n P a x T S dp (2 * r + 4) i (3 * r + 7)) (hrec : ∀ i', i < i' → i' ≤ S → zct n P a x T S dp (2 * r + 4 + 1) i' (5 * r + 9) 31 167) : ztb n P a x T S dp (2 * r + 5) i (5 * r + 10) := by
  obtain ⟨o1, og, os, oc, om⟩ := hsub
  have hunit : ∀ (e : Nat) (I L : mm_I), zc n P I T S → mm_rn (e + 1) 32 [.inr (.inr (some 1)), .inr (.inr (some a)), .inl ((dp : Int)), .inl 1] n I L P = mm_E e 32 66 [.inr (.inr (some 1)), .inr (.inr (some a)), .inl ((dp : Int)), .inl 1, .inl (-1), mm_junk] [] [] n I L P := by
    intro e I L hz
    have hn := hz.1
    rw [eX4_readUnit]
    simp (disch := (first | assumption | omega | exact nb_ix (by omega) (by assumption) (by omega) (by omega) | exact nb_ix (by omega) rfl (by omega) (by omega) | exact nb_ok (by omega) rfl | decide)) only [kX4_readUnit, ↓if_pos, ↓if_neg, nb_add, nb_sub, nb_mul, Int.toNat_natCast, mm_kr_s, mm_kv_s, if_pos, if_neg, sq_tn, Int.toNat_zero, Int.reduceToNat, Int.reduceNeg, Nat.reduceAdd, Int.reduceAdd, Int.reduceEq, Int.reduceLT, Int.reduceLE, Int.zero_add, nb_ui_s, nb_ui_k, nb_ui_a, sp_min, sp_max, sp_bits]
    done
  cases o1 with
  | inl p =>
    refine ⟨.inl p, og, trivial, fun d hd I L c0 hz h2 h3 h4 => ?_, fun d hd I L c0 hm => ?_⟩
    · obtain ⟨e, rfl⟩ : ∃ e, d = e + 2 := ⟨d - 2, by omega⟩
      show sq_X _ _ _ _ _ (mm_rn (e + 2) 31 _ n I L P)
      rw [eX4_readTruth]
      simp (disch := (first | assumption | omega | exact nb_ix (by omega) (by assumption) (by omega) (by omega) | exact nb_ix (by omega) rfl (by omega) (by omega) | exact nb_ok (by omega) rfl | decide)) only [kX4_readTruth, ↓if_pos, ↓if_neg, nb_add, nb_sub, nb_mul, Int.toNat_natCast, mm_kr_s, mm_kv_s, if_pos, if_neg, sq_tn, Int.toNat_zero, Int.reduceToNat, Int.reduceNeg, Nat.reduceAdd, Int.reduceAdd, Int.reduceEq, Int.reduceLT, Int.reduceLE, Int.zero_add, nb_ui_s, nb_ui_k, nb_ui_a, sp_min, sp_max, sp_bits]
      rw [hunit e I L hz]
      refine sq_kr (oc e _ _ _ (by omega) I L c0 hz h2 h3 h4) (fun I' hI => ?_)
      have e0 : zr (Sum.inl p : zo) = 0 := rfl
      simp (disch := (first | assumption | omega | exact nb_ix (by omega) (by assumption) (by omega) (by omega) | exact nb_ix (by omega) rfl (by omega) (by omega) | exact nb_ok (by omega) rfl | decide)) only [kX4_readTruth, e0, ↓if_pos, ↓if_neg, nb_add, nb_sub, nb_mul, Int.toNat_natCast, mm_kr_s, mm_kv_s, if_pos, if_neg, sq_tn, Int.toNat_zero, Int.reduceToNat, Int.reduceNeg, Nat.reduceAdd, Int.reduceAdd, Int.reduceEq, Int.reduceLT, Int.reduceLE, Int.zero_add, nb_ui_s, nb_ui_k, nb_ui_a, sp_min, sp_max, sp_bits]
      exact sq_ret hI
    · obtain ⟨hz, h2, hw, h5, hx14, h6, h7⟩ := hm
      obtain ⟨e, rfl⟩ : ∃ e, d = e + 1 := ⟨d - 1, by omega⟩
      obtain ⟨I1, e1, hI⟩ := om (e + 1) (by omega) I L c0 hz h2 hw h5 hx14 h6 h7
      have ok := hz.1.ok
      refine ⟨I1, e1, ?_⟩
      have i1 := hI.1
      have cp : ¬ (p : Int) = -1 := by omega
      rw [eX12_goOnAnd, hX12_goOnAnd_0]
      simp (disch := (first | assumption | omega | exact nb_ix (by omega) (by assumption) (by omega) (by omega) | exact nb_ix (by omega) rfl (by omega) (by omega) | exact nb_ok (by omega) rfl | decide)) only [kX12_goOnAnd, i1, ↓if_pos, ↓if_neg, nb_add, nb_sub, nb_mul, Int.toNat_natCast, mm_kr_s, mm_kv_s, if_pos, if_neg, sq_tn, Int.toNat_zero, Int.reduceToNat, Int.reduceNeg, Nat.reduceAdd, Int.reduceAdd, Int.reduceEq, Int.reduceLT, Int.reduceLE, Int.zero_add, nb_ui_s, nb_ui_k, nb_ui_a, sp_min, sp_max, sp_bits]
      exact sq_ret hI
  | inr w =>
    obtain ⟨j1, t1⟩ := w
    obtain ⟨g1, g2, g3⟩ := og
    have g1' : i < j1 := g1
    have g2' : j1 ≤ S := g2
    have g3' : t1.length + i ≤ j1 := g3
    obtain ⟨o2, pg, ps, pc, pm⟩ := hrec j1 (by omega) (by omega)
    refine ⟨zj t1 o2, ?_, ?_, fun d hd I L c0 hz h2 h3 h4 => ?_, fun d hd I L c0 hm => ?_⟩
    · cases o2 with
      | inl p => exact pg
      | inr w =>
        obtain ⟨u1, u2, u3⟩ := pg
        refine ⟨by show i < w.1; omega, u2, ?_⟩
        show (t1 ++ w.2).length + i ≤ w.1
        simp
        omega
    · cases o2 with
      | inl p => trivial
      | inr w => exact sx_Cc_then os ps
    · rw [zr_zj]
      obtain ⟨e, rfl⟩ : ∃ e, d = e + 2 := ⟨d - 2, by omega⟩
      show sq_X _ _ _ _ _ (mm_rn (e + 2) 31 _ n I L P)
      rw [eX4_readTruth]
      simp (disch := (first | assumption | omega | exact nb_ix (by omega) (by assumption) (by omega) (by omega) | exact nb_ix (by omega) rfl (by omega) (by omega) | exact nb_ok (by omega) rfl | decide)) only [kX4_readTruth, ↓if_pos, ↓if_neg, nb_add, nb_sub, nb_mul, Int.toNat_natCast, mm_kr_s, mm_kv_s, if_pos, if_neg, sq_tn, Int.toNat_zero, Int.reduceToNat, Int.reduceNeg, Nat.reduceAdd, Int.reduceAdd, Int.reduceEq, Int.reduceLT, Int.reduceLE, Int.zero_add, nb_ui_s, nb_ui_k, nb_ui_a, sp_min, sp_max, sp_bits]
      rw [hunit e I L hz]
      refine sq_kr (oc e _ _ _ (by omega) I L c0 hz h2 h3 h4) (fun I' hI => ?_)
      obtain ⟨i1, i2, i3, i4, i5⟩ := hI
      have e0 : zr (Sum.inr (j1, t1) : zo) = 1 := rfl
      simp (disch := (first | assumption | omega | exact nb_ix (by omega) (by assumption) (by omega) (by omega) | exact nb_ix (by omega) rfl (by omega) (by omega) | exact nb_ok (by omega) rfl | decide)) only [kX4_readTruth, e0, ↓if_pos, ↓if_neg, nb_add, nb_sub, nb_mul, Int.toNat_natCast, mm_kr_s, mm_kv_s, if_pos, if_neg, sq_tn, Int.toNat_zero, Int.reduceToNat, Int.reduceNeg, Nat.reduceAdd, Int.reduceAdd, Int.reduceEq, Int.reduceLT, Int.reduceLE, Int.zero_add, nb_ui_s, nb_ui_k, nb_ui_a, sp_min, sp_max, sp_bits]
      refine sq_mono (pc (e + 1) 0 _ (by omega) (by omega) I' L (c0 + t1.length) (i5.zc ha hz) i1 i2 (by omega)) (fun K hK => zcP_then i5 i4 i3 hK)
    · obtain ⟨hz, h2, hw, h5, hx14, h6, h7⟩ := hm
      obtain ⟨e, rfl⟩ : ∃ e, d = e + 1 := ⟨d - 1, by omega⟩
      obtain ⟨I1, e1, hI⟩ := om (e + 1) (by omega) I L c0 hz h2 hw h5 hx14 h6 h7
      obtain ⟨i1, i2, i3, i4, i5, i6⟩ := hI
      refine ⟨I1, e1, ?_⟩
      rw [eX12_goOnAnd]
      refine sq_mono (pm e (by omega) I1 L (c0 + t1.length) (i6.zm hz) i1 i2 i3 (i6.tx hx14) i4 (by omega)) (fun K hK => zmP_then (i1 := j1) (by omega) (by omega) i6 i5 hK)
set_option maxHeartbeats 4000000 in
theorem zJ_bc (ha : 20 ≤ a) (hS : S ≤ 240) (hi : i ≤ S) (hsub : ztb n P a x T S dp (2 * r + 5) i (5 * r + 10)) (hrec : ∀ i', i < i' → i' ≤ S → zct n P a x T S dp (2 * r + 5 + 1) i' (5 * r + 10) 30 168) : zbc n P a x T S dp (2 * r + 6) i (5 * r + 12) := by
  obtain ⟨o1, og, os, oc, om⟩ := hsub
  cases o1 with
  | inl p =>
    refine ⟨.inl p, og, trivial, fun d hd I L c0 hz h2 h3 h4 => ?_, fun d hd I L c0 hm => ?_⟩
    · obtain ⟨e, rfl⟩ : ∃ e, d = e + 1 := ⟨d - 1, by omega⟩
      show sq_X _ _ _ _ _ (mm_rn (e + 1) 30 _ n I L P)
      rw [eX4_readCondition]
      simp (disch := (first | assumption | omega | exact nb_ix (by omega) (by assumption) (by omega) (by omega) | exact nb_ix (by omega) rfl (by omega) (by omega) | exact nb_ok (by omega) rfl | decide)) only [kX4_readCondition, ↓if_pos, ↓if_neg, nb_add, nb_sub, nb_mul, Int.toNat_natCast, mm_kr_s, mm_kv_s, if_pos, if_neg, sq_tn, Int.toNat_zero, Int.reduceToNat, Int.reduceNeg, Nat.reduceAdd, Int.reduceAdd, Int.reduceEq, Int.reduceLT, Int.reduceLE, Int.zero_add, nb_ui_s, nb_ui_k, nb_ui_a, sp_min, sp_max, sp_bits]
      refine sq_kr (oc e (by omega) I L c0 hz h2 h3 h4) (fun I' hI => ?_)
      have e0 : zr (Sum.inl p : zo) = 0 := rfl
      simp (disch := (first | assumption | omega | exact nb_ix (by omega) (by assumption) (by omega) (by omega) | exact nb_ix (by omega) rfl (by omega) (by omega) | exact nb_ok (by omega) rfl | decide)) only [kX4_readCondition, e0, ↓if_pos, ↓if_neg, nb_add, nb_sub, nb_mul, Int.toNat_natCast, mm_kr_s, mm_kv_s, if_pos, if_neg, sq_tn, Int.toNat_zero, Int.reduceToNat, Int.reduceNeg, Nat.reduceAdd, Int.reduceAdd, Int.reduceEq, Int.reduceLT, Int.reduceLE, Int.zero_add, nb_ui_s, nb_ui_k, nb_ui_a, sp_min, sp_max, sp_bits]
      exact sq_ret hI
    · obtain ⟨e, rfl⟩ : ∃ e, d = e + 1 := ⟨d - 1, by omega⟩
      obtain ⟨I1, e1, I2, e2, hI⟩ := om (e + 1) (by omega) I L c0 hm
      have ok := hm.1.1.ok
      refine ⟨I1, I2, e1, e2, ?_⟩
      have i1 := hI.1
      have cp : ¬ (p : Int) = -1 := by omega
      rw [eX12_goOnOr, hX12_goOnOr_0]
      simp (disch := (first | assumption | omega | exact nb_ix (by omega) (by assumption) (by omega) (by omega) | exact nb_ix (by omega) rfl (by omega) (by omega) | exact nb_ok (by omega) rfl | decide)) only [kX12_goOnOr, i1, ↓if_pos, ↓if_neg, nb_add, nb_sub, nb_mul, Int.toNat_natCast, mm_kr_s, mm_kv_s, if_pos, if_neg, sq_tn, Int.toNat_zero, Int.reduceToNat, Int.reduceNeg, Nat.reduceAdd, Int.reduceAdd, Int.reduceEq, Int.reduceLT, Int.reduceLE, Int.zero_add, nb_ui_s, nb_ui_k, nb_ui_a, sp_min, sp_max, sp_bits]
      exact sq_ret hI
  | inr w =>
    obtain ⟨j1, t1⟩ := w
    obtain ⟨g1, g2, g3⟩ := og
    have g1' : i < j1 := g1
    have g2' : j1 ≤ S := g2
    have g3' : t1.length + i ≤ j1 := g3
    obtain ⟨o2, pg, ps, pc, pm⟩ := hrec j1 (by omega) (by omega)
    refine ⟨zj t1 o2, ?_, ?_, fun d hd I L c0 hz h2 h3 h4 => ?_, fun d hd I L c0 hm => ?_⟩
    · cases o2 with
      | inl p => exact pg
      | inr w =>
        obtain ⟨u1, u2, u3⟩ := pg
        refine ⟨by show i < w.1; omega, u2, ?_⟩
        show (t1 ++ w.2).length + i ≤ w.1
        simp
        omega
    · cases o2 with
      | inl p => trivial
      | inr w => exact sx_Cc_then os ps
    · rw [zr_zj]
      obtain ⟨e, rfl⟩ : ∃ e, d = e + 1 := ⟨d - 1, by omega⟩
      show sq_X _ _ _ _ _ (mm_rn (e + 1) 30 _ n I L P)
      rw [eX4_readCondition]
      simp (disch := (first | assumption | omega | exact nb_ix (by omega) (by assumption) (by omega) (by omega) | exact nb_ix (by omega) rfl (by omega) (by omega) | exact nb_ok (by omega) rfl | decide)) only [kX4_readCondition, ↓if_pos, ↓if_neg, nb_add, nb_sub, nb_mul, Int.toNat_natCast, mm_kr_s, mm_kv_s, if_pos, if_neg, sq_tn, Int.toNat_zero, Int.reduceToNat, Int.reduceNeg, Nat.reduceAdd, Int.reduceAdd, Int.reduceEq, Int.reduceLT, Int.reduceLE, Int.zero_add, nb_ui_s, nb_ui_k, nb_ui_a, sp_min, sp_max, sp_bits]
      refine sq_kr (oc e (by omega) I L c0 hz h2 h3 h4) (fun I' hI => ?_)
      obtain ⟨i1, i2, i3, i4, i5⟩ := hI
      have e0 : zr (Sum.inr (j1, t1) : zo) = 1 := rfl
      simp (disch := (first | assumption | omega | exact nb_ix (by omega) (by assumption) (by omega) (by omega) | exact nb_ix (by omega) rfl (by omega) (by omega) | exact nb_ok (by omega) rfl | decide)) only [kX4_readCondition, e0, ↓if_pos, ↓if_neg, nb_add, nb_sub, nb_mul, Int.toNat_natCast, mm_kr_s, mm_kv_s, if_pos, if_neg, sq_tn, Int.toNat_zero, Int.reduceToNat, Int.reduceNeg, Nat.reduceAdd, Int.reduceAdd, Int.reduceEq, Int.reduceLT, Int.reduceLE, Int.zero_add, nb_ui_s, nb_ui_k, nb_ui_a, sp_min, sp_max, sp_bits]
      refine sq_mono (pc e 0 _ (by omega) (by omega) I' L (c0 + t1.length) (i5.zc ha hz) i1 i2 (by omega)) (fun K hK => zcP_then i5 i4 i3 hK)
    · obtain ⟨e, rfl⟩ : ∃ e, d = e + 1 := ⟨d - 1, by omega⟩
      obtain ⟨I1, e1, I2, e2, hI⟩ := om (e + 1) (by omega) I L c0 hm
      obtain ⟨hz, h2, hw, h5, hx14, h6, h7⟩ := hm
      obtain ⟨i1, i2, i3, i4, i5, i6⟩ := hI
      refine ⟨I1, I2, e1, e2, ?_⟩
      rw [eX12_goOnOr]
      refine sq_mono (pm e (by omega) I2 L (c0 + t1.length) (i6.zm hz) i1 i2 i3 (i6.tx hx14) i4 (by omega)) (fun K hK => zmP_then (i1 := j1) (by omega) (by omega) i6 i5 hK)
theorem zJ_B (hL : sp_L n P a) (ha : 20 ≤ a) (hx : x < 5) (hS : S ≤ 240) (hr : dp + r = 6) (hi : i ≤ S) : zbc n P a x T S dp (2 * r + 6) i (5 * r + 12) := by
  have hc := fun i' (h2 : i' ≤ S) => zJ_conds (T := T) hL ha hx hS (S - i' + 1) i' (by omega) h2 dp r hr
  exact zJ_bc ha hS hi (zJ_tb ha hS hi (zJ_cmp hL ha hx hS hr hi) (fun i' h1 h2 => (hc i' h2).2.1)) (fun i' h1 h2 => (hc i' h2).2.2.2.1)
theorem zJ_C (hL : sp_L n P a) (ha : 20 ≤ a) (hx : x < 5) (hS : S ≤ 240) (hr : dp + r = 6) (hi : i ≤ S) : zun n P a x T S dp (2 * r + 6) i (5 * r + 12) 30 169 := (zJ_conds (T := T) hL ha hx hS (S - i + 1) i (by omega) hi dp r hr).2.2.2.2
end BG
