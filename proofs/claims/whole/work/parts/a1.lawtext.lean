/-! fault and text of laws, in the relation -/
theorem sx_ml_z {I J : mm_I} {x i : Nat} (hxi : i ≠ x) (h : zkF x I J) : ∀ (cls : rL) (j q : Nat), j + cls.length ≤ 140 → sx_ml I i j q cls → sx_ml J i j q cls := by
  intro cls
  induction cls with
  | nil => intro _ _ _ _; trivial
  | cons t r ih =>
    intro j q hj w
    obtain ⟨w1, w2, w3, w4, w5, w6, w7⟩ := w
    have hlen : (t :: r).length = r.length + 1 := rfl
    rw [hlen] at hj
    have h5 := h.2.2.2.2 (140 * i + j) (by omega)
    have h4 : ∀ k, 520 * i ≤ k → k < 520 * i + 520 → J 241 k = I 241 k ∧ J 242 k = I 242 k := fun k a1 a2 => h.2.2.2.1 k (by omega)
    refine ⟨by rw [h5.1]; exact w1, by rw [h5.2.1]; exact w2, by rw [h5.2.2]; exact w3, sx_mt_kp _ _ w4 (fun k a1 a2 => h4 k (by omega) (by omega)), sx_mt_kp _ _ w5 (fun k a1 a2 => h4 k (by omega) (by omega)), w6, ih _ _ (by omega) w7⟩
theorem rm_law_z {I J : mm_I} {x i : Nat} {cls : rL} (hxi : i ≠ x) (h : zkF x I J) (hl : rm_law I i cls) : rm_law J i cls := by
  obtain ⟨m1, m2, m3, m4⟩ := hl
  exact ⟨by rw [(h.2.2.1 i hxi).2]; exact m1, m2, sx_ml_z hxi h _ _ _ (by omega) m3, m4⟩
section LT
variable {n t u s nl ck : Nat} {P : mm_P} {I I' : mm_I} {D W K NI cm co rf : Nat → Int} {B cp ch : Nat → Nat} {g v cn hl kf pe : Int} {es : Nat → rL} {x : sT} {LgI : Nat → Nat → Int} {tp : (Nat → Int) × Nat}
theorem RC_zcF (h : RC n P I t u (s, D, B, g, v, W, K, cn, nl, hl, es, x, kf, NI, LgI, ck, cp, ch, cm, co, tp, pe, rf)) (hS : RS (s, D, B, g, v, W, K, cn, nl, hl, es, x, kf, NI, LgI, ck, cp, ch, cm, co, tp, pe, rf)) (f : zcF (20 + 4 * nl) I I') : RC n P I' t u (s, D, B, g, v, W, K, cn, nl, hl, es, x, kf, NI, LgI, ck, cp, ch, cm, co, tp, pe, rf) ∧ ∀ b, 239 ≤ b → I' b = I b := by
  have ht := RC_t h
  have hnl : nl ≤ 4 := hS.2.1.1
  obtain ⟨f1, f2, f3⟩ := f
  have e : ∀ b, b ≠ 1 → b ≠ 20 + 4 * nl → b ≠ 21 + 4 * nl → I' b = I b := fun b a1 a2 a3 => f1 b a1 a2 (by omega)
  exact ⟨RC_fr h ⟨fun j _ => by rw [e 0 (by omega) (by omega) (by omega)], f2 1 (by decide), e 2 (by omega) (by omega) (by omega), fun b a1 a2 => e b (by omega) (by omega) (by omega), fun i hi => ⟨by rw [e _ (by omega) (by have : i < nl := hi; omega) (by omega)], e _ (by omega) (by omega) (by have : i < nl := hi; omega)⟩, fun b a1 a2 => e b (by omega) (by omega) (by omega), e 238 (by omega) (by omega) (by omega)⟩, fun b hb => e b (by omega) (by omega) (by omega)⟩
theorem RM_zkF {y : Nat} (hy : nl ≤ y) (h : RM n P I (s, D, B, g, v, W, K, cn, nl, hl, es, x, kf, NI, LgI, ck, cp, ch, cm, co, tp, pe, rf)) (f : zkF y I I') : RM n P I' (s, D, B, g, v, W, K, cn, nl, hl, es, x, kf, NI, LgI, ck, cp, ch, cm, co, tp, pe, rf) ∧ ∀ b, (b < 239 ∨ 270 ≤ b) → I' b = I b := by
  obtain ⟨h1, h2, h3, h4, h5, h6, h7, h8, h9⟩ := h
  have f' := f
  obtain ⟨f1, f2, f3⟩ := f
  have e2 : ∀ j, (j = 2 ∨ j = 13 ∨ j = 26 ∨ j = 29 ∨ j = 30 ∨ j = 33 ∨ j = 42 ∨ j = 46) → I' 239 j = I 239 j := fun j hj => f2 j (by omega) (by omega) (by omega) (by omega)
  exact ⟨⟨h1, rm_town_k h2 (fun b a1 a2 => f1 b (by omega) (by omega)) (e2 26 (by decide)), ⟨by rw [e2 13 (by decide)]; exact h3.1, by rw [e2 29 (by decide)]; exact h3.2.1, fun i hi => rm_law_z (by omega) f' (h3.2.2 i hi)⟩, rm_T_k h4 (fun j _ => by rw [f1 257 (by decide) (by decide)]) (f1 260 (by decide) (by decide)) (e2 33 (by decide)), rm_img_k h5 (e2 46 (by decide)) (f1 268 (by decide) (by decide)), sq_MK_k h6 (e2 42 (by decide)) (fun b a1 a2 => f1 b (by omega) (by omega)), rm_tape_k h7 (e2 2 (by decide)) (f1 240 (by decide) (by decide)), by rw [e2 30 (by decide)]; exact h8, fun k hk => by rw [f1 258 (by decide) (by decide)]; exact h9 k hk⟩, fun b hb => f1 b (by omega) (by omega)⟩
theorem RC_zFc (h : RC n P I t u (s, D, B, g, v, W, K, cn, nl, hl, es, x, kf, NI, LgI, ck, cp, ch, cm, co, tp, pe, rf)) (hS : RS (s, D, B, g, v, W, K, cn, nl, hl, es, x, kf, NI, LgI, ck, cp, ch, cm, co, tp, pe, rf)) (f : zFc u I I') : RC n P I' t u (s, D, B, g, v, W, K, cn, nl, hl, es, x, kf, NI, LgI, ck, cp, ch, cm, co, tp, pe, rf) ∧ ∀ b, 239 ≤ b → I' b = I b := by
  have ht := (RC_t h).2.2.2.1
  have hnl : nl ≤ 4 := hS.2.1.1
  obtain ⟨f1, f2⟩ := f
  have e : ∀ b, b ≠ 1 → b ≠ 3 → b ≠ 4 → b ≠ 5 → b ≠ 6 → ¬ (u ≤ b ∧ b ≤ u + 5) → I' b = I b := fun b a1 a2 a3 a4 a5 a6 => f1 b (by unfold zUl; simp only [List.mem_cons, List.not_mem_nil, or_false]; omega)
  exact ⟨RC_fr h ⟨fun j _ => by rw [e 0 (by omega) (by omega) (by omega) (by omega) (by omega) (by omega)], f2 1 (by decide), e 2 (by omega) (by omega) (by omega) (by omega) (by omega) (by omega), fun b a1 a2 => e b (by omega) (by omega) (by omega) (by omega) (by omega) (by omega), fun i hi => ⟨by rw [e _ (by omega) (by omega) (by omega) (by omega) (by omega) (by omega)], e _ (by omega) (by omega) (by omega) (by omega) (by omega) (by omega)⟩, fun b a1 a2 => e b (by omega) (by omega) (by omega) (by omega) (by omega) (by omega), e 238 (by omega) (by omega) (by omega) (by omega) (by omega) (by omega)⟩, fun b hb => e b (by omega) (by omega) (by omega) (by omega) (by omega) (by omega)⟩
theorem RM_zFm (h : RM n P I (s, D, B, g, v, W, K, cn, nl, hl, es, x, kf, NI, LgI, ck, cp, ch, cm, co, tp, pe, rf)) (f : zFm I I') : RM n P I' (s, D, B, g, v, W, K, cn, nl, hl, es, x, kf, NI, LgI, ck, cp, ch, cm, co, tp, pe, rf) ∧ ∀ b, (b < 239 ∨ 270 ≤ b) → I' b = I b := by
  obtain ⟨f1, f2⟩ := f
  exact ⟨RM_fr h ⟨fun j hj => f2 j (by omega) (by omega) (by omega) (by omega), fun b a1 a2 => f1 b (by omega) (by omega) (by omega) (by omega), fun b a1 a2 a3 => f1 b (by omega) (by omega) (by omega) (by omega), fun j _ => by rw [f1 257 (by omega) (by omega) (by omega) (by omega)], f1 260 (by omega) (by omega) (by omega) (by omega), fun b a1 a2 => f1 b (by omega) (by omega) (by omega) (by omega), f1 268 (by omega) (by omega) (by omega) (by omega)⟩, fun b hb => f1 b (by omega) (by omega) (by omega) (by omega)⟩
/-- the draft's pointers -/
theorem sq_P_u (hP : sq_P n P t u) : sp_T n P u ∧ 7 ≤ u ∧ u ≤ 13 ∧ (P 3 0 = some 4 ∧ P 3 1 = some 5 ∧ P 3 2 = some 6) := by
  have h1 := hP.2.1
  have h2 := hP.2.2.2.2.2.2.2.1
  exact ⟨hP.2.2.2.2.1, by omega, by omega, h2.2.2.2.2.2.2.2.2.2.2.2.2.2.1, h2.2.2.2.2.2.2.2.2.2.2.2.2.2.2.1, h2.2.2.2.2.2.2.2.2.2.2.2.2.2.2.2.1⟩
end LT
set_option maxHeartbeats 4000000 in
theorem J_fault (y : Int) : RJ 87 186 [.inl y] := by
  refine RJ_of (fun d n P I L t u σ hd hc hm hs hz => ?_)
  obtain ⟨s, D, B, g, v, W, K, cn, nl, hl, es, x, kf, NI, LgI, ck, cp, ch, cm, co, tp, pe, rf⟩ := σ
  have hP := hc.1
  have hn := hP.1
  have hst := hs.2.2.2.2.2
  have hnl : nl ≤ 4 := hs.2.1.1
  have pp := hP.2.2.2.2.2.2.2.1
  have q0 := pp.1
  have q1 := pp.2.1
  have q3 := hP.2.2.2.2.2.2.1.2
  by_cases y1 : y = 1
  · subst y1
    obtain ⟨z, oc, om⟩ := oz_fault (T := tp.1) (S := tp.2) hP hnl hst.1
    refine ⟨z, t, u, (s, D, B, g, v, W, K, cn, nl, hl, es, x, kf, NI, LgI, ck, cp, ch, cm, co, tp, pe, rf), P, rfl, hs, sq_mono (oc d I L (by omega) (zc_of hP hc.2.2.2.2.2.2.1 hst) hc.2.2.1.1) (fun I' hI => RC_zcF hc hs hI), fun J hJ => ⟨L, sq_mono (om d J L (by omega) (zm_of hP hJ.2.2.2.2.2.2.1 hst)) (fun I' hI => RM_zkF (y := 4) hnl hJ hI)⟩⟩
  · by_cases y0 : y = 0
    · subst y0
      obtain ⟨u1, u2, u3, u4⟩ := sq_P_u hP
      obtain ⟨o, og, oc, om⟩ := zU_read (n := n) (T := tp.1) (S := tp.2) u1 u2 u3 u4 hst.1
      refine ⟨zrm o, t, u, (s, D, B, g, v, W, K, cn, nl, hl, es, x, kf, NI, LgI, ck, cp, ch, cm, co, tp, pe, rf), P, rfl, hs, sq_mono (Q := fun I' => zFc u I I') ?_ (fun I' hI => RC_zFc hc hs hI), fun J hJ => ⟨L, sq_mono (Q := fun I' => zFm J I') ?_ (fun I' hI => RM_zFm hJ hI)⟩⟩
      · obtain ⟨e, rfl⟩ : ∃ e, d = e + 1 := ⟨d - 1, by omega⟩
        rw [eX11_fault]
        simp (disch := (first | assumption | omega | exact nb_ix (by omega) (by assumption) (by omega) (by omega) | exact nb_ix (by omega) rfl (by omega) (by omega) | exact nb_ok (by omega) rfl | decide)) only [kX11_fault, q0, q1, q3, ↓if_pos, ↓if_neg, nb_add, nb_sub, nb_mul, Int.toNat_natCast, mm_kr_s, mm_kv_s, if_pos, if_neg, sq_tn, Int.toNat_zero, Int.reduceToNat, Int.reduceNeg, Nat.reduceAdd, Int.reduceAdd, Int.reduceEq, Int.reduceLT, Int.reduceLE, Int.zero_add, nb_ui_s, nb_ui_k, nb_ui_a, sp_min, sp_max, sp_bits]
        refine sq_kr (oc e I L (by omega) hz (zc_of hP hc.2.2.2.2.2.2.1 hst)) (fun I' hI => ?_)
        cases o with
        | inl p =>
          have e0 : zrr (Sum.inl p : zro) = 0 := rfl
          have e1 : I' 1 2 = (p : Int) := hI.2
          simp (disch := (first | assumption | omega | exact nb_ix (by omega) (by assumption) (by omega) (by omega) | exact nb_ix (by omega) rfl (by omega) (by omega) | exact nb_ok (by omega) rfl | decide)) only [kX11_fault, e0, q0, e1, ↓if_pos, ↓if_neg, nb_add, nb_sub, nb_mul, Int.toNat_natCast, mm_kr_s, mm_kv_s, if_pos, if_neg, sq_tn, Int.toNat_zero, Int.reduceToNat, Int.reduceNeg, Nat.reduceAdd, Int.reduceAdd, Int.reduceEq, Int.reduceLT, Int.reduceLE, Int.zero_add, nb_ui_s, nb_ui_k, nb_ui_a, sp_min, sp_max, sp_bits]
          exact sq_ret hI.1
        | inr q =>
          have e0 : zrr (Sum.inr q : zro) = 1 := rfl
          simp (disch := (first | assumption | omega | exact nb_ix (by omega) (by assumption) (by omega) (by omega) | exact nb_ix (by omega) rfl (by omega) (by omega) | exact nb_ok (by omega) rfl | decide)) only [kX11_fault, e0, ↓if_pos, ↓if_neg, nb_add, nb_sub, nb_mul, Int.toNat_natCast, mm_kr_s, mm_kv_s, if_pos, if_neg, sq_tn, Int.toNat_zero, Int.reduceToNat, Int.reduceNeg, Nat.reduceAdd, Int.reduceAdd, Int.reduceEq, Int.reduceLT, Int.reduceLE, Int.zero_add, nb_ui_s, nb_ui_k, nb_ui_a, sp_min, sp_max, sp_bits]
          exact sq_ret hI.1
      · obtain ⟨e, rfl⟩ : ∃ e, d = e + 1 := ⟨d - 1, by omega⟩
        have ok := hJ.1.ok
        rw [eX12_fault]
        simp (disch := (first | assumption | omega | exact nb_ix (by omega) (by assumption) (by omega) (by omega) | exact nb_ix (by omega) rfl (by omega) (by omega) | exact nb_ok (by omega) rfl | decide)) only [kX12_fault, ↓if_pos, ↓if_neg, nb_add, nb_sub, nb_mul, Int.toNat_natCast, mm_kr_s, mm_kv_s, if_pos, if_neg, sq_tn, Int.toNat_zero, Int.reduceToNat, Int.reduceNeg, Nat.reduceAdd, Int.reduceAdd, Int.reduceEq, Int.reduceLT, Int.reduceLE, Int.zero_add, nb_ui_s, nb_ui_k, nb_ui_a, sp_min, sp_max, sp_bits]
        refine sq_kr (om e P J L (by omega) (zm_of hP hJ.2.2.2.2.2.2.1 hst)) (fun I' hI => ?_)
        simp (disch := (first | assumption | omega | exact nb_ix (by omega) (by assumption) (by omega) (by omega) | exact nb_ix (by omega) rfl (by omega) (by omega) | exact nb_ok (by omega) rfl | decide)) only [kX12_fault, ↓if_pos, ↓if_neg, nb_add, nb_sub, nb_mul, Int.toNat_natCast, mm_kr_s, mm_kv_s, if_pos, if_neg, sq_tn, Int.toNat_zero, Int.reduceToNat, Int.reduceNeg, Nat.reduceAdd, Int.reduceAdd, Int.reduceEq, Int.reduceLT, Int.reduceLE, Int.zero_add, nb_ui_s, nb_ui_k, nb_ui_a, sp_min, sp_max, sp_bits]
        exact sq_ret hI.1
    · obtain ⟨e, rfl⟩ : ∃ e, d = e + 1 := ⟨d - 1, by omega⟩
      refine ⟨-2, t, u, (s, D, B, g, v, W, K, cn, nl, hl, es, x, kf, NI, LgI, ck, cp, ch, cm, co, tp, pe, rf), P, rfl, hs, ⟨I, ?_, hc, fun _ _ => rfl⟩, fun J hJ => ⟨L, J, ?_, hJ, fun _ _ => rfl⟩⟩
      · rw [eX11_fault]
        simp (disch := (first | assumption | omega | exact nb_ix (by omega) (by assumption) (by omega) (by omega) | exact nb_ix (by omega) rfl (by omega) (by omega) | exact nb_ok (by omega) rfl | decide)) only [kX11_fault, ↓if_pos, ↓if_neg, nb_add, nb_sub, nb_mul, Int.toNat_natCast, mm_kr_s, mm_kv_s, if_pos, if_neg, sq_tn, Int.toNat_zero, Int.reduceToNat, Int.reduceNeg, Nat.reduceAdd, Int.reduceAdd, Int.reduceEq, Int.reduceLT, Int.reduceLE, Int.zero_add, nb_ui_s, nb_ui_k, nb_ui_a, sp_min, sp_max, sp_bits]
      · rw [eX12_fault]
        simp (disch := (first | assumption | omega | exact nb_ix (by omega) (by assumption) (by omega) (by omega) | exact nb_ix (by omega) rfl (by omega) (by omega) | exact nb_ok (by omega) rfl | decide)) only [kX12_fault, ↓if_pos, ↓if_neg, nb_add, nb_sub, nb_mul, Int.toNat_natCast, mm_kr_s, mm_kv_s, if_pos, if_neg, sq_tn, Int.toNat_zero, Int.reduceToNat, Int.reduceNeg, Nat.reduceAdd, Int.reduceAdd, Int.reduceEq, Int.reduceLT, Int.reduceLE, Int.zero_add, nb_ui_s, nb_ui_k, nb_ui_a, sp_min, sp_max, sp_bits]
