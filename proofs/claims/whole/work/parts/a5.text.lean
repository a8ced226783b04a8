/-! text, both alike -/
def RX (y1 y2 : Nat) (a : List mm_V) (d n : Nat) (P : mm_P) (I L : mm_I) (σ : rS) : Prop := ∃ (z : Int) (t' u' : Nat) (σ' : rS) (P1 : mm_P), P1 239 = P 239 ∧ RS σ' ∧ sq_X (some (.inl z)) n L P1 (fun I' => RC n P1 I' t' u' σ' ∧ ∀ b, 239 ≤ b → I' b = I b) (mm_rn d y1 (.inr (.inr (some 0)) :: a) n I L P) ∧ (∀ J, RM n P1 J σ → ∃ L2, sq_X (some (.inl z)) n L2 P1 (fun I' => RM n P1 I' σ' ∧ ∀ b, (b < 239 ∨ 270 ≤ b) → I' b = J b) (mm_rn d y2 (.inr (.inr (some 239)) :: a) n J L P1))
theorem RX_stay {y1 y2 : Nat} {a : List mm_V} {d n t u : Nat} {P : mm_P} {I L : mm_I} {σ : rS} (z : Int) (hs : RS σ) (h1 : sq_X (some (.inl z)) n L P (fun I' => RC n P I' t u σ ∧ ∀ b, 239 ≤ b → I' b = I b) (mm_rn d y1 (.inr (.inr (some 0)) :: a) n I L P)) (h2 : ∀ J, RM n P J σ → sq_X (some (.inl z)) n L P (fun I' => RM n P I' σ ∧ ∀ b, (b < 239 ∨ 270 ≤ b) → I' b = J b) (mm_rn d y2 (.inr (.inr (some 239)) :: a) n J L P)) : RX y1 y2 a d n P I L σ := ⟨z, t, u, σ, P, rfl, hs, h1, fun J hJ => ⟨L, h2 J hJ⟩⟩
section TX
variable {n t u s nl ck : Nat} {P : mm_P} {I L : mm_I} {D W K NI cm co rf : Nat → Int} {B cp ch : Nat → Nat} {g v cn hl kf pe : Int} {es : Nat → rL} {x : sT} {LgI : Nat → Nat → Int} {tp : (Nat → Int) × Nat}
set_option maxHeartbeats 1000000 in
theorem text_law {d : Nat} (hd : 60 ≤ d) (hc : RC n P I t u (s, D, B, g, v, W, K, cn, nl, hl, es, x, kf, NI, LgI, ck, cp, ch, cm, co, tp, pe, rf)) (hs : RS (s, D, B, g, v, W, K, cn, nl, hl, es, x, kf, NI, LgI, ck, cp, ch, cm, co, tp, pe, rf)) (hz : zS I) : RX 88 190 [.inl 1] d n P I L (s, D, B, g, v, W, K, cn, nl, hl, es, x, kf, NI, LgI, ck, cp, ch, cm, co, tp, pe, rf) := by
  have hP := hc.1
  have hn := hP.1
  have ht := RC_t hc
  have hst := hs.2.2.2.2.2
  have hnl : nl ≤ 4 := hs.2.1.1
  have pp := hP.2.2.2.2.2.2.2.1
  have q0 := pp.1
  have q1 := pp.2.1
  have q3 := hP.2.2.2.2.2.2.1.2
  by_cases h4 : nl = 4
  · obtain ⟨e, rfl⟩ : ∃ e, d = e + 2 := ⟨d - 2, by omega⟩
    have c5 : I 0 5 = (nl : Int) := hc.2.2.1.1
    have c4 : (4 : Int) ≤ (nl : Int) := by omega
    refine RX_stay (-1) hs ⟨I, ?_, hc, fun _ _ => rfl⟩ (fun J hJ => ⟨J, ?_, hJ, fun _ _ => rfl⟩)
    · have ht : mm_rn (e + 1) 90 [.inr (.inr (some 0))] n I L P = some (some (.inl (-1)), n, I, L, P) := by
        rw [eX11_takeLaw]
        simp (disch := (first | assumption | omega | exact nb_ix (by omega) (by assumption) (by omega) (by omega) | exact nb_ix (by omega) rfl (by omega) (by omega) | exact nb_ok (by omega) rfl | decide)) only [kX11_takeLaw, c5, ↓if_pos, ↓if_neg, nb_add, nb_sub, nb_mul, Int.toNat_natCast, mm_kr_s, mm_kv_s, if_pos, if_neg, sq_tn, Int.toNat_zero, Int.reduceToNat, Int.reduceNeg, Nat.reduceAdd, Int.reduceAdd, Int.reduceEq, Int.reduceLT, Int.reduceLE, Int.zero_add, nb_ui_s, nb_ui_k, nb_ui_a, sp_min, sp_max, sp_bits]
        done
      rw [eX11_text]
      simp (disch := (first | assumption | omega | exact nb_ix (by omega) (by assumption) (by omega) (by omega) | exact nb_ix (by omega) rfl (by omega) (by omega) | exact nb_ok (by omega) rfl | decide)) only [kX11_text, ht, ↓if_pos, ↓if_neg, nb_add, nb_sub, nb_mul, Int.toNat_natCast, mm_kr_s, mm_kv_s, if_pos, if_neg, sq_tn, Int.toNat_zero, Int.reduceToNat, Int.reduceNeg, Nat.reduceAdd, Int.reduceAdd, Int.reduceEq, Int.reduceLT, Int.reduceLE, Int.zero_add, nb_ui_s, nb_ui_k, nb_ui_a, sp_min, sp_max, sp_bits]
      done
    · have ok := hJ.1.ok
      have c13 : J 239 13 = (nl : Int) := hJ.2.2.1.1
      rw [eX12_text]
      simp (disch := (first | assumption | omega | exact nb_ix (by omega) (by assumption) (by omega) (by omega) | exact nb_ix (by omega) rfl (by omega) (by omega) | exact nb_ok (by omega) rfl | decide)) only [kX12_text, c13, ↓if_pos, ↓if_neg, nb_add, nb_sub, nb_mul, Int.toNat_natCast, mm_kr_s, mm_kv_s, if_pos, if_neg, sq_tn, Int.toNat_zero, Int.reduceToNat, Int.reduceNeg, Nat.reduceAdd, Int.reduceAdd, Int.reduceEq, Int.reduceLT, Int.reduceLE, Int.zero_add, nb_ui_s, nb_ui_k, nb_ui_a, sp_min, sp_max, sp_bits]
      done
  · have hnl4 : nl < 4 := by omega
    rcases oz_text (T := tp.1) (S := tp.2) hP hnl4 hst.1 with ⟨oc, om⟩ | ⟨cls, oc, om⟩
    · exact RX_stay (-1) hs (sq_mono (oc d I L (by omega) (zc_of hP hc.2.2.2.2.2.2.1 hst) hc.2.2.1.1) (fun I' hI => RC_zcF hc hs hI)) (fun J hJ => sq_mono (om d J L (by omega) (zm_of hP hJ.2.2.2.2.2.2.1 hst) hJ.2.2.1.1) (fun I' hI => RM_zkF (Nat.le_refl nl) hJ hI))
    · have hS' : RS (s, D, B, g, v, W, K, cn, nl + 1, hl, rup es nl cls, x, kf, NI, LgI, ck, cp, ch, cm, co, (tp.1, 0), pe, rf) := ⟨hs.1, ⟨by omega, hs.2.1.2.1, by have := hs.2.1.2.2; omega⟩, hs.2.2.1, hs.2.2.2.1, hs.2.2.2.2.1, ⟨Nat.zero_le _, fun i hi => absurd hi (Nat.not_lt_zero i)⟩⟩
      refine ⟨(nl : Int), t, u, (s, D, B, g, v, W, K, cn, nl + 1, hl, rup es nl cls, x, kf, NI, LgI, ck, cp, ch, cm, co, (tp.1, 0), pe, rf), P, rfl, hS', sq_mono (oc d I L (by omega) (zc_of hP hc.2.2.2.2.2.2.1 hst) hc.2.2.1.1) (fun I' hI => ?_), fun J hJ => ⟨L, sq_mono (om d J L (by omega) (zm_of hP hJ.2.2.2.2.2.2.1 hst) hJ.2.2.1.1) (fun I' hI => ?_)⟩⟩
      · obtain ⟨l1, l2, l3, l4, l5⟩ := hI
        obtain ⟨c1, c2, c3, c4, c5, c6, c7, c8, c9⟩ := hc
        refine ⟨⟨c1, rc_town_k c2 (fun b a1 a2 => l4 b (by omega) (by omega) (by omega) (by omega)), ⟨l3, by rw [l5 6 (by decide)]; exact c3.2.1, fun i hi => ?_⟩, rc_T_k c4 (fun b a1 a2 => l4 b (by omega) (by omega) (by omega) (by omega)), rc_img_k c5 (l5 13 (by decide)) (fun b a1 a2 => l4 b (by omega) (by omega) (by omega) (by omega)), sq_CK_k c6 (fun b a1 a2 => l4 b (by omega) (by omega) (by omega) (by omega)), ⟨l2, fun i hi => absurd hi (Nat.not_lt_zero i)⟩, by rw [l5 7 (by decide)]; exact c8, fun k hk => by rw [l4 238 (by omega) (by omega) (by omega) (by omega)]; exact c9 k hk⟩, fun b hb => l4 b (by omega) (by omega) (by omega) (by omega)⟩
        by_cases c : i = nl
        · subst c; rw [rup_s]; exact l1
        · rw [rup_k c]
          exact rc_law_k (c3.2.2 i (by omega)) (by rw [l4 _ (by omega) (by omega) (by omega) (by omega)]) (l4 _ (by omega) (by omega) (by omega) (by omega))
      · obtain ⟨l1, l2, l3, G, l4, l5⟩ := hI
        have hG := RM_zkF (Nat.le_refl nl) hJ l4
        obtain ⟨c1, c2, c3, c4, c5, c6, c7, c8, c9⟩ := hG.1
        have e : ∀ b, b ≠ 239 → I' b = G b := fun b hb => by rw [l5, nb_ui_r hb, nb_ui_r hb]
        have e9 : ∀ j, j ≠ 2 → j ≠ 13 → I' 239 j = G 239 j := fun j a1 a2 => by rw [l5, nb_ui_k a2, nb_ui_k a1]
        refine ⟨⟨c1, rm_town_k c2 (fun b a1 a2 => e b (by omega)) (e9 26 (by decide) (by decide)), ⟨l3, by rw [e9 29 (by decide) (by decide)]; exact c3.2.1, fun i hi => ?_⟩, rm_T_k c4 (fun j _ => by rw [e 257 (by decide)]) (e 260 (by decide)) (e9 33 (by decide) (by decide)), rm_img_k c5 (e9 46 (by decide) (by decide)) (e 268 (by decide)), sq_MK_k c6 (e9 42 (by decide) (by decide)) (fun b a1 a2 => e b (by omega)), ⟨l2, fun i hi => absurd hi (Nat.not_lt_zero i)⟩, by rw [e9 30 (by decide) (by decide)]; exact c8, fun k hk => by rw [e 258 (by decide)]; exact c9 k hk⟩, fun b hb => by rw [e b (by omega)]; exact hG.2 b hb⟩
        by_cases c : i = nl
        · subst c; rw [rup_s]; exact l1
        · rw [rup_k c]
          exact rm_law_k (c3.2.2 i (by omega)) (fun b a1 a2 => e b (by omega))
set_option maxHeartbeats 1000000 in
theorem text_fault {e p : Nat} (hd : 60 ≤ e + 4) (hc : RC n P I t u (s, D, B, g, v, W, K, cn, nl, hl, es, x, kf, NI, LgI, ck, cp, ch, cm, co, tp, pe, rf)) (hs : RS (s, D, B, g, v, W, K, cn, nl, hl, es, x, kf, NI, LgI, ck, cp, ch, cm, co, tp, pe, rf)) (hz : zS I) (oc : ∀ (d : Nat) (I L : mm_I), 11 ≤ d → zS I → zc n P I tp.1 tp.2 → sq_X (some (.inl (zrr (Sum.inl p)))) n L P (fun I' => zFc u I I' ∧ zrc u I' (Sum.inl p)) (mm_rn d 72 [.inr (.inr (some 3)), .inr (.inr (some 1)), .inr (.inr (some u))] n I L P)) (om : ∀ (d : Nat) (P : mm_P) (I L : mm_I), 11 ≤ d → zm n P I tp.1 tp.2 → sq_X (some (.inl (zrm (Sum.inl p)))) n L P (fun I' => zFm I I' ∧ zrt I' (Sum.inl p)) (mm_rn d 185 [.inr (.inr (some 239))] n I L P)) : RX 88 190 [.inl 0] (e + 4) n P I L (s, D, B, g, v, W, K, cn, nl, hl, es, x, kf, NI, LgI, ck, cp, ch, cm, co, tp, pe, rf) := by
  have hP := hc.1
  have hn := hP.1
  have ht := RC_t hc
  have hst := hs.2.2.2.2.2
  have hnl : nl ≤ 4 := hs.2.1.1
  have pp := hP.2.2.2.2.2.2.2.1
  have q0 := pp.1
  have q1 := pp.2.1
  have q3 := hP.2.2.2.2.2.2.1.2
  have e0 : zrr (Sum.inl p : zro) = 0 := rfl
  have e1 : zrm (Sum.inl p : zro) = (p : Int) := rfl
  have cp1 : ¬ (p : Int) = -1 := by omega
  refine RX_stay (-1) hs (sq_mono (Q := fun I' => zFc u I I') ?_ (fun I' hI => RC_zFc hc hs hI)) (fun J hJ => sq_mono (Q := fun I' => zFm J I') ?_ (fun I' hI => RM_zFm hJ hI))
  · rw [eX11_text]
    simp (disch := (first | assumption | omega | exact nb_ix (by omega) (by assumption) (by omega) (by omega) | exact nb_ix (by omega) rfl (by omega) (by omega) | exact nb_ok (by omega) rfl | decide)) only [kX11_text, ↓if_pos, ↓if_neg, nb_add, nb_sub, nb_mul, Int.toNat_natCast, mm_kr_s, mm_kv_s, if_pos, if_neg, sq_tn, Int.toNat_zero, Int.reduceToNat, Int.reduceNeg, Nat.reduceAdd, Int.reduceAdd, Int.reduceEq, Int.reduceLT, Int.reduceLE, Int.zero_add, nb_ui_s, nb_ui_k, nb_ui_a, sp_min, sp_max, sp_bits]
    refine sq_kr (L0 := L) (P0 := P) (v := .inl (-1)) (Q1 := fun I' => zFc u I I') ?_ (fun I' hI => ?_)
    · rw [eX11_takeTown]
      simp (disch := (first | assumption | omega | exact nb_ix (by omega) (by assumption) (by omega) (by omega) | exact nb_ix (by omega) rfl (by omega) (by omega) | exact nb_ok (by omega) rfl | decide)) only [kX11_takeTown, q0, q1, q3, ↓if_pos, ↓if_neg, nb_add, nb_sub, nb_mul, Int.toNat_natCast, mm_kr_s, mm_kv_s, if_pos, if_neg, sq_tn, Int.toNat_zero, Int.reduceToNat, Int.reduceNeg, Nat.reduceAdd, Int.reduceAdd, Int.reduceEq, Int.reduceLT, Int.reduceLE, Int.zero_add, nb_ui_s, nb_ui_k, nb_ui_a, sp_min, sp_max, sp_bits]
      refine sq_kr (oc (e + 2) I L (by omega) hz (zc_of hP hc.2.2.2.2.2.2.1 hst)) (fun I' hI => ?_)
      simp (disch := (first | assumption | omega | exact nb_ix (by omega) (by assumption) (by omega) (by omega) | exact nb_ix (by omega) rfl (by omega) (by omega) | exact nb_ok (by omega) rfl | decide)) only [kX11_takeTown, e0, ↓if_pos, ↓if_neg, nb_add, nb_sub, nb_mul, Int.toNat_natCast, mm_kr_s, mm_kv_s, if_pos, if_neg, sq_tn, Int.toNat_zero, Int.reduceToNat, Int.reduceNeg, Nat.reduceAdd, Int.reduceAdd, Int.reduceEq, Int.reduceLT, Int.reduceLE, Int.zero_add, nb_ui_s, nb_ui_k, nb_ui_a, sp_min, sp_max, sp_bits]
      exact sq_ret hI.1
    · simp (disch := (first | assumption | omega | exact nb_ix (by omega) (by assumption) (by omega) (by omega) | exact nb_ix (by omega) rfl (by omega) (by omega) | exact nb_ok (by omega) rfl | decide)) only [kX11_text, ↓if_pos, ↓if_neg, nb_add, nb_sub, nb_mul, Int.toNat_natCast, mm_kr_s, mm_kv_s, if_pos, if_neg, sq_tn, Int.toNat_zero, Int.reduceToNat, Int.reduceNeg, Nat.reduceAdd, Int.reduceAdd, Int.reduceEq, Int.reduceLT, Int.reduceLE, Int.zero_add, nb_ui_s, nb_ui_k, nb_ui_a, sp_min, sp_max, sp_bits]
      exact sq_ret hI
  · have ok := hJ.1.ok
    rw [eX12_text]
    simp (disch := (first | assumption | omega | exact nb_ix (by omega) (by assumption) (by omega) (by omega) | exact nb_ix (by omega) rfl (by omega) (by omega) | exact nb_ok (by omega) rfl | decide)) only [kX12_text, ↓if_pos, ↓if_neg, nb_add, nb_sub, nb_mul, Int.toNat_natCast, mm_kr_s, mm_kv_s, if_pos, if_neg, sq_tn, Int.toNat_zero, Int.reduceToNat, Int.reduceNeg, Nat.reduceAdd, Int.reduceAdd, Int.reduceEq, Int.reduceLT, Int.reduceLE, Int.zero_add, nb_ui_s, nb_ui_k, nb_ui_a, sp_min, sp_max, sp_bits]
    refine sq_kr (om (e + 3) P J L (by omega) (zm_of hP hJ.2.2.2.2.2.2.1 hst)) (fun I' hI => ?_)
    simp (disch := (first | assumption | omega | exact nb_ix (by omega) (by assumption) (by omega) (by omega) | exact nb_ix (by omega) rfl (by omega) (by omega) | exact nb_ok (by omega) rfl | decide)) only [kX12_text, e1, ↓if_pos, ↓if_neg, nb_add, nb_sub, nb_mul, Int.toNat_natCast, mm_kr_s, mm_kv_s, if_pos, if_neg, sq_tn, Int.toNat_zero, Int.reduceToNat, Int.reduceNeg, Nat.reduceAdd, Int.reduceAdd, Int.reduceEq, Int.reduceLT, Int.reduceLE, Int.zero_add, nb_ui_s, nb_ui_k, nb_ui_a, sp_min, sp_max, sp_bits]
    exact sq_ret hI.1
set_option maxHeartbeats 1000000 in
theorem text_whole {e : Nat} {ru pl la : Nat → Int} {np nn : Nat} (hd : 60 ≤ e + 4) (hc : RC n P I t u (s, D, B, g, v, W, K, cn, nl, hl, es, x, kf, NI, LgI, ck, cp, ch, cm, co, tp, pe, rf)) (hs : RS (s, D, B, g, v, W, K, cn, nl, hl, es, x, kf, NI, LgI, ck, cp, ch, cm, co, tp, pe, rf)) (hz : zS I) (g1 : zts ru 0 np pl nn la) (g2 : zwh np nn la) (oc : ∀ (d : Nat) (I L : mm_I), 11 ≤ d → zS I → zc n P I tp.1 tp.2 → sq_X (some (.inl (zrr (Sum.inr (ru, np, pl, nn, la))))) n L P (fun I' => zFc u I I' ∧ zrc u I' (Sum.inr (ru, np, pl, nn, la))) (mm_rn d 72 [.inr (.inr (some 3)), .inr (.inr (some 1)), .inr (.inr (some u))] n I L P)) (om : ∀ (d : Nat) (P : mm_P) (I L : mm_I), 11 ≤ d → zm n P I tp.1 tp.2 → sq_X (some (.inl (zrm (Sum.inr (ru, np, pl, nn, la))))) n L P (fun I' => zFm I I' ∧ zrt I' (Sum.inr (ru, np, pl, nn, la))) (mm_rn d 185 [.inr (.inr (some 239))] n I L P)) : RX 88 190 [.inl 0] (e + 4) n P I L (s, D, B, g, v, W, K, cn, nl, hl, es, x, kf, NI, LgI, ck, cp, ch, cm, co, tp, pe, rf) := by
  have hP := hc.1
  have hn := hP.1
  have ht := RC_t hc
  have hst := hs.2.2.2.2.2
  have hnl : nl ≤ 4 := hs.2.1.1
  have pp := hP.2.2.2.2.2.2.2.1
  have q0 := pp.1
  have q1 := pp.2.1
  have q3 := hP.2.2.2.2.2.2.1.2
  have e0 : zrr (Sum.inr (ru, np, pl, nn, la) : zro) = 1 := rfl
  have e1 : zrm (Sum.inr (ru, np, pl, nn, la) : zro) = -1 := rfl
  refine ⟨(np : Int), u, t, zσ ru np pl nn la (s, D, B, g, v, W, K, cn, nl, hl, es, x, kf, NI, LgI, ck, cp, ch, cm, co, tp, pe, rf), zsw P t u, zsw_r (by decide), zσ_RS g1 g2 hs, ?_, fun J hJ => ⟨L, ?_⟩⟩
  · rw [eX11_text]
    simp (disch := (first | assumption | omega | exact nb_ix (by omega) (by assumption) (by omega) (by omega) | exact nb_ix (by omega) rfl (by omega) (by omega) | exact nb_ok (by omega) rfl | decide)) only [kX11_text, ↓if_pos, ↓if_neg, nb_add, nb_sub, nb_mul, Int.toNat_natCast, mm_kr_s, mm_kv_s, if_pos, if_neg, sq_tn, Int.toNat_zero, Int.reduceToNat, Int.reduceNeg, Nat.reduceAdd, Int.reduceAdd, Int.reduceEq, Int.reduceLT, Int.reduceLE, Int.zero_add, nb_ui_s, nb_ui_k, nb_ui_a, sp_min, sp_max, sp_bits]
    refine sq_kr (L0 := L) (P0 := zsw P t u) (v := .inl ((np : Int))) (Q1 := fun I' => RC n (zsw P t u) I' u t (zσ ru np pl nn la (s, D, B, g, v, W, K, cn, nl, hl, es, x, kf, NI, LgI, ck, cp, ch, cm, co, tp, pe, rf)) ∧ ∀ b, 239 ≤ b → I' b = I b) ?_ (fun I' hI => ?_)
    · rw [eX11_takeTown]
      simp (disch := (first | assumption | omega | exact nb_ix (by omega) (by assumption) (by omega) (by omega) | exact nb_ix (by omega) rfl (by omega) (by omega) | exact nb_ok (by omega) rfl | decide)) only [kX11_takeTown, q0, q1, q3, ↓if_pos, ↓if_neg, nb_add, nb_sub, nb_mul, Int.toNat_natCast, mm_kr_s, mm_kv_s, if_pos, if_neg, sq_tn, Int.toNat_zero, Int.reduceToNat, Int.reduceNeg, Nat.reduceAdd, Int.reduceAdd, Int.reduceEq, Int.reduceLT, Int.reduceLE, Int.zero_add, nb_ui_s, nb_ui_k, nb_ui_a, sp_min, sp_max, sp_bits]
      refine sq_kr (oc (e + 2) I L (by omega) hz (zc_of hP hc.2.2.2.2.2.2.1 hst)) (fun I' hI => ?_)
      rw [e0]
      exact zK_class (d := e + 1) hc hs g1 g2 hI.1 hI.2
    · simp (disch := (first | assumption | omega | exact nb_ix (by omega) (by assumption) (by omega) (by omega) | exact nb_ix (by omega) rfl (by omega) (by omega) | exact nb_ok (by omega) rfl | decide)) only [kX11_text, ↓if_pos, ↓if_neg, nb_add, nb_sub, nb_mul, Int.toNat_natCast, mm_kr_s, mm_kv_s, if_pos, if_neg, sq_tn, Int.toNat_zero, Int.reduceToNat, Int.reduceNeg, Nat.reduceAdd, Int.reduceAdd, Int.reduceEq, Int.reduceLT, Int.reduceLE, Int.zero_add, nb_ui_s, nb_ui_k, nb_ui_a, sp_min, sp_max, sp_bits]
      exact sq_ret hI
  · have ok := hJ.1.ok
    have hP1 := sq_P_swap hP
    rw [eX12_text]
    simp (disch := (first | assumption | omega | exact nb_ix (by omega) (by assumption) (by omega) (by omega) | exact nb_ix (by omega) rfl (by omega) (by omega) | exact nb_ok (by omega) rfl | decide)) only [kX12_text, ↓if_pos, ↓if_neg, nb_add, nb_sub, nb_mul, Int.toNat_natCast, mm_kr_s, mm_kv_s, if_pos, if_neg, sq_tn, Int.toNat_zero, Int.reduceToNat, Int.reduceNeg, Nat.reduceAdd, Int.reduceAdd, Int.reduceEq, Int.reduceLT, Int.reduceLE, Int.zero_add, nb_ui_s, nb_ui_k, nb_ui_a, sp_min, sp_max, sp_bits]
    refine sq_kr (om (e + 3) (zsw P t u) J L (by omega) (zm_of hP1 hJ.2.2.2.2.2.2.1 hst)) (fun I' hI => ?_)
    simp (disch := (first | assumption | omega | exact nb_ix (by omega) (by assumption) (by omega) (by omega) | exact nb_ix (by omega) rfl (by omega) (by omega) | exact nb_ok (by omega) rfl | decide)) only [kX12_text, e1, ↓if_pos, ↓if_neg, nb_add, nb_sub, nb_mul, Int.toNat_natCast, mm_kr_s, mm_kv_s, if_pos, if_neg, sq_tn, Int.toNat_zero, Int.reduceToNat, Int.reduceNeg, Nat.reduceAdd, Int.reduceAdd, Int.reduceEq, Int.reduceLT, Int.reduceLE, Int.zero_add, nb_ui_s, nb_ui_k, nb_ui_a, sp_min, sp_max, sp_bits]
    have hG := RM_zFm hJ hI.1
    refine sq_kr (zK_model (d := e) (L := L) (tp := tp) (I := mm_ui I' 239 2 0) (RM_r0 (hl' := hl) (pe' := pe) (tp' := (tp.1, 0)) hG.1 (fun b hb _ => nb_ui_r hb) (fun j hj _ _ => nb_ui_k hj) (by rw [nb_ui_k (by decide)]; exact hG.1.2.2.1.2.1) (by rw [nb_ui_k (by decide)]; exact hG.1.2.2.2.2.2.2.2.1) ⟨nb_ui_s, fun i hi => absurd hi (Nat.not_lt_zero i)⟩) g1 g2 ?_ nb_ui_s) (fun E hE => ?_)
    · obtain ⟨k1, k2, k3, k4, k5⟩ := hI.2
      exact ⟨by rw [nb_ui_k (by decide)]; exact k1, by rw [nb_ui_k (by decide)]; exact k2, fun k hk => by rw [nb_ui_a (by decide)]; exact k3 k hk, fun k hk => by rw [nb_ui_a (by decide)]; exact k4 k hk, fun k hk => by rw [nb_ui_a (by decide)]; exact k5 k hk⟩
    · simp (disch := (first | assumption | omega | exact nb_ix (by omega) (by assumption) (by omega) (by omega) | exact nb_ix (by omega) rfl (by omega) (by omega) | exact nb_ok (by omega) rfl | decide)) only [kX12_text, ↓if_pos, ↓if_neg, nb_add, nb_sub, nb_mul, Int.toNat_natCast, mm_kr_s, mm_kv_s, if_pos, if_neg, sq_tn, Int.toNat_zero, Int.reduceToNat, Int.reduceNeg, Nat.reduceAdd, Int.reduceAdd, Int.reduceEq, Int.reduceLT, Int.reduceLE, Int.zero_add, nb_ui_s, nb_ui_k, nb_ui_a, sp_min, sp_max, sp_bits]
      refine sq_ret ⟨hE.1, fun b hb => ?_⟩
      rw [hE.2 b hb, nb_ui_r (by omega)]
      exact hG.2 b hb
theorem text_town {d : Nat} (hd : 60 ≤ d) (hc : RC n P I t u (s, D, B, g, v, W, K, cn, nl, hl, es, x, kf, NI, LgI, ck, cp, ch, cm, co, tp, pe, rf)) (hs : RS (s, D, B, g, v, W, K, cn, nl, hl, es, x, kf, NI, LgI, ck, cp, ch, cm, co, tp, pe, rf)) (hz : zS I) : RX 88 190 [.inl 0] d n P I L (s, D, B, g, v, W, K, cn, nl, hl, es, x, kf, NI, LgI, ck, cp, ch, cm, co, tp, pe, rf) := by
  have hP := hc.1
  have hst := hs.2.2.2.2.2
  obtain ⟨u1, u2, u3, u4⟩ := sq_P_u hP
  obtain ⟨o, og, oc, om⟩ := zU_read (n := n) (T := tp.1) (S := tp.2) u1 u2 u3 u4 hst.1
  obtain ⟨e, rfl⟩ : ∃ e, d = e + 4 := ⟨d - 4, by omega⟩
  cases o with
  | inl p => exact text_fault hd hc hs hz oc om
  | inr st =>
    obtain ⟨ru, np, pl, nn, la⟩ := st
    exact text_whole hd hc hs hz og.1 og.2 oc om
theorem text_other {d : Nat} {y : Int} (y1 : ¬ y = 1) (y0 : ¬ y = 0) (hd : 60 ≤ d) (hc : RC n P I t u (s, D, B, g, v, W, K, cn, nl, hl, es, x, kf, NI, LgI, ck, cp, ch, cm, co, tp, pe, rf)) (hs : RS (s, D, B, g, v, W, K, cn, nl, hl, es, x, kf, NI, LgI, ck, cp, ch, cm, co, tp, pe, rf)) (hz : zS I) : RX 88 190 [.inl y] d n P I L (s, D, B, g, v, W, K, cn, nl, hl, es, x, kf, NI, LgI, ck, cp, ch, cm, co, tp, pe, rf) := by
  have hP := hc.1
  have hn := hP.1
  have ht := RC_t hc
  have hst := hs.2.2.2.2.2
  have hnl : nl ≤ 4 := hs.2.1.1
  have pp := hP.2.2.2.2.2.2.2.1
  have q0 := pp.1
  have q1 := pp.2.1
  have q3 := hP.2.2.2.2.2.2.1.2
  obtain ⟨e, rfl⟩ : ∃ e, d = e + 1 := ⟨d - 1, by omega⟩
  refine RX_stay (-1) hs ⟨I, ?_, hc, fun _ _ => rfl⟩ (fun J hJ => ⟨J, ?_, hJ, fun _ _ => rfl⟩)
  · rw [eX11_text]
    simp (disch := (first | assumption | omega | exact nb_ix (by omega) (by assumption) (by omega) (by omega) | exact nb_ix (by omega) rfl (by omega) (by omega) | exact nb_ok (by omega) rfl | decide)) only [kX11_text, ↓if_pos, ↓if_neg, nb_add, nb_sub, nb_mul, Int.toNat_natCast, mm_kr_s, mm_kv_s, if_pos, if_neg, sq_tn, Int.toNat_zero, Int.reduceToNat, Int.reduceNeg, Nat.reduceAdd, Int.reduceAdd, Int.reduceEq, Int.reduceLT, Int.reduceLE, Int.zero_add, nb_ui_s, nb_ui_k, nb_ui_a, sp_min, sp_max, sp_bits]
  · rw [eX12_text]
    simp (disch := (first | assumption | omega | exact nb_ix (by omega) (by assumption) (by omega) (by omega) | exact nb_ix (by omega) rfl (by omega) (by omega) | exact nb_ok (by omega) rfl | decide)) only [kX12_text, ↓if_pos, ↓if_neg, nb_add, nb_sub, nb_mul, Int.toNat_natCast, mm_kr_s, mm_kv_s, if_pos, if_neg, sq_tn, Int.toNat_zero, Int.reduceToNat, Int.reduceNeg, Nat.reduceAdd, Int.reduceAdd, Int.reduceEq, Int.reduceLT, Int.reduceLE, Int.zero_add, nb_ui_s, nb_ui_k, nb_ui_a, sp_min, sp_max, sp_bits]
end TX
theorem J_text (y : Int) : RJ 88 190 [.inl y] := by
  refine RJ_of (fun d n P I L t u σ hd hc hm hs hz => ?_)
  obtain ⟨s, D, B, g, v, W, K, cn, nl, hl, es, x, kf, NI, LgI, ck, cp, ch, cm, co, tp, pe, rf⟩ := σ
  by_cases y1 : y = 1
  · subst y1
    exact text_law hd hc hs hz
  · by_cases y0 : y = 0
    · subst y0
      exact text_town hd hc hs hz
    · exact text_other y1 y0 hd hc hs hz
