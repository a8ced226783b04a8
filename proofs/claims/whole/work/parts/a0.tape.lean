/-! laws held, danger, the tape: both alike -/
section TP
variable {n t u s nl ck : Nat} {P : mm_P} {I I' : mm_I} {D W K NI cm co rf : Nat → Int} {B cp ch : Nat → Nat} {g v cn hl kf pe : Int} {es : Nat → rL} {x : sT} {LgI : Nat → Nat → Int} {tp : (Nat → Int) × Nat}
/-- the class's first row changes in what no group but one reads -/
theorem RC_r0 {hl' pe' : Int} (h : RC n P I t u (s, D, B, g, v, W, K, cn, nl, hl, es, x, kf, NI, LgI, ck, cp, ch, cm, co, tp, pe, rf)) (hS : RS (s, D, B, g, v, W, K, cn, nl, hl, es, x, kf, NI, LgI, ck, cp, ch, cm, co, tp, pe, rf)) (f : ∀ b, b ≠ 0 → b < 239 → I' b = I b) (f5 : I' 0 5 = I 0 5) (f6 : I' 0 6 = hl') (f7 : I' 0 7 = pe') (f13 : I' 0 13 = I 0 13) : RC n P I' t u (s, D, B, g, v, W, K, cn, nl, hl', es, x, kf, NI, LgI, ck, cp, ch, cm, co, tp, pe', rf) := by
  have ht := RC_t h
  have hnl : nl ≤ 4 := hS.2.1.1
  obtain ⟨h1, h2, h3, h4, h5, h6, h7, h8, h9⟩ := h
  exact ⟨h1, rc_town_k h2 (fun b a1 a2 => f b (by omega) (by omega)), ⟨by rw [f5]; exact h3.1, f6, fun i hi => rc_law_k (h3.2.2 i hi) (by rw [f _ (by omega) (by omega)]) (f _ (by omega) (by omega))⟩, rc_T_k h4 (fun b a1 a2 => f b (by omega) (by omega)), rc_img_k h5 f13 (fun b a1 a2 => f b (by omega) (by omega)), sq_CK_k h6 (fun b a1 a2 => f b (by omega) (by omega)), rc_tape_k h7 (by rw [f 1 (by omega) (by omega)]) (f 2 (by omega) (by omega)), f7, fun k hk => by rw [f 238 (by omega) (by omega)]; exact h9 k hk⟩
theorem RM_r0 {hl' pe' : Int} {tp' : (Nat → Int) × Nat} (h : RM n P I (s, D, B, g, v, W, K, cn, nl, hl, es, x, kf, NI, LgI, ck, cp, ch, cm, co, tp, pe, rf)) (f : ∀ b, b ≠ 239 → b ≠ 240 → I' b = I b) (f2 : ∀ j, j ≠ 2 → j ≠ 29 → j ≠ 30 → I' 239 j = I 239 j) (f6 : I' 239 29 = hl') (f7 : I' 239 30 = pe') (ft : rm_tape I' tp') : RM n P I' (s, D, B, g, v, W, K, cn, nl, hl', es, x, kf, NI, LgI, ck, cp, ch, cm, co, tp', pe', rf) := by
  obtain ⟨h1, h2, h3, h4, h5, h6, h7, h8, h9⟩ := h
  exact ⟨h1, rm_town_k h2 (fun b a1 a2 => f b (by omega) (by omega)) (f2 26 (by decide) (by decide) (by decide)), ⟨by rw [f2 13 (by decide) (by decide) (by decide)]; exact h3.1, f6, fun i hi => rm_law_k (h3.2.2 i hi) (fun b a1 a2 => f b (by omega) (by omega))⟩, rm_T_k h4 (fun j _ => by rw [f 257 (by decide) (by decide)]) (f 260 (by decide) (by decide)) (f2 33 (by decide) (by decide) (by decide)), rm_img_k h5 (f2 46 (by decide) (by decide) (by decide)) (f 268 (by decide) (by decide)), sq_MK_k h6 (f2 42 (by decide) (by decide) (by decide)) (fun b a1 a2 => f b (by omega) (by omega)), ft, f7, fun k hk => by rw [f 258 (by decide) (by decide)]; exact h9 k hk⟩
theorem RC_tp {tp' : (Nat → Int) × Nat} (h : RC n P I t u (s, D, B, g, v, W, K, cn, nl, hl, es, x, kf, NI, LgI, ck, cp, ch, cm, co, tp, pe, rf)) (hS : RS (s, D, B, g, v, W, K, cn, nl, hl, es, x, kf, NI, LgI, ck, cp, ch, cm, co, tp, pe, rf)) (f : ∀ b, b ≠ 1 → b ≠ 2 → I' b = I b) (ft : rc_tape I' tp') : RC n P I' t u (s, D, B, g, v, W, K, cn, nl, hl, es, x, kf, NI, LgI, ck, cp, ch, cm, co, tp', pe, rf) := by
  have ht := RC_t h
  have hnl : nl ≤ 4 := hS.2.1.1
  obtain ⟨h1, h2, h3, h4, h5, h6, h7, h8, h9⟩ := h
  exact ⟨h1, rc_town_k h2 (fun b a1 a2 => f b (by omega) (by omega)), rc_laws_k h3 (by rw [f 0 (by omega) (by omega)]) (by rw [f 0 (by omega) (by omega)]) (fun i hi => ⟨by rw [f _ (by omega) (by omega)], f _ (by omega) (by omega)⟩), rc_T_k h4 (fun b a1 a2 => f b (by omega) (by omega)), rc_img_k h5 (by rw [f 0 (by omega) (by omega)]) (fun b a1 a2 => f b (by omega) (by omega)), sq_CK_k h6 (fun b a1 a2 => f b (by omega) (by omega)), ft, by rw [f 0 (by omega) (by omega)]; exact h8, fun k hk => by rw [f 238 (by omega) (by omega)]; exact h9 k hk⟩
end TP
theorem J_law (y : Int) : RJ 95 203 [.inl y] := by
  refine RJ_of (fun d n P I L t u σ hd hc hm hs hz => ?_)
  obtain ⟨s, D, B, g, v, W, K, cn, nl, hl, es, x, kf, NI, LgI, ck, cp, ch, cm, co, tp, pe, rf⟩ := σ
  obtain ⟨e, rfl⟩ : ∃ e, d = e + 10 := ⟨d - 10, by omega⟩
  have h1 := oa_law (d := e) (L := L) hc.1 hc.2.2.1.1 y
  have hMo := fun J (hJ : RM n P J (s, D, B, g, v, W, K, cn, nl, hl, es, x, kf, NI, LgI, ck, cp, ch, cm, co, tp, pe, rf)) => ob_law (d := e) (L := L) hJ.1 hs.2.1.1 hJ.2.2.1.1 y
  by_cases hr : -1 ≤ y ∧ y < (nl : Int)
  · rw [if_pos hr, if_pos hr] at h1
    refine ⟨1, t, u, (s, D, B, g, v, W, K, cn, nl, y, es, x, kf, NI, LgI, ck, cp, ch, cm, co, tp, pe, rf), P, rfl, ⟨hs.1, ⟨hs.2.1.1, hr⟩, hs.2.2.1, hs.2.2.2.1, hs.2.2.2.2.1, hs.2.2.2.2.2⟩, ⟨_, h1, RC_r0 hc hs (fun b hb _ => nb_ui_r hb) (nb_ui_k (by decide)) nb_ui_s (by rw [nb_ui_k (by decide)]; exact hc.2.2.2.2.2.2.2.1) (nb_ui_k (by decide)), fun b hb => nb_ui_r (by omega)⟩, fun J hJ => ⟨L, ?_⟩⟩
    have h2 := hMo J hJ
    rw [if_pos hr, if_pos hr] at h2
    exact ⟨_, h2, RM_r0 hJ (fun b hb _ => nb_ui_r hb) (fun j _ hj _ => nb_ui_k hj) nb_ui_s (by rw [nb_ui_k (by decide)]; exact hJ.2.2.2.2.2.2.2.1) (rm_tape_k hJ.2.2.2.2.2.2.1 (nb_ui_k (by decide)) (nb_ui_r (by decide))), fun b hb => nb_ui_r (by omega)⟩
  · rw [if_neg hr, if_neg hr] at h1
    refine ⟨0, t, u, _, P, rfl, hs, ⟨I, h1, hc, fun _ _ => rfl⟩, fun J hJ => ⟨L, ?_⟩⟩
    have h2 := hMo J hJ
    rw [if_neg hr, if_neg hr] at h2
    exact ⟨J, h2, hJ, fun _ _ => rfl⟩
theorem J_danger (y : Int) : RJ 97 204 [.inl y] := by
  refine RJ_of (fun d n P I L t u σ hd hc hm hs hz => ?_)
  obtain ⟨s, D, B, g, v, W, K, cn, nl, hl, es, x, kf, NI, LgI, ck, cp, ch, cm, co, tp, pe, rf⟩ := σ
  obtain ⟨e, rfl⟩ : ∃ e, d = e + 10 := ⟨d - 10, by omega⟩
  have h1 := oa_danger (d := e) (L := L) hc.1 hc.2.2.2.2.2.2.2.1 y
  have hMo := fun J (hJ : RM n P J (s, D, B, g, v, W, K, cn, nl, hl, es, x, kf, NI, LgI, ck, cp, ch, cm, co, tp, pe, rf)) => ob_danger (d := e) (L := L) hJ.1 hJ.2.2.2.2.2.2.2.1 y
  by_cases hr : (0 ≤ y ∧ y ≤ 9) ∧ y ≠ pe
  · rw [if_pos hr, if_pos hr] at h1
    refine ⟨1, t, u, (s, D, B, g, v, W, K, cn, nl, hl, es, x, kf, NI, LgI, ck, cp, ch, cm, co, tp, y, rf), P, rfl, ⟨hs.1, hs.2.1, hs.2.2.1, hs.2.2.2.1, hs.2.2.2.2.1, hs.2.2.2.2.2⟩, ⟨_, h1, RC_r0 hc hs (fun b hb _ => nb_ui_r hb) (nb_ui_k (by decide)) (by rw [nb_ui_k (by decide)]; exact hc.2.2.1.2.1) nb_ui_s (nb_ui_k (by decide)), fun b hb => nb_ui_r (by omega)⟩, fun J hJ => ⟨L, ?_⟩⟩
    have h2 := hMo J hJ
    rw [if_pos hr, if_pos hr] at h2
    exact ⟨_, h2, RM_r0 hJ (fun b hb _ => nb_ui_r hb) (fun j _ _ hj => nb_ui_k hj) (by rw [nb_ui_k (by decide)]; exact hJ.2.2.1.2.1) nb_ui_s (rm_tape_k hJ.2.2.2.2.2.2.1 (nb_ui_k (by decide)) (nb_ui_r (by decide))), fun b hb => nb_ui_r (by omega)⟩
  · rw [if_neg hr, if_neg hr] at h1
    refine ⟨0, t, u, _, P, rfl, hs, ⟨I, h1, hc, fun _ _ => rfl⟩, fun J hJ => ⟨L, ?_⟩⟩
    have h2 := hMo J hJ
    rw [if_neg hr, if_neg hr] at h2
    exact ⟨J, h2, hJ, fun _ _ => rfl⟩
theorem J_end (y : Int) : RJ 86 151 [.inl y] := by
  refine RJ_of (fun d n P I L t u σ hd hc hm hs hz => ?_)
  obtain ⟨s, D, B, g, v, W, K, cn, nl, hl, es, x, kf, NI, LgI, ck, cp, ch, cm, co, tp, pe, rf⟩ := σ
  obtain ⟨e, rfl⟩ : ∃ e, d = e + 10 := ⟨d - 10, by omega⟩
  have h1 := oa_end (d := e) (L := L) hc.1 hc.2.2.2.2.2.2.1.1 y
  have hMo := fun J (hJ : RM n P J (s, D, B, g, v, W, K, cn, nl, hl, es, x, kf, NI, LgI, ck, cp, ch, cm, co, tp, pe, rf)) => ob_end (d := e) (L := L) hJ.1 hJ.2.2.2.2.2.2.1.1 y
  have hst := hs.2.2.2.2.2
  by_cases hr : 0 ≤ y ∧ y ≤ (tp.2 : Int)
  · rw [if_pos hr, if_pos hr] at h1
    have hy : ((y.toNat : Nat) : Int) = y := by omega
    refine ⟨1, t, u, (s, D, B, g, v, W, K, cn, nl, hl, es, x, kf, NI, LgI, ck, cp, ch, cm, co, (tp.1, y.toNat), pe, rf), P, rfl, ⟨hs.1, hs.2.1, hs.2.2.1, hs.2.2.2.1, hs.2.2.2.2.1, ⟨by show y.toNat ≤ 240; have := hst.1; omega, fun i hi => hst.2 i (by have : i < y.toNat := hi; omega)⟩⟩, ⟨_, h1, RC_tp hc hs (fun b hb _ => nb_ui_r hb) ⟨by rw [nb_ui_s]; exact hy.symm, fun i hi => by rw [nb_ui_a (by decide)]; exact hc.2.2.2.2.2.2.1.2 i (by have : i < y.toNat := hi; omega)⟩, fun b hb => nb_ui_r (by omega)⟩, fun J hJ => ⟨L, ?_⟩⟩
    have h2 := hMo J hJ
    rw [if_pos hr, if_pos hr] at h2
    exact ⟨_, h2, RM_r0 hJ (fun b hb _ => nb_ui_r hb) (fun j hj _ _ => nb_ui_k hj) (by rw [nb_ui_k (by decide)]; exact hJ.2.2.1.2.1) (by rw [nb_ui_k (by decide)]; exact hJ.2.2.2.2.2.2.2.1) ⟨by rw [nb_ui_s]; exact hy.symm, fun i hi => by rw [nb_ui_a (by decide)]; exact hJ.2.2.2.2.2.2.1.2 i (by have : i < y.toNat := hi; omega)⟩, fun b hb => nb_ui_r (by omega)⟩
  · rw [if_neg hr, if_neg hr] at h1
    refine ⟨0, t, u, _, P, rfl, hs, ⟨I, h1, hc, fun _ _ => rfl⟩, fun J hJ => ⟨L, ?_⟩⟩
    have h2 := hMo J hJ
    rw [if_neg hr, if_neg hr] at h2
    exact ⟨J, h2, hJ, fun _ _ => rfl⟩
theorem sf_f_rg (a b c e f : Int) (k : Nat) : 0 ≤ sf_f a b c e f k ∧ sf_f a b c e f k ≤ 255 := sf_b_rg _ _
theorem J_feed (a b c e f : Int) : RJ 84 150 [.inl a, .inl b, .inl c, .inl e, .inl f] := by
  refine RJ_of (fun d n P I L t u σ hd hc hm hs hz => ?_)
  obtain ⟨s, D, B, g, v, W, K, cn, nl, hl, es, x, kf, NI, LgI, ck, cp, ch, cm, co, tp, pe, rf⟩ := σ
  obtain ⟨o, rfl⟩ : ∃ o, d = o + 10 := ⟨d - 10, by omega⟩
  have hst := hs.2.2.2.2.2
  have h1 := oa_feed (d := o) (L := L) hc.1 hc.2.2.2.2.2.2.1 hst.1 a b c e f
  have hMo := fun J (hJ : RM n P J (s, D, B, g, v, W, K, cn, nl, hl, es, x, kf, NI, LgI, ck, cp, ch, cm, co, tp, pe, rf)) => ob_feed (d := o) (L := L) hJ.1 hJ.2.2.2.2.2.2.1 hst.1 a b c e f
  by_cases hr : tp.2 + sf_n (sf_f a b c e f) 20 ≤ 240
  · refine ⟨_, t, u, (s, D, B, g, v, W, K, cn, nl, hl, es, x, kf, NI, LgI, ck, cp, ch, cm, co, sf_p (sf_f a b c e f) 20 tp, pe, rf), P, rfl, ⟨hs.1, hs.2.1, hs.2.2.1, hs.2.2.2.1, hs.2.2.2.2.1, rs_tape_p hst (sf_f_rg a b c e f) 20 hr⟩, sq_mono h1 (fun I' hI => ?_), fun J hJ => ⟨L, sq_mono (hMo J hJ) (fun I' hI => ?_)⟩⟩
    · obtain ⟨q1, q2, q3⟩ := hI.1 hr
      exact ⟨RC_tp hc hs q2 q1, fun b hb => q2 b (by omega) (by omega)⟩
    · obtain ⟨q1, q2, q3⟩ := hI.1 hr
      exact ⟨RM_r0 hJ q2 (fun j hj _ _ => q3 j hj) (by rw [q3 29 (by decide)]; exact hJ.2.2.1.2.1) (by rw [q3 30 (by decide)]; exact hJ.2.2.2.2.2.2.2.1) q1, fun b hb => q2 b (by omega) (by omega)⟩
  · refine ⟨_, t, u, (s, D, B, g, v, W, K, cn, nl, hl, es, x, kf, NI, LgI, ck, cp, ch, cm, co, tp, pe, rf), P, rfl, hs, sq_mono h1 (fun I' hI => ?_), fun J hJ => ⟨L, sq_mono (hMo J hJ) (fun I' hI => ?_)⟩⟩
    · rw [hI.2 hr]; exact ⟨hc, fun _ _ => rfl⟩
    · rw [hI.2 hr]; exact ⟨hJ, fun _ _ => rfl⟩
