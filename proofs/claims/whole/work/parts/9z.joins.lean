/-! time, images, clues, tape, laws held: both alike -/
theorem sq_cf_tm {I I' : mm_I} (h : sq_cf sq_TL I I') : (∀ b, (b < 20 ∨ b = 21 ∨ b = 25 ∨ b = 29 ∨ b = 33 ∨ (36 ≤ b ∧ b < 40) ∨ (210 ≤ b ∧ b ≤ 238)) → I' b = I b) ∧ (∀ b, b ∈ [20, 24, 28, 32] → I' b 1 = I b 1) ∧ ∀ b, 239 ≤ b → I' b = I b := by
  have hx : ∀ b, (b < 20 ∨ b = 21 ∨ b = 25 ∨ b = 29 ∨ b = 33 ∨ (36 ≤ b ∧ b < 40) ∨ 210 ≤ b) → I' b = I b := fun b hb => h.1 b (by unfold sq_TL; simp only [List.mem_range'_1]; omega) (by unfold sq_LF; simp only [List.mem_cons, List.not_mem_nil, or_false]; omega)
  exact ⟨fun b hb => hx b (by omega), h.2, fun b hb => hx b (by omega)⟩
theorem sq_fr_tm {I I' : mm_I} (h : sq_fr sq_TL I I') : (∀ b, (b < 20 ∨ b = 21 ∨ b = 25 ∨ b = 29 ∨ b = 33 ∨ (36 ≤ b ∧ b < 40) ∨ (210 ≤ b ∧ b ≤ 238)) → I' b = I b) ∧ (∀ b, b ∈ [20, 24, 28, 32] → I' b 1 = I b 1) ∧ ∀ b, 239 ≤ b → I' b = I b := by
  have hx : ∀ b, (b < 40 ∨ 210 ≤ b) → I' b = I b := fun b hb => h b (by unfold sq_TL; simp only [List.mem_range'_1]; omega)
  refine ⟨fun b hb => hx b (by omega), fun b hb => ?_, fun b hb => hx b (by omega)⟩
  have : b = 20 ∨ b = 24 ∨ b = 28 ∨ b = 32 := by simpa using hb
  rw [hx b (by omega)]
theorem sq_ft_lo {I I' : mm_I} (h : sq_ft I I') : ∀ b, (b < 239 ∨ 270 ≤ b) → I' b = I b := fun b hb => h.1 b (by simp only [List.mem_cons, List.not_mem_nil, or_false]; omega)
set_option maxHeartbeats 1000000 in
theorem J_hours (y : Int) : RJ 99 208 [.inl y] := by
  refine RJ_of (fun d n P I L t u σ hd hc hm hs hz => ?_)
  obtain ⟨s, D, B, g, v, W, K, cn, nl, hl, es, x, kf, NI, LgI, ck, cp, ch, cm, co, tp, pe, rf⟩ := σ
  obtain ⟨e, rfl⟩ : ∃ e, d = e + 10 := ⟨d - 10, by omega⟩
  obtain ⟨lw, hC⟩ := CC_of hc hs
  have hsT : rs_T s x := hs.2.2.1
  have h1 := oa_hours (d := e) (L := L) (by omega) ⟨hC, hc.2.2.2.1, hsT⟩ y
  have hMo := fun J (hJ : RM n P J (s, D, B, g, v, W, K, cn, nl, hl, es, x, kf, NI, LgI, ck, cp, ch, cm, co, tp, pe, rf)) => ob_hours (d := e) (L := L) (by omega) (MM_of hJ hs) hJ.2.2.2.1.2 hsT y
  by_cases hr : ra_hours s x.1 y = -1
  · have hy : (1 ≤ y ∧ y ≤ 60) ∧ x.1 29 + y ≤ 9999 := by
      unfold ra_hours at hr
      by_cases c1 : s = 0
      · rw [if_pos c1] at hr; exact absurd hr (by decide)
      · rw [if_neg c1] at hr
        by_cases c2 : 1 ≤ y ∧ y ≤ 60
        · rw [if_neg (by simpa using c2)] at hr
          by_cases c3 : 9999 < x.1 29 + y
          · rw [if_pos c3] at hr; exact absurd hr (by decide)
          · exact ⟨c2, by omega⟩
        · rw [if_pos c2] at hr; exact absurd hr (by decide)
    have hrs := (sh_it_rs (ev := evo hl es) (D := D) (B := B) hs.1.1 hs.1.2.2.2.1 hsT y.toNat (by omega)).1
    refine ⟨_, t, u, (s, D, B, g, v, W, K, cn, nl, hl, es, sh_it (sw_live (evo hl es) D B g s) s y.toNat x, kf, NI, LgI, ck, cp, ch, cm, co, tp, pe, rf), P, rfl, RS_tm hs hrs, sq_mono h1 (fun I' hI => ?_), fun J hJ => ⟨L, sq_mono (hMo J hJ) (fun I' hI => ?_)⟩⟩
    · obtain ⟨q1, q2⟩ := hI.1 hr
      have q3 := sq_cf_tm q2
      exact ⟨RC_tm hc hs q1 q3.1 q3.2.1, q3.2.2⟩
    · obtain ⟨q1, q2⟩ := hI.1 hr
      exact ⟨RM_tm hJ q1 q2.1 q2.2, sq_ft_lo q2⟩
  · have hr2 : 0 ≤ ra_hours s x.1 y ∧ ra_hours s x.1 y ≤ 4 := by
      simp only [ra_hours] at hr ⊢
      grind
    refine ⟨_, t, u, (s, D, B, g, v, W, K, cn, nl, hl, es, x, kf, NI, LgI, ck, cp, ch, cm, co, tp, pe, rfu rf (ra_hours s x.1 y)), P, rfl, RS_rf hs, sq_mono h1 (fun I' hI => ?_), fun J hJ => ⟨L, sq_mono (hMo J hJ) (fun I' hI => ?_)⟩⟩
    · rw [hI.2 hr]
      exact ⟨RC_rf hr2 hc hs, fun b hb => nb_ui_r (by omega)⟩
    · rw [hI.2 hr]
      exact ⟨RM_rf hr2 hJ, fun b hb => nb_ui_r (by omega)⟩
set_option maxHeartbeats 1000000 in
theorem J_years (y z : Int) : RJ 107 219 [.inl y, .inr (.inl z)] := by
  refine RJ_of (fun d n P I L t u σ hd hc hm hs hz => ?_)
  obtain ⟨s, D, B, g, v, W, K, cn, nl, hl, es, x, kf, NI, LgI, ck, cp, ch, cm, co, tp, pe, rf⟩ := σ
  obtain ⟨e, rfl⟩ : ∃ e, d = e + 10 := ⟨d - 10, by omega⟩
  obtain ⟨lw, hC⟩ := CC_of hc hs
  have hsT : rs_T s x := hs.2.2.1
  obtain ⟨h0, h1⟩ := oa_years (d := e) (L := L) (by omega) ⟨hC, hc.2.2.2.1, hsT⟩ hc.2.2.2.2.2.2.2.1 y z
  have hMo := fun J (hJ : RM n P J (s, D, B, g, v, W, K, cn, nl, hl, es, x, kf, NI, LgI, ck, cp, ch, cm, co, tp, pe, rf)) => ob_years (d := e) (L := L) (by omega) (MM_of hJ hs) hJ.2.2.2.1.2 hsT hJ.2.2.2.2.2.2.2.1 y z
  by_cases hr : sa_years s x.1 y
  · have hrs := (sy_it_rs (ev := evo hl es) (D := D) (B := B) (pe := pe) (y := (x, z)) hs.1.1 hr.1 hs.1.2.2.2.1 hsT y.toNat (by have := hr.2; show x.1 29 + (y.toNat : Int) ≤ 9999; omega)).1
    refine ⟨_, t, u, (s, D, B, g, v, W, K, cn, nl, hl, es, (sy_it (sw_live (evo hl es) D B g s) s B pe y.toNat (x, z)).1, kf, NI, LgI, ck, cp, ch, cm, co, tp, pe, rf), P, rfl, RS_tm hs hrs, sq_mono (h1 hr) (fun I' hI => ?_), fun J hJ => ?_⟩
    · obtain ⟨q1, q2⟩ := hI
      have q3 := sq_cf_tm q2
      exact ⟨RC_tm hc hs q1 q3.1 q3.2.1, q3.2.2⟩
    · obtain ⟨L2, hL2⟩ := (hMo J hJ).2 hr
      refine ⟨L2, sq_mono hL2 (fun I' hI => ?_)⟩
      obtain ⟨q1, q2⟩ := hI
      exact ⟨RM_tm hJ q1 q2.1 q2.2, sq_ft_lo q2⟩
  · exact ⟨-1, t, u, _, P, rfl, hs, ⟨I, h0 hr, hc, fun _ _ => rfl⟩, fun J hJ => ⟨L, J, (hMo J hJ).1 hr, hJ, fun _ _ => rfl⟩⟩
theorem J_undo : RJ 113 221 [] := by
  refine RJ_of (fun d n P I L t u σ hd hc hm hs hz => ?_)
  obtain ⟨s, D, B, g, v, W, K, cn, nl, hl, es, x, kf, NI, LgI, ck, cp, ch, cm, co, tp, pe, rf⟩ := σ
  obtain ⟨e, rfl⟩ : ∃ e, d = e + 10 := ⟨d - 10, by omega⟩
  have hsT : rs_T s x := hs.2.2.1
  obtain ⟨h0, h1⟩ := oa_undo (d := e) (L := L) hc.1 hc.2.2.2.1 hsT
  have hMo := fun J (hJ : RM n P J (s, D, B, g, v, W, K, cn, nl, hl, es, x, kf, NI, LgI, ck, cp, ch, cm, co, tp, pe, rf)) => ob_undo (d := e) (L := L) hJ.1 hJ.2.2.2.1
  by_cases hr : x.2.1 = 0
  · exact ⟨-1, t, u, _, P, rfl, hs, ⟨I, h0 hr, hc, fun _ _ => rfl⟩, fun J hJ => ⟨L, J, (hMo J hJ).1 hr, hJ, fun _ _ => rfl⟩⟩
  · have hr2 : 0 < x.2.1 := by omega
    refine ⟨_, t, u, (s, D, B, g, v, W, K, cn, nl, hl, es, su_T x, kf, NI, LgI, ck, cp, ch, cm, co, tp, pe, rf), P, rfl, RS_tm hs (rs_undo hsT hr2 _), sq_mono (h1 hr2) (fun I' hI => ?_), fun J hJ => ⟨L, sq_mono ((hMo J hJ).2 hr2) (fun I' hI => ?_)⟩⟩
    · have q3 := sq_fr_tm hI.2
      exact ⟨RC_tm hc hs hI.1 q3.1 q3.2.1, q3.2.2⟩
    · exact ⟨RM_tm hJ hI.1 hI.2.1 hI.2.2, sq_ft_lo hI.2⟩
theorem J_back : RJ 143 261 [] := by
  refine RJ_of (fun d n P I L t u σ hd hc hm hs hz => ?_)
  obtain ⟨s, D, B, g, v, W, K, cn, nl, hl, es, x, kf, NI, LgI, ck, cp, ch, cm, co, tp, pe, rf⟩ := σ
  obtain ⟨e, rfl⟩ : ∃ e, d = e + 10 := ⟨d - 10, by omega⟩
  have hsI := hs.2.2.2.1
  obtain ⟨h0, h1⟩ := oa_back (d := e) (L := L) hc.1 hc.2.2.2.1 hc.2.2.2.2.1
  have hMo := fun J (hJ : RM n P J (s, D, B, g, v, W, K, cn, nl, hl, es, x, kf, NI, LgI, ck, cp, ch, cm, co, tp, pe, rf)) => ob_back (d := e) (L := L) (LgI := LgI) hJ.1 hJ.2.2.2.1 hsI.1 hJ.2.2.2.2.1
  rcases hsI.1 with hr | hr
  · exact ⟨-1, t, u, _, P, rfl, hs, ⟨I, h0 hr, hc, fun _ _ => rfl⟩, fun J hJ => ⟨L, J, (hMo J hJ).1 hr, hJ, fun _ _ => rfl⟩⟩
  · obtain ⟨k1, k2, k3⟩ := hsI.2 hr
    refine ⟨_, t, u, (s, D, B, g, v, W, K, cn, nl, hl, es, (NI, 0, x.2.2.1, x.2.2.2.1, LgI), kf, NI, LgI, ck, cp, ch, cm, co, tp, pe, rf), P, rfl, RS_tm hs ⟨k1, k2, k3, Nat.zero_le _, fun i hi => absurd hi (Nat.not_lt_zero i), fun i hi => absurd hi (Nat.not_lt_zero i)⟩, sq_mono (h1 hr) (fun I' hI => ?_), fun J hJ => ⟨L, sq_mono ((hMo J hJ).2 hr) (fun I' hI => ?_)⟩⟩
    · have q3 := sq_fr_tm hI.2
      exact ⟨RC_tm hc hs hI.1 q3.1 q3.2.1, q3.2.2⟩
    · exact ⟨RM_tm hJ hI.1 hI.2.1 hI.2.2, sq_ft_lo hI.2⟩
theorem J_image : RJ 142 260 [] := by
  refine RJ_of (fun d n P I L t u σ hd hc hm hs hz => ?_)
  obtain ⟨s, D, B, g, v, W, K, cn, nl, hl, es, x, kf, NI, LgI, ck, cp, ch, cm, co, tp, pe, rf⟩ := σ
  obtain ⟨e, rfl⟩ : ∃ e, d = e + 10 := ⟨d - 10, by omega⟩
  have ht := RC_t hc
  have hnl : nl ≤ 4 := hs.2.1.1
  have hsT : rs_T s x := hs.2.2.1
  obtain ⟨h0, h1⟩ := oa_image (d := e) (L := L) hc.1 hc.2.1.1.2.2.1 hc.2.2.2.1 hsT
  have hMo := fun J (hJ : RM n P J (s, D, B, g, v, W, K, cn, nl, hl, es, x, kf, NI, LgI, ck, cp, ch, cm, co, tp, pe, rf)) => ob_image (d := e) (L := L) hJ.1 hJ.2.1.1.2.1 hJ.2.2.2.1
  by_cases hr : s = 0
  · exact ⟨-1, t, u, _, P, rfl, hs, ⟨I, h0 hr, hc, fun _ _ => rfl⟩, fun J hJ => ⟨L, J, (hMo J hJ).1 hr, hJ, fun _ _ => rfl⟩⟩
  · have hr2 : 0 < s := by omega
    refine ⟨_, t, u, (s, D, B, g, v, W, K, cn, nl, hl, es, x, 1, x.1, x.2.2.2.2, ck, cp, ch, cm, co, tp, pe, rf), P, rfl, ⟨hs.1, hs.2.1, hs.2.2.1, ⟨Or.inr rfl, fun _ => ⟨hsT.1, hsT.2.1, hsT.2.2.1⟩⟩, hs.2.2.2.2.1, hs.2.2.2.2.2⟩, sq_mono (h1 hr2) (fun I' hI => ?_), fun J hJ => ⟨L, sq_mono ((hMo J hJ).2 hr2) (fun I' hI => ?_)⟩⟩
    · obtain ⟨q1, q2, q3⟩ := hI
      obtain ⟨c1, c2, c3, c4, c5, c6, c7, c8, c9⟩ := hc
      exact ⟨⟨c1, rc_town_k c2 (fun b a1 a2 => q2 b (by omega) (by omega)), rc_laws_k c3 (q3 5 (by decide)) (q3 6 (by decide)) (fun i hi => ⟨by rw [q2 _ (by omega) (by omega)], q2 _ (by omega) (by omega)⟩), rc_T_k c4 (fun b a1 a2 => q2 b (by omega) (by omega)), q1, sq_CK_k c6 (fun b a1 a2 => q2 b (by omega) (by omega)), rc_tape_k c7 (by rw [q2 1 (by omega) (by omega)]) (q2 2 (by omega) (by omega)), by rw [q3 7 (by decide)]; exact c8, fun k hk => by rw [q2 238 (by omega) (by omega)]; exact c9 k hk⟩, fun b hb => q2 b (by omega) (by omega)⟩
    · obtain ⟨q1, q2, q3⟩ := hI
      obtain ⟨c1, c2, c3, c4, c5, c6, c7, c8, c9⟩ := hJ
      exact ⟨⟨c1, rm_town_k c2 (fun b a1 a2 => q2 b (by omega) (by omega)) (q3 26 (by decide)), rm_laws_k c3 (q3 13 (by decide)) (q3 29 (by decide)) (fun b a1 a2 => q2 b (by omega) (by omega)), rm_T_k c4 (fun j _ => by rw [q2 257 (by decide) (by decide)]) (q2 260 (by decide) (by decide)) (q3 33 (by decide)), q1, sq_MK_k c6 (q3 42 (by decide)) (fun b a1 a2 => q2 b (by omega) (by omega)), rm_tape_k c7 (q3 2 (by decide)) (q2 240 (by decide) (by decide)), by rw [q3 30 (by decide)]; exact c8, fun k hk => by rw [q2 258 (by decide) (by decide)]; exact c9 k hk⟩, fun b hb => q2 b (by omega) (by omega)⟩
/-- one number more in a row -/
def rup {α : Type} (f : Nat → α) (k : Nat) (z : α) : Nat → α := fun i => if i = k then z else f i
theorem rup_s {α : Type} {f : Nat → α} {k : Nat} {z : α} : rup f k z k = z := if_pos rfl
theorem rup_k {α : Type} {f : Nat → α} {k i : Nat} {z : α} (h : i ≠ k) : rup f k z i = f i := if_neg h
set_option maxHeartbeats 1000000 in
theorem J_seen (p m y b : Int) (hb : b = 0 ∨ b = 1) : RJ 126 239 [.inl p, .inl m, .inl y, .inl b] := by
  refine RJ_of (fun d n P I L t u σ hd hc hm hs hz => ?_)
  obtain ⟨s, D, B, g, v, W, K, cn, nl, hl, es, x, kf, NI, LgI, ck, cp, ch, cm, co, tp, pe, rf⟩ := σ
  obtain ⟨e, rfl⟩ : ∃ e, d = e + 10 := ⟨d - 10, by omega⟩
  have ht := RC_t hc
  have hnl : nl ≤ 4 := hs.2.1.1
  have hsc := hs.2.2.2.2.1
  obtain ⟨h0, h1⟩ := oa_seen (d := e) (L := L) (ck := ck) hc.1 hc.2.1.1.2.2.1 hc.2.2.2.2.2.1.1 hsc.1 p m y b hb
  have hMo := fun J (hJ : RM n P J (s, D, B, g, v, W, K, cn, nl, hl, es, x, kf, NI, LgI, ck, cp, ch, cm, co, tp, pe, rf)) => ob_seen (d := e) (L := L) (ck := ck) hJ.1 hs.1.1 hJ.2.1.1.2.1 hJ.2.2.2.2.2.1.1 hsc.1 p m y b hb
  by_cases hr : sa_seen s ck p m y
  · obtain ⟨r1, r2, r3, r4⟩ := hr
    have ep : ((p.toNat : Nat) : Int) = p := by omega
    have em : ((m.toNat : Nat) : Int) = m := by omega
    have hck' : sq_ck s (ck + 1) (rup cp ck p.toNat) (rup ch ck m.toNat) (rup cm ck y) (rup co ck b) := by
      refine ⟨by omega, fun i hi => ?_⟩
      by_cases c : i = ck
      · subst c
        rw [rup_s, rup_s, rup_s, rup_s]
        exact ⟨by omega, by omega, r3, hb⟩
      · rw [rup_k c, rup_k c, rup_k c, rup_k c]
        exact hsc.2 i (by omega)
    refine ⟨_, t, u, (s, D, B, g, v, W, K, cn, nl, hl, es, x, kf, NI, LgI, ck + 1, rup cp ck p.toNat, rup ch ck m.toNat, rup cm ck y, rup co ck b, tp, pe, rf), P, rfl, ⟨hs.1, hs.2.1, hs.2.2.1, hs.2.2.2.1, hck', hs.2.2.2.2.2⟩, ⟨_, h1 ⟨r1, r2, r3, r4⟩, ?_, fun b hb => by rw [nb_ui_r (by omega), nb_ui_r (by omega), nb_ui_r (by omega), nb_ui_r (by omega), nb_ui_r (by omega)]⟩, fun J hJ => ⟨L, ⟨_, (hMo J hJ).2 ⟨r1, r2, r3, r4⟩, ?_, fun b hb => by rw [nb_ui_r (by omega), nb_ui_r (by omega), nb_ui_r (by omega), nb_ui_r (by omega), nb_ui_r (by omega)]⟩⟩⟩
    · obtain ⟨c1, c2, c3, c4, c5, c6, c7, c8, c9⟩ := hc
      have q : ∀ a, (a < 218 ∨ 223 ≤ a) → mm_ui (mm_ui (mm_ui (mm_ui (mm_ui I 219 ck p) 220 ck m) 221 ck y) 222 ck b) 218 4 ((ck + 1 : Nat) : Int) a = I a := fun a ha => by rw [nb_ui_r (by omega), nb_ui_r (by omega), nb_ui_r (by omega), nb_ui_r (by omega), nb_ui_r (by omega)]
      refine ⟨c1, rc_town_k c2 (fun b a1 a2 => q b (by omega)), rc_laws_k c3 (by rw [q 0 (by omega)]) (by rw [q 0 (by omega)]) (fun i hi => ⟨by rw [q _ (by omega)], q _ (by omega)⟩), rc_T_k c4 (fun b a1 a2 => q b (by omega)), rc_img_k c5 (by rw [q 0 (by omega)]) (fun b a1 a2 => q b (by omega)), ⟨nb_ui_s, fun i hi => ?_⟩, rc_tape_k c7 (by rw [q 1 (by omega)]) (q 2 (by omega)), by rw [q 0 (by omega)]; exact c8, fun k hk => by rw [q 238 (by omega)]; exact c9 k hk⟩
      by_cases c : i = ck
      · subst c
        rw [nb_ui_a (by decide), nb_ui_a (by decide), nb_ui_a (by decide), nb_ui_a (by decide), nb_ui_s, nb_ui_a (by decide), nb_ui_a (by decide), nb_ui_a (by decide), nb_ui_s, nb_ui_a (by decide), nb_ui_a (by decide), nb_ui_s, nb_ui_a (by decide), nb_ui_s, rup_s, rup_s, rup_s, rup_s, ep, em]
        exact ⟨rfl, rfl, rfl, rfl⟩
      · rw [nb_ui_a (by decide), nb_ui_a (by decide), nb_ui_a (by decide), nb_ui_a (by decide), nb_ui_k c, nb_ui_a (by decide), nb_ui_a (by decide), nb_ui_a (by decide), nb_ui_k c, nb_ui_a (by decide), nb_ui_a (by decide), nb_ui_a (by decide), nb_ui_k c, nb_ui_a (by decide), nb_ui_a (by decide), nb_ui_a (by decide), nb_ui_k c, nb_ui_a (by decide), nb_ui_a (by decide), nb_ui_a (by decide), rup_k c, rup_k c, rup_k c, rup_k c]
        exact c6.2 i (by omega)
    · obtain ⟨c1, c2, c3, c4, c5, c6, c7, c8, c9⟩ := hJ
      have q : ∀ a, (a < 239 ∨ (240 ≤ a ∧ a < 262) ∨ 266 ≤ a) → mm_ui (mm_ui (mm_ui (mm_ui (mm_ui J 262 ck p) 263 ck m) 264 ck y) 265 ck b) 239 42 ((ck + 1 : Nat) : Int) a = J a := fun a ha => by rw [nb_ui_r (by omega), nb_ui_r (by omega), nb_ui_r (by omega), nb_ui_r (by omega), nb_ui_r (by omega)]
      have q9 : ∀ j, j ≠ 42 → mm_ui (mm_ui (mm_ui (mm_ui (mm_ui J 262 ck p) 263 ck m) 264 ck y) 265 ck b) 239 42 ((ck + 1 : Nat) : Int) 239 j = J 239 j := fun j hj => by rw [nb_ui_k hj, nb_ui_a (by decide), nb_ui_a (by decide), nb_ui_a (by decide), nb_ui_a (by decide)]
      refine ⟨c1, rm_town_k c2 (fun b a1 a2 => q b (by omega)) (q9 26 (by decide)), rm_laws_k c3 (q9 13 (by decide)) (q9 29 (by decide)) (fun b a1 a2 => q b (by omega)), rm_T_k c4 (fun j _ => by rw [q 257 (by omega)]) (q 260 (by omega)) (q9 33 (by decide)), rm_img_k c5 (q9 46 (by decide)) (q 268 (by omega)), ⟨nb_ui_s, fun i hi => ?_⟩, rm_tape_k c7 (q9 2 (by decide)) (q 240 (by omega)), by rw [q9 30 (by decide)]; exact c8, fun k hk => by rw [q 258 (by omega)]; exact c9 k hk⟩
      by_cases c : i = ck
      · subst c
        rw [nb_ui_a (by decide), nb_ui_a (by decide), nb_ui_a (by decide), nb_ui_a (by decide), nb_ui_s, nb_ui_a (by decide), nb_ui_a (by decide), nb_ui_a (by decide), nb_ui_s, nb_ui_a (by decide), nb_ui_a (by decide), nb_ui_s, nb_ui_a (by decide), nb_ui_s, rup_s, rup_s, rup_s, rup_s, ep, em]
        exact ⟨rfl, rfl, rfl, rfl⟩
      · rw [nb_ui_a (by decide), nb_ui_a (by decide), nb_ui_a (by decide), nb_ui_a (by decide), nb_ui_k c, nb_ui_a (by decide), nb_ui_a (by decide), nb_ui_a (by decide), nb_ui_k c, nb_ui_a (by decide), nb_ui_a (by decide), nb_ui_a (by decide), nb_ui_k c, nb_ui_a (by decide), nb_ui_a (by decide), nb_ui_a (by decide), nb_ui_k c, nb_ui_a (by decide), nb_ui_a (by decide), nb_ui_a (by decide), rup_k c, rup_k c, rup_k c, rup_k c]
        exact c6.2 i (by omega)
  · exact ⟨-1, t, u, _, P, rfl, hs, ⟨I, h0 hr, hc, fun _ _ => rfl⟩, fun J hJ => ⟨L, J, (hMo J hJ).1 hr, hJ, fun _ _ => rfl⟩⟩
