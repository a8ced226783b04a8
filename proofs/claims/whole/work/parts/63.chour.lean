/-! the class's hour -/
theorem sw_quiet {ev : sv_E} {D : Nat → Int} {B : Nat → Nat} {s : Nat} {N : Nat → Int} (hs : s ≤ 8) (hok : sv_ok s N) (h : sv_am N s = 0) : sv_lost N s = 0 ∧ ∀ j, j < 30 → sw_spr B s (sw_grow ev D B s N) j = N j := by
  have hz : ∀ p, p < s → N (16 + p) = 0 := by
    intro p hp
    have hb := (sw_sz (N := N) hp).2
    rw [h, Nat.zero_testBit] at hb
    have := (hok.1 p (by omega)).2.2.1
    have h2 := of_decide_eq_false hb.symm
    omega
  have ht : ∀ p, p < s → sv_tk N p = 0 := by
    intro p hp
    have h1 := hz p hp
    have h2 := (hok.1 p (by omega)).1
    unfold sv_tk
    omega
  have hg : ∀ j, sw_grow ev D B s N j = N j := by
    intro j
    unfold sw_grow sw_take
    by_cases c : 16 ≤ j ∧ j < 16 + s
    · rw [if_pos c]
      have e := hz (j - 16) (by omega)
      have e2 : 16 + (j - 16) = j := by omega
      unfold sv_s1
      rw [if_neg (by omega)]
      rw [e2] at e
      exact e.symm
    · rw [if_neg c]
      split
      · rename_i hj
        rw [ht j hj]
        omega
      · rfl
  have hg2 : sw_grow ev D B s N = N := funext hg
  constructor
  · unfold sv_lost
    have : ∀ k, k ≤ s → sp_sum (sv_tk N) k = 0 := by
      intro k
      induction k with
      | zero => intro _; rfl
      | succ k ih =>
        intro hk
        unfold sp_sum
        rw [ih (by omega), ht k (by omega)]
        rfl
    exact this s (Nat.le_refl s)
  · intro j hj
    rw [hg2]
    have hfr : sw_fr B s N = 0 := by
      unfold sw_fr
      have : ∀ k, k ≤ s → sv_or (fun p => if N (8 + p) = 0 ∧ 5 ≤ N (16 + p) then B p else 0) k = 0 := by
        intro k
        induction k with
        | zero => intro _; rfl
        | succ k ih =>
          intro hk
          unfold sv_or
          rw [ih (by omega), if_neg (by have := hz k (by omega); omega)]
          rfl
      exact this s (Nat.le_refl s)
    have hnw : ∀ p, sw_new B s N p = false := by
      intro p
      unfold sw_new
      rw [hfr, Nat.zero_testBit]
      rfl
    unfold sw_spr
    simp [hnw]
set_option maxHeartbeats 4000000 in
theorem sq_chour {n c s a t d : Nat} {I L : mm_I} {P : mm_P} {lw : Option Nat} {ev : sv_E} {D : Nat → Int} {B : Nat → Nat} {g v : Int} {N : Nat → Int} (hd : c ≤ d) (ha : 36 ≤ a) (hA : sp_N n P a) (hTP : sp_T n P t) (hT : sq_CT I t s D B g v) (hH : sq_CH n c P I lw ev) (hN : sq_cN I a N) (hok : sv_ok s N) (hh : N 29 ≤ 1000000) :
    sq_X (some (.inl (sv_lost N s))) n L P (fun I' => sq_cN I' a (sw_live ev D B g s N) ∧ sq_cf [a, a + 1, a + 2, a + 3] I I') (mm_rn (d + 5) 47 [.inr (.inr (some a)), .inr (.inr (some t)), .inr (.inr lw)] n I L P) := by
  have oka := hA.ok
  have okt := hTP.ok
  have hA2 := hA
  have hTP2 := hTP
  have hT2 := hT
  obtain ⟨a0, a1, a2, a3, a4, a5, a6, a7⟩ := hA
  obtain ⟨t0, t1, t2, t3, t4, t5, t6, t7, t8, t9, t10, t11⟩ := hTP
  obtain ⟨ht13, hs8, hs, hD, hDr, hB, hV, hg, hv⟩ := hT
  obtain ⟨n1, n2, n3, nf3, nf4, nf5, nf6, nf7, nf8⟩ := sq_cN_iff.1 hN
  have ham : sp_mask (fun q => decide (0 < I (a + 3) q)) 8 = sv_am N s := by
    unfold sv_am
    refine sp_mask_ext (fun p hp => by rw [n3 p (by omega)]) 8 hs8 (fun p h1 h2 => ?_)
    rw [n3 p h2, ((hok.1 p h2).2.2.2 h1).2]
    rfl
  have etr := sp_troubles (d := d + 3) (n := n) (I := I) (L := L) (P := P) hA2
  rw [ham] at etr
  have lr := sv_lost_rg hok hs8
  have hok0 := hok
  obtain ⟨_, _, _, _, _, r28, r29⟩ := hok0
  rw [eX5_passHour]
  by_cases h0 : sv_am N s = 0
  · obtain ⟨q1, q2⟩ := sw_quiet (ev := ev) (D := D) (B := B) hs8 hok h0
    rw [h0] at etr
    have etr2 : mm_rn (d + 3 + 1) 42 [.inr (.inr (some a))] n I L P = some (some (.inl 0), n, I, L, P) := etr
    simp (disch := (first | assumption | omega | exact nb_ix (by omega) (by assumption) (by omega) (by omega) | exact nb_ix (by omega) rfl (by omega) (by omega) | exact nb_ok (by omega) rfl | decide)) only [kX5_passHour, etr2, nf7, nf8, hg, nb_add, nb_sub, nb_mul, Int.toNat_natCast, mm_kr_s, mm_kv_s, if_pos, if_neg, sq_tn, Int.toNat_zero, Int.reduceToNat, Int.reduceNeg, Nat.reduceAdd, Int.reduceAdd, Int.reduceEq, Int.reduceLT, Int.reduceLE, Int.zero_add, nb_ui_s, nb_ui_k, nb_ui_a, sp_min, sp_max, sp_bits]
    rw [q1]
    refine sq_ret ⟨fun j hj => ?_, ?_⟩
    · have hj2 := hN j hj
      have hj3 := q2 j hj
      unfold sw_live
      rw [hj3, q1]
      revert hj2
      unfold sq_rd mm_ui
      grind
    · refine sq_cf_up (sq_cf_up (sq_cf_up (sq_cf_refl _ _) ?_ ?_) ?_ ?_) ?_ ?_
      all_goals first | omega | simp
  have h0' : ¬ (sv_am N s : Int) = 0 := by omega
  simp (disch := (first | assumption | omega | exact nb_ix (by omega) (by assumption) (by omega) (by omega) | exact nb_ix (by omega) rfl (by omega) (by omega) | exact nb_ok (by omega) rfl | decide)) only [kX5_passHour, etr, nb_add, nb_sub, nb_mul, Int.toNat_natCast, mm_kr_s, mm_kv_s, if_pos, if_neg, sq_tn, Int.toNat_zero, Int.reduceToNat, Int.reduceNeg, Nat.reduceAdd, Int.reduceAdd, Int.reduceEq, Int.reduceLT, Int.reduceLE, Int.zero_add, nb_ui_s, nb_ui_k, nb_ui_a, sp_min, sp_max, sp_bits]
  refine sq_loop2 (fun k (x : mm_V) (J : mm_I) => mm_E (d + 4) 47 15 [.inr (.inr (some a)), .inr (.inr (some t)), .inr (.inr lw), .inl ((sv_am N s : Int)), .inl (sv_lost N k), .inl ((k : Nat)), x] [] [] n J L P) (fun k _ J => (∀ j, j < 8 → J (a + 1) j = sw_take k N j) ∧ sq_fr [a + 1] I J) s (s0 := mm_junk) (t0 := I) ⟨?_, sq_fr_refl _ _⟩ ?_ ?_
  · intro j hj
    rw [sw_take_ge (by omega)]
    exact n1 j hj
  · intro k x4 J hk ⟨h1, h2⟩ ih
    have et : J t = I t := h2 t (by simp; omega)
    have w1 : J (a + 1) k = N k := by rw [h1 k (by omega), sw_take_ge (by omega)]
    have w2 : J (a + 3) k = N (16 + k) := by rw [h2 (a + 3) (by simp), n3 k (by omega)]
    have tk := sv_tk_rg hok (show k < 8 by omega)
    have lr := sp_sum_rg (f := sv_tk N) (M := 9) (by omega) k (fun j hj => ⟨(sv_tk_rg hok (show j < 8 by omega)).1, (sv_tk_rg hok (show j < 8 by omega)).2.1⟩)
    have e3 : min (N (16 + k)) (N k) = sv_tk N k := by unfold sv_tk; omega
    have e4 : sv_lost N k + sv_tk N k = sv_lost N (k + 1) := rfl
    have lr1 : 0 ≤ sv_lost N k := lr.1
    have lr2 : sv_lost N k ≤ k * 9 := lr.2
    have hwr := (hok.1 k (by omega)).1
    rw [hX5_passHour_15]
    simp (disch := (first | assumption | omega | exact nb_ix (by omega) (by assumption) (by omega) (by omega) | exact nb_ix (by omega) rfl (by omega) (by omega) | exact nb_ok (by omega) rfl | decide)) only [kX5_passHour, a5, a6, a7, et, hs, w1, w2, e3, e4, nb_add, nb_sub, nb_mul, Int.toNat_natCast, mm_kr_s, mm_kv_s, if_pos, if_neg, sq_tn, Int.toNat_zero, Int.reduceToNat, Int.reduceNeg, Nat.reduceAdd, Int.reduceAdd, Int.reduceEq, Int.reduceLT, Int.reduceLE, Int.zero_add, nb_ui_s, nb_ui_k, nb_ui_a, sp_min, sp_max, sp_bits]
    refine ih _ _ ⟨fun j hj => ?_, sq_fr_up h2 (by simp)⟩
    have := h1 j hj
    unfold sw_take at this ⊢
    unfold mm_ui
    grind
  intro x4 J ⟨h1, h2⟩
  have et : J t = I t := h2 t (by simp; omega)
  rw [hX5_passHour_15]
  simp (disch := (first | assumption | omega | exact nb_ix (by omega) (by assumption) (by omega) (by omega) | exact nb_ix (by omega) rfl (by omega) (by omega) | exact nb_ok (by omega) rfl | decide)) only [kX5_passHour, et, hs, nb_add, nb_sub, nb_mul, Int.toNat_natCast, mm_kr_s, mm_kv_s, if_pos, if_neg, sq_tn, Int.toNat_zero, Int.reduceToNat, Int.reduceNeg, Nat.reduceAdd, Int.reduceAdd, Int.reduceEq, Int.reduceLT, Int.reduceLE, Int.zero_add, nb_ui_s, nb_ui_k, nb_ui_a, sp_min, sp_max, sp_bits]
  have hJc : sq_cf [a, a + 1, a + 2, a + 3] I J := ⟨fun b hb _ => h2 b (by simp at hb ⊢; omega), fun b hb => by rw [h2 b (by simp at hb ⊢; omega)]⟩
  have hge : ∀ b, b ∈ [a, a + 1, a + 2, a + 3] → 36 ≤ b := by
    intro b hb
    simp at hb
    omega
  refine sq_loop (fun k (K : mm_I) => mm_E (d + 4) 47 71 [.inr (.inr (some a)), .inr (.inr (some t)), .inr (.inr lw), .inl ((sv_am N s : Int)), .inl (sv_lost N s), .inl ((k : Nat)), x4] [] [] n K L P) (fun k K => K (a + 1) = J (a + 1) ∧ K (a + 2) = J (a + 2) ∧ K a = J a ∧ (∀ j, j < 8 → K (a + 3) j = if j < k then sv_s1 ev D B N s j else N (16 + j)) ∧ sq_cf [a, a + 1, a + 2, a + 3] I K) s (s0 := J) ⟨rfl, rfl, rfl, fun j hj => ?_, hJc⟩ ?_ ?_
  · rw [if_neg (by omega), h2 (a + 3) (by simp), n3 j hj]
  · intro k K hk ⟨k1, k2, k3, k4, k5⟩ ih
    have et : K t = I t := sq_cf_ge k5 (by simp; omega) (by omega)
    have w3 : K (a + 3) k = N (16 + k) := by rw [k4 k (by omega), if_neg (by omega)]
    rw [hX5_passHour_71]
    have hup : ∀ (M : mm_I) z, (∀ j, M (a + 3) j = K (a + 3) j) → z = sv_s1 ev D B N s k → ∀ j, j < 8 → mm_ui M (a + 3) k z (a + 3) j = if j < k + 1 then sv_s1 ev D B N s j else N (16 + j) := by
      intro M z hM hz j hj
      by_cases hjk : j = k
      · subst hjk
        rw [nb_ui_s, if_pos (by omega), hz]
      · rw [nb_ui_k hjk, hM, k4 j hj]
        by_cases c : j < k
        · rw [if_pos c, if_pos (by omega)]
        · rw [if_neg c, if_neg (by omega)]
    by_cases hz : 0 < N (16 + k)
    · simp (disch := (first | assumption | omega | exact nb_ix (by omega) (by assumption) (by omega) (by omega) | exact nb_ix (by omega) rfl (by omega) (by omega) | exact nb_ok (by omega) rfl | decide)) only [kX5_passHour, a5, a6, a7, et, hs, w3, nb_add, nb_sub, nb_mul, Int.toNat_natCast, mm_kr_s, mm_kv_s, if_pos, if_neg, sq_tn, Int.toNat_zero, Int.reduceToNat, Int.reduceNeg, Nat.reduceAdd, Int.reduceAdd, Int.reduceEq, Int.reduceLT, Int.reduceLE, Int.zero_add, nb_ui_s, nb_ui_k, nb_ui_a, sp_min, sp_max, sp_bits]
      refine sq_kr (sq_cgrow (d := d + 1) (N := N) (by omega) ha hA2 hTP2 (sq_CT_keep hT2 k5 hge) (sq_CH_keep hH k5 hge) hok hk w3 ?_ ?_ ?_ ?_ rfl hz) (fun K2 hK2 => ?_)
      · rw [k2, h2 (a + 2) (by simp), n2 k (by omega)]
      · rw [k1, h1 k (by omega)]
        unfold sw_take
        rw [if_pos hk]
      · rw [k3, h2 a (by simp), nf3]
      · rw [k3, h2 a (by simp), nf8]
      have eK : ∀ b, 36 ≤ b → K2 b = K b := fun b hb => sq_cf_ge hK2 (by simp) (by omega)
      simp (disch := (first | assumption | omega | exact nb_ix (by omega) (by assumption) (by omega) (by omega) | exact nb_ix (by omega) rfl (by omega) (by omega) | exact nb_ok (by omega) rfl | decide)) only [kX5_passHour, nb_add, nb_sub, nb_mul, Int.toNat_natCast, mm_kr_s, mm_kv_s, if_pos, if_neg, sq_tn, Int.toNat_zero, Int.reduceToNat, Int.reduceNeg, Nat.reduceAdd, Int.reduceAdd, Int.reduceEq, Int.reduceLT, Int.reduceLE, Int.zero_add, nb_ui_s, nb_ui_k, nb_ui_a, sp_min, sp_max, sp_bits]
      refine ih _ ⟨?_, ?_, ?_, hup _ _ (fun j => by rw [eK _ (by omega)]) rfl, ?_⟩
      · rw [nb_ui_r (by omega), eK _ (by omega), k1]
      · rw [nb_ui_r (by omega), eK _ (by omega), k2]
      · rw [nb_ui_r (by omega), eK _ (by omega), k3]
      · exact sq_cf_up (sq_cf_trans k5 hK2 (by simp) (by simp)) (by simp) (by omega)
    · have hz0 := (hok.1 k (by omega)).2.2.1
      simp (disch := (first | assumption | omega | exact nb_ix (by omega) (by assumption) (by omega) (by omega) | exact nb_ix (by omega) rfl (by omega) (by omega) | exact nb_ok (by omega) rfl | decide)) only [kX5_passHour, a5, a6, a7, et, hs, w3, nb_add, nb_sub, nb_mul, Int.toNat_natCast, mm_kr_s, mm_kv_s, if_pos, if_neg, sq_tn, Int.toNat_zero, Int.reduceToNat, Int.reduceNeg, Nat.reduceAdd, Int.reduceAdd, Int.reduceEq, Int.reduceLT, Int.reduceLE, Int.zero_add, nb_ui_s, nb_ui_k, nb_ui_a, sp_min, sp_max, sp_bits]
      refine ih _ ⟨k1, k2, k3, fun j hj => ?_, k5⟩
      rw [k4 j hj]
      by_cases hjk : j = k
      · subst hjk
        rw [if_neg (by omega), if_pos (by omega)]
        unfold sv_s1
        rw [if_neg hz]
        omega
      · by_cases c : j < k
        · rw [if_pos c, if_pos (by omega)]
        · rw [if_neg c, if_neg (by omega)]
  intro K ⟨k1, k2, k3, k4, k5⟩
  have et2 : K t = I t := sq_cf_ge k5 (by simp; omega) (by omega)
  rw [hX5_passHour_71]
  simp (disch := (first | assumption | omega | exact nb_ix (by omega) (by assumption) (by omega) (by omega) | exact nb_ix (by omega) rfl (by omega) (by omega) | exact nb_ok (by omega) rfl | decide)) only [kX5_passHour, et2, hs, nb_add, nb_sub, nb_mul, Int.toNat_natCast, mm_kr_s, mm_kv_s, if_pos, if_neg, sq_tn, Int.toNat_zero, Int.reduceToNat, Int.reduceNeg, Nat.reduceAdd, Int.reduceAdd, Int.reduceEq, Int.reduceLT, Int.reduceLE, Int.zero_add, nb_ui_s, nb_ui_k, nb_ui_a, sp_min, sp_max, sp_bits]
  have hgN : sq_cN K a (sw_grow ev D B s N) := by
    rw [sq_cN_iff]
    have hlo : ∀ j, (j < 16 ∨ 24 ≤ j) → sw_grow ev D B s N j = sw_take s N j := by
      intro j hj
      unfold sw_grow
      rw [if_neg (by omega)]
    refine ⟨fun p hp => ?_, fun p hp => ?_, fun p hp => ?_, ?_⟩
    · rw [k1, h1 p hp, hlo p (by omega)]
    · rw [k2, h2 (a + 2) (by simp), n2 p hp, hlo _ (by omega), sw_take_ge (by omega)]
    · rw [k4 p hp]
      unfold sw_grow
      by_cases c : p < s
      · rw [if_pos c, if_pos (by omega), Nat.add_sub_cancel_left]
      · rw [if_neg c, if_neg (by omega), sw_take_ge (by omega)]
    · rw [k3, h2 a (by simp)]
      repeat rw [hlo _ (by omega), sw_take_ge (by omega)]
      exact ⟨nf3, nf4, nf5, nf6, nf7, nf8⟩
  refine sq_kv (sq_cspread (d := d + 1) ha hA2 hTP2 (sq_CT_keep hT2 k5 hge) hgN (sw_grow_ok hok hs8)) (fun J3 hJ3 => ?_)
  obtain ⟨m1, m2⟩ := hJ3
  have eKa : J3 a = I a := by rw [m2 a (by simp), k3, h2 a (by simp)]
  have eKt : J3 t = I t := by rw [m2 t (by simp; omega), et2]
  simp (disch := (first | assumption | omega | exact nb_ix (by omega) (by assumption) (by omega) (by omega) | exact nb_ix (by omega) rfl (by omega) (by omega) | exact nb_ok (by omega) rfl | decide)) only [kX5_passHour, eKa, eKt, nf7, nf8, hg, nb_add, nb_sub, nb_mul, Int.toNat_natCast, mm_kr_s, mm_kv_s, if_pos, if_neg, sq_tn, Int.toNat_zero, Int.reduceToNat, Int.reduceNeg, Nat.reduceAdd, Int.reduceAdd, Int.reduceEq, Int.reduceLT, Int.reduceLE, Int.zero_add, nb_ui_s, nb_ui_k, nb_ui_a, sp_min, sp_max, sp_bits]
  refine sq_ret ⟨fun j hj => ?_, ?_⟩
  · have hj2 := m1 j hj
    revert hj2
    unfold sw_live
    generalize sw_spr B s (sw_grow ev D B s N) = M
    intro hj2
    rw [← hj2]
    unfold sq_rd mm_ui
    grind
  · refine sq_cf_up (sq_cf_up (sq_cf_up (sq_cf_trans k5 (l2 := [a + 2, a + 3]) ⟨fun b hb _ => m2 b hb, fun b hb => by rw [m2 b (by simp at hb ⊢; omega)]⟩ ?_ ?_) ?_ ?_) ?_ ?_) ?_ ?_
    all_goals first | omega | simp
