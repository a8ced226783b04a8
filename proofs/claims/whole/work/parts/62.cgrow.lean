/-! the class's growth of a trouble -/
set_option maxHeartbeats 2000000 in
theorem sq_cgrow {n c s p a t : Nat} {I L : mm_I} {P : mm_P} {lw : Option Nat} {ev : sv_E} {D : Nat → Int} {B : Nat → Nat} {g v : Int} {N : Nat → Int} {am d : Nat} (hd : c ≤ d) (ha : 36 ≤ a) (hA : sp_N n P a) (hTP : sp_T n P t) (hT : sq_CT I t s D B g v) (hH : sq_CH n c P I lw ev) (hok : sv_ok s N) (hp : p < s)
    (h16 : I (a + 3) p = N (16 + p)) (h8 : I (a + 2) p = N (8 + p)) (h0w : I (a + 1) p = N p - sv_tk N p) (h24 : I a 3 = N 24) (h29 : I a 8 = N 29) (hame : am = sv_am N s) (hz : 0 < N (16 + p)) :
    sq_X (some (.inl (sv_s1 ev D B N s p))) n L P (sq_cf [] I) (mm_rn (d + 3) 48 [.inr (.inr (some a)), .inr (.inr (some t)), .inr (.inr lw), .inl ((p : Int)), .inl ((am : Int))] n I L P) := by
  have oka := hA.ok
  have okt := hTP.ok
  have hTP2 := hTP
  obtain ⟨a0, a1, a2, a3, a4, a5, a6, a7⟩ := hA
  obtain ⟨t0, t1, t2, t3, t4, t5, t6, t7, t8, t9, t10, t11⟩ := hTP
  obtain ⟨ht13, hs8, hs, hD, hDr, hB, hV, hg, hv⟩ := hT
  obtain ⟨hok1, ⟨hok2, hok3⟩, _, _, _, _, hok4⟩ := hok
  obtain ⟨q, hq⟩ : ∃ q : Nat, N 24 = (q : Int) := ⟨(N 24).toNat, by omega⟩
  have hqs : q < s := by omega
  obtain ⟨⟨w1, w2⟩, ⟨k1, k2⟩, ⟨z1, z2⟩, _⟩ := hok1 p (by omega)
  have tk : 0 ≤ sv_tk N p ∧ sv_tk N p ≤ N p := by unfold sv_tk; omega
  have hDp := hD q p hqs hp
  have hDr2 := hDr (8 * q + p)
  obtain ⟨b1, b2⟩ := hB p hp
  have hand : B p &&& am < 256 := Nat.lt_of_le_of_lt Nat.and_le_left b2
  have e1 := sp_way (d := d) (I := I) (L := L) hTP2 hs hs8 hqs hp
  rw [hDp] at e1
  obtain ⟨m1, m2, m3⟩ := sq_w24 hok4
  have pc8 := sp_pc_le (B p &&& am)
  have hqn : (N 24).toNat = q := by omega
  have es1 : sv_s1 ev D B N s p = max 0 (min 9 (N (16 + p) + max (-9) (min 9 (sv_gr ev D B N s p)))) := by
    unfold sv_s1
    rw [if_pos hz]
  rw [es1]
  rw [eX5_grownSize]
  cases lw with
  | none =>
    cases ev with
    | some e => exact absurd hH (by simp [sq_CH])
    | none =>
      simp (disch := (first | assumption | omega | exact nb_ix (by omega) (by assumption) (by omega) (by omega) | exact nb_ix (by omega) rfl (by omega) (by omega) | exact nb_ok (by omega) rfl | decide)) only [kX5_grownSize, a5, a6, a7, t9, h24, hq, e1, h8, h0w, h16, nb_add, nb_sub, nb_mul, Int.toNat_natCast, mm_kr_s, mm_kv_s, if_pos, if_neg, sq_tn, Int.toNat_zero, Int.reduceToNat, Int.reduceNeg, Nat.reduceAdd, Int.reduceAdd, Int.reduceEq, Int.reduceLT, Int.reduceLE, Int.zero_add, nb_ui_s, nb_ui_k, nb_ui_a, sp_min, sp_max, sp_bits]
      unfold sv_gr
      simp only [hqn]
      repeat' split
      all_goals refine sq_ret2 ?_ (sq_cf_refl _ _)
      all_goals grind
  | some l =>
    cases ev with
    | none => exact absurd hH (by simp [sq_CH])
    | some e =>
      obtain ⟨hl, okl, hH3⟩ := hH
      have hgr : e (N (16 + p)) (N (8 + p)) (N p - sv_tk N p) (D (8 * q + p)) (sp_pc (B p &&& am)) (Int.tmod (N 29) 24) = sv_gr (some e) D B N s p := by
        unfold sv_gr
        simp only [hqn, hame]
      simp (disch := (first | assumption | omega | exact nb_ix (by omega) (by assumption) (by omega) (by omega) | exact nb_ix (by omega) rfl (by omega) (by omega) | exact nb_ok (by omega) rfl | decide)) only [kX5_grownSize, a5, a6, a7, t9, h24, hq, e1, h8, h0w, h16, b1, nb_and, h29, m1, nb_add, nb_sub, nb_mul, Int.toNat_natCast, mm_kr_s, mm_kv_s, if_pos, if_neg, sq_tn, Int.toNat_zero, Int.reduceToNat, Int.reduceNeg, Nat.reduceAdd, Int.reduceAdd, Int.reduceEq, Int.reduceLT, Int.reduceLE, Int.zero_add, nb_ui_s, nb_ui_k, nb_ui_a, sp_min, sp_max, sp_bits]
      refine sq_kr (hH3 (d + 2) I L (by omega) rfl rfl _ _ _ _ _ _ (by omega) (by omega) (by omega) (by omega) (by omega) (by omega)) (fun I' hI' => ?_)
      have hl2 : l = 20 ∨ l = 24 ∨ l = 28 ∨ l = 32 := by simp at hl; omega
      have e3 : I' (a + 3) = I (a + 3) := hI'.1 (a + 3) (by simp; omega)
      simp (disch := (first | assumption | omega | exact nb_ix (by omega) (by assumption) (by omega) (by omega) | exact nb_ix (by omega) rfl (by omega) (by omega) | exact nb_ok (by omega) rfl | decide)) only [kX5_grownSize, a7, e3, h16, hgr, nb_add, nb_sub, nb_mul, Int.toNat_natCast, mm_kr_s, mm_kv_s, if_pos, if_neg, sq_tn, Int.toNat_zero, Int.reduceToNat, Int.reduceNeg, Nat.reduceAdd, Int.reduceAdd, Int.reduceEq, Int.reduceLT, Int.reduceLE, Int.zero_add, nb_ui_s, nb_ui_k, nb_ui_a, sp_min, sp_max, sp_bits]
      refine sq_ret ⟨fun b _ hb => hI'.1 b ?_, fun b hb => ?_⟩
      · unfold sq_LF at hb
        simp at hb ⊢
        omega
      · by_cases hbl : b = l
        · rw [hbl]; exact hI'.2
        · rw [hI'.1 b (by simp at hb ⊢; omega)]
/-! the class's spread of fires -/
set_option maxHeartbeats 2000000 in
theorem sq_cspread {n s a t d : Nat} {I L : mm_I} {P : mm_P} {D : Nat → Int} {B : Nat → Nat} {g v : Int} {N : Nat → Int} (ha : 36 ≤ a) (hA : sp_N n P a) (hTP : sp_T n P t) (hT : sq_CT I t s D B g v) (hN : sq_cN I a N) (hok : sv_ok s N) :
    sq_X none n L P (fun I' => sq_cN I' a (sw_spr B s N) ∧ sq_fr [a + 2, a + 3] I I') (mm_rn (d + 3) 49 [.inr (.inr (some a)), .inr (.inr (some t))] n I L P) := by
  have oka := hA.ok
  have okt := hTP.ok
  have hA2 := hA
  obtain ⟨a0, a1, a2, a3, a4, a5, a6, a7⟩ := hA
  obtain ⟨t0, t1, t2, t3, t4, t5, t6, t7, t8, t9, t10, t11⟩ := hTP
  obtain ⟨ht13, hs8, hs, hD, hDr, hB, hV, hg, hv⟩ := hT
  rw [sq_cN_iff] at hN
  obtain ⟨n1, n2, n3, nf⟩ := hN
  rw [eX5_spreadFires]
  simp (disch := (first | assumption | omega | exact nb_ix (by omega) (by assumption) (by omega) (by omega) | exact nb_ix (by omega) rfl (by omega) (by omega) | exact nb_ok (by omega) rfl | decide)) only [kX5_spreadFires, nb_add, nb_sub, nb_mul, Int.toNat_natCast, mm_kr_s, mm_kv_s, if_pos, if_neg, sq_tn, Int.toNat_zero, Int.reduceToNat, Int.reduceNeg, Nat.reduceAdd, Int.reduceAdd, Int.reduceEq, Int.reduceLT, Int.reduceLE, Int.zero_add, nb_ui_s, nb_ui_k, nb_ui_a, sp_min, sp_max, sp_bits]
  have flt : ∀ k, k ≤ s → sv_or (fun p => if N (8 + p) = 0 ∧ 5 ≤ N (16 + p) then B p else 0) k < 256 := by
    intro k hk
    refine sv_or_lt (M := 8) k (fun j hj => ?_)
    split
    · exact (hB j (by omega)).2
    · decide
  refine sq_for (fun k => mm_E (d + 2) 49 4 [.inr (.inr (some a)), .inr (.inr (some t)), .inl ((sv_or (fun p => if N (8 + p) = 0 ∧ 5 ≤ N (16 + p) then B p else 0) k : Nat)), .inl ((k : Nat))] [] [] n I L P) s (fun k hk => ?_) ?_
  · have hlt := flt k (by omega)
    obtain ⟨b1, b2⟩ := hB k (by omega)
    have e8 := n2 k (by omega)
    have e16 := n3 k (by omega)
    have efr : sv_or (fun p => if N (8 + p) = 0 ∧ 5 ≤ N (16 + p) then B p else 0) (k + 1) = sv_or (fun p => if N (8 + p) = 0 ∧ 5 ≤ N (16 + p) then B p else 0) k ||| (if N (8 + k) = 0 ∧ 5 ≤ N (16 + k) then B k else 0) := rfl
    rw [hX5_spreadFires_4]
    rw [efr]
    clear efr flt
    generalize sv_or (fun p => if N (8 + p) = 0 ∧ 5 ≤ N (16 + p) then B p else 0) k = x at hlt ⊢
    by_cases c1 : N (8 + k) = 0
    · by_cases c2 : 5 ≤ N (16 + k)
      · simp (disch := (first | assumption | omega | exact nb_ix (by omega) (by assumption) (by omega) (by omega) | exact nb_ix (by omega) rfl (by omega) (by omega) | exact nb_ok (by omega) rfl | decide)) only [kX5_spreadFires, a5, a6, a7, t9, hs, e8, e16, b1, nb_or, nb_add, nb_sub, nb_mul, Int.toNat_natCast, mm_kr_s, mm_kv_s, if_pos, if_neg, sq_tn, Int.toNat_zero, Int.reduceToNat, Int.reduceNeg, Nat.reduceAdd, Int.reduceAdd, Int.reduceEq, Int.reduceLT, Int.reduceLE, Int.zero_add, nb_ui_s, nb_ui_k, nb_ui_a, sp_min, sp_max, sp_bits]
        rfl
      · simp (disch := (first | assumption | omega | exact nb_ix (by omega) (by assumption) (by omega) (by omega) | exact nb_ix (by omega) rfl (by omega) (by omega) | exact nb_ok (by omega) rfl | decide)) only [kX5_spreadFires, a5, a6, a7, t9, hs, e8, e16, b1, Nat.or_zero, nb_add, nb_sub, nb_mul, Int.toNat_natCast, mm_kr_s, mm_kv_s, if_pos, if_neg, sq_tn, Int.toNat_zero, Int.reduceToNat, Int.reduceNeg, Nat.reduceAdd, Int.reduceAdd, Int.reduceEq, Int.reduceLT, Int.reduceLE, Int.zero_add, nb_ui_s, nb_ui_k, nb_ui_a, sp_min, sp_max, sp_bits]
        rfl
    · simp (disch := (first | assumption | omega | exact nb_ix (by omega) (by assumption) (by omega) (by omega) | exact nb_ix (by omega) rfl (by omega) (by omega) | exact nb_ok (by omega) rfl | decide)) only [kX5_spreadFires, a5, a6, a7, t9, hs, e8, e16, b1, Nat.or_zero, nb_add, nb_sub, nb_mul, Int.toNat_natCast, mm_kr_s, mm_kv_s, if_pos, if_neg, sq_tn, Int.toNat_zero, Int.reduceToNat, Int.reduceNeg, Nat.reduceAdd, Int.reduceAdd, Int.reduceEq, Int.reduceLT, Int.reduceLE, Int.zero_add, nb_ui_s, nb_ui_k, nb_ui_a, sp_min, sp_max, sp_bits]
      rfl
  · have hlt := flt s (Nat.le_refl s)
    have efr : sv_or (fun p => if N (8 + p) = 0 ∧ 5 ≤ N (16 + p) then B p else 0) s = sw_fr B s N := rfl
    rw [efr] at hlt ⊢
    rw [hX5_spreadFires_4]
    simp (disch := (first | assumption | omega | exact nb_ix (by omega) (by assumption) (by omega) (by omega) | exact nb_ix (by omega) rfl (by omega) (by omega) | exact nb_ok (by omega) rfl | decide)) only [kX5_spreadFires, hs, nb_add, nb_sub, nb_mul, Int.toNat_natCast, mm_kr_s, mm_kv_s, if_pos, if_neg, sq_tn, Int.toNat_zero, Int.reduceToNat, Int.reduceNeg, Nat.reduceAdd, Int.reduceAdd, Int.reduceEq, Int.reduceLT, Int.reduceLE, Int.zero_add, nb_ui_s, nb_ui_k, nb_ui_a, sp_min, sp_max, sp_bits]
    refine sq_loop (fun k (J : mm_I) => mm_E (d + 2) 49 48 [.inr (.inr (some a)), .inr (.inr (some t)), .inl ((sw_fr B s N : Int)), .inl ((k : Nat))] [] [] n J L P) (fun k J => sq_cN J a (sw_spk (sw_new B s N) k N) ∧ sq_fr [a + 2, a + 3] I J) s (s0 := I) ⟨?_, sq_fr_refl _ _⟩ ?_ ?_
    · have : ∀ j, sw_spk (sw_new B s N) 0 N j = N j := by
        intro j
        unfold sw_spk
        rw [if_neg (by omega), if_neg (by omega)]
      rw [sq_cN_iff]
      simp only [this]
      exact ⟨n1, n2, n3, nf⟩
    · intro k J hk ⟨h1, h2⟩ ih
      have hJ := sq_cN_iff.1 h1
      have et : J t = I t := h2 t (by simp; omega)
      have esk : ∀ j, (j < 8 ∨ j = 16 + k) → sw_spk (sw_new B s N) k N j = N j := by
        intro j hj
        unfold sw_spk
        rw [if_neg (by omega), if_neg (by omega)]
      have w1 : J (a + 1) k = N k := by rw [hJ.1 k (by omega), esk k (by omega)]
      have w3 : J (a + 3) k = N (16 + k) := by rw [hJ.2.2.1 k (by omega), esk _ (by omega)]
      have hz := (hok.1 k (by omega)).2.2.1
      have hst := sp_start (d := d) (n := n) (a := a) (p := k) (I := J) (L := L) (P := P) hA2 (by omega) 0 1
      rw [w3] at hst
      rw [hX5_spreadFires_48]
      by_cases hnew : sw_new B s N k = true
      · have hn2 := hnew
        unfold sw_new at hn2
        simp at hn2
        have hb := hn2.1
        have hz2 := hn2.2.1
        have hw := hn2.2.2
        have hsb := nb_tst0 (sw_fr B s N) hlt k (by omega)
        rw [hb] at hsb
        simp (disch := (first | assumption | omega | exact nb_ix (by omega) (by assumption) (by omega) (by omega) | exact nb_ix (by omega) rfl (by omega) (by omega) | exact nb_ok (by omega) rfl | decide)) only [kX5_spreadFires, a5, a6, a7, et, hs, w1, hsb, hst, nb_add, nb_sub, nb_mul, Int.toNat_natCast, mm_kr_s, mm_kv_s, if_pos, if_neg, sq_tn, Int.toNat_zero, Int.reduceToNat, Int.reduceNeg, Nat.reduceAdd, Int.reduceAdd, Int.reduceEq, Int.reduceLT, Int.reduceLE, Int.zero_add, nb_ui_s, nb_ui_k, nb_ui_a, sp_min, sp_max, sp_bits]
        refine ih _ ⟨?_, sq_fr_up (sq_fr_up h2 (by simp)) (by simp)⟩
        intro j hj
        rw [sw_spk_up (by omega), ← h1 j hj, hnew]
        unfold sq_rd mm_ui
        grind
      · have hkeep : sq_cN J a (sw_spk (sw_new B s N) (k + 1) N) := by
          intro j hj
          rw [sw_spk_up (by omega), ← h1 j hj]
          simp [hnew]
        have hsb := nb_tst0 (sw_fr B s N) hlt k (by omega)
        by_cases hb : Nat.testBit (sw_fr B s N) k = true
        · by_cases hw : N k ≤ 0
          · simp (disch := (first | assumption | omega | exact nb_ix (by omega) (by assumption) (by omega) (by omega) | exact nb_ix (by omega) rfl (by omega) (by omega) | exact nb_ok (by omega) rfl | decide)) only [kX5_spreadFires, a5, a6, a7, et, hs, w1, hsb, hb, nb_add, nb_sub, nb_mul, Int.toNat_natCast, mm_kr_s, mm_kv_s, if_pos, if_neg, sq_tn, Int.toNat_zero, Int.reduceToNat, Int.reduceNeg, Nat.reduceAdd, Int.reduceAdd, Int.reduceEq, Int.reduceLT, Int.reduceLE, Int.zero_add, nb_ui_s, nb_ui_k, nb_ui_a, sp_min, sp_max, sp_bits]
            exact ih _ ⟨hkeep, h2⟩
          · have hz2 : ¬ N (16 + k) = 0 := by
              intro hz2
              apply hnew
              unfold sw_new
              simp [hb, hz2]
              omega
            simp (disch := (first | assumption | omega | exact nb_ix (by omega) (by assumption) (by omega) (by omega) | exact nb_ix (by omega) rfl (by omega) (by omega) | exact nb_ok (by omega) rfl | decide)) only [kX5_spreadFires, a5, a6, a7, et, hs, w1, hsb, hb, hst, nb_add, nb_sub, nb_mul, Int.toNat_natCast, mm_kr_s, mm_kv_s, if_pos, if_neg, sq_tn, Int.toNat_zero, Int.reduceToNat, Int.reduceNeg, Nat.reduceAdd, Int.reduceAdd, Int.reduceEq, Int.reduceLT, Int.reduceLE, Int.zero_add, nb_ui_s, nb_ui_k, nb_ui_a, sp_min, sp_max, sp_bits]
            exact ih _ ⟨hkeep, h2⟩
        · simp (disch := (first | assumption | omega | exact nb_ix (by omega) (by assumption) (by omega) (by omega) | exact nb_ix (by omega) rfl (by omega) (by omega) | exact nb_ok (by omega) rfl | decide)) only [kX5_spreadFires, a5, a6, a7, et, hs, w1, hsb, hb, nb_add, nb_sub, nb_mul, Int.toNat_natCast, mm_kr_s, mm_kv_s, if_pos, if_neg, sq_tn, Int.toNat_zero, Int.reduceToNat, Int.reduceNeg, Nat.reduceAdd, Int.reduceAdd, Int.reduceEq, Int.reduceLT, Int.reduceLE, Int.zero_add, nb_ui_s, nb_ui_k, nb_ui_a, sp_min, sp_max, sp_bits]
          exact ih _ ⟨hkeep, h2⟩
    · intro J ⟨h1, h2⟩
      have et : J t = I t := h2 t (by simp; omega)
      rw [hX5_spreadFires_48]
      simp (disch := (first | assumption | omega | exact nb_ix (by omega) (by assumption) (by omega) (by omega) | exact nb_ix (by omega) rfl (by omega) (by omega) | exact nb_ok (by omega) rfl | decide)) only [kX5_spreadFires, et, hs, nb_add, nb_sub, nb_mul, Int.toNat_natCast, mm_kr_s, mm_kv_s, if_pos, if_neg, sq_tn, Int.toNat_zero, Int.reduceToNat, Int.reduceNeg, Nat.reduceAdd, Int.reduceAdd, Int.reduceEq, Int.reduceLT, Int.reduceLE, Int.zero_add, nb_ui_s, nb_ui_k, nb_ui_a, sp_min, sp_max, sp_bits]
      exact sq_ret ⟨h1, h2⟩
