/-! questions on what would come: answers of both halves -/
def sa_lost (f : (Nat → Int) → Nat → Int) (s : Nat) (N : Nat → Int) (x : Int) : Int := if 0 < s ∧ 0 ≤ x ∧ x ≤ 60 then sw_sm f s x.toNat N else -1
def sa_left (f : (Nat → Int) → Nat → Int) (s : Nat) (N : Nat → Int) (p x : Int) : Int := if (0 ≤ p ∧ p < s) ∧ 0 ≤ x ∧ x ≤ 60 then sw_it f x.toNat N p.toNat else -1
def sa_saved (f : (Nat → Int) → Nat → Int) (D : Nat → Int) (v : Int) (s : Nat) (N : Nat → Int) (x : Int) : Int := if 0 < s ∧ 1 ≤ x ∧ x ≤ 60 then sw_sm f s x.toNat N - sw_sm f s x.toNat (sw_hush D v s N) else -1000000
def sa_cryAt (A : Nat → Nat → Int) (s : Nat) (x w : Int) : Int := if 0 < s ∧ (1 ≤ x ∧ x ≤ 24) ∧ 0 ≤ w ∧ w ≤ 1 then (if w = 0 then ((sw_bst (A x.toNat) x.toNat).1 : Int) else (sw_bst (A x.toNat) x.toNat).2) else -1
def sa_quiet (f : (Nat → Int) → Nat → Int) (s : Nat) (N : Nat → Int) : Int := if 0 < s then sw_first (fun i => decide (sv_am (sw_it f i N) s = 0)) 100 0 else -1
section OA
variable {n c t u s d : Nat} {I L : mm_I} {P : mm_P} {D : Nat → Int} {B : Nat → Nat} {g v : Int} {lw : Option Nat} {ev : sv_E} {N : Nat → Int}
theorem oc_lost (hd : c ≤ d) (hC : sq_CC n c P I t u s D B g v lw ev N) (x : Int) : sq_X (some (.inl (sa_lost (sw_live ev D B g s) s N x))) n L P (sq_cf sq_SC I) (mm_rn (d + 10) 116 [.inr (.inr (some 0)), .inl x] n I L P) := by
  obtain ⟨hP, hW, hLW, hN, hok, hh⟩ := hC
  have ok0 := sq_ok0 hP
  have hs : I t 0 = (s : Int) := hW.2.1.2.2.1
  have hC := hP.2.2.2.2.2.2.2.1
  have hPt := hP.2.2.2.2.2.2.1
  have hn := hP.1
  rw [eX11_lost]
  by_cases h : 0 < s ∧ 0 ≤ x ∧ x ≤ 60
  · obtain ⟨k, rfl⟩ : ∃ k : Nat, x = (k : Int) := ⟨x.toNat, by omega⟩
    unfold sa_lost
    rw [if_pos h, Int.toNat_natCast]
    have h0 : ¬ s = 0 := by omega
    simp (disch := (first | assumption | omega | exact nb_ix (by omega) (by assumption) (by omega) (by omega) | exact nb_ix (by omega) rfl (by omega) (by omega) | exact nb_ok (by omega) rfl | decide)) only [kX11_lost, sq_noTown hP hs, hC, hPt, sq_held hP hLW, nb_add, nb_sub, nb_mul, Int.toNat_natCast, mm_kr_s, mm_kv_s, if_pos, if_neg, sq_tn, Int.toNat_zero, Int.reduceToNat, Int.reduceNeg, Nat.reduceAdd, Int.reduceAdd, Int.reduceEq, Int.reduceLT, Int.reduceLE, Int.zero_add, nb_ui_s, nb_ui_k, nb_ui_a, sp_min, sp_max, sp_bits]
    refine sq_kr (sq_cwithin (d := d + 2) (by omega) hP hW (hP.2.2.2.2.2.1 40 (by omega)) (by omega) hN hok (by omega) (by omega)) (fun J hJ => ?_)
    simp (disch := (first | assumption | omega | exact nb_ix (by omega) (by assumption) (by omega) (by omega) | exact nb_ix (by omega) rfl (by omega) (by omega) | exact nb_ok (by omega) rfl | decide)) only [kX11_lost, nb_add, nb_sub, nb_mul, Int.toNat_natCast, mm_kr_s, mm_kv_s, if_pos, if_neg, sq_tn, Int.toNat_zero, Int.reduceToNat, Int.reduceNeg, Nat.reduceAdd, Int.reduceAdd, Int.reduceEq, Int.reduceLT, Int.reduceLE, Int.zero_add, nb_ui_s, nb_ui_k, nb_ui_a, sp_min, sp_max, sp_bits]
    exact sq_ret (sq_cf_sub hJ.2 (by decide))
  · have : sa_lost (sw_live ev D B g s) s N x = -1 := if_neg h
    rw [this]
    by_cases h0 : s = 0
    · simp (disch := (first | assumption | omega | exact nb_ix (by omega) (by assumption) (by omega) (by omega) | exact nb_ix (by omega) rfl (by omega) (by omega) | exact nb_ok (by omega) rfl | decide)) only [kX11_lost, sq_noTown hP hs, nb_add, nb_sub, nb_mul, Int.toNat_natCast, mm_kr_s, mm_kv_s, if_pos, if_neg, sq_tn, Int.toNat_zero, Int.reduceToNat, Int.reduceNeg, Nat.reduceAdd, Int.reduceAdd, Int.reduceEq, Int.reduceLT, Int.reduceLE, Int.zero_add, nb_ui_s, nb_ui_k, nb_ui_a, sp_min, sp_max, sp_bits]
      exact sq_ret (sq_cf_refl _ _)
    · by_cases h1 : x < 0
      · simp (disch := (first | assumption | omega | exact nb_ix (by omega) (by assumption) (by omega) (by omega) | exact nb_ix (by omega) rfl (by omega) (by omega) | exact nb_ok (by omega) rfl | decide)) only [kX11_lost, sq_noTown hP hs, nb_add, nb_sub, nb_mul, Int.toNat_natCast, mm_kr_s, mm_kv_s, if_pos, if_neg, sq_tn, Int.toNat_zero, Int.reduceToNat, Int.reduceNeg, Nat.reduceAdd, Int.reduceAdd, Int.reduceEq, Int.reduceLT, Int.reduceLE, Int.zero_add, nb_ui_s, nb_ui_k, nb_ui_a, sp_min, sp_max, sp_bits]
        exact sq_ret (sq_cf_refl _ _)
      · simp (disch := (first | assumption | omega | exact nb_ix (by omega) (by assumption) (by omega) (by omega) | exact nb_ix (by omega) rfl (by omega) (by omega) | exact nb_ok (by omega) rfl | decide)) only [kX11_lost, sq_noTown hP hs, nb_add, nb_sub, nb_mul, Int.toNat_natCast, mm_kr_s, mm_kv_s, if_pos, if_neg, sq_tn, Int.toNat_zero, Int.reduceToNat, Int.reduceNeg, Nat.reduceAdd, Int.reduceAdd, Int.reduceEq, Int.reduceLT, Int.reduceLE, Int.zero_add, nb_ui_s, nb_ui_k, nb_ui_a, sp_min, sp_max, sp_bits]
        exact sq_ret (sq_cf_refl _ _)
theorem om_lost (hd : c ≤ d) (hC : sq_MM n c P I s D B g v ev N) (x : Int) : sq_X (some (.inl (sa_lost (sw_live ev D B g s) s N x))) n L P (fun I' => sq_mN I' N ∧ sq_fr [248, 249, 257, 259, 261] I I') (mm_rn (d + 10) 227 [.inr (.inr (some 239)), .inl x] n I L P) := by
  obtain ⟨hW, hN, hok, hh⟩ := hC
  have ok := hW.1.ok
  have hs : I 239 26 = (s : Int) := hW.2.1.2.1
  rw [eX12_lost]
  by_cases h : 0 < s ∧ 0 ≤ x ∧ x ≤ 60
  · obtain ⟨k, rfl⟩ : ∃ k : Nat, x = (k : Int) := ⟨x.toNat, by omega⟩
    unfold sa_lost
    rw [if_pos h, Int.toNat_natCast]
    have e : sw_A ev D B g v s N k k = sw_sm (sw_live ev D B g s) s k N := by
      unfold sw_A
      rw [Nat.sub_self]
      simp [sw_sm, sp_sum]
    simp (disch := (first | assumption | omega | exact nb_ix (by omega) (by assumption) (by omega) (by omega) | exact nb_ix (by omega) rfl (by omega) (by omega) | exact nb_ok (by omega) rfl | decide)) only [kX12_lost, hs, sp_min2, nb_add, nb_sub, nb_mul, Int.toNat_natCast, mm_kr_s, mm_kv_s, if_pos, if_neg, sq_tn, Int.toNat_zero, Int.reduceToNat, Int.reduceNeg, Nat.reduceAdd, Int.reduceAdd, Int.reduceEq, Int.reduceLT, Int.reduceLE, Int.zero_add, nb_ui_s, nb_ui_k, nb_ui_a, sp_min, sp_max, sp_bits]
    refine sq_kr (sq_mlostBy (d := d + 2) (by omega) hW (by omega) hN hok (by omega) (by omega) (Nat.le_refl k)) (fun J hJ => ?_)
    rw [e]
    simp (disch := (first | assumption | omega | exact nb_ix (by omega) (by assumption) (by omega) (by omega) | exact nb_ix (by omega) rfl (by omega) (by omega) | exact nb_ok (by omega) rfl | decide)) only [kX12_lost, nb_add, nb_sub, nb_mul, Int.toNat_natCast, mm_kr_s, mm_kv_s, if_pos, if_neg, sq_tn, Int.toNat_zero, Int.reduceToNat, Int.reduceNeg, Nat.reduceAdd, Int.reduceAdd, Int.reduceEq, Int.reduceLT, Int.reduceLE, Int.zero_add, nb_ui_s, nb_ui_k, nb_ui_a, sp_min, sp_max, sp_bits]
    exact sq_ret hJ
  · have : sa_lost (sw_live ev D B g s) s N x = -1 := if_neg h
    rw [this]
    by_cases h0 : s = 0
    · simp (disch := (first | assumption | omega | exact nb_ix (by omega) (by assumption) (by omega) (by omega) | exact nb_ix (by omega) rfl (by omega) (by omega) | exact nb_ok (by omega) rfl | decide)) only [kX12_lost, hs, nb_add, nb_sub, nb_mul, Int.toNat_natCast, mm_kr_s, mm_kv_s, if_pos, if_neg, sq_tn, Int.toNat_zero, Int.reduceToNat, Int.reduceNeg, Nat.reduceAdd, Int.reduceAdd, Int.reduceEq, Int.reduceLT, Int.reduceLE, Int.zero_add, nb_ui_s, nb_ui_k, nb_ui_a, sp_min, sp_max, sp_bits]
      exact sq_ret ⟨hN, sq_fr_refl _ _⟩
    · simp (disch := (first | assumption | omega | exact nb_ix (by omega) (by assumption) (by omega) (by omega) | exact nb_ix (by omega) rfl (by omega) (by omega) | exact nb_ok (by omega) rfl | decide)) only [kX12_lost, hs, sp_min2, nb_add, nb_sub, nb_mul, Int.toNat_natCast, mm_kr_s, mm_kv_s, if_pos, if_neg, sq_tn, Int.toNat_zero, Int.reduceToNat, Int.reduceNeg, Nat.reduceAdd, Int.reduceAdd, Int.reduceEq, Int.reduceLT, Int.reduceLE, Int.zero_add, nb_ui_s, nb_ui_k, nb_ui_a, sp_min, sp_max, sp_bits]
      exact sq_ret ⟨hN, sq_fr_refl _ _⟩
theorem oc_left (hd : c ≤ d) (hC : sq_CC n c P I t u s D B g v lw ev N) (p x : Int) : sq_X (some (.inl (sa_left (sw_live ev D B g s) s N p x))) n L P (sq_cf sq_SC I) (mm_rn (d + 10) 117 [.inr (.inr (some 0)), .inl p, .inl x] n I L P) := by
  obtain ⟨hP, hW, hLW, hN, hok, hh⟩ := hC
  have ok0 := sq_ok0 hP
  have hs : I t 0 = (s : Int) := hW.2.1.2.2.1
  have hs8 : s ≤ 8 := hW.2.1.2.1
  have hTP := hW.1
  have okt := hTP.ok
  have hC := hP.2.2.2.2.2.2.2.1
  have hPt := hP.2.2.2.2.2.2.1
  have hn := hP.1
  rw [eX11_left]
  by_cases h : (0 ≤ p ∧ p < s) ∧ 0 ≤ x ∧ x ≤ 60
  · obtain ⟨k, rfl⟩ : ∃ k : Nat, x = (k : Int) := ⟨x.toNat, by omega⟩
    obtain ⟨q, rfl⟩ : ∃ k : Nat, p = (k : Int) := ⟨p.toNat, by omega⟩
    unfold sa_left
    rw [if_pos h, Int.toNat_natCast, Int.toNat_natCast]
    have h1 := h.1
    have hA9 := hP.2.2.2.2.2.1 229 (by omega)
    simp (disch := (first | assumption | omega | exact nb_ix (by omega) (by assumption) (by omega) (by omega) | exact nb_ix (by omega) rfl (by omega) (by omega) | exact nb_ok (by omega) rfl | decide)) only [kX11_left, sp_has hTP, hs, hC, hPt, sq_held hP hLW, nb_add, nb_sub, nb_mul, Int.toNat_natCast, mm_kr_s, mm_kv_s, if_pos, if_neg, sq_tn, Int.toNat_zero, Int.reduceToNat, Int.reduceNeg, Nat.reduceAdd, Int.reduceAdd, Int.reduceEq, Int.reduceLT, Int.reduceLE, Int.zero_add, nb_ui_s, nb_ui_k, nb_ui_a, sp_min, sp_max, sp_bits]
    refine sq_kr (sq_cwithin (d := d + 2) (by omega) hP hW (hP.2.2.2.2.2.1 40 (by omega)) (by omega) hN hok (by omega) (by omega)) (fun J hJ => ?_)
    have e1 : J 230 q = sw_it (sw_live ev D B g s) k N q := (sq_cN_iff.1 hJ.1).1 q (by omega)
    obtain ⟨a0, a1, a2, a3, a4, a5, a6, a7⟩ := hA9
    simp (disch := (first | assumption | omega | exact nb_ix (by omega) (by assumption) (by omega) (by omega) | exact nb_ix (by omega) rfl (by omega) (by omega) | exact nb_ok (by omega) rfl | decide)) only [kX11_left, hC, a5, e1, nb_add, nb_sub, nb_mul, Int.toNat_natCast, mm_kr_s, mm_kv_s, if_pos, if_neg, sq_tn, Int.toNat_zero, Int.reduceToNat, Int.reduceNeg, Nat.reduceAdd, Int.reduceAdd, Int.reduceEq, Int.reduceLT, Int.reduceLE, Int.zero_add, nb_ui_s, nb_ui_k, nb_ui_a, sp_min, sp_max, sp_bits]
    exact sq_ret (sq_cf_sub hJ.2 (by decide))
  · have : sa_left (sw_live ev D B g s) s N p x = -1 := if_neg h
    rw [this]
    by_cases h0 : 0 ≤ p ∧ p < (s : Int)
    · by_cases h1 : x < 0
      · simp (disch := (first | assumption | omega | exact nb_ix (by omega) (by assumption) (by omega) (by omega) | exact nb_ix (by omega) rfl (by omega) (by omega) | exact nb_ok (by omega) rfl | decide)) only [kX11_left, sp_has hTP, hs, hPt, nb_add, nb_sub, nb_mul, Int.toNat_natCast, mm_kr_s, mm_kv_s, if_pos, if_neg, sq_tn, Int.toNat_zero, Int.reduceToNat, Int.reduceNeg, Nat.reduceAdd, Int.reduceAdd, Int.reduceEq, Int.reduceLT, Int.reduceLE, Int.zero_add, nb_ui_s, nb_ui_k, nb_ui_a, sp_min, sp_max, sp_bits]
        exact sq_ret (sq_cf_refl _ _)
      · simp (disch := (first | assumption | omega | exact nb_ix (by omega) (by assumption) (by omega) (by omega) | exact nb_ix (by omega) rfl (by omega) (by omega) | exact nb_ok (by omega) rfl | decide)) only [kX11_left, sp_has hTP, hs, hPt, nb_add, nb_sub, nb_mul, Int.toNat_natCast, mm_kr_s, mm_kv_s, if_pos, if_neg, sq_tn, Int.toNat_zero, Int.reduceToNat, Int.reduceNeg, Nat.reduceAdd, Int.reduceAdd, Int.reduceEq, Int.reduceLT, Int.reduceLE, Int.zero_add, nb_ui_s, nb_ui_k, nb_ui_a, sp_min, sp_max, sp_bits]
        exact sq_ret (sq_cf_refl _ _)
    · simp (disch := (first | assumption | omega | exact nb_ix (by omega) (by assumption) (by omega) (by omega) | exact nb_ix (by omega) rfl (by omega) (by omega) | exact nb_ok (by omega) rfl | decide)) only [kX11_left, sp_has hTP, hs, hPt, nb_add, nb_sub, nb_mul, Int.toNat_natCast, mm_kr_s, mm_kv_s, if_pos, if_neg, sq_tn, Int.toNat_zero, Int.reduceToNat, Int.reduceNeg, Nat.reduceAdd, Int.reduceAdd, Int.reduceEq, Int.reduceLT, Int.reduceLE, Int.zero_add, nb_ui_s, nb_ui_k, nb_ui_a, sp_min, sp_max, sp_bits]
      exact sq_ret (sq_cf_refl _ _)
theorem sq_mrest {J K Q R : mm_I} {q : Nat} (hs8 : s ≤ 8) (hN : sq_mN I N) (j1 : ∀ k, k < 30 → J 261 (30 * q + k) = I 257 k) (j3 : sq_fr [261] I J) {N2 : Nat → Int} (hK : sq_mN K N2) (hN2 : ∀ j, 30 ≤ j → N2 j = N j) (hKf : sq_fr [248, 249, 257, 259] J K) (r1 : ∀ k, k < 30 → R 257 k = K 261 (30 * q + k)) (r2 : ∀ j, 30 ≤ j → R 257 j = K 257 j) (r3 : sq_fr [257] K R) : sq_mN R N ∧ sq_fr [248, 249, 257, 259, 261] I R := by
  refine ⟨fun j hj => ?_, ?_⟩
  · by_cases hj3 : j < 30
    · rw [r1 j hj3, hKf 261 (by decide), j1 j hj3]
      exact hN j hj
    · rw [r2 j (by omega), hK j hj, hN2 j (by omega)]
  · intro b hb
    simp at hb
    rw [r3 b (by simp; omega), hKf b (by simp; omega), j3 b (by simp; omega)]
theorem om_left (hd : c ≤ d) (hC : sq_MM n c P I s D B g v ev N) (p x : Int) : sq_X (some (.inl (sa_left (sw_live ev D B g s) s N p x))) n L P (fun I' => sq_mN I' N ∧ sq_fr [248, 249, 257, 259, 261] I I') (mm_rn (d + 10) 228 [.inr (.inr (some 239)), .inl p, .inl x] n I L P) := by
  obtain ⟨hW, hN, hok, hh⟩ := hC
  have ok := hW.1.ok
  have hM := hW.1
  have hs : I 239 26 = (s : Int) := hW.2.1.2.1
  have hs8 : s ≤ 8 := hW.2.1.1
  have his := sp_isSpot (d := d + 7) (L := L) hM p (I := I) (by omega)
  rw [hs] at his
  rw [eX12_left]
  by_cases h : (0 ≤ p ∧ p < s) ∧ 0 ≤ x ∧ x ≤ 60
  · obtain ⟨k, rfl⟩ : ∃ k : Nat, x = (k : Int) := ⟨x.toNat, by omega⟩
    obtain ⟨q, rfl⟩ : ∃ k : Nat, p = (k : Int) := ⟨p.toNat, by omega⟩
    unfold sa_left
    rw [if_pos h, Int.toNat_natCast, Int.toNat_natCast]
    have h1 := h.1
    obtain ⟨hn, hP⟩ := hM
    simp (disch := (first | assumption | omega | exact nb_ix (by omega) (by assumption) (by omega) (by omega) | exact nb_ix (by omega) rfl (by omega) (by omega) | exact nb_ok (by omega) rfl | decide)) only [kX12_left, his, sp_min2, nb_add, nb_sub, nb_mul, Int.toNat_natCast, mm_kr_s, mm_kv_s, if_pos, if_neg, sq_tn, Int.toNat_zero, Int.reduceToNat, Int.reduceNeg, Nat.reduceAdd, Int.reduceAdd, Int.reduceEq, Int.reduceLT, Int.reduceLE, Int.zero_add, nb_ui_s, nb_ui_k, nb_ui_a, sp_min, sp_max, sp_bits]
    refine sq_kv (sq_maside (q := 0) (d := d + 8) hW.1 (by omega)) (fun J hJ => ?_)
    obtain ⟨j1, j2, j3⟩ := hJ
    have hN1 : sq_mN J N := fun j hj => by rw [j3 257 (by decide)]; exact hN j hj
    have hW1 := sq_MW_keepf hW j3 (by simp)
    simp (disch := (first | assumption | omega | exact nb_ix (by omega) (by assumption) (by omega) (by omega) | exact nb_ix (by omega) rfl (by omega) (by omega) | exact nb_ok (by omega) rfl | decide)) only [kX12_left, nb_add, nb_sub, nb_mul, Int.toNat_natCast, mm_kr_s, mm_kv_s, if_pos, if_neg, sq_tn, Int.toNat_zero, Int.reduceToNat, Int.reduceNeg, Nat.reduceAdd, Int.reduceAdd, Int.reduceEq, Int.reduceLT, Int.reduceLE, Int.zero_add, nb_ui_s, nb_ui_k, nb_ui_a, sp_min, sp_max, sp_bits]
    refine sq_kr (sq_mhours (d := d + 3) (by omega) hW1 hN1 hok (by omega) (by omega)) (fun K hK => ?_)
    have e1 := hK.1 q (by omega)
    simp (disch := (first | assumption | omega | exact nb_ix (by omega) (by assumption) (by omega) (by omega) | exact nb_ix (by omega) rfl (by omega) (by omega) | exact nb_ok (by omega) rfl | decide)) only [kX12_left, hP, e1, nb_add, nb_sub, nb_mul, Int.toNat_natCast, mm_kr_s, mm_kv_s, if_pos, if_neg, sq_tn, Int.toNat_zero, Int.reduceToNat, Int.reduceNeg, Nat.reduceAdd, Int.reduceAdd, Int.reduceEq, Int.reduceLT, Int.reduceLE, Int.zero_add, nb_ui_s, nb_ui_k, nb_ui_a, sp_min, sp_max, sp_bits]
    refine sq_kv (sq_mback (q := 0) (d := d + 8) hW.1 (by omega)) (fun R hR => ?_)
    obtain ⟨r1, r2, r3⟩ := hR
    simp (disch := (first | assumption | omega | exact nb_ix (by omega) (by assumption) (by omega) (by omega) | exact nb_ix (by omega) rfl (by omega) (by omega) | exact nb_ok (by omega) rfl | decide)) only [kX12_left, nb_add, nb_sub, nb_mul, Int.toNat_natCast, mm_kr_s, mm_kv_s, if_pos, if_neg, sq_tn, Int.toNat_zero, Int.reduceToNat, Int.reduceNeg, Nat.reduceAdd, Int.reduceAdd, Int.reduceEq, Int.reduceLT, Int.reduceLE, Int.zero_add, nb_ui_s, nb_ui_k, nb_ui_a, sp_min, sp_max, sp_bits]
    exact sq_ret (sq_mrest (q := 0) (Q := I) hs8 hN j1 j3 hK.1 (fun j hj => sw_it_hi hs8 hj k) hK.2 r1 r2 r3)
  · have : sa_left (sw_live ev D B g s) s N p x = -1 := if_neg h
    rw [this]
    by_cases h0 : 0 ≤ p ∧ p < (s : Int)
    · simp (disch := (first | assumption | omega | exact nb_ix (by omega) (by assumption) (by omega) (by omega) | exact nb_ix (by omega) rfl (by omega) (by omega) | exact nb_ok (by omega) rfl | decide)) only [kX12_left, his, sp_min2, nb_add, nb_sub, nb_mul, Int.toNat_natCast, mm_kr_s, mm_kv_s, if_pos, if_neg, sq_tn, Int.toNat_zero, Int.reduceToNat, Int.reduceNeg, Nat.reduceAdd, Int.reduceAdd, Int.reduceEq, Int.reduceLT, Int.reduceLE, Int.zero_add, nb_ui_s, nb_ui_k, nb_ui_a, sp_min, sp_max, sp_bits]
      exact sq_ret ⟨hN, sq_fr_refl _ _⟩
    · simp (disch := (first | assumption | omega | exact nb_ix (by omega) (by assumption) (by omega) (by omega) | exact nb_ix (by omega) rfl (by omega) (by omega) | exact nb_ok (by omega) rfl | decide)) only [kX12_left, his, sp_min2, nb_add, nb_sub, nb_mul, Int.toNat_natCast, mm_kr_s, mm_kv_s, if_pos, if_neg, sq_tn, Int.toNat_zero, Int.reduceToNat, Int.reduceNeg, Nat.reduceAdd, Int.reduceAdd, Int.reduceEq, Int.reduceLT, Int.reduceLE, Int.zero_add, nb_ui_s, nb_ui_k, nb_ui_a, sp_min, sp_max, sp_bits]
      exact sq_ret ⟨hN, sq_fr_refl _ _⟩
theorem oc_saved (hd : c ≤ d) (hC : sq_CC n c P I t u s D B g v lw ev N) (x : Int) : sq_X (some (.inl (sa_saved (sw_live ev D B g s) D v s N x))) n L P (sq_cf sq_SC I) (mm_rn (d + 10) 118 [.inr (.inr (some 0)), .inl x] n I L P) := by
  obtain ⟨hP, hW, hLW, hN, hok, hh⟩ := hC
  have ok0 := sq_ok0 hP
  have hs : I t 0 = (s : Int) := hW.2.1.2.2.1
  have hs8 : s ≤ 8 := hW.2.1.2.1
  have hg5 := hW.2.2.2
  have hC := hP.2.2.2.2.2.2.2.1
  have hPt := hP.2.2.2.2.2.2.1
  have hn := hP.1
  rw [eX11_saved]
  by_cases h : 0 < s ∧ 1 ≤ x ∧ x ≤ 60
  · obtain ⟨k, rfl⟩ : ∃ k : Nat, x = (k : Int) := ⟨x.toNat, by omega⟩
    unfold sa_saved
    rw [if_pos h, Int.toNat_natCast]
    have h0 : ¬ s = 0 := by omega
    have lr := sw_sm_rg (ev := ev) (D := D) (B := B) hok hs8 hg5 k
    have lr3 := sw_sm_rg (ev := ev) (D := D) (B := B) (sw_hush_ok (D := D) (v := v) hok) hs8 hg5 k
    simp (disch := (first | assumption | omega | exact nb_ix (by omega) (by assumption) (by omega) (by omega) | exact nb_ix (by omega) rfl (by omega) (by omega) | exact nb_ok (by omega) rfl | decide)) only [kX11_saved, sq_noTown hP hs, hC, hPt, sq_held hP hLW, nb_add, nb_sub, nb_mul, Int.toNat_natCast, mm_kr_s, mm_kv_s, if_pos, if_neg, sq_tn, Int.toNat_zero, Int.reduceToNat, Int.reduceNeg, Nat.reduceAdd, Int.reduceAdd, Int.reduceEq, Int.reduceLT, Int.reduceLE, Int.zero_add, nb_ui_s, nb_ui_k, nb_ui_a, sp_min, sp_max, sp_bits]
    refine sq_kr (sq_cwithin (d := d + 2) (by omega) hP hW (hP.2.2.2.2.2.1 40 (by omega)) (by omega) hN hok (by omega) (by omega)) (fun J hJ => ?_)
    have hN2 : sq_cN J 40 N := by
      intro j hj
      rw [← hN j hj]
      unfold sq_rd
      rw [sq_cf_ge hJ.2 (b := 40) (by decide) (by omega), sq_cf_ge hJ.2 (b := 41) (by decide) (by omega), sq_cf_ge hJ.2 (b := 42) (by decide) (by omega), sq_cf_ge hJ.2 (b := 43) (by decide) (by omega)]
    simp (disch := (first | assumption | omega | exact nb_ix (by omega) (by assumption) (by omega) (by omega) | exact nb_ix (by omega) rfl (by omega) (by omega) | exact nb_ok (by omega) rfl | decide)) only [kX11_saved, hC, hPt, nb_add, nb_sub, nb_mul, Int.toNat_natCast, mm_kr_s, mm_kv_s, if_pos, if_neg, sq_tn, Int.toNat_zero, Int.reduceToNat, Int.reduceNeg, Nat.reduceAdd, Int.reduceAdd, Int.reduceEq, Int.reduceLT, Int.reduceLE, Int.zero_add, nb_ui_s, nb_ui_k, nb_ui_a, sp_min, sp_max, sp_bits]
    refine sq_kr (sq_cbehind (d := d + 2) (by omega) hP (sq_CW_keep hW hJ.2 (by decide)) (by omega) (hP.2.2.2.2.2.1 40 (by omega)) (by omega) hN2 hok (by omega) (by omega)) (fun K hK => ?_)
    simp (disch := (first | assumption | omega | exact nb_ix (by omega) (by assumption) (by omega) (by omega) | exact nb_ix (by omega) rfl (by omega) (by omega) | exact nb_ok (by omega) rfl | decide)) only [kX11_saved, nb_add, nb_sub, nb_mul, Int.toNat_natCast, mm_kr_s, mm_kv_s, if_pos, if_neg, sq_tn, Int.toNat_zero, Int.reduceToNat, Int.reduceNeg, Nat.reduceAdd, Int.reduceAdd, Int.reduceEq, Int.reduceLT, Int.reduceLE, Int.zero_add, nb_ui_s, nb_ui_k, nb_ui_a, sp_min, sp_max, sp_bits]
    exact sq_ret (sq_cf_trans (l := sq_SC) hJ.2 hK (by decide) (by decide))
  · have : sa_saved (sw_live ev D B g s) D v s N x = -1000000 := if_neg h
    rw [this]
    by_cases h0 : s = 0
    · simp (disch := (first | assumption | omega | exact nb_ix (by omega) (by assumption) (by omega) (by omega) | exact nb_ix (by omega) rfl (by omega) (by omega) | exact nb_ok (by omega) rfl | decide)) only [kX11_saved, sq_noTown hP hs, nb_add, nb_sub, nb_mul, Int.toNat_natCast, mm_kr_s, mm_kv_s, if_pos, if_neg, sq_tn, Int.toNat_zero, Int.reduceToNat, Int.reduceNeg, Nat.reduceAdd, Int.reduceAdd, Int.reduceEq, Int.reduceLT, Int.reduceLE, Int.zero_add, nb_ui_s, nb_ui_k, nb_ui_a, sp_min, sp_max, sp_bits]
      exact sq_ret (sq_cf_refl _ _)
    · by_cases h1 : x < 1
      · simp (disch := (first | assumption | omega | exact nb_ix (by omega) (by assumption) (by omega) (by omega) | exact nb_ix (by omega) rfl (by omega) (by omega) | exact nb_ok (by omega) rfl | decide)) only [kX11_saved, sq_noTown hP hs, nb_add, nb_sub, nb_mul, Int.toNat_natCast, mm_kr_s, mm_kv_s, if_pos, if_neg, sq_tn, Int.toNat_zero, Int.reduceToNat, Int.reduceNeg, Nat.reduceAdd, Int.reduceAdd, Int.reduceEq, Int.reduceLT, Int.reduceLE, Int.zero_add, nb_ui_s, nb_ui_k, nb_ui_a, sp_min, sp_max, sp_bits]
        exact sq_ret (sq_cf_refl _ _)
      · simp (disch := (first | assumption | omega | exact nb_ix (by omega) (by assumption) (by omega) (by omega) | exact nb_ix (by omega) rfl (by omega) (by omega) | exact nb_ok (by omega) rfl | decide)) only [kX11_saved, sq_noTown hP hs, nb_add, nb_sub, nb_mul, Int.toNat_natCast, mm_kr_s, mm_kv_s, if_pos, if_neg, sq_tn, Int.toNat_zero, Int.reduceToNat, Int.reduceNeg, Nat.reduceAdd, Int.reduceAdd, Int.reduceEq, Int.reduceLT, Int.reduceLE, Int.zero_add, nb_ui_s, nb_ui_k, nb_ui_a, sp_min, sp_max, sp_bits]
        exact sq_ret (sq_cf_refl _ _)
theorem om_saved (hd : c ≤ d) (hC : sq_MM n c P I s D B g v ev N) (x : Int) : sq_X (some (.inl (sa_saved (sw_live ev D B g s) D v s N x))) n L P (fun I' => sq_mN I' N ∧ sq_fr [248, 249, 257, 259, 261] I I') (mm_rn (d + 10) 229 [.inr (.inr (some 239)), .inl x] n I L P) := by
  obtain ⟨hW, hN, hok, hh⟩ := hC
  have ok := hW.1.ok
  have hs : I 239 26 = (s : Int) := hW.2.1.2.1
  have hs8 : s ≤ 8 := hW.2.1.1
  have hg5 := hW.2.2.2
  rw [eX12_saved]
  by_cases h : 0 < s ∧ 1 ≤ x ∧ x ≤ 60
  · obtain ⟨k, rfl⟩ : ∃ k : Nat, x = (k : Int) := ⟨x.toNat, by omega⟩
    unfold sa_saved
    rw [if_pos h, Int.toNat_natCast]
    have e : sw_A ev D B g v s N k k = sw_sm (sw_live ev D B g s) s k N := by
      unfold sw_A
      rw [Nat.sub_self]
      simp [sw_sm, sp_sum]
    have e0 : sw_A ev D B g v s N k 0 = sw_sm (sw_live ev D B g s) s k (sw_hush D v s N) := by
      unfold sw_A
      simp [sw_sm, sp_sum, sw_it]
    have lr := sw_sm_rg (ev := ev) (D := D) (B := B) hok hs8 hg5 k
    have lr3 := sw_sm_rg (ev := ev) (D := D) (B := B) (sw_hush_ok (D := D) (v := v) hok) hs8 hg5 k
    simp (disch := (first | assumption | omega | exact nb_ix (by omega) (by assumption) (by omega) (by omega) | exact nb_ix (by omega) rfl (by omega) (by omega) | exact nb_ok (by omega) rfl | decide)) only [kX12_saved, hs, sp_min2, nb_add, nb_sub, nb_mul, Int.toNat_natCast, mm_kr_s, mm_kv_s, if_pos, if_neg, sq_tn, Int.toNat_zero, Int.reduceToNat, Int.reduceNeg, Nat.reduceAdd, Int.reduceAdd, Int.reduceEq, Int.reduceLT, Int.reduceLE, Int.zero_add, nb_ui_s, nb_ui_k, nb_ui_a, sp_min, sp_max, sp_bits]
    refine sq_kr (sq_mlostBy (d := d + 2) (by omega) hW (by omega) hN hok (by omega) (by omega) (Nat.le_refl k)) (fun J hJ => ?_)
    rw [e]
    simp (disch := (first | assumption | omega | exact nb_ix (by omega) (by assumption) (by omega) (by omega) | exact nb_ix (by omega) rfl (by omega) (by omega) | exact nb_ok (by omega) rfl | decide)) only [kX12_saved, nb_add, nb_sub, nb_mul, Int.toNat_natCast, mm_kr_s, mm_kv_s, if_pos, if_neg, sq_tn, Int.toNat_zero, Int.reduceToNat, Int.reduceNeg, Nat.reduceAdd, Int.reduceAdd, Int.reduceEq, Int.reduceLT, Int.reduceLE, Int.zero_add, nb_ui_s, nb_ui_k, nb_ui_a, sp_min, sp_max, sp_bits]
    refine sq_kr (sq_mlostBy (k := 0) (d := d + 2) (by omega) (sq_MW_keepf hW hJ.2 (by simp)) (by omega) hJ.1 hok (by omega) (by omega) (by omega)) (fun K hK => ?_)
    rw [e0]
    simp (disch := (first | assumption | omega | exact nb_ix (by omega) (by assumption) (by omega) (by omega) | exact nb_ix (by omega) rfl (by omega) (by omega) | exact nb_ok (by omega) rfl | decide)) only [kX12_saved, nb_add, nb_sub, nb_mul, Int.toNat_natCast, mm_kr_s, mm_kv_s, if_pos, if_neg, sq_tn, Int.toNat_zero, Int.reduceToNat, Int.reduceNeg, Nat.reduceAdd, Int.reduceAdd, Int.reduceEq, Int.reduceLT, Int.reduceLE, Int.zero_add, nb_ui_s, nb_ui_k, nb_ui_a, sp_min, sp_max, sp_bits]
    exact sq_ret ⟨hK.1, sq_fr_trans hJ.2 hK.2 (fun _ h => h) (fun _ h => h)⟩
  · have : sa_saved (sw_live ev D B g s) D v s N x = -1000000 := if_neg h
    rw [this]
    by_cases h0 : s = 0
    · simp (disch := (first | assumption | omega | exact nb_ix (by omega) (by assumption) (by omega) (by omega) | exact nb_ix (by omega) rfl (by omega) (by omega) | exact nb_ok (by omega) rfl | decide)) only [kX12_saved, hs, nb_add, nb_sub, nb_mul, Int.toNat_natCast, mm_kr_s, mm_kv_s, if_pos, if_neg, sq_tn, Int.toNat_zero, Int.reduceToNat, Int.reduceNeg, Nat.reduceAdd, Int.reduceAdd, Int.reduceEq, Int.reduceLT, Int.reduceLE, Int.zero_add, nb_ui_s, nb_ui_k, nb_ui_a, sp_min, sp_max, sp_bits]
      exact sq_ret ⟨hN, sq_fr_refl _ _⟩
    · simp (disch := (first | assumption | omega | exact nb_ix (by omega) (by assumption) (by omega) (by omega) | exact nb_ix (by omega) rfl (by omega) (by omega) | exact nb_ok (by omega) rfl | decide)) only [kX12_saved, hs, sp_min2, nb_add, nb_sub, nb_mul, Int.toNat_natCast, mm_kr_s, mm_kv_s, if_pos, if_neg, sq_tn, Int.toNat_zero, Int.reduceToNat, Int.reduceNeg, Nat.reduceAdd, Int.reduceAdd, Int.reduceEq, Int.reduceLT, Int.reduceLE, Int.zero_add, nb_ui_s, nb_ui_k, nb_ui_a, sp_min, sp_max, sp_bits]
      exact sq_ret ⟨hN, sq_fr_refl _ _⟩
theorem oc_cryAt (hd : c ≤ d) (hC : sq_CC n c P I t u s D B g v lw ev N) (x w : Int) : sq_X (some (.inl (sa_cryAt (sw_A ev D B g v s N) s x w))) n L P (sq_cf sq_SC I) (mm_rn (d + 10) 119 [.inr (.inr (some 0)), .inl x, .inl w] n I L P) := by
  obtain ⟨hP, hW, hLW, hN, hok, hh⟩ := hC
  have ok0 := sq_ok0 hP
  have hs : I t 0 = (s : Int) := hW.2.1.2.2.1
  have hC := hP.2.2.2.2.2.2.2.1
  have hPt := hP.2.2.2.2.2.2.1
  have hn := hP.1
  rw [eX11_cryAt]
  by_cases h : 0 < s ∧ (1 ≤ x ∧ x ≤ 24) ∧ 0 ≤ w ∧ w ≤ 1
  · obtain ⟨k, rfl⟩ : ∃ k : Nat, x = (k : Int) := ⟨x.toNat, by omega⟩
    unfold sa_cryAt
    rw [if_pos h, Int.toNat_natCast]
    have h0 : ¬ s = 0 := by omega
    simp (disch := (first | assumption | omega | exact nb_ix (by omega) (by assumption) (by omega) (by omega) | exact nb_ix (by omega) rfl (by omega) (by omega) | exact nb_ok (by omega) rfl | decide)) only [kX11_cryAt, sq_noTown hP hs, hC, hPt, sq_held hP hLW, nb_add, nb_sub, nb_mul, Int.toNat_natCast, mm_kr_s, mm_kv_s, if_pos, if_neg, sq_tn, Int.toNat_zero, Int.reduceToNat, Int.reduceNeg, Nat.reduceAdd, Int.reduceAdd, Int.reduceEq, Int.reduceLT, Int.reduceLE, Int.zero_add, nb_ui_s, nb_ui_k, nb_ui_a, sp_min, sp_max, sp_bits]
    refine sq_kv (sq_cfind (d := d + 1) (by omega) hP hW (by omega) hN hok hh (by omega)) (fun J hJ => ?_)
    obtain ⟨j1, j2, j3⟩ := hJ
    by_cases hw : w = 0
    · simp (disch := (first | assumption | omega | exact nb_ix (by omega) (by assumption) (by omega) (by omega) | exact nb_ix (by omega) rfl (by omega) (by omega) | exact nb_ok (by omega) rfl | decide)) only [kX11_cryAt, hC, j1, j2, nb_add, nb_sub, nb_mul, Int.toNat_natCast, mm_kr_s, mm_kv_s, if_pos, if_neg, sq_tn, Int.toNat_zero, Int.reduceToNat, Int.reduceNeg, Nat.reduceAdd, Int.reduceAdd, Int.reduceEq, Int.reduceLT, Int.reduceLE, Int.zero_add, nb_ui_s, nb_ui_k, nb_ui_a, sp_min, sp_max, sp_bits]
      exact sq_ret j3
    · simp (disch := (first | assumption | omega | exact nb_ix (by omega) (by assumption) (by omega) (by omega) | exact nb_ix (by omega) rfl (by omega) (by omega) | exact nb_ok (by omega) rfl | decide)) only [kX11_cryAt, hC, j1, j2, nb_add, nb_sub, nb_mul, Int.toNat_natCast, mm_kr_s, mm_kv_s, if_pos, if_neg, sq_tn, Int.toNat_zero, Int.reduceToNat, Int.reduceNeg, Nat.reduceAdd, Int.reduceAdd, Int.reduceEq, Int.reduceLT, Int.reduceLE, Int.zero_add, nb_ui_s, nb_ui_k, nb_ui_a, sp_min, sp_max, sp_bits]
      exact sq_ret j3
  · have : sa_cryAt (sw_A ev D B g v s N) s x w = -1 := if_neg h
    rw [this]
    by_cases h0 : s = 0
    · simp (disch := (first | assumption | omega | exact nb_ix (by omega) (by assumption) (by omega) (by omega) | exact nb_ix (by omega) rfl (by omega) (by omega) | exact nb_ok (by omega) rfl | decide)) only [kX11_cryAt, sq_noTown hP hs, nb_add, nb_sub, nb_mul, Int.toNat_natCast, mm_kr_s, mm_kv_s, if_pos, if_neg, sq_tn, Int.toNat_zero, Int.reduceToNat, Int.reduceNeg, Nat.reduceAdd, Int.reduceAdd, Int.reduceEq, Int.reduceLT, Int.reduceLE, Int.zero_add, nb_ui_s, nb_ui_k, nb_ui_a, sp_min, sp_max, sp_bits]
      exact sq_ret (sq_cf_refl _ _)
    · by_cases h1 : x < 1
      · simp (disch := (first | assumption | omega | exact nb_ix (by omega) (by assumption) (by omega) (by omega) | exact nb_ix (by omega) rfl (by omega) (by omega) | exact nb_ok (by omega) rfl | decide)) only [kX11_cryAt, sq_noTown hP hs, nb_add, nb_sub, nb_mul, Int.toNat_natCast, mm_kr_s, mm_kv_s, if_pos, if_neg, sq_tn, Int.toNat_zero, Int.reduceToNat, Int.reduceNeg, Nat.reduceAdd, Int.reduceAdd, Int.reduceEq, Int.reduceLT, Int.reduceLE, Int.zero_add, nb_ui_s, nb_ui_k, nb_ui_a, sp_min, sp_max, sp_bits]
        exact sq_ret (sq_cf_refl _ _)
      · by_cases h2 : 24 < x
        · simp (disch := (first | assumption | omega | exact nb_ix (by omega) (by assumption) (by omega) (by omega) | exact nb_ix (by omega) rfl (by omega) (by omega) | exact nb_ok (by omega) rfl | decide)) only [kX11_cryAt, sq_noTown hP hs, nb_add, nb_sub, nb_mul, Int.toNat_natCast, mm_kr_s, mm_kv_s, if_pos, if_neg, sq_tn, Int.toNat_zero, Int.reduceToNat, Int.reduceNeg, Nat.reduceAdd, Int.reduceAdd, Int.reduceEq, Int.reduceLT, Int.reduceLE, Int.zero_add, nb_ui_s, nb_ui_k, nb_ui_a, sp_min, sp_max, sp_bits]
          exact sq_ret (sq_cf_refl _ _)
        · by_cases h3 : w < 0
          · simp (disch := (first | assumption | omega | exact nb_ix (by omega) (by assumption) (by omega) (by omega) | exact nb_ix (by omega) rfl (by omega) (by omega) | exact nb_ok (by omega) rfl | decide)) only [kX11_cryAt, sq_noTown hP hs, nb_add, nb_sub, nb_mul, Int.toNat_natCast, mm_kr_s, mm_kv_s, if_pos, if_neg, sq_tn, Int.toNat_zero, Int.reduceToNat, Int.reduceNeg, Nat.reduceAdd, Int.reduceAdd, Int.reduceEq, Int.reduceLT, Int.reduceLE, Int.zero_add, nb_ui_s, nb_ui_k, nb_ui_a, sp_min, sp_max, sp_bits]
            exact sq_ret (sq_cf_refl _ _)
          · simp (disch := (first | assumption | omega | exact nb_ix (by omega) (by assumption) (by omega) (by omega) | exact nb_ix (by omega) rfl (by omega) (by omega) | exact nb_ok (by omega) rfl | decide)) only [kX11_cryAt, sq_noTown hP hs, nb_add, nb_sub, nb_mul, Int.toNat_natCast, mm_kr_s, mm_kv_s, if_pos, if_neg, sq_tn, Int.toNat_zero, Int.reduceToNat, Int.reduceNeg, Nat.reduceAdd, Int.reduceAdd, Int.reduceEq, Int.reduceLT, Int.reduceLE, Int.zero_add, nb_ui_s, nb_ui_k, nb_ui_a, sp_min, sp_max, sp_bits]
            exact sq_ret (sq_cf_refl _ _)
set_option maxHeartbeats 1000000 in
theorem om_cryAt (hd : c ≤ d) (hC : sq_MM n c P I s D B g v ev N) (x w : Int) : sq_X (some (.inl (sa_cryAt (sw_A ev D B g v s N) s x w))) n L P (fun I' => sq_mN I' N ∧ sq_fr [248, 249, 257, 259, 261] I I') (mm_rn (d + 10) 230 [.inr (.inr (some 239)), .inl x, .inl w] n I L P) := by
  obtain ⟨hW, hN, hok, hh⟩ := hC
  have ok := hW.1.ok
  have hs : I 239 26 = (s : Int) := hW.2.1.2.1
  rw [eX12_cryAt]
  by_cases h : 0 < s ∧ (1 ≤ x ∧ x ≤ 24) ∧ 0 ≤ w ∧ w ≤ 1
  · obtain ⟨m, rfl⟩ : ∃ k : Nat, x = (k : Int) := ⟨x.toNat, by omega⟩
    unfold sa_cryAt
    rw [if_pos h, Int.toNat_natCast]
    have h0 : ¬ (s : Int) = 0 := by omega
    simp (disch := (first | assumption | omega | exact nb_ix (by omega) (by assumption) (by omega) (by omega) | exact nb_ix (by omega) rfl (by omega) (by omega) | exact nb_ok (by omega) rfl | decide)) only [kX12_cryAt, hs, sp_min2, nb_add, nb_sub, nb_mul, Int.toNat_natCast, mm_kr_s, mm_kv_s, if_pos, if_neg, sq_tn, Int.toNat_zero, Int.reduceToNat, Int.reduceNeg, Nat.reduceAdd, Int.reduceAdd, Int.reduceEq, Int.reduceLT, Int.reduceLE, Int.zero_add, nb_ui_s, nb_ui_k, nb_ui_a, sp_min, sp_max, sp_bits]
    refine sq_loop3 (fun i (y : Int × Int) (x6 : mm_V) (J : mm_I) => mm_E (d + 9) 230 36 [.inr (.inr (some 239)), .inl ((m : Int)), .inl w, .inl y.1, .inl y.2, .inl ((i : Nat)), x6] [] [] n J L P) (fun i y _ J => sq_mN J N ∧ sq_fr [248, 249, 257, 259, 261] I J ∧ (i = 0 → y = (-1, 0)) ∧ (0 < i → y = (((sw_bst (sw_A ev D B g v s N m) (i - 1)).1 : Int), (sw_bst (sw_A ev D B g v s N m) (i - 1)).2))) (m + 1) (s0 := (-1, 0)) (t0 := mm_junk) (u0 := I) ⟨hN, sq_fr_refl _ _, fun _ => rfl, fun h => by omega⟩ ?_ ?_
    · intro i y x6 J hi ⟨h1, h2, h3, h4⟩ ih
      rw [hX12_cryAt_36]
      simp (disch := (first | assumption | omega | exact nb_ix (by omega) (by assumption) (by omega) (by omega) | exact nb_ix (by omega) rfl (by omega) (by omega) | exact nb_ok (by omega) rfl | decide)) only [kX12_cryAt, nb_add, nb_sub, nb_mul, Int.toNat_natCast, mm_kr_s, mm_kv_s, if_pos, if_neg, sq_tn, Int.toNat_zero, Int.reduceToNat, Int.reduceNeg, Nat.reduceAdd, Int.reduceAdd, Int.reduceEq, Int.reduceLT, Int.reduceLE, Int.zero_add, nb_ui_s, nb_ui_k, nb_ui_a, sp_min, sp_max, sp_bits]
      refine sq_kr (sq_mlostBy (d := d + 2) (by omega) (sq_MW_keepf hW h2 (by simp)) (by omega) h1 hok (by omega) (by omega) (show i ≤ m by omega)) (fun K hK => ?_)
      have hKf : sq_fr [248, 249, 257, 259, 261] I K := sq_fr_trans h2 hK.2 (fun _ h => h) (fun _ h => h)
      cases i with
      | zero =>
        rw [h3 rfl]
        simp (disch := (first | assumption | omega | exact nb_ix (by omega) (by assumption) (by omega) (by omega) | exact nb_ix (by omega) rfl (by omega) (by omega) | exact nb_ok (by omega) rfl | decide)) only [kX12_cryAt, nb_add, nb_sub, nb_mul, Int.toNat_natCast, mm_kr_s, mm_kv_s, if_pos, if_neg, sq_tn, Int.toNat_zero, Int.reduceToNat, Int.reduceNeg, Nat.reduceAdd, Int.reduceAdd, Int.reduceEq, Int.reduceLT, Int.reduceLE, Int.zero_add, nb_ui_s, nb_ui_k, nb_ui_a, sp_min, sp_max, sp_bits]
        refine ih (_, _) _ _ ⟨hK.1, hKf, fun h => by omega, fun _ => ?_⟩
        rfl
      | succ i =>
        have h5 := h4 (by omega)
        rw [Nat.add_sub_cancel] at h5
        rw [h5]
        have e8 : sw_bst (sw_A ev D B g v s N m) (i + 1) = if sw_A ev D B g v s N m (i + 1) < (sw_bst (sw_A ev D B g v s N m) i).2 then (i + 1, sw_A ev D B g v s N m (i + 1)) else sw_bst (sw_A ev D B g v s N m) i := rfl
        have hb1 : ¬ ((sw_bst (sw_A ev D B g v s N m) i).1 : Int) = -1 := by omega
        by_cases hlt : sw_A ev D B g v s N m (i + 1) < (sw_bst (sw_A ev D B g v s N m) i).2
        · rw [if_pos hlt] at e8
          simp (disch := (first | assumption | omega | exact nb_ix (by omega) (by assumption) (by omega) (by omega) | exact nb_ix (by omega) rfl (by omega) (by omega) | exact nb_ok (by omega) rfl | decide)) only [kX12_cryAt, nb_add, nb_sub, nb_mul, Int.toNat_natCast, mm_kr_s, mm_kv_s, if_pos, if_neg, sq_tn, Int.toNat_zero, Int.reduceToNat, Int.reduceNeg, Nat.reduceAdd, Int.reduceAdd, Int.reduceEq, Int.reduceLT, Int.reduceLE, Int.zero_add, nb_ui_s, nb_ui_k, nb_ui_a, sp_min, sp_max, sp_bits]
          refine ih (_, _) _ _ ⟨hK.1, hKf, fun h => by omega, fun _ => ?_⟩
          rw [Nat.add_sub_cancel, e8]
          rfl
        · rw [if_neg hlt] at e8
          simp (disch := (first | assumption | omega | exact nb_ix (by omega) (by assumption) (by omega) (by omega) | exact nb_ix (by omega) rfl (by omega) (by omega) | exact nb_ok (by omega) rfl | decide)) only [kX12_cryAt, nb_add, nb_sub, nb_mul, Int.toNat_natCast, mm_kr_s, mm_kv_s, if_pos, if_neg, sq_tn, Int.toNat_zero, Int.reduceToNat, Int.reduceNeg, Nat.reduceAdd, Int.reduceAdd, Int.reduceEq, Int.reduceLT, Int.reduceLE, Int.zero_add, nb_ui_s, nb_ui_k, nb_ui_a, sp_min, sp_max, sp_bits]
          refine ih (_, _) _ _ ⟨hK.1, hKf, fun h => by omega, fun _ => ?_⟩
          rw [Nat.add_sub_cancel, e8]
    · intro y x6 J ⟨h1, h2, h3, h4⟩
      rw [hX12_cryAt_36]
      have h5 := h4 (by omega)
      rw [Nat.add_sub_cancel] at h5
      rw [h5]
      by_cases hw : w = 0
      · simp (disch := (first | assumption | omega | exact nb_ix (by omega) (by assumption) (by omega) (by omega) | exact nb_ix (by omega) rfl (by omega) (by omega) | exact nb_ok (by omega) rfl | decide)) only [kX12_cryAt, nb_add, nb_sub, nb_mul, Int.toNat_natCast, mm_kr_s, mm_kv_s, if_pos, if_neg, sq_tn, Int.toNat_zero, Int.reduceToNat, Int.reduceNeg, Nat.reduceAdd, Int.reduceAdd, Int.reduceEq, Int.reduceLT, Int.reduceLE, Int.zero_add, nb_ui_s, nb_ui_k, nb_ui_a, sp_min, sp_max, sp_bits]
        exact sq_ret ⟨h1, h2⟩
      · simp (disch := (first | assumption | omega | exact nb_ix (by omega) (by assumption) (by omega) (by omega) | exact nb_ix (by omega) rfl (by omega) (by omega) | exact nb_ok (by omega) rfl | decide)) only [kX12_cryAt, nb_add, nb_sub, nb_mul, Int.toNat_natCast, mm_kr_s, mm_kv_s, if_pos, if_neg, sq_tn, Int.toNat_zero, Int.reduceToNat, Int.reduceNeg, Nat.reduceAdd, Int.reduceAdd, Int.reduceEq, Int.reduceLT, Int.reduceLE, Int.zero_add, nb_ui_s, nb_ui_k, nb_ui_a, sp_min, sp_max, sp_bits]
        exact sq_ret ⟨h1, h2⟩
  · have : sa_cryAt (sw_A ev D B g v s N) s x w = -1 := if_neg h
    rw [this]
    by_cases h0 : s = 0
    · simp (disch := (first | assumption | omega | exact nb_ix (by omega) (by assumption) (by omega) (by omega) | exact nb_ix (by omega) rfl (by omega) (by omega) | exact nb_ok (by omega) rfl | decide)) only [kX12_cryAt, hs, nb_add, nb_sub, nb_mul, Int.toNat_natCast, mm_kr_s, mm_kv_s, if_pos, if_neg, sq_tn, Int.toNat_zero, Int.reduceToNat, Int.reduceNeg, Nat.reduceAdd, Int.reduceAdd, Int.reduceEq, Int.reduceLT, Int.reduceLE, Int.zero_add, nb_ui_s, nb_ui_k, nb_ui_a, sp_min, sp_max, sp_bits]
      exact sq_ret ⟨hN, sq_fr_refl _ _⟩
    · by_cases h1 : 1 ≤ x ∧ x ≤ 24
      · simp (disch := (first | assumption | omega | exact nb_ix (by omega) (by assumption) (by omega) (by omega) | exact nb_ix (by omega) rfl (by omega) (by omega) | exact nb_ok (by omega) rfl | decide)) only [kX12_cryAt, hs, sp_min2, nb_add, nb_sub, nb_mul, Int.toNat_natCast, mm_kr_s, mm_kv_s, if_pos, if_neg, sq_tn, Int.toNat_zero, Int.reduceToNat, Int.reduceNeg, Nat.reduceAdd, Int.reduceAdd, Int.reduceEq, Int.reduceLT, Int.reduceLE, Int.zero_add, nb_ui_s, nb_ui_k, nb_ui_a, sp_min, sp_max, sp_bits]
        exact sq_ret ⟨hN, sq_fr_refl _ _⟩
      · simp (disch := (first | assumption | omega | exact nb_ix (by omega) (by assumption) (by omega) (by omega) | exact nb_ix (by omega) rfl (by omega) (by omega) | exact nb_ok (by omega) rfl | decide)) only [kX12_cryAt, hs, sp_min2, nb_add, nb_sub, nb_mul, Int.toNat_natCast, mm_kr_s, mm_kv_s, if_pos, if_neg, sq_tn, Int.toNat_zero, Int.reduceToNat, Int.reduceNeg, Nat.reduceAdd, Int.reduceAdd, Int.reduceEq, Int.reduceLT, Int.reduceLE, Int.zero_add, nb_ui_s, nb_ui_k, nb_ui_a, sp_min, sp_max, sp_bits]
        exact sq_ret ⟨hN, sq_fr_refl _ _⟩
theorem oc_quiet (hd : c ≤ d) (hC : sq_CC n c P I t u s D B g v lw ev N) : sq_X (some (.inl (sa_quiet (sw_live ev D B g s) s N))) n L P (sq_cf sq_SC I) (mm_rn (d + 10) 120 [.inr (.inr (some 0))] n I L P) := by
  obtain ⟨hP, hW, hLW, hN, hok, hh⟩ := hC
  have ok0 := sq_ok0 hP
  have hs : I t 0 = (s : Int) := hW.2.1.2.2.1
  have hC := hP.2.2.2.2.2.2.2.1
  have hPt := hP.2.2.2.2.2.2.1
  have hn := hP.1
  rw [eX11_quiet]
  unfold sa_quiet
  by_cases h0 : s = 0
  · rw [if_neg (by omega)]
    simp (disch := (first | assumption | omega | exact nb_ix (by omega) (by assumption) (by omega) (by omega) | exact nb_ix (by omega) rfl (by omega) (by omega) | exact nb_ok (by omega) rfl | decide)) only [kX11_quiet, sq_noTown hP hs, nb_add, nb_sub, nb_mul, Int.toNat_natCast, mm_kr_s, mm_kv_s, if_pos, if_neg, sq_tn, Int.toNat_zero, Int.reduceToNat, Int.reduceNeg, Nat.reduceAdd, Int.reduceAdd, Int.reduceEq, Int.reduceLT, Int.reduceLE, Int.zero_add, nb_ui_s, nb_ui_k, nb_ui_a, sp_min, sp_max, sp_bits]
    exact sq_ret (sq_cf_refl _ _)
  · rw [if_pos (by omega)]
    simp (disch := (first | assumption | omega | exact nb_ix (by omega) (by assumption) (by omega) (by omega) | exact nb_ix (by omega) rfl (by omega) (by omega) | exact nb_ok (by omega) rfl | decide)) only [kX11_quiet, sq_noTown hP hs, hC, hPt, sq_held hP hLW, nb_add, nb_sub, nb_mul, Int.toNat_natCast, mm_kr_s, mm_kv_s, if_pos, if_neg, sq_tn, Int.toNat_zero, Int.reduceToNat, Int.reduceNeg, Nat.reduceAdd, Int.reduceAdd, Int.reduceEq, Int.reduceLT, Int.reduceLE, Int.zero_add, nb_ui_s, nb_ui_k, nb_ui_a, sp_min, sp_max, sp_bits]
    refine sq_kr (sq_cquiet (d := d + 1) (by omega) hP hW hN hok hh) (fun J hJ => ?_)
    simp (disch := (first | assumption | omega | exact nb_ix (by omega) (by assumption) (by omega) (by omega) | exact nb_ix (by omega) rfl (by omega) (by omega) | exact nb_ok (by omega) rfl | decide)) only [kX11_quiet, nb_add, nb_sub, nb_mul, Int.toNat_natCast, mm_kr_s, mm_kv_s, if_pos, if_neg, sq_tn, Int.toNat_zero, Int.reduceToNat, Int.reduceNeg, Nat.reduceAdd, Int.reduceAdd, Int.reduceEq, Int.reduceLT, Int.reduceLE, Int.zero_add, nb_ui_s, nb_ui_k, nb_ui_a, sp_min, sp_max, sp_bits]
    exact sq_ret hJ
set_option maxHeartbeats 1000000 in
theorem om_quiet (hd : c ≤ d) (hC : sq_MM n c P I s D B g v ev N) : sq_X (some (.inl (sa_quiet (sw_live ev D B g s) s N))) n L P (fun I' => sq_mN I' N ∧ sq_fr [248, 249, 257, 259, 261] I I') (mm_rn (d + 10) 231 [.inr (.inr (some 239))] n I L P) := by
  obtain ⟨hW, hN, hok, hh⟩ := hC
  have ok := hW.1.ok
  have hs : I 239 26 = (s : Int) := hW.2.1.2.1
  have hs8 : s ≤ 8 := hW.2.1.1
  have hg5 := hW.2.2.2
  rw [eX12_quiet]
  unfold sa_quiet
  by_cases h0 : s = 0
  · rw [if_neg (by omega)]
    simp (disch := (first | assumption | omega | exact nb_ix (by omega) (by assumption) (by omega) (by omega) | exact nb_ix (by omega) rfl (by omega) (by omega) | exact nb_ok (by omega) rfl | decide)) only [kX12_quiet, hs, nb_add, nb_sub, nb_mul, Int.toNat_natCast, mm_kr_s, mm_kv_s, if_pos, if_neg, sq_tn, Int.toNat_zero, Int.reduceToNat, Int.reduceNeg, Nat.reduceAdd, Int.reduceAdd, Int.reduceEq, Int.reduceLT, Int.reduceLE, Int.zero_add, nb_ui_s, nb_ui_k, nb_ui_a, sp_min, sp_max, sp_bits]
    exact sq_ret ⟨hN, sq_fr_refl _ _⟩
  rw [if_pos (by omega)]
  have h0' : ¬ (s : Int) = 0 := by omega
  simp (disch := (first | assumption | omega | exact nb_ix (by omega) (by assumption) (by omega) (by omega) | exact nb_ix (by omega) rfl (by omega) (by omega) | exact nb_ok (by omega) rfl | decide)) only [kX12_quiet, hs, nb_add, nb_sub, nb_mul, Int.toNat_natCast, mm_kr_s, mm_kv_s, if_pos, if_neg, sq_tn, Int.toNat_zero, Int.reduceToNat, Int.reduceNeg, Nat.reduceAdd, Int.reduceAdd, Int.reduceEq, Int.reduceLT, Int.reduceLE, Int.zero_add, nb_ui_s, nb_ui_k, nb_ui_a, sp_min, sp_max, sp_bits]
  refine sq_kv (sq_maside (q := 0) (d := d + 8) hW.1 (by omega)) (fun J0 hJ => ?_)
  obtain ⟨j1, j2, j3⟩ := hJ
  have hN1 : sq_mN J0 N := fun j hj => by rw [j3 257 (by decide)]; exact hN j hj
  have hW1 := sq_MW_keepf hW j3 (by simp)
  simp (disch := (first | assumption | omega | exact nb_ix (by omega) (by assumption) (by omega) (by omega) | exact nb_ix (by omega) rfl (by omega) (by omega) | exact nb_ok (by omega) rfl | decide)) only [kX12_quiet, nb_add, nb_sub, nb_mul, Int.toNat_natCast, mm_kr_s, mm_kv_s, if_pos, if_neg, sq_tn, Int.toNat_zero, Int.reduceToNat, Int.reduceNeg, Nat.reduceAdd, Int.reduceAdd, Int.reduceEq, Int.reduceLT, Int.reduceLE, Int.zero_add, nb_ui_s, nb_ui_k, nb_ui_a, sp_min, sp_max, sp_bits]
  -- the rest of the road from the end of the loop
  have tail : ∀ (i : Nat) (x2 : mm_V) (K : mm_I) (r : Int), i ≤ 99 → sq_mN K (sw_it (sw_live ev D B g s) i N) → sq_fr [248, 249, 257, 259] J0 K → r = (if sv_am (sw_it (sw_live ev D B g s) i N) s = 0 then (i : Int) else -1) → sq_X (some (.inl r)) n L P (fun I' => sq_mN I' N ∧ sq_fr [248, 249, 257, 259, 261] I I') (mm_E (d + 9) 231 41 [.inr (.inr (some 239)), .inl ((i : Nat)), x2] [] [.inr (.inr (some 239))] n K L P) := by
    intro i x2 K r hi k1 k2 hr
    have hW2 := sq_MW_keepf hW1 k2 (by simp)
    have etr := sq_mtroub (d := d + 7) (L := L) hW2 k1
    by_cases hq : sv_am (sw_it (sw_live ev D B g s) i N) s = 0
    · rw [hq] at etr
      have etr2 : mm_rn (d + 7 + 2) 194 [.inr (.inr (some 239))] n K L P = some (some (.inl 0), n, K, L, P) := etr
      rw [if_pos hq] at hr
      simp (disch := (first | assumption | omega | exact nb_ix (by omega) (by assumption) (by omega) (by omega) | exact nb_ix (by omega) rfl (by omega) (by omega) | exact nb_ok (by omega) rfl | decide)) only [kX12_quiet, etr2, nb_add, nb_sub, nb_mul, Int.toNat_natCast, mm_kr_s, mm_kv_s, if_pos, if_neg, sq_tn, Int.toNat_zero, Int.reduceToNat, Int.reduceNeg, Nat.reduceAdd, Int.reduceAdd, Int.reduceEq, Int.reduceLT, Int.reduceLE, Int.zero_add, nb_ui_s, nb_ui_k, nb_ui_a, sp_min, sp_max, sp_bits]
      refine sq_kv (sq_mback (q := 0) (d := d + 8) hW.1 (by omega)) (fun R hR => ?_)
      obtain ⟨r1, r2, r3⟩ := hR
      simp (disch := (first | assumption | omega | exact nb_ix (by omega) (by assumption) (by omega) (by omega) | exact nb_ix (by omega) rfl (by omega) (by omega) | exact nb_ok (by omega) rfl | decide)) only [kX12_quiet, hr, nb_add, nb_sub, nb_mul, Int.toNat_natCast, mm_kr_s, mm_kv_s, if_pos, if_neg, sq_tn, Int.toNat_zero, Int.reduceToNat, Int.reduceNeg, Nat.reduceAdd, Int.reduceAdd, Int.reduceEq, Int.reduceLT, Int.reduceLE, Int.zero_add, nb_ui_s, nb_ui_k, nb_ui_a, sp_min, sp_max, sp_bits]
      exact sq_ret (sq_mrest (q := 0) (Q := I) hs8 hN j1 j3 k1 (fun j hj => sw_it_hi hs8 hj i) k2 r1 r2 r3)
    · have hq2 : ¬ (sv_am (sw_it (sw_live ev D B g s) i N) s : Int) = 0 := by omega
      rw [if_neg hq] at hr
      simp (disch := (first | assumption | omega | exact nb_ix (by omega) (by assumption) (by omega) (by omega) | exact nb_ix (by omega) rfl (by omega) (by omega) | exact nb_ok (by omega) rfl | decide)) only [kX12_quiet, etr, nb_add, nb_sub, nb_mul, Int.toNat_natCast, mm_kr_s, mm_kv_s, if_pos, if_neg, sq_tn, Int.toNat_zero, Int.reduceToNat, Int.reduceNeg, Nat.reduceAdd, Int.reduceAdd, Int.reduceEq, Int.reduceLT, Int.reduceLE, Int.zero_add, nb_ui_s, nb_ui_k, nb_ui_a, sp_min, sp_max, sp_bits]
      refine sq_kv (sq_mback (q := 0) (d := d + 8) hW.1 (by omega)) (fun R hR => ?_)
      obtain ⟨r1, r2, r3⟩ := hR
      simp (disch := (first | assumption | omega | exact nb_ix (by omega) (by assumption) (by omega) (by omega) | exact nb_ix (by omega) rfl (by omega) (by omega) | exact nb_ok (by omega) rfl | decide)) only [kX12_quiet, hr, nb_add, nb_sub, nb_mul, Int.toNat_natCast, mm_kr_s, mm_kv_s, if_pos, if_neg, sq_tn, Int.toNat_zero, Int.reduceToNat, Int.reduceNeg, Nat.reduceAdd, Int.reduceAdd, Int.reduceEq, Int.reduceLT, Int.reduceLE, Int.zero_add, nb_ui_s, nb_ui_k, nb_ui_a, sp_min, sp_max, sp_bits]
      exact sq_ret (sq_mrest (q := 0) (Q := I) hs8 hN j1 j3 k1 (fun j hj => sw_it_hi hs8 hj i) k2 r1 r2 r3)
  refine sq_loop (fun i (J : mm_I) => mm_E (d + 9) 231 16 [.inr (.inr (some 239)), .inl ((i : Nat)), mm_junk] [] [] n J L P) (fun i J => sq_mN J (sw_it (sw_live ev D B g s) i N) ∧ sq_fr [248, 249, 257, 259] J0 J ∧ sw_first (fun i => decide (sv_am (sw_it (sw_live ev D B g s) i N) s = 0)) 100 0 = sw_first (fun i => decide (sv_am (sw_it (sw_live ev D B g s) i N) s = 0)) (100 - i) i) 99 (s0 := J0) ⟨hN1, sq_fr_refl _ _, rfl⟩ ?_ ?_
  · intro i J hi ⟨h1, h2, h3⟩ ih
    have hoki := sw_it_ok (ev := ev) (D := D) (B := B) hok hs8 hg5 i
    have h29 := sw_it_29 (ev := ev) (D := D) (B := B) (g := g) (s := s) (N := N) i
    have hW2 := sq_MW_keepf hW1 h2 (by simp)
    have etr := sq_mtroub (d := d + 7) (L := L) hW2 h1
    have e1 : 100 - i = (100 - (i + 1)) + 1 := by omega
    have h4 : sw_first (fun i => decide (sv_am (sw_it (sw_live ev D B g s) i N) s = 0)) (100 - (i + 1) + 1) i = if decide (sv_am (sw_it (sw_live ev D B g s) i N) s = 0) = true then (i : Int) else sw_first (fun i => decide (sv_am (sw_it (sw_live ev D B g s) i N) s = 0)) (100 - (i + 1)) (i + 1) := rfl
    rw [e1, h4] at h3
    rw [hX12_quiet_16]
    by_cases hq : sv_am (sw_it (sw_live ev D B g s) i N) s = 0
    · rw [hq] at etr
      have etr2 : mm_rn (d + 7 + 2) 194 [.inr (.inr (some 239))] n J L P = some (some (.inl 0), n, J, L, P) := etr
      have ht := tail i mm_junk J _ (by omega) h1 h2 rfl
      simp (disch := (first | assumption | omega | exact nb_ix (by omega) (by assumption) (by omega) (by omega) | exact nb_ix (by omega) rfl (by omega) (by omega) | exact nb_ok (by omega) rfl | decide)) only [kX12_quiet, etr2, nb_add, nb_sub, nb_mul, Int.toNat_natCast, mm_kr_s, mm_kv_s, if_pos, if_neg, sq_tn, Int.toNat_zero, Int.reduceToNat, Int.reduceNeg, Nat.reduceAdd, Int.reduceAdd, Int.reduceEq, Int.reduceLT, Int.reduceLE, Int.zero_add, nb_ui_s, nb_ui_k, nb_ui_a, sp_min, sp_max, sp_bits] at ht ⊢
      rw [h3]
      simp only [hq, decide_true, if_true] at ht ⊢
      exact ht
    · have hq2 : ¬ (sv_am (sw_it (sw_live ev D B g s) i N) s : Int) = 0 := by omega
      simp (disch := (first | assumption | omega | exact nb_ix (by omega) (by assumption) (by omega) (by omega) | exact nb_ix (by omega) rfl (by omega) (by omega) | exact nb_ok (by omega) rfl | decide)) only [kX12_quiet, etr, nb_add, nb_sub, nb_mul, Int.toNat_natCast, mm_kr_s, mm_kv_s, if_pos, if_neg, sq_tn, Int.toNat_zero, Int.reduceToNat, Int.reduceNeg, Nat.reduceAdd, Int.reduceAdd, Int.reduceEq, Int.reduceLT, Int.reduceLE, Int.zero_add, nb_ui_s, nb_ui_k, nb_ui_a, sp_min, sp_max, sp_bits]
      refine sq_kr (sq_mlive (d := d + 4) (by omega) hW2.1 hW2.2.1 hW2.2.2.1 h1 hoki (by omega)) (fun Q hQ => ?_)
      simp (disch := (first | assumption | omega | exact nb_ix (by omega) (by assumption) (by omega) (by omega) | exact nb_ix (by omega) rfl (by omega) (by omega) | exact nb_ok (by omega) rfl | decide)) only [kX12_quiet, nb_add, nb_sub, nb_mul, Int.toNat_natCast, mm_kr_s, mm_kv_s, if_pos, if_neg, sq_tn, Int.toNat_zero, Int.reduceToNat, Int.reduceNeg, Nat.reduceAdd, Int.reduceAdd, Int.reduceEq, Int.reduceLT, Int.reduceLE, Int.zero_add, nb_ui_s, nb_ui_k, nb_ui_a, sp_min, sp_max, sp_bits]
      refine ih _ ⟨hQ.1, sq_fr_trans h2 hQ.2 (fun _ h => h) (fun _ h => h), ?_⟩
      rw [h3]
      simp [hq]
  · intro J ⟨h1, h2, h3⟩
    rw [hX12_quiet_16]
    have ht := tail 99 mm_junk J _ (by omega) h1 h2 rfl
    simp (disch := (first | assumption | omega | exact nb_ix (by omega) (by assumption) (by omega) (by omega) | exact nb_ix (by omega) rfl (by omega) (by omega) | exact nb_ok (by omega) rfl | decide)) only [kX12_quiet, nb_add, nb_sub, nb_mul, Int.toNat_natCast, mm_kr_s, mm_kv_s, if_pos, if_neg, sq_tn, Int.toNat_zero, Int.reduceToNat, Int.reduceNeg, Nat.reduceAdd, Int.reduceAdd, Int.reduceEq, Int.reduceLT, Int.reduceLE, Int.zero_add, nb_ui_s, nb_ui_k, nb_ui_a, sp_min, sp_max, sp_bits] at ht
    simp (disch := (first | assumption | omega | exact nb_ix (by omega) (by assumption) (by omega) (by omega) | exact nb_ix (by omega) rfl (by omega) (by omega) | exact nb_ok (by omega) rfl | decide)) only [kX12_quiet, nb_add, nb_sub, nb_mul, Int.toNat_natCast, mm_kr_s, mm_kv_s, if_pos, if_neg, sq_tn, Int.toNat_zero, Int.reduceToNat, Int.reduceNeg, Nat.reduceAdd, Int.reduceAdd, Int.reduceEq, Int.reduceLT, Int.reduceLE, Int.zero_add, nb_ui_s, nb_ui_k, nb_ui_a, sp_min, sp_max, sp_bits]
    rw [h3]
    have e9 : sw_first (fun i => decide (sv_am (sw_it (sw_live ev D B g s) i N) s = 0)) (100 - 99) 99 = if sv_am (sw_it (sw_live ev D B g s) 99 N) s = 0 then ((99 : Nat) : Int) else -1 := by
      show (if decide _ = true then _ else sw_first _ 0 100) = _
      simp [sw_first]
    rw [e9]
    exact ht
end OA
