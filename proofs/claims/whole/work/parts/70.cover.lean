/-! posts that see all -/
def sw_U (D : Nat → Int) (v : Int) (s m : Nat) : Nat := sv_or (fun p => if Nat.testBit m p = true then sw_V D v s p else 0) s
def sw_cb (D : Nat → Int) (v : Int) (s A : Nat) : Nat → Nat
  | 0 => A
  | k + 1 => if sp_pc (k + 1) < sp_pc (sw_cb D v s A k) ∧ sw_U D v s (k + 1) = A then k + 1 else sw_cb D v s A k
def sa_cover (D : Nat → Int) (v : Int) (s : Nat) : Int := if 0 < s then (sw_cb D v s (2 ^ s - 1) (2 ^ s - 2) : Nat) else -1
theorem sw_pcs : ∀ s, s < 9 → ∀ m, m < 2 ^ s - 1 → sp_pc m < sp_pc (2 ^ s - 1) := by decide +kernel
theorem sw_U_part {D : Nat → Int} {v : Int} {s m : Nat} (hs : s ≤ 8) (k : Nat) : sv_or (fun p => if Nat.testBit m p = true then sw_V D v s p else 0) k < 256 := by
  refine sv_or_lt (M := 8) k (fun j _ => ?_)
  split
  · exact sw_V_lt hs
  · decide
theorem sw_cb_le {D : Nat → Int} {v : Int} {s A : Nat} : ∀ k, k ≤ A → sw_cb D v s A k ≤ A := by
  intro k
  induction k with
  | zero => intro _; exact Nat.le_refl _
  | succ k ih =>
    intro h
    unfold sw_cb
    split
    · exact h
    · exact ih (by omega)
section CV
variable {n c t u s d : Nat} {I L : mm_I} {P : mm_P} {D : Nat → Int} {B : Nat → Nat} {g v : Int} {lw : Option Nat} {ev : sv_E} {N : Nat → Int}
theorem sw_U0 (hs : 0 < s) : ¬ sw_U D v s 0 = 2 ^ s - 1 := by
  have h : sw_U D v s 0 = 0 := by
    unfold sw_U
    have : ∀ k, sv_or (fun p => if Nat.testBit 0 p = true then sw_V D v s p else 0) k = 0 := by
      intro k
      induction k with
      | zero => rfl
      | succ k ih =>
        unfold sv_or
        rw [ih, Nat.zero_testBit, if_neg (by decide)]
        rfl
    exact this s
  have : 2 ^ s ≥ 2 := by
    have := Nat.pow_le_pow_right (n := 2) (by omega) (show 1 ≤ s by omega)
    omega
  omega
theorem sw_Uall (hD0 : ∀ p, p < s → D (8 * p + p) = 0) (hv : 0 ≤ v) : sw_U D v s (2 ^ s - 1) = 2 ^ s - 1 := by
  apply Nat.eq_of_testBit_eq
  intro i
  rw [Nat.testBit_two_pow_sub_one]
  by_cases hi : i < s
  · rw [decide_eq_true hi]
    unfold sw_U
    rw [sv_or_bit]
    refine ⟨i, hi, ?_⟩
    rw [if_pos (by rw [Nat.testBit_two_pow_sub_one]; exact decide_eq_true hi)]
    unfold sw_V
    rw [sp_mask_bit, hD0 i hi]
    simp [hi, hv]
  · rw [decide_eq_false hi]
    cases hb : Nat.testBit (sw_U D v s (2 ^ s - 1)) i with
    | false => rfl
    | true =>
      exfalso
      unfold sw_U at hb
      rw [sv_or_bit] at hb
      obtain ⟨p, hp, h2⟩ := hb
      split at h2
      · unfold sw_V at h2
        rw [sp_mask_bit] at h2
        simp [hi] at h2
      · rw [Nat.zero_testBit] at h2
        cases h2
theorem sq_cviewFrom {m : Nat} (hTP : sp_T n P t) (hT : sq_CT I t s D B g v) (hm : m < 256) : mm_rn (d + 1) 69 [.inr (.inr (some t)), .inl ((m : Int))] n I L P = some (some (.inl ((sw_U D v s m : Nat))), n, I, L, P) := by
  have okt := hTP.ok
  obtain ⟨t0, t1, t2, t3, t4, t5, t6, t7, t8, t9, t10, t11⟩ := hTP
  obtain ⟨ht13, hs8, hs, hD, hDr, hB, hV, hg, hv⟩ := hT
  rw [eX9_viewFrom]
  simp (disch := (first | assumption | omega | exact nb_ix (by omega) (by assumption) (by omega) (by omega) | exact nb_ix (by omega) rfl (by omega) (by omega) | exact nb_ok (by omega) rfl | decide)) only [kX9_viewFrom, nb_add, nb_sub, nb_mul, Int.toNat_natCast, mm_kr_s, mm_kv_s, if_pos, if_neg, sq_tn, Int.toNat_zero, Int.reduceToNat, Int.reduceNeg, Nat.reduceAdd, Int.reduceAdd, Int.reduceEq, Int.reduceLT, Int.reduceLE, Int.zero_add, nb_ui_s, nb_ui_k, nb_ui_a, sp_min, sp_max, sp_bits]
  refine Eq.trans (nb_loop (fun k => mm_E d 69 4 [.inr (.inr (some t)), .inl ((m : Int)), .inl ((sv_or (fun p => if Nat.testBit m p = true then sw_V D v s p else 0) k : Nat)), .inl ((k : Nat))] [] [] n I L P) s (fun k hk => ?_)) ?_
  · have h1 : I (t + 4) k = (sw_V D v s k : Nat) := hV k hk
    have h2 := sw_V_lt (D := D) (v := v) (p := k) hs8
    have h3 := sw_U_part (D := D) (v := v) (m := m) hs8 k
    have hb := nb_tst0 m hm k (by omega)
    have e4 : sv_or (fun p => if Nat.testBit m p = true then sw_V D v s p else 0) (k + 1) = sv_or (fun p => if Nat.testBit m p = true then sw_V D v s p else 0) k ||| (if Nat.testBit m k = true then sw_V D v s k else 0) := rfl
    show mm_E _ _ _ _ _ _ _ _ _ _ = mm_E _ _ _ _ _ _ _ _ _ _
    rw [hX9_viewFrom_4, e4]
    generalize sv_or (fun p => if Nat.testBit m p = true then sw_V D v s p else 0) k = z at h3 ⊢
    cases hb2 : Nat.testBit m k with
    | true =>
      rw [hb2] at hb
      simp (disch := (first | assumption | omega | exact nb_ix (by omega) (by assumption) (by omega) (by omega) | exact nb_ix (by omega) rfl (by omega) (by omega) | exact nb_ok (by omega) rfl | decide)) only [kX9_viewFrom, hs, t10, h1, hb, nb_or, nb_add, nb_sub, nb_mul, Int.toNat_natCast, mm_kr_s, mm_kv_s, if_pos, if_neg, sq_tn, Int.toNat_zero, Int.reduceToNat, Int.reduceNeg, Nat.reduceAdd, Int.reduceAdd, Int.reduceEq, Int.reduceLT, Int.reduceLE, Int.zero_add, nb_ui_s, nb_ui_k, nb_ui_a, sp_min, sp_max, sp_bits]
      rfl
    | false =>
      rw [hb2] at hb
      simp (disch := (first | assumption | omega | exact nb_ix (by omega) (by assumption) (by omega) (by omega) | exact nb_ix (by omega) rfl (by omega) (by omega) | exact nb_ok (by omega) rfl | decide)) only [kX9_viewFrom, hs, hb, Nat.or_zero, nb_add, nb_sub, nb_mul, Int.toNat_natCast, mm_kr_s, mm_kv_s, if_pos, if_neg, sq_tn, Int.toNat_zero, Int.reduceToNat, Int.reduceNeg, Nat.reduceAdd, Int.reduceAdd, Int.reduceEq, Int.reduceLT, Int.reduceLE, Int.zero_add, nb_ui_s, nb_ui_k, nb_ui_a, sp_min, sp_max, sp_bits]
      rfl
  · rw [hX9_viewFrom_4]
    simp (disch := (first | assumption | omega | exact nb_ix (by omega) (by assumption) (by omega) (by omega) | exact nb_ix (by omega) rfl (by omega) (by omega) | exact nb_ok (by omega) rfl | decide)) only [kX9_viewFrom, hs, nb_add, nb_sub, nb_mul, Int.toNat_natCast, mm_kr_s, mm_kv_s, if_pos, if_neg, sq_tn, Int.toNat_zero, Int.reduceToNat, Int.reduceNeg, Nat.reduceAdd, Int.reduceAdd, Int.reduceEq, Int.reduceLT, Int.reduceLE, Int.zero_add, nb_ui_s, nb_ui_k, nb_ui_a, sp_min, sp_max, sp_bits]
    rfl
theorem oc_cover (hC : sq_CC n c P I t u s D B g v lw ev N) : mm_rn (d + 10) 125 [.inr (.inr (some 0))] n I L P = some (some (.inl (sa_cover D v s)), n, I, L, P) := by
  obtain ⟨hP, hW, hLW, hN, hok, hh⟩ := hC
  have ok0 := sq_ok0 hP
  have hs : I t 0 = (s : Int) := hW.2.1.2.2.1
  have hs8 : s ≤ 8 := hW.2.1.2.1
  have hTP := hW.1
  have hT := hW.2.1
  have okt := hTP.ok
  have hPt := hP.2.2.2.2.2.2.1
  rw [eX11_cover]
  unfold sa_cover
  by_cases h0 : s = 0
  · rw [if_neg (by omega)]
    simp (disch := (first | assumption | omega | exact nb_ix (by omega) (by assumption) (by omega) (by omega) | exact nb_ix (by omega) rfl (by omega) (by omega) | exact nb_ok (by omega) rfl | decide)) only [kX11_cover, sq_noTown hP hs, nb_add, nb_sub, nb_mul, Int.toNat_natCast, mm_kr_s, mm_kv_s, if_pos, if_neg, sq_tn, Int.toNat_zero, Int.reduceToNat, Int.reduceNeg, Nat.reduceAdd, Int.reduceAdd, Int.reduceEq, Int.reduceLT, Int.reduceLE, Int.zero_add, nb_ui_s, nb_ui_k, nb_ui_a, sp_min, sp_max, sp_bits]
  rw [if_pos (by omega)]
  obtain ⟨A, hA⟩ : ∃ A, 2 ^ s = A + 1 := ⟨2 ^ s - 1, by have := Nat.two_pow_pos s; omega⟩
  have hA1 : 1 ≤ A := by
    have := Nat.pow_le_pow_right (n := 2) (by omega) (show 1 ≤ s by omega)
    omega
  have hA8 : A < 256 := by
    have := sp_pow8 hs8
    omega
  have e1 := nb_shl0 s (by omega)
  rw [hA] at e1
  have eA : ((A + 1 : Nat) : Int) - 1 = (A : Int) := by omega
  rw [show 2 ^ s - 1 = A by omega, show 2 ^ s - 2 = A - 1 by omega]
  clear hA
  simp (disch := (first | assumption | omega | exact nb_ix (by omega) (by assumption) (by omega) (by omega) | exact nb_ix (by omega) rfl (by omega) (by omega) | exact nb_ok (by omega) rfl | decide)) only [kX11_cover, sq_noTown hP hs, hPt, hs, e1, eA, nb_add, nb_sub, nb_mul, Int.toNat_natCast, mm_kr_s, mm_kv_s, if_pos, if_neg, sq_tn, Int.toNat_zero, Int.reduceToNat, Int.reduceNeg, Nat.reduceAdd, Int.reduceAdd, Int.reduceEq, Int.reduceLT, Int.reduceLE, Int.zero_add, nb_ui_s, nb_ui_k, nb_ui_a, sp_min, sp_max, sp_bits]
  refine Eq.trans (nb_loop (fun k => mm_E (d + 9) 125 25 [.inr (.inr (some 0)), .inl ((A : Int)), .inl ((sw_cb D v s A k : Nat)), .inl (((k + 1 : Nat) : Int))] [] [] n I L P) (A - 1) (fun k hk => ?_)) ?_
  · have hle := sw_cb_le (D := D) (v := v) (s := s) (A := A) k (by omega)
    have hvf := sq_cviewFrom (d := d + 8) (L := L) hTP hT (show k + 1 < 256 by omega)
    have e4 : sw_cb D v s A (k + 1) = if sp_pc (k + 1) < sp_pc (sw_cb D v s A k) ∧ sw_U D v s (k + 1) = A then k + 1 else sw_cb D v s A k := rfl
    show mm_E _ _ _ _ _ _ _ _ _ _ = mm_E _ _ _ _ _ _ _ _ _ _
    rw [hX11_cover_25, e4]
    generalize sw_cb D v s A k = b at hle ⊢
    by_cases c1 : sp_pc (k + 1) < sp_pc b
    · by_cases c2 : sw_U D v s (k + 1) = A
      · rw [c2] at hvf
        rw [if_pos ⟨c1, c2⟩]
        simp (disch := (first | assumption | omega | exact nb_ix (by omega) (by assumption) (by omega) (by omega) | exact nb_ix (by omega) rfl (by omega) (by omega) | exact nb_ok (by omega) rfl | decide)) only [kX11_cover, hPt, hvf, nb_add, nb_sub, nb_mul, Int.toNat_natCast, mm_kr_s, mm_kv_s, if_pos, if_neg, sq_tn, Int.toNat_zero, Int.reduceToNat, Int.reduceNeg, Nat.reduceAdd, Int.reduceAdd, Int.reduceEq, Int.reduceLT, Int.reduceLE, Int.zero_add, nb_ui_s, nb_ui_k, nb_ui_a, sp_min, sp_max, sp_bits]
        rfl
      · have c3 : ¬ (sw_U D v s (k + 1) : Int) = (A : Int) := by omega
        rw [if_neg (fun q => c2 q.2)]
        simp (disch := (first | assumption | omega | exact nb_ix (by omega) (by assumption) (by omega) (by omega) | exact nb_ix (by omega) rfl (by omega) (by omega) | exact nb_ok (by omega) rfl | decide)) only [kX11_cover, hPt, hvf, nb_add, nb_sub, nb_mul, Int.toNat_natCast, mm_kr_s, mm_kv_s, if_pos, if_neg, sq_tn, Int.toNat_zero, Int.reduceToNat, Int.reduceNeg, Nat.reduceAdd, Int.reduceAdd, Int.reduceEq, Int.reduceLT, Int.reduceLE, Int.zero_add, nb_ui_s, nb_ui_k, nb_ui_a, sp_min, sp_max, sp_bits]
        rfl
    · rw [if_neg (fun q => c1 q.1)]
      simp (disch := (first | assumption | omega | exact nb_ix (by omega) (by assumption) (by omega) (by omega) | exact nb_ix (by omega) rfl (by omega) (by omega) | exact nb_ok (by omega) rfl | decide)) only [kX11_cover, nb_add, nb_sub, nb_mul, Int.toNat_natCast, mm_kr_s, mm_kv_s, if_pos, if_neg, sq_tn, Int.toNat_zero, Int.reduceToNat, Int.reduceNeg, Nat.reduceAdd, Int.reduceAdd, Int.reduceEq, Int.reduceLT, Int.reduceLE, Int.zero_add, nb_ui_s, nb_ui_k, nb_ui_a, sp_min, sp_max, sp_bits]
      rfl
  · rw [hX11_cover_25]
    simp (disch := (first | assumption | omega | exact nb_ix (by omega) (by assumption) (by omega) (by omega) | exact nb_ix (by omega) rfl (by omega) (by omega) | exact nb_ok (by omega) rfl | decide)) only [kX11_cover, nb_add, nb_sub, nb_mul, Int.toNat_natCast, mm_kr_s, mm_kv_s, if_pos, if_neg, sq_tn, Int.toNat_zero, Int.reduceToNat, Int.reduceNeg, Nat.reduceAdd, Int.reduceAdd, Int.reduceEq, Int.reduceLT, Int.reduceLE, Int.zero_add, nb_ui_s, nb_ui_k, nb_ui_a, sp_min, sp_max, sp_bits]
theorem om_cover (hC : sq_MM n c P I s D B g v ev N) (hD0 : ∀ p, p < s → D (8 * p + p) = 0) (hv : 0 ≤ v) : mm_rn (d + 10) 238 [.inr (.inr (some 239))] n I L P = some (some (.inl (sa_cover D v s)), n, I, L, P) := by
  obtain ⟨hW, hN, hok, hh⟩ := hC
  have ok := hW.1.ok
  have hs : I 239 26 = (s : Int) := hW.2.1.2.1
  have hs8 : s ≤ 8 := hW.2.1.1
  rw [eX12_cover]
  unfold sa_cover
  by_cases h0 : s = 0
  · rw [if_neg (by omega)]
    simp (disch := (first | assumption | omega | exact nb_ix (by omega) (by assumption) (by omega) (by omega) | exact nb_ix (by omega) rfl (by omega) (by omega) | exact nb_ok (by omega) rfl | decide)) only [kX12_cover, hs, nb_add, nb_sub, nb_mul, Int.toNat_natCast, mm_kr_s, mm_kv_s, if_pos, if_neg, sq_tn, Int.toNat_zero, Int.reduceToNat, Int.reduceNeg, Nat.reduceAdd, Int.reduceAdd, Int.reduceEq, Int.reduceLT, Int.reduceLE, Int.zero_add, nb_ui_s, nb_ui_k, nb_ui_a, sp_min, sp_max, sp_bits]
  have h0' : ¬ (s : Int) = 0 := by omega
  rw [if_pos (by omega)]
  have hU0 := sw_U0 (D := D) (v := v) (s := s) (by omega)
  have hUA := sw_Uall (s := s) hD0 hv
  have hpc := sw_pcs s (by omega)
  obtain ⟨A, hA⟩ : ∃ A, 2 ^ s = A + 1 := ⟨2 ^ s - 1, by have := Nat.two_pow_pos s; omega⟩
  have hA1 : 1 ≤ A := by
    have := Nat.pow_le_pow_right (n := 2) (by omega) (show 1 ≤ s by omega)
    omega
  have hA8 : A < 256 := by
    have := sp_pow8 hs8
    omega
  have e1 := nb_shl0 s (by omega)
  rw [hA] at e1
  have eA : ((A + 1 : Nat) : Int) - 1 = (A : Int) := by omega
  rw [show 2 ^ s - 1 = A by omega] at hU0 hUA hpc
  rw [show 2 ^ s - 1 = A by omega, show 2 ^ s - 2 = A - 1 by omega]
  clear hA
  simp (disch := (first | assumption | omega | exact nb_ix (by omega) (by assumption) (by omega) (by omega) | exact nb_ix (by omega) rfl (by omega) (by omega) | exact nb_ok (by omega) rfl | decide)) only [kX12_cover, hs, nb_add, nb_sub, nb_mul, Int.toNat_natCast, mm_kr_s, mm_kv_s, if_pos, if_neg, sq_tn, Int.toNat_zero, Int.reduceToNat, Int.reduceNeg, Nat.reduceAdd, Int.reduceAdd, Int.reduceEq, Int.reduceLT, Int.reduceLE, Int.zero_add, nb_ui_s, nb_ui_k, nb_ui_a, sp_min, sp_max, sp_bits]
  have inner : ∀ (x : Int) (m : Nat) (x3 x4 : mm_V), m < 256 → mm_E (d + 9) 238 13 [.inr (.inr (some 239)), .inl x, .inl ((m : Nat)), x3, x4] [] [] n I L P = if A < m then some (some (.inl x), n, I, L, P) else mm_E (d + 9) 238 65 [.inr (.inr (some 239)), .inl x, .inl ((m : Nat)), .inl ((sw_U D v s m : Nat)), .inl ((s : Nat))] [] [] n I L P := by
    intro x m x3 x4 hm
    rw [hX12_cover_13]
    by_cases hAm : A < m
    · rw [if_pos hAm]
      simp (disch := (first | assumption | omega | exact nb_ix (by omega) (by assumption) (by omega) (by omega) | exact nb_ix (by omega) rfl (by omega) (by omega) | exact nb_ok (by omega) rfl | decide)) only [kX12_cover, hs, e1, nb_add, nb_sub, nb_mul, Int.toNat_natCast, mm_kr_s, mm_kv_s, if_pos, if_neg, sq_tn, Int.toNat_zero, Int.reduceToNat, Int.reduceNeg, Nat.reduceAdd, Int.reduceAdd, Int.reduceEq, Int.reduceLT, Int.reduceLE, Int.zero_add, nb_ui_s, nb_ui_k, nb_ui_a, sp_min, sp_max, sp_bits]
    · rw [if_neg hAm]
      simp (disch := (first | assumption | omega | exact nb_ix (by omega) (by assumption) (by omega) (by omega) | exact nb_ix (by omega) rfl (by omega) (by omega) | exact nb_ok (by omega) rfl | decide)) only [kX12_cover, hs, e1, nb_add, nb_sub, nb_mul, Int.toNat_natCast, mm_kr_s, mm_kv_s, if_pos, if_neg, sq_tn, Int.toNat_zero, Int.reduceToNat, Int.reduceNeg, Nat.reduceAdd, Int.reduceAdd, Int.reduceEq, Int.reduceLT, Int.reduceLE, Int.zero_add, nb_ui_s, nb_ui_k, nb_ui_a, sp_min, sp_max, sp_bits]
      refine Eq.trans (nb_loop (fun k => mm_E (d + 9) 238 28 [.inr (.inr (some 239)), .inl x, .inl ((m : Nat)), .inl ((sv_or (fun p => if Nat.testBit m p = true then sw_V D v s p else 0) k : Nat)), .inl ((k : Nat))] [] [] n I L P) s (fun k hk => ?_)) ?_
      · have h2 := sw_V_lt (D := D) (v := v) (p := k) hs8
        have h3 := sw_U_part (D := D) (v := v) (m := m) hs8 k
        have hsv := sq_mseenV (d := d + 7) (L := L) hW (show k < 8 by omega)
        have e4 : sv_or (fun p => if Nat.testBit m p = true then sw_V D v s p else 0) (k + 1) = sv_or (fun p => if Nat.testBit m p = true then sw_V D v s p else 0) k ||| (if Nat.testBit m k = true then sw_V D v s k else 0) := rfl
        show mm_E _ _ _ _ _ _ _ _ _ _ = mm_E _ _ _ _ _ _ _ _ _ _
        rw [hX12_cover_28, e4]
        generalize sv_or (fun p => if Nat.testBit m p = true then sw_V D v s p else 0) k = z at h3 ⊢
        cases hb2 : Nat.testBit m k with
        | true =>
          simp (disch := (first | assumption | omega | exact nb_ix (by omega) (by assumption) (by omega) (by omega) | exact nb_ix (by omega) rfl (by omega) (by omega) | exact nb_ok (by omega) rfl | decide)) only [kX12_cover, hs, sp_mhas, hb2, hsv, nb_or, nb_add, nb_sub, nb_mul, Int.toNat_natCast, mm_kr_s, mm_kv_s, if_pos, if_neg, sq_tn, Int.toNat_zero, Int.reduceToNat, Int.reduceNeg, Nat.reduceAdd, Int.reduceAdd, Int.reduceEq, Int.reduceLT, Int.reduceLE, Int.zero_add, nb_ui_s, nb_ui_k, nb_ui_a, sp_min, sp_max, sp_bits]
          rfl
        | false =>
          simp (disch := (first | assumption | omega | exact nb_ix (by omega) (by assumption) (by omega) (by omega) | exact nb_ix (by omega) rfl (by omega) (by omega) | exact nb_ok (by omega) rfl | decide)) only [kX12_cover, hs, sp_mhas, hb2, sp_or0, Nat.or_zero, nb_add, nb_sub, nb_mul, Int.toNat_natCast, mm_kr_s, mm_kv_s, if_pos, if_neg, sq_tn, Int.toNat_zero, Int.reduceToNat, Int.reduceNeg, Nat.reduceAdd, Int.reduceAdd, Int.reduceEq, Int.reduceLT, Int.reduceLE, Int.zero_add, nb_ui_s, nb_ui_k, nb_ui_a, sp_min, sp_max, sp_bits]
          rfl
      · have e6 : sv_or (fun p => if Nat.testBit m p = true then sw_V D v s p else 0) s = sw_U D v s m := rfl
        rw [e6, hX12_cover_28]
        simp (disch := (first | assumption | omega | exact nb_ix (by omega) (by assumption) (by omega) (by omega) | exact nb_ix (by omega) rfl (by omega) (by omega) | exact nb_ok (by omega) rfl | decide)) only [kX12_cover, hs, e1, nb_add, nb_sub, nb_mul, Int.toNat_natCast, mm_kr_s, mm_kv_s, if_pos, if_neg, sq_tn, Int.toNat_zero, Int.reduceToNat, Int.reduceNeg, Nat.reduceAdd, Int.reduceAdd, Int.reduceEq, Int.reduceLT, Int.reduceLE, Int.zero_add, nb_ui_s, nb_ui_k, nb_ui_a, sp_min, sp_max, sp_bits]
  have key : ∀ k, k ≤ A + 1 → ∃ (x : Int) (x3 x4 : mm_V), ((k = 0 ∧ x = -1) ∨ (1 ≤ k ∧ k ≤ A ∧ ((x = -1 ∧ sw_cb D v s A (k - 1) = A) ∨ (x = (sw_cb D v s A (k - 1) : Nat) ∧ sw_cb D v s A (k - 1) < A))) ∨ (k = A + 1 ∧ x = (sw_cb D v s A (A - 1) : Nat))) ∧ mm_E (d + 9) 238 13 [.inr (.inr (some 239)), .inl (-1), .inl 0, mm_junk, mm_junk] [] [] n I L P = mm_E (d + 9) 238 13 [.inr (.inr (some 239)), .inl x, .inl ((k : Nat)), x3, x4] [] [] n I L P := by
    intro k
    induction k with
    | zero => intro _; exact ⟨-1, mm_junk, mm_junk, Or.inl ⟨rfl, rfl⟩, rfl⟩
    | succ k ih =>
      intro hk
      obtain ⟨x, x3, x4, hx, e⟩ := ih (by omega)
      have h65 := inner x k x3 x4 (by omega)
      rw [if_neg (by omega)] at h65
      by_cases hc : sw_U D v s k = A
      · -- it sees all
        have hk0 : ¬ k = 0 := by
          intro q
          rw [q] at hc
          exact hU0 hc
        obtain ⟨j, rfl⟩ : ∃ j, k = j + 1 := ⟨k - 1, by omega⟩
        have hx2 : (x = -1 ∧ sw_cb D v s A j = A) ∨ (x = (sw_cb D v s A j : Nat) ∧ sw_cb D v s A j < A) := by
          rcases hx with h | h | h
          · omega
          · exact h.2.2
          · omega
        have e4 : sw_cb D v s A (j + 1) = if sp_pc (j + 1) < sp_pc (sw_cb D v s A j) ∧ sw_U D v s (j + 1) = A then j + 1 else sw_cb D v s A j := rfl
        rcases hx2 with ⟨hx1, hcb⟩ | ⟨hx1, hcb⟩
        · refine ⟨((j + 1 : Nat) : Int), .inl ((A : Nat)), .inl 1, ?_, e.trans (h65.trans ?_)⟩
          · by_cases hjA : j + 1 = A
            · right; right
              refine ⟨by omega, ?_⟩
              rw [show A - 1 = j by omega, hcb]
              omega
            · right; left
              refine ⟨by omega, by omega, Or.inr ?_⟩
              rw [Nat.add_sub_cancel, e4, hcb, if_pos ⟨hpc (j + 1) (by omega), hc⟩]
              exact ⟨rfl, by omega⟩
          · rw [hx1, hc]
            simp (disch := (first | assumption | omega | exact nb_ix (by omega) (by assumption) (by omega) (by omega) | exact nb_ix (by omega) rfl (by omega) (by omega) | exact nb_ok (by omega) rfl | decide)) only [kX12_cover, hs, e1, eA, nb_add, nb_sub, nb_mul, Int.toNat_natCast, mm_kr_s, mm_kv_s, if_pos, if_neg, sq_tn, Int.toNat_zero, Int.reduceToNat, Int.reduceNeg, Nat.reduceAdd, Int.reduceAdd, Int.reduceEq, Int.reduceLT, Int.reduceLE, Int.zero_add, nb_ui_s, nb_ui_k, nb_ui_a, sp_min, sp_max, sp_bits]
            rfl
        · have hx9 : ¬ ((sw_cb D v s A j : Nat) : Int) = -1 := by omega
          have hj8 : j + 1 < 256 := by omega
          have hb8 : sw_cb D v s A j < 256 := by omega
          by_cases hlt : sp_pc (j + 1) < sp_pc (sw_cb D v s A j)
          · have hjA : j + 1 ≠ A := by
              intro q
              have := hpc _ hcb
              rw [q] at hlt
              omega
            refine ⟨((j + 1 : Nat) : Int), .inl ((A : Nat)), .inl 1, ?_, e.trans (h65.trans ?_)⟩
            · right; left
              refine ⟨by omega, by omega, Or.inr ?_⟩
              rw [Nat.add_sub_cancel, e4, if_pos ⟨hlt, hc⟩]
              exact ⟨rfl, by omega⟩
            · rw [hx1, hc]
              generalize sw_cb D v s A j = b at *
              simp (disch := (first | assumption | omega | exact nb_ix (by omega) (by assumption) (by omega) (by omega) | exact nb_ix (by omega) rfl (by omega) (by omega) | exact nb_ok (by omega) rfl | decide)) only [kX12_cover, hs, e1, eA, nb_add, nb_sub, nb_mul, Int.toNat_natCast, mm_kr_s, mm_kv_s, if_pos, if_neg, sq_tn, Int.toNat_zero, Int.reduceToNat, Int.reduceNeg, Nat.reduceAdd, Int.reduceAdd, Int.reduceEq, Int.reduceLT, Int.reduceLE, Int.zero_add, nb_ui_s, nb_ui_k, nb_ui_a, sp_min, sp_max, sp_bits]
              rfl
          · refine ⟨x, .inl ((A : Nat)), .inl 1, ?_, e.trans (h65.trans ?_)⟩
            · by_cases hjA : j + 1 = A
              · right; right
                refine ⟨by omega, ?_⟩
                rw [show A - 1 = j by omega]
                exact hx1
              · right; left
                refine ⟨by omega, by omega, Or.inr ?_⟩
                rw [Nat.add_sub_cancel, e4, if_neg (fun q => hlt q.1)]
                exact ⟨hx1, hcb⟩
            · rw [hx1, hc]
              generalize sw_cb D v s A j = b at *
              simp (disch := (first | assumption | omega | exact nb_ix (by omega) (by assumption) (by omega) (by omega) | exact nb_ix (by omega) rfl (by omega) (by omega) | exact nb_ok (by omega) rfl | decide)) only [kX12_cover, hs, e1, eA, nb_add, nb_sub, nb_mul, Int.toNat_natCast, mm_kr_s, mm_kv_s, if_pos, if_neg, sq_tn, Int.toNat_zero, Int.reduceToNat, Int.reduceNeg, Nat.reduceAdd, Int.reduceAdd, Int.reduceEq, Int.reduceLT, Int.reduceLE, Int.zero_add, nb_ui_s, nb_ui_k, nb_ui_a, sp_min, sp_max, sp_bits]
              rfl
      · have hkA : k ≠ A := by
          intro q
          rw [q] at hc
          exact hc hUA
        have hc2 : ¬ (sw_U D v s k : Int) = (A : Int) := by omega
        refine ⟨x, .inl ((sw_U D v s k : Nat)), .inl 0, ?_, e.trans (h65.trans ?_)⟩
        · cases k with
          | zero =>
            right; left
            refine ⟨by omega, by omega, Or.inl ⟨?_, rfl⟩⟩
            rcases hx with h | h | h
            · exact h.2
            · omega
            · omega
          | succ j =>
            have e4 : sw_cb D v s A (j + 1) = sw_cb D v s A j := by
              show (if _ then _ else _) = _
              rw [if_neg (fun q => hc q.2)]
            right; left
            refine ⟨by omega, by omega, ?_⟩
            rw [Nat.add_sub_cancel, e4]
            rcases hx with h | h | h
            · omega
            · exact h.2.2
            · omega
        · simp (disch := (first | assumption | omega | exact nb_ix (by omega) (by assumption) (by omega) (by omega) | exact nb_ix (by omega) rfl (by omega) (by omega) | exact nb_ok (by omega) rfl | decide)) only [kX12_cover, hs, e1, eA, nb_add, nb_sub, nb_mul, Int.toNat_natCast, mm_kr_s, mm_kv_s, if_pos, if_neg, sq_tn, Int.toNat_zero, Int.reduceToNat, Int.reduceNeg, Nat.reduceAdd, Int.reduceAdd, Int.reduceEq, Int.reduceLT, Int.reduceLE, Int.zero_add, nb_ui_s, nb_ui_k, nb_ui_a, sp_min, sp_max, sp_bits]
          rfl
  obtain ⟨x, x3, x4, hx, e⟩ := key (A + 1) (Nat.le_refl _)
  refine e.trans ?_
  have hx2 : x = (sw_cb D v s A (A - 1) : Nat) := by
    rcases hx with h | h | h
    · omega
    · omega
    · exact h.2
  rw [hX12_cover_13]
  simp (disch := (first | assumption | omega | exact nb_ix (by omega) (by assumption) (by omega) (by omega) | exact nb_ix (by omega) rfl (by omega) (by omega) | exact nb_ok (by omega) rfl | decide)) only [kX12_cover, hs, e1, nb_add, nb_sub, nb_mul, Int.toNat_natCast, mm_kr_s, mm_kv_s, if_pos, if_neg, sq_tn, Int.toNat_zero, Int.reduceToNat, Int.reduceNeg, Nat.reduceAdd, Int.reduceAdd, Int.reduceEq, Int.reduceLT, Int.reduceLE, Int.zero_add, nb_ui_s, nb_ui_k, nb_ui_a, sp_min, sp_max, sp_bits]
  rw [hx2]
end CV
