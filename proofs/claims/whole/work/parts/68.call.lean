/-! calls: when to heed one -/
def sw_cv (K N : Nat → Int) (s : Nat) : Nat → Int
  | 0 => 0
  | m + 1 => if sp_sum K s = 0 then 0 else Int.tdiv (sp_sum (fun p => K p * max (1000 * N p) (sw_cv K N s m)) s) (sp_sum K s)
theorem sp_sum_le {f g : Nat → Int} : ∀ k, (∀ j, j < k → f j ≤ g j) → sp_sum f k ≤ sp_sum g k := by
  intro k
  induction k with
  | zero => intro _; exact Int.le_refl _
  | succ k ih =>
    intro h
    have h1 := ih (fun j hj => h j (by omega))
    have h2 := h k (by omega)
    unfold sp_sum
    omega
theorem sp_sum_mul {f : Nat → Int} (c : Int) : ∀ k, sp_sum (fun j => f j * c) k = sp_sum f k * c := by
  intro k
  induction k with
  | zero => simp [sp_sum]
  | succ k ih => unfold sp_sum; rw [ih, Int.add_mul]
theorem sp_sum_congr {f g : Nat → Int} : ∀ k, (∀ j, j < k → f j = g j) → sp_sum f k = sp_sum g k := by
  intro k
  induction k with
  | zero => intro _; rfl
  | succ k ih => intro h; unfold sp_sum; rw [ih (fun j hj => h j (by omega)), h k (by omega)]
theorem sw_kx {k x : Int} (hk : 0 ≤ k ∧ k ≤ 9) (hx : 0 ≤ x ∧ x ≤ 99000) : 0 ≤ k * x ∧ k * x ≤ k * 99000 := by
  refine ⟨Int.mul_nonneg hk.1 hx.1, Int.mul_le_mul_of_nonneg_left hx.2 hk.1⟩
theorem sw_cv_rg {K N : Nat → Int} {s : Nat} (hK : ∀ p, p < s → 0 ≤ K p ∧ K p ≤ 9) (hN : ∀ p, p < s → 0 ≤ N p ∧ N p ≤ 99) : ∀ m, 0 ≤ sw_cv K N s m ∧ sw_cv K N s m ≤ 99000 := by
  intro m
  induction m with
  | zero => simp [sw_cv]
  | succ m ih =>
    unfold sw_cv
    split
    · omega
    · rename_i hne
      have h0 := (sp_sum_rg (f := K) (M := 9) (by omega) s hK).1
      have h1 : 0 ≤ sp_sum (fun p => K p * max (1000 * N p) (sw_cv K N s m)) s := by
        have := sp_sum_le (f := fun _ => 0) (g := fun p => K p * max (1000 * N p) (sw_cv K N s m)) s (fun j hj => (sw_kx (hK j hj) (by have := hN j hj; omega)).1)
        have e : sp_sum (fun _ => (0 : Int)) s = 0 := by
          have := sp_sum_mul (f := fun _ => (0 : Int)) 0 s
          simpa using this
        omega
      have h2 : sp_sum (fun p => K p * max (1000 * N p) (sw_cv K N s m)) s ≤ 99000 * sp_sum K s := by
        have := sp_sum_le (f := fun p => K p * max (1000 * N p) (sw_cv K N s m)) (g := fun p => K p * 99000) s (fun j hj => (sw_kx (hK j hj) (by have := hN j hj; omega)).2)
        rw [sp_sum_mul] at this
        rw [Int.mul_comm]
        exact this
      rw [Int.tdiv_eq_ediv_of_nonneg h1]
      exact ⟨Int.ediv_nonneg h1 h0, Int.ediv_le_of_le_mul (by omega) h2⟩
def sw_hd (K N : Nat → Int) (s : Nat) (z : Int) : Nat := sp_mask (fun p => decide (0 < K p) && decide (z ≤ 1000 * N p)) s
def sa_call (K N : Nat → Int) (s : Nat) (x w : Int) : Int := if 0 < s ∧ (1 ≤ x ∧ x ≤ 40) ∧ 0 ≤ w ∧ w ≤ 1 then (if w = 0 then sw_cv K N s x.toNat else (sw_hd K N s (sw_cv K N s (x.toNat - 1)) : Nat)) else -1
section CL
variable {n c t u s d : Nat} {I L : mm_I} {P : mm_P} {D : Nat → Int} {B : Nat → Nat} {g v : Int} {lw : Option Nat} {ev : sv_E} {N K : Nat → Int}
theorem sw_part {K N : Nat → Int} {s : Nat} (hK : ∀ p, p < s → 0 ≤ K p ∧ K p ≤ 9) (hN : ∀ p, p < s → 0 ≤ N p ∧ N p ≤ 99) {z : Int} (hz : 0 ≤ z ∧ z ≤ 99000) (k : Nat) (hk : k ≤ s) : 0 ≤ sp_sum (fun p => K p * max (1000 * N p) z) k ∧ sp_sum (fun p => K p * max (1000 * N p) z) k ≤ k * 891000 :=
  sp_sum_rg (by omega) k (fun j hj => by
    have h1 := hK j (by omega)
    have h2 := sw_kx (x := max (1000 * N j) z) h1 (by have := hN j (by omega); omega)
    omega)
set_option maxHeartbeats 2000000 in
theorem sq_cval {m : Nat} (hP : sq_P n P t u) (hs8 : s ≤ 8) (hs : I t 0 = (s : Int)) (hKr : ∀ p, p < s → I (t + 2) p = K p) (hK : ∀ p, p < s → 0 ≤ K p ∧ K p ≤ 9) (hN : sq_cN I 40 N) (hNr : ∀ p, p < s → 0 ≤ N p ∧ N p ≤ 99) (hm : m ≤ 40) : mm_rn (d + 2) 122 [.inr (.inr (some 0)), .inl ((m : Int))] n I L P = some (some (.inl (sw_cv K N s m)), n, I, L, P) := by
  have ok0 := sq_ok0 hP
  have okt := hP.2.2.2.1.ok
  have hC := hP.2.2.2.2.2.2.2.1
  have hPt := hP.2.2.2.2.2.2.1
  have hn := hP.1
  have hN40 := hP.2.2.2.2.2.1 40 (by omega)
  have ok40 := hN40.ok
  obtain ⟨a0, a1, a2, a3, a4, a5, a6, a7⟩ := hN40
  obtain ⟨t0, t1, t2, t3, t4, t5, t6, t7, t8, t9, t10, t11⟩ := hP.2.2.2.1
  have n1 := (sq_cN_iff.1 hN).1
  rw [eX11_callValue]
  simp (disch := (first | assumption | omega | exact nb_ix (by omega) (by assumption) (by omega) (by omega) | exact nb_ix (by omega) rfl (by omega) (by omega) | exact nb_ok (by omega) rfl | decide)) only [kX11_callValue, nb_add, nb_sub, nb_mul, Int.toNat_natCast, mm_kr_s, mm_kv_s, if_pos, if_neg, sq_tn, Int.toNat_zero, Int.reduceToNat, Int.reduceNeg, Nat.reduceAdd, Int.reduceAdd, Int.reduceEq, Int.reduceLT, Int.reduceLE, Int.zero_add, nb_ui_s, nb_ui_k, nb_ui_a, sp_min, sp_max, sp_bits]
  refine Eq.trans (nb_loop (fun k => mm_E (d + 1) 122 4 [.inr (.inr (some 0)), .inl ((m : Int)), .inl (sp_sum K k), .inl ((k : Nat)), mm_junk, mm_junk, mm_junk] [] [] n I L P) s (fun k hk => ?_)) ?_
  · have h1 := hKr k hk
    have h2 := hK k hk
    have h3 := sp_sum_rg (f := K) (M := 9) (by omega) k (fun j hj => hK j (by omega))
    have e4 : sp_sum K k + K k = sp_sum K (k + 1) := rfl
    show mm_E _ _ _ _ _ _ _ _ _ _ = _
    rw [hX11_callValue_4]
    simp (disch := (first | assumption | omega | exact nb_ix (by omega) (by assumption) (by omega) (by omega) | exact nb_ix (by omega) rfl (by omega) (by omega) | exact nb_ok (by omega) rfl | decide)) only [kX11_callValue, hPt, hs, t8, h1, e4, nb_add, nb_sub, nb_mul, Int.toNat_natCast, mm_kr_s, mm_kv_s, if_pos, if_neg, sq_tn, Int.toNat_zero, Int.reduceToNat, Int.reduceNeg, Nat.reduceAdd, Int.reduceAdd, Int.reduceEq, Int.reduceLT, Int.reduceLE, Int.zero_add, nb_ui_s, nb_ui_k, nb_ui_a, sp_min, sp_max, sp_bits]
    rfl
  have hall := sp_sum_rg (f := K) (M := 9) (by omega) s hK
  rw [hX11_callValue_4]
  simp (disch := (first | assumption | omega | exact nb_ix (by omega) (by assumption) (by omega) (by omega) | exact nb_ix (by omega) rfl (by omega) (by omega) | exact nb_ok (by omega) rfl | decide)) only [kX11_callValue, hPt, hs, nb_add, nb_sub, nb_mul, Int.toNat_natCast, mm_kr_s, mm_kv_s, if_pos, if_neg, sq_tn, Int.toNat_zero, Int.reduceToNat, Int.reduceNeg, Nat.reduceAdd, Int.reduceAdd, Int.reduceEq, Int.reduceLT, Int.reduceLE, Int.zero_add, nb_ui_s, nb_ui_k, nb_ui_a, sp_min, sp_max, sp_bits]
  by_cases h0 : sp_sum K s = 0
  · have hz : ∀ m, sw_cv K N s m = 0 := by
      intro m
      cases m with
      | zero => rfl
      | succ m => unfold sw_cv; rw [if_pos h0]
    rw [hX11_callValue_38, hz]
    by_cases hm0 : m = 0
    · subst hm0
      simp (disch := (first | assumption | omega | exact nb_ix (by omega) (by assumption) (by omega) (by omega) | exact nb_ix (by omega) rfl (by omega) (by omega) | exact nb_ok (by omega) rfl | decide)) only [kX11_callValue, nb_add, nb_sub, nb_mul, Int.toNat_natCast, mm_kr_s, mm_kv_s, if_pos, if_neg, sq_tn, Int.toNat_zero, Int.reduceToNat, Int.reduceNeg, Nat.reduceAdd, Int.reduceAdd, Int.reduceEq, Int.reduceLT, Int.reduceLE, Int.zero_add, nb_ui_s, nb_ui_k, nb_ui_a, sp_min, sp_max, sp_bits]
    · simp (disch := (first | assumption | omega | exact nb_ix (by omega) (by assumption) (by omega) (by omega) | exact nb_ix (by omega) rfl (by omega) (by omega) | exact nb_ok (by omega) rfl | decide)) only [kX11_callValue, nb_add, nb_sub, nb_mul, Int.toNat_natCast, mm_kr_s, mm_kv_s, if_pos, if_neg, sq_tn, Int.toNat_zero, Int.reduceToNat, Int.reduceNeg, Nat.reduceAdd, Int.reduceAdd, Int.reduceEq, Int.reduceLT, Int.reduceLE, Int.zero_add, nb_ui_s, nb_ui_k, nb_ui_a, sp_min, sp_max, sp_bits]
  · have key : ∀ j, j ≤ m → ∃ x5 x6, mm_E (d + 1) 122 38 [.inr (.inr (some 0)), .inl ((m : Int)), .inl (sp_sum K s), .inl 0, .inl 0, mm_junk, mm_junk] [] [] n I L P = mm_E (d + 1) 122 38 [.inr (.inr (some 0)), .inl ((m : Int)), .inl (sp_sum K s), .inl (sw_cv K N s j), .inl ((j : Nat)), x5, x6] [] [] n I L P := by
      intro j
      induction j with
      | zero => intro _; exact ⟨_, _, rfl⟩
      | succ j ih =>
        intro hj
        obtain ⟨y5, y6, e⟩ := ih (by omega)
        have hv := sw_cv_rg hK hNr j
        refine ⟨.inl (sp_sum (fun p => K p * max (1000 * N p) (sw_cv K N s j)) s), .inl ((s : Nat)), e.trans ?_⟩
        rw [hX11_callValue_38]
        simp (disch := (first | assumption | omega | exact nb_ix (by omega) (by assumption) (by omega) (by omega) | exact nb_ix (by omega) rfl (by omega) (by omega) | exact nb_ok (by omega) rfl | decide)) only [kX11_callValue, nb_add, nb_sub, nb_mul, Int.toNat_natCast, mm_kr_s, mm_kv_s, if_pos, if_neg, sq_tn, Int.toNat_zero, Int.reduceToNat, Int.reduceNeg, Nat.reduceAdd, Int.reduceAdd, Int.reduceEq, Int.reduceLT, Int.reduceLE, Int.zero_add, nb_ui_s, nb_ui_k, nb_ui_a, sp_min, sp_max, sp_bits]
        refine Eq.trans (nb_loop (fun k => mm_E (d + 1) 122 54 [.inr (.inr (some 0)), .inl ((m : Int)), .inl (sp_sum K s), .inl (sw_cv K N s j), .inl ((j : Nat)), .inl (sp_sum (fun p => K p * max (1000 * N p) (sw_cv K N s j)) k), .inl ((k : Nat))] [] [] n I L P) s (fun k hk => ?_)) ?_
        · have h1 := hKr k hk
          have h2 := hK k hk
          have h3 := n1 k (by omega)
          have h4 := hNr k hk
          have h5 := sw_part hK hNr hv k (by omega)
          have h6 := sw_kx (x := max (1000 * N k) (sw_cv K N s j)) h2 (by omega)
          have e4 : sp_sum (fun p => K p * max (1000 * N p) (sw_cv K N s j)) k + K k * max (1000 * N k) (sw_cv K N s j) = sp_sum (fun p => K p * max (1000 * N p) (sw_cv K N s j)) (k + 1) := rfl
          show mm_E _ _ _ _ _ _ _ _ _ _ = _
          rw [hX11_callValue_54]
          simp (disch := (first | assumption | omega | exact nb_ix (by omega) (by assumption) (by omega) (by omega) | exact nb_ix (by omega) rfl (by omega) (by omega) | exact nb_ok (by omega) rfl | decide)) only [kX11_callValue, hPt, hC, hs, t8, a5, h1, h3, e4, nb_add, nb_sub, nb_mul, Int.toNat_natCast, mm_kr_s, mm_kv_s, if_pos, if_neg, sq_tn, Int.toNat_zero, Int.reduceToNat, Int.reduceNeg, Nat.reduceAdd, Int.reduceAdd, Int.reduceEq, Int.reduceLT, Int.reduceLE, Int.zero_add, nb_ui_s, nb_ui_k, nb_ui_a, sp_min, sp_max, sp_bits]
          rfl
        · have hv2 := sw_cv_rg hK hNr (j + 1)
          have e5 : sw_cv K N s (j + 1) = Int.tdiv (sp_sum (fun p => K p * max (1000 * N p) (sw_cv K N s j)) s) (sp_sum K s) := by
            show (if _ then _ else _) = _
            rw [if_neg h0]
          have e6 : mm_w (Int.tdiv (sp_sum (fun p => K p * max (1000 * N p) (sw_cv K N s j)) s) (sp_sum K s)) = sw_cv K N s (j + 1) := by
            rw [← e5]
            exact nb_w (by omega) (by omega)
          rw [hX11_callValue_54]
          simp (disch := (first | assumption | omega | exact nb_ix (by omega) (by assumption) (by omega) (by omega) | exact nb_ix (by omega) rfl (by omega) (by omega) | exact nb_ok (by omega) rfl | decide)) only [kX11_callValue, hPt, hs, e6, nb_add, nb_sub, nb_mul, Int.toNat_natCast, mm_kr_s, mm_kv_s, if_pos, if_neg, sq_tn, Int.toNat_zero, Int.reduceToNat, Int.reduceNeg, Nat.reduceAdd, Int.reduceAdd, Int.reduceEq, Int.reduceLT, Int.reduceLE, Int.zero_add, nb_ui_s, nb_ui_k, nb_ui_a, sp_min, sp_max, sp_bits]
          rfl
    obtain ⟨x5, x6, e⟩ := key m (Nat.le_refl m)
    refine e.trans ?_
    rw [hX11_callValue_38]
    simp (disch := (first | assumption | omega | exact nb_ix (by omega) (by assumption) (by omega) (by omega) | exact nb_ix (by omega) rfl (by omega) (by omega) | exact nb_ok (by omega) rfl | decide)) only [kX11_callValue, nb_add, nb_sub, nb_mul, Int.toNat_natCast, mm_kr_s, mm_kv_s, if_pos, if_neg, sq_tn, Int.toNat_zero, Int.reduceToNat, Int.reduceNeg, Nat.reduceAdd, Int.reduceAdd, Int.reduceEq, Int.reduceLT, Int.reduceLE, Int.zero_add, nb_ui_s, nb_ui_k, nb_ui_a, sp_min, sp_max, sp_bits]
theorem sq_cheed {z : Int} (hP : sq_P n P t u) (hs8 : s ≤ 8) (hs : I t 0 = (s : Int)) (hKr : ∀ p, p < s → I (t + 2) p = K p) (hN : sq_cN I 40 N) (hNr : ∀ p, p < s → 0 ≤ N p ∧ N p ≤ 99) : mm_rn (d + 2) 123 [.inr (.inr (some 0)), .inl z] n I L P = some (some (.inl ((sw_hd K N s z : Nat))), n, I, L, P) := by
  have ok0 := sq_ok0 hP
  have okt := hP.2.2.2.1.ok
  have hC := hP.2.2.2.2.2.2.2.1
  have hPt := hP.2.2.2.2.2.2.1
  have hn := hP.1
  have hN40 := hP.2.2.2.2.2.1 40 (by omega)
  have ok40 := hN40.ok
  obtain ⟨a0, a1, a2, a3, a4, a5, a6, a7⟩ := hN40
  obtain ⟨t0, t1, t2, t3, t4, t5, t6, t7, t8, t9, t10, t11⟩ := hP.2.2.2.1
  have n1 := (sq_cN_iff.1 hN).1
  rw [eX11_callsToHeed]
  simp (disch := (first | assumption | omega | exact nb_ix (by omega) (by assumption) (by omega) (by omega) | exact nb_ix (by omega) rfl (by omega) (by omega) | exact nb_ok (by omega) rfl | decide)) only [kX11_callsToHeed, nb_add, nb_sub, nb_mul, Int.toNat_natCast, mm_kr_s, mm_kv_s, if_pos, if_neg, sq_tn, Int.toNat_zero, Int.reduceToNat, Int.reduceNeg, Nat.reduceAdd, Int.reduceAdd, Int.reduceEq, Int.reduceLT, Int.reduceLE, Int.zero_add, nb_ui_s, nb_ui_k, nb_ui_a, sp_min, sp_max, sp_bits]
  refine Eq.trans (nb_loop (fun k => mm_E (d + 1) 123 4 [.inr (.inr (some 0)), .inl z, .inl ((sp_mask (fun p => decide (0 < K p) && decide (z ≤ 1000 * N p)) k : Nat)), .inl ((k : Nat))] [] [] n I L P) s (fun k hk => ?_)) ?_
  · have h1 := hKr k hk
    have h3 := n1 k (by omega)
    have h4 := hNr k hk
    have hlt := sp_mask_lt (fun p => decide (0 < K p) && decide (z ≤ 1000 * N p)) k
    have hob := sp_orbit hlt (by omega)
    have e4 : sp_mask (fun p => decide (0 < K p) && decide (z ≤ 1000 * N p)) (k + 1) = sp_mask (fun p => decide (0 < K p) && decide (z ≤ 1000 * N p)) k + (if (decide (0 < K k) && decide (z ≤ 1000 * N k)) = true then 2 ^ k else 0) := rfl
    show mm_E _ _ _ _ _ _ _ _ _ _ = mm_E _ _ _ _ _ _ _ _ _ _
    rw [hX11_callsToHeed_4, e4]
    by_cases c1 : 0 < K k
    · by_cases c2 : z ≤ 1000 * N k
      · simp (disch := (first | assumption | omega | exact nb_ix (by omega) (by assumption) (by omega) (by omega) | exact nb_ix (by omega) rfl (by omega) (by omega) | exact nb_ok (by omega) rfl | decide)) only [kX11_callsToHeed, hPt, hC, hs, t8, a5, h1, h3, hob, decide_eq_true c1, decide_eq_true c2, nb_add, nb_sub, nb_mul, Int.toNat_natCast, mm_kr_s, mm_kv_s, if_pos, if_neg, sq_tn, Int.toNat_zero, Int.reduceToNat, Int.reduceNeg, Nat.reduceAdd, Int.reduceAdd, Int.reduceEq, Int.reduceLT, Int.reduceLE, Int.zero_add, nb_ui_s, nb_ui_k, nb_ui_a, sp_min, sp_max, sp_bits]
        rfl
      · simp (disch := (first | assumption | omega | exact nb_ix (by omega) (by assumption) (by omega) (by omega) | exact nb_ix (by omega) rfl (by omega) (by omega) | exact nb_ok (by omega) rfl | decide)) only [kX11_callsToHeed, hPt, hC, hs, t8, a5, h1, h3, decide_eq_true c1, decide_eq_false c2, Bool.and_false, nb_add, nb_sub, nb_mul, Int.toNat_natCast, mm_kr_s, mm_kv_s, if_pos, if_neg, sq_tn, Int.toNat_zero, Int.reduceToNat, Int.reduceNeg, Nat.reduceAdd, Int.reduceAdd, Int.reduceEq, Int.reduceLT, Int.reduceLE, Int.zero_add, nb_ui_s, nb_ui_k, nb_ui_a, sp_min, sp_max, sp_bits]
        rfl
    · simp (disch := (first | assumption | omega | exact nb_ix (by omega) (by assumption) (by omega) (by omega) | exact nb_ix (by omega) rfl (by omega) (by omega) | exact nb_ok (by omega) rfl | decide)) only [kX11_callsToHeed, hPt, hC, hs, t8, a5, h1, h3, decide_eq_false c1, Bool.false_and, nb_add, nb_sub, nb_mul, Int.toNat_natCast, mm_kr_s, mm_kv_s, if_pos, if_neg, sq_tn, Int.toNat_zero, Int.reduceToNat, Int.reduceNeg, Nat.reduceAdd, Int.reduceAdd, Int.reduceEq, Int.reduceLT, Int.reduceLE, Int.zero_add, nb_ui_s, nb_ui_k, nb_ui_a, sp_min, sp_max, sp_bits]
      rfl
  · rw [hX11_callsToHeed_4]
    simp (disch := (first | assumption | omega | exact nb_ix (by omega) (by assumption) (by omega) (by omega) | exact nb_ix (by omega) rfl (by omega) (by omega) | exact nb_ok (by omega) rfl | decide)) only [kX11_callsToHeed, hPt, hs, nb_add, nb_sub, nb_mul, Int.toNat_natCast, mm_kr_s, mm_kv_s, if_pos, if_neg, sq_tn, Int.toNat_zero, Int.reduceToNat, Int.reduceNeg, Nat.reduceAdd, Int.reduceAdd, Int.reduceEq, Int.reduceLT, Int.reduceLE, Int.zero_add, nb_ui_s, nb_ui_k, nb_ui_a, sp_min, sp_max, sp_bits]
    rfl
theorem oc_call (hC : sq_CC n c P I t u s D B g v lw ev N) (hKr : ∀ p, p < s → I (t + 2) p = K p) (hK : ∀ p, p < s → 0 ≤ K p ∧ K p ≤ 9) (x w : Int) : mm_rn (d + 10) 121 [.inr (.inr (some 0)), .inl x, .inl w] n I L P = some (some (.inl (sa_call K N s x w)), n, I, L, P) := by
  obtain ⟨hP, hW, hLW, hN, hok, hh⟩ := hC
  have ok0 := sq_ok0 hP
  have hs : I t 0 = (s : Int) := hW.2.1.2.2.1
  have hs8 : s ≤ 8 := hW.2.1.2.1
  have hNr : ∀ p, p < s → 0 ≤ N p ∧ N p ≤ 99 := fun p hp => (hok.1 p (by omega)).1
  rw [eX11_call]
  by_cases h : 0 < s ∧ (1 ≤ x ∧ x ≤ 40) ∧ 0 ≤ w ∧ w ≤ 1
  · obtain ⟨m, rfl⟩ : ∃ k : Nat, x = (k : Int) := ⟨x.toNat, by omega⟩
    unfold sa_call
    rw [if_pos h, Int.toNat_natCast]
    have h0 : ¬ s = 0 := by omega
    have e1 : (m : Int) - 1 = ((m - 1 : Nat) : Int) := by omega
    have hv := fun m (hm : m ≤ 40) => sq_cval (d := d + 7) (L := L) hP hs8 hs hKr hK hN hNr hm
    have hv0 := hv m (by omega)
    have hv1 := hv (m - 1) (by omega)
    have hh := fun z => sq_cheed (d := d + 7) (L := L) (z := z) hP hs8 hs hKr hN hNr
    by_cases hw : w = 0
    · simp (disch := (first | assumption | omega | exact nb_ix (by omega) (by assumption) (by omega) (by omega) | exact nb_ix (by omega) rfl (by omega) (by omega) | exact nb_ok (by omega) rfl | decide)) only [kX11_call, sq_noTown hP hs, hv0, nb_add, nb_sub, nb_mul, Int.toNat_natCast, mm_kr_s, mm_kv_s, if_pos, if_neg, sq_tn, Int.toNat_zero, Int.reduceToNat, Int.reduceNeg, Nat.reduceAdd, Int.reduceAdd, Int.reduceEq, Int.reduceLT, Int.reduceLE, Int.zero_add, nb_ui_s, nb_ui_k, nb_ui_a, sp_min, sp_max, sp_bits]
    · simp (disch := (first | assumption | omega | exact nb_ix (by omega) (by assumption) (by omega) (by omega) | exact nb_ix (by omega) rfl (by omega) (by omega) | exact nb_ok (by omega) rfl | decide)) only [kX11_call, sq_noTown hP hs, e1, hv1, hh, nb_add, nb_sub, nb_mul, Int.toNat_natCast, mm_kr_s, mm_kv_s, if_pos, if_neg, sq_tn, Int.toNat_zero, Int.reduceToNat, Int.reduceNeg, Nat.reduceAdd, Int.reduceAdd, Int.reduceEq, Int.reduceLT, Int.reduceLE, Int.zero_add, nb_ui_s, nb_ui_k, nb_ui_a, sp_min, sp_max, sp_bits]
  · have : sa_call K N s x w = -1 := if_neg h
    rw [this]
    by_cases h0 : s = 0
    · simp (disch := (first | assumption | omega | exact nb_ix (by omega) (by assumption) (by omega) (by omega) | exact nb_ix (by omega) rfl (by omega) (by omega) | exact nb_ok (by omega) rfl | decide)) only [kX11_call, sq_noTown hP hs, nb_add, nb_sub, nb_mul, Int.toNat_natCast, mm_kr_s, mm_kv_s, if_pos, if_neg, sq_tn, Int.toNat_zero, Int.reduceToNat, Int.reduceNeg, Nat.reduceAdd, Int.reduceAdd, Int.reduceEq, Int.reduceLT, Int.reduceLE, Int.zero_add, nb_ui_s, nb_ui_k, nb_ui_a, sp_min, sp_max, sp_bits]
    · by_cases h1 : x < 1
      · simp (disch := (first | assumption | omega | exact nb_ix (by omega) (by assumption) (by omega) (by omega) | exact nb_ix (by omega) rfl (by omega) (by omega) | exact nb_ok (by omega) rfl | decide)) only [kX11_call, sq_noTown hP hs, nb_add, nb_sub, nb_mul, Int.toNat_natCast, mm_kr_s, mm_kv_s, if_pos, if_neg, sq_tn, Int.toNat_zero, Int.reduceToNat, Int.reduceNeg, Nat.reduceAdd, Int.reduceAdd, Int.reduceEq, Int.reduceLT, Int.reduceLE, Int.zero_add, nb_ui_s, nb_ui_k, nb_ui_a, sp_min, sp_max, sp_bits]
      · by_cases h2 : 40 < x
        · simp (disch := (first | assumption | omega | exact nb_ix (by omega) (by assumption) (by omega) (by omega) | exact nb_ix (by omega) rfl (by omega) (by omega) | exact nb_ok (by omega) rfl | decide)) only [kX11_call, sq_noTown hP hs, nb_add, nb_sub, nb_mul, Int.toNat_natCast, mm_kr_s, mm_kv_s, if_pos, if_neg, sq_tn, Int.toNat_zero, Int.reduceToNat, Int.reduceNeg, Nat.reduceAdd, Int.reduceAdd, Int.reduceEq, Int.reduceLT, Int.reduceLE, Int.zero_add, nb_ui_s, nb_ui_k, nb_ui_a, sp_min, sp_max, sp_bits]
        · by_cases h3 : w < 0
          · simp (disch := (first | assumption | omega | exact nb_ix (by omega) (by assumption) (by omega) (by omega) | exact nb_ix (by omega) rfl (by omega) (by omega) | exact nb_ok (by omega) rfl | decide)) only [kX11_call, sq_noTown hP hs, nb_add, nb_sub, nb_mul, Int.toNat_natCast, mm_kr_s, mm_kv_s, if_pos, if_neg, sq_tn, Int.toNat_zero, Int.reduceToNat, Int.reduceNeg, Nat.reduceAdd, Int.reduceAdd, Int.reduceEq, Int.reduceLT, Int.reduceLE, Int.zero_add, nb_ui_s, nb_ui_k, nb_ui_a, sp_min, sp_max, sp_bits]
          · simp (disch := (first | assumption | omega | exact nb_ix (by omega) (by assumption) (by omega) (by omega) | exact nb_ix (by omega) rfl (by omega) (by omega) | exact nb_ok (by omega) rfl | decide)) only [kX11_call, sq_noTown hP hs, nb_add, nb_sub, nb_mul, Int.toNat_natCast, mm_kr_s, mm_kv_s, if_pos, if_neg, sq_tn, Int.toNat_zero, Int.reduceToNat, Int.reduceNeg, Nat.reduceAdd, Int.reduceAdd, Int.reduceEq, Int.reduceLT, Int.reduceLE, Int.zero_add, nb_ui_s, nb_ui_k, nb_ui_a, sp_min, sp_max, sp_bits]
/-! the model's -/
theorem sq_mval {m : Nat} (hM : sp_M n P) (hs8 : s ≤ 8) (hs : I 239 26 = (s : Int)) (hKr : ∀ p, p < s → I 254 (2 * p + 1) = K p) (hK : ∀ p, p < s → 0 ≤ K p ∧ K p ≤ 9) (hN : sq_mN I N) (hNr : ∀ p, p < s → 0 ≤ N p ∧ N p ≤ 99) (hm : m ≤ 40) : mm_rn (d + 2) 233 [.inr (.inr (some 239)), .inl ((m : Int))] n I L P = some (some (.inl (sw_cv K N s m)), n, I, L, P) := by
  have ok := hM.ok
  obtain ⟨hn, hP⟩ := hM
  have hall := sp_sum_rg (f := K) (M := 9) (by omega) s hK
  have hca : mm_rn (d + 1) 232 [.inr (.inr (some 239))] n I L P = some (some (.inl (sp_sum K s)), n, I, L, P) := by
    rw [eX12_chancesAll]
    simp (disch := (first | assumption | omega | exact nb_ix (by omega) (by assumption) (by omega) (by omega) | exact nb_ix (by omega) rfl (by omega) (by omega) | exact nb_ok (by omega) rfl | decide)) only [kX12_chancesAll, nb_add, nb_sub, nb_mul, Int.toNat_natCast, mm_kr_s, mm_kv_s, if_pos, if_neg, sq_tn, Int.toNat_zero, Int.reduceToNat, Int.reduceNeg, Nat.reduceAdd, Int.reduceAdd, Int.reduceEq, Int.reduceLT, Int.reduceLE, Int.zero_add, nb_ui_s, nb_ui_k, nb_ui_a, sp_min, sp_max, sp_bits]
    refine Eq.trans (nb_loop (fun k => mm_E d 232 4 [.inr (.inr (some 239)), .inl (sp_sum K k), .inl ((k : Nat))] [] [] n I L P) s (fun k hk => ?_)) ?_
    · have h1 := hKr k hk
      have h2 := hK k hk
      have h3 := sp_sum_rg (f := K) (M := 9) (by omega) k (fun j hj => hK j (by omega))
      have e4 : sp_sum K k + K k = sp_sum K (k + 1) := rfl
      have e5 : (2 * (k : Int) + 1).toNat = 2 * k + 1 := by omega
      show mm_E _ _ _ _ _ _ _ _ _ _ = _
      rw [hX12_chancesAll_4]
      simp (disch := (first | assumption | omega | exact nb_ix (by omega) (by assumption) (by omega) (by omega) | exact nb_ix (by omega) rfl (by omega) (by omega) | exact nb_ok (by omega) rfl | decide)) only [kX12_chancesAll, hP, hs, e5, h1, e4, nb_add, nb_sub, nb_mul, Int.toNat_natCast, mm_kr_s, mm_kv_s, if_pos, if_neg, sq_tn, Int.toNat_zero, Int.reduceToNat, Int.reduceNeg, Nat.reduceAdd, Int.reduceAdd, Int.reduceEq, Int.reduceLT, Int.reduceLE, Int.zero_add, nb_ui_s, nb_ui_k, nb_ui_a, sp_min, sp_max, sp_bits]
      rfl
    · rw [hX12_chancesAll_4]
      simp (disch := (first | assumption | omega | exact nb_ix (by omega) (by assumption) (by omega) (by omega) | exact nb_ix (by omega) rfl (by omega) (by omega) | exact nb_ok (by omega) rfl | decide)) only [kX12_chancesAll, hs, nb_add, nb_sub, nb_mul, Int.toNat_natCast, mm_kr_s, mm_kv_s, if_pos, if_neg, sq_tn, Int.toNat_zero, Int.reduceToNat, Int.reduceNeg, Nat.reduceAdd, Int.reduceAdd, Int.reduceEq, Int.reduceLT, Int.reduceLE, Int.zero_add, nb_ui_s, nb_ui_k, nb_ui_a, sp_min, sp_max, sp_bits]
  rw [eX12_valueWith]
  simp (disch := (first | assumption | omega | exact nb_ix (by omega) (by assumption) (by omega) (by omega) | exact nb_ix (by omega) rfl (by omega) (by omega) | exact nb_ok (by omega) rfl | decide)) only [kX12_valueWith, hca, nb_add, nb_sub, nb_mul, Int.toNat_natCast, mm_kr_s, mm_kv_s, if_pos, if_neg, sq_tn, Int.toNat_zero, Int.reduceToNat, Int.reduceNeg, Nat.reduceAdd, Int.reduceAdd, Int.reduceEq, Int.reduceLT, Int.reduceLE, Int.zero_add, nb_ui_s, nb_ui_k, nb_ui_a, sp_min, sp_max, sp_bits]
  have key : ∀ j, j ≤ m → ∃ x5 x6, mm_E (d + 1) 233 10 [.inr (.inr (some 239)), .inl ((m : Int)), .inl 0, .inl (sp_sum K s), .inl 0, mm_junk, mm_junk] [] [] n I L P = mm_E (d + 1) 233 10 [.inr (.inr (some 239)), .inl ((m : Int)), .inl (sw_cv K N s j), .inl (sp_sum K s), .inl ((j : Nat)), x5, x6] [] [] n I L P := by
    intro j
    induction j with
    | zero => intro _; exact ⟨_, _, rfl⟩
    | succ j ih =>
      intro hj
      obtain ⟨y5, y6, e⟩ := ih (by omega)
      have hv := sw_cv_rg hK hNr j
      refine ⟨.inl (sp_sum (fun p => K p * max (1000 * N p) (sw_cv K N s j)) s), .inl ((s : Nat)), e.trans ?_⟩
      rw [hX12_valueWith_10]
      simp (disch := (first | assumption | omega | exact nb_ix (by omega) (by assumption) (by omega) (by omega) | exact nb_ix (by omega) rfl (by omega) (by omega) | exact nb_ok (by omega) rfl | decide)) only [kX12_valueWith, nb_add, nb_sub, nb_mul, Int.toNat_natCast, mm_kr_s, mm_kv_s, if_pos, if_neg, sq_tn, Int.toNat_zero, Int.reduceToNat, Int.reduceNeg, Nat.reduceAdd, Int.reduceAdd, Int.reduceEq, Int.reduceLT, Int.reduceLE, Int.zero_add, nb_ui_s, nb_ui_k, nb_ui_a, sp_min, sp_max, sp_bits]
      refine Eq.trans (nb_loop (fun k => mm_E (d + 1) 233 22 [.inr (.inr (some 239)), .inl ((m : Int)), .inl (sw_cv K N s j), .inl (sp_sum K s), .inl ((j : Nat)), .inl (sp_sum (fun p => K p * max (1000 * N p) (sw_cv K N s j)) k), .inl ((k : Nat))] [] [] n I L P) s (fun k hk => ?_)) ?_
      · have h1 := hKr k hk
        have h2 := hK k hk
        have h3 := hN k (by omega)
        have h4 := hNr k hk
        have h5 := sw_part hK hNr hv k (by omega)
        have h6 := sw_kx (x := max (1000 * N k) (sw_cv K N s j)) h2 (by omega)
        have e5 : (2 * (k : Int) + 1).toNat = 2 * k + 1 := by omega
        have e4 : sp_sum (fun p => K p * max (1000 * N p) (sw_cv K N s j)) k + K k * max (1000 * N k) (sw_cv K N s j) = sp_sum (fun p => K p * max (1000 * N p) (sw_cv K N s j)) (k + 1) := rfl
        show mm_E _ _ _ _ _ _ _ _ _ _ = _
        rw [hX12_valueWith_22]
        simp (disch := (first | assumption | omega | exact nb_ix (by omega) (by assumption) (by omega) (by omega) | exact nb_ix (by omega) rfl (by omega) (by omega) | exact nb_ok (by omega) rfl | decide)) only [kX12_valueWith, hP, hs, e5, h1, h3, e4, nb_add, nb_sub, nb_mul, Int.toNat_natCast, mm_kr_s, mm_kv_s, if_pos, if_neg, sq_tn, Int.toNat_zero, Int.reduceToNat, Int.reduceNeg, Nat.reduceAdd, Int.reduceAdd, Int.reduceEq, Int.reduceLT, Int.reduceLE, Int.zero_add, nb_ui_s, nb_ui_k, nb_ui_a, sp_min, sp_max, sp_bits]
        rfl
      · rw [hX12_valueWith_22]
        by_cases h0 : sp_sum K s = 0
        · have e5 : sw_cv K N s (j + 1) = 0 := by
            show (if _ then _ else _) = _
            rw [if_pos h0]
          rw [e5]
          simp (disch := (first | assumption | omega | exact nb_ix (by omega) (by assumption) (by omega) (by omega) | exact nb_ix (by omega) rfl (by omega) (by omega) | exact nb_ok (by omega) rfl | decide)) only [kX12_valueWith, hs, nb_add, nb_sub, nb_mul, Int.toNat_natCast, mm_kr_s, mm_kv_s, if_pos, if_neg, sq_tn, Int.toNat_zero, Int.reduceToNat, Int.reduceNeg, Nat.reduceAdd, Int.reduceAdd, Int.reduceEq, Int.reduceLT, Int.reduceLE, Int.zero_add, nb_ui_s, nb_ui_k, nb_ui_a, sp_min, sp_max, sp_bits]
          rfl
        · have hv2 := sw_cv_rg hK hNr (j + 1)
          have e5 : sw_cv K N s (j + 1) = Int.tdiv (sp_sum (fun p => K p * max (1000 * N p) (sw_cv K N s j)) s) (sp_sum K s) := by
            show (if _ then _ else _) = _
            rw [if_neg h0]
          have e6 : mm_w (Int.tdiv (sp_sum (fun p => K p * max (1000 * N p) (sw_cv K N s j)) s) (sp_sum K s)) = sw_cv K N s (j + 1) := by
            rw [← e5]
            exact nb_w (by omega) (by omega)
          simp (disch := (first | assumption | omega | exact nb_ix (by omega) (by assumption) (by omega) (by omega) | exact nb_ix (by omega) rfl (by omega) (by omega) | exact nb_ok (by omega) rfl | decide)) only [kX12_valueWith, hs, e6, nb_add, nb_sub, nb_mul, Int.toNat_natCast, mm_kr_s, mm_kv_s, if_pos, if_neg, sq_tn, Int.toNat_zero, Int.reduceToNat, Int.reduceNeg, Nat.reduceAdd, Int.reduceAdd, Int.reduceEq, Int.reduceLT, Int.reduceLE, Int.zero_add, nb_ui_s, nb_ui_k, nb_ui_a, sp_min, sp_max, sp_bits]
          rfl
  obtain ⟨x5, x6, e⟩ := key m (Nat.le_refl m)
  refine e.trans ?_
  rw [hX12_valueWith_10]
  simp (disch := (first | assumption | omega | exact nb_ix (by omega) (by assumption) (by omega) (by omega) | exact nb_ix (by omega) rfl (by omega) (by omega) | exact nb_ok (by omega) rfl | decide)) only [kX12_valueWith, nb_add, nb_sub, nb_mul, Int.toNat_natCast, mm_kr_s, mm_kv_s, if_pos, if_neg, sq_tn, Int.toNat_zero, Int.reduceToNat, Int.reduceNeg, Nat.reduceAdd, Int.reduceAdd, Int.reduceEq, Int.reduceLT, Int.reduceLE, Int.zero_add, nb_ui_s, nb_ui_k, nb_ui_a, sp_min, sp_max, sp_bits]
theorem om_call (hC : sq_MM n c P I s D B g v ev N) (hKr : ∀ p, p < s → I 254 (2 * p + 1) = K p) (hK : ∀ p, p < s → 0 ≤ K p ∧ K p ≤ 9) (x w : Int) : mm_rn (d + 10) 234 [.inr (.inr (some 239)), .inl x, .inl w] n I L P = some (some (.inl (sa_call K N s x w)), n, I, L, P) := by
  obtain ⟨hW, hN, hok, hh⟩ := hC
  have hM := hW.1
  have ok := hW.1.ok
  have hs : I 239 26 = (s : Int) := hW.2.1.2.1
  have hs8 : s ≤ 8 := hW.2.1.1
  have hNr : ∀ p, p < s → 0 ≤ N p ∧ N p ≤ 99 := fun p hp => (hok.1 p (by omega)).1
  rw [eX12_call]
  by_cases h : 0 < s ∧ (1 ≤ x ∧ x ≤ 40) ∧ 0 ≤ w ∧ w ≤ 1
  · obtain ⟨m, rfl⟩ : ∃ k : Nat, x = (k : Int) := ⟨x.toNat, by omega⟩
    unfold sa_call
    rw [if_pos h, Int.toNat_natCast]
    have h0 : ¬ (s : Int) = 0 := by omega
    have e1 : (m : Int) - 1 = ((m - 1 : Nat) : Int) := by omega
    have hv := fun m (hm : m ≤ 40) => sq_mval (d := d + 7) (L := L) hM hs8 hs hKr hK hN hNr hm
    have hv0 := hv m (by omega)
    have hv1 := hv (m - 1) (by omega)
    obtain ⟨hn, hP⟩ := hM
    by_cases hw : w = 0
    · simp (disch := (first | assumption | omega | exact nb_ix (by omega) (by assumption) (by omega) (by omega) | exact nb_ix (by omega) rfl (by omega) (by omega) | exact nb_ok (by omega) rfl | decide)) only [kX12_call, hs, sp_min2, hv0, nb_add, nb_sub, nb_mul, Int.toNat_natCast, mm_kr_s, mm_kv_s, if_pos, if_neg, sq_tn, Int.toNat_zero, Int.reduceToNat, Int.reduceNeg, Nat.reduceAdd, Int.reduceAdd, Int.reduceEq, Int.reduceLT, Int.reduceLE, Int.zero_add, nb_ui_s, nb_ui_k, nb_ui_a, sp_min, sp_max, sp_bits]
    · simp (disch := (first | assumption | omega | exact nb_ix (by omega) (by assumption) (by omega) (by omega) | exact nb_ix (by omega) rfl (by omega) (by omega) | exact nb_ok (by omega) rfl | decide)) only [kX12_call, hs, sp_min2, e1, hv1, nb_add, nb_sub, nb_mul, Int.toNat_natCast, mm_kr_s, mm_kv_s, if_pos, if_neg, sq_tn, Int.toNat_zero, Int.reduceToNat, Int.reduceNeg, Nat.reduceAdd, Int.reduceAdd, Int.reduceEq, Int.reduceLT, Int.reduceLE, Int.zero_add, nb_ui_s, nb_ui_k, nb_ui_a, sp_min, sp_max, sp_bits]
      generalize sw_cv K N s (m - 1) = z
      refine Eq.trans (nb_loop (fun k => mm_E (d + 9) 234 52 [.inr (.inr (some 239)), .inl ((m : Int)), .inl w, .inl z, .inl ((sp_mask (fun p => decide (0 < K p) && decide (z ≤ 1000 * N p)) k : Nat)), .inl ((k : Nat))] [] [] n I L P) s (fun k hk => ?_)) ?_
      · have h1 := hKr k hk
        have h3 := hN k (by omega)
        have h4 := hNr k hk
        have e5 : (2 * (k : Int) + 1).toNat = 2 * k + 1 := by omega
        have hlt := sp_mask_lt (fun p => decide (0 < K p) && decide (z ≤ 1000 * N p)) k
        have hp8 := sp_pow8 (k := k) (by omega)
        have hlt2 : sp_mask (fun p => decide (0 < K p) && decide (z ≤ 1000 * N p)) k < 2147483648 := by omega
        have hob := sp_orbit hlt (by omega)
        clear hlt hp8
        have e4 : sp_mask (fun p => decide (0 < K p) && decide (z ≤ 1000 * N p)) (k + 1) = sp_mask (fun p => decide (0 < K p) && decide (z ≤ 1000 * N p)) k + (if (decide (0 < K k) && decide (z ≤ 1000 * N k)) = true then 2 ^ k else 0) := rfl
        show mm_E _ _ _ _ _ _ _ _ _ _ = mm_E _ _ _ _ _ _ _ _ _ _
        rw [hX12_call_52, e4]
        by_cases c1 : 0 < K k
        · by_cases c2 : z ≤ 1000 * N k
          · simp (disch := (first | assumption | omega | exact nb_ix (by omega) (by assumption) (by omega) (by omega) | exact nb_ix (by omega) rfl (by omega) (by omega) | exact nb_ok (by omega) rfl | decide)) only [kX12_call, hP, hs, e5, h1, h3, hob, decide_eq_true c1, decide_eq_true c2, nb_add, nb_sub, nb_mul, Int.toNat_natCast, mm_kr_s, mm_kv_s, if_pos, if_neg, sq_tn, Int.toNat_zero, Int.reduceToNat, Int.reduceNeg, Nat.reduceAdd, Int.reduceAdd, Int.reduceEq, Int.reduceLT, Int.reduceLE, Int.zero_add, nb_ui_s, nb_ui_k, nb_ui_a, sp_min, sp_max, sp_bits]
            rfl
          · simp (disch := (first | assumption | omega | exact nb_ix (by omega) (by assumption) (by omega) (by omega) | exact nb_ix (by omega) rfl (by omega) (by omega) | exact nb_ok (by omega) rfl | decide)) only [kX12_call, hP, hs, e5, h1, h3, sp_or0, decide_eq_true c1, decide_eq_false c2, Bool.and_false, nb_add, nb_sub, nb_mul, Int.toNat_natCast, mm_kr_s, mm_kv_s, if_pos, if_neg, sq_tn, Int.toNat_zero, Int.reduceToNat, Int.reduceNeg, Nat.reduceAdd, Int.reduceAdd, Int.reduceEq, Int.reduceLT, Int.reduceLE, Int.zero_add, nb_ui_s, nb_ui_k, nb_ui_a, sp_min, sp_max, sp_bits]
            rfl
        · simp (disch := (first | assumption | omega | exact nb_ix (by omega) (by assumption) (by omega) (by omega) | exact nb_ix (by omega) rfl (by omega) (by omega) | exact nb_ok (by omega) rfl | decide)) only [kX12_call, hP, hs, e5, h1, h3, sp_or0, decide_eq_false c1, Bool.false_and, nb_add, nb_sub, nb_mul, Int.toNat_natCast, mm_kr_s, mm_kv_s, if_pos, if_neg, sq_tn, Int.toNat_zero, Int.reduceToNat, Int.reduceNeg, Nat.reduceAdd, Int.reduceAdd, Int.reduceEq, Int.reduceLT, Int.reduceLE, Int.zero_add, nb_ui_s, nb_ui_k, nb_ui_a, sp_min, sp_max, sp_bits]
          rfl
      · rw [hX12_call_52]
        simp (disch := (first | assumption | omega | exact nb_ix (by omega) (by assumption) (by omega) (by omega) | exact nb_ix (by omega) rfl (by omega) (by omega) | exact nb_ok (by omega) rfl | decide)) only [kX12_call, hs, nb_add, nb_sub, nb_mul, Int.toNat_natCast, mm_kr_s, mm_kv_s, if_pos, if_neg, sq_tn, Int.toNat_zero, Int.reduceToNat, Int.reduceNeg, Nat.reduceAdd, Int.reduceAdd, Int.reduceEq, Int.reduceLT, Int.reduceLE, Int.zero_add, nb_ui_s, nb_ui_k, nb_ui_a, sp_min, sp_max, sp_bits]
        rfl
  · have : sa_call K N s x w = -1 := if_neg h
    rw [this]
    by_cases h0 : s = 0
    · simp (disch := (first | assumption | omega | exact nb_ix (by omega) (by assumption) (by omega) (by omega) | exact nb_ix (by omega) rfl (by omega) (by omega) | exact nb_ok (by omega) rfl | decide)) only [kX12_call, hs, nb_add, nb_sub, nb_mul, Int.toNat_natCast, mm_kr_s, mm_kv_s, if_pos, if_neg, sq_tn, Int.toNat_zero, Int.reduceToNat, Int.reduceNeg, Nat.reduceAdd, Int.reduceAdd, Int.reduceEq, Int.reduceLT, Int.reduceLE, Int.zero_add, nb_ui_s, nb_ui_k, nb_ui_a, sp_min, sp_max, sp_bits]
    · by_cases h1 : 1 ≤ x ∧ x ≤ 40
      · simp (disch := (first | assumption | omega | exact nb_ix (by omega) (by assumption) (by omega) (by omega) | exact nb_ix (by omega) rfl (by omega) (by omega) | exact nb_ok (by omega) rfl | decide)) only [kX12_call, hs, sp_min2, nb_add, nb_sub, nb_mul, Int.toNat_natCast, mm_kr_s, mm_kv_s, if_pos, if_neg, sq_tn, Int.toNat_zero, Int.reduceToNat, Int.reduceNeg, Nat.reduceAdd, Int.reduceAdd, Int.reduceEq, Int.reduceLT, Int.reduceLE, Int.zero_add, nb_ui_s, nb_ui_k, nb_ui_a, sp_min, sp_max, sp_bits]
      · simp (disch := (first | assumption | omega | exact nb_ix (by omega) (by assumption) (by omega) (by omega) | exact nb_ix (by omega) rfl (by omega) (by omega) | exact nb_ok (by omega) rfl | decide)) only [kX12_call, hs, sp_min2, nb_add, nb_sub, nb_mul, Int.toNat_natCast, mm_kr_s, mm_kv_s, if_pos, if_neg, sq_tn, Int.toNat_zero, Int.reduceToNat, Int.reduceNeg, Nat.reduceAdd, Int.reduceAdd, Int.reduceEq, Int.reduceLT, Int.reduceLE, Int.zero_add, nb_ui_s, nb_ui_k, nb_ui_a, sp_min, sp_max, sp_bits]
end CL
