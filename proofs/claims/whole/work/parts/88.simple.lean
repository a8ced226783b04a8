/-! small questions: both halves -/
def sa_rule (s : Nat) (v : Int) (N : Nat → Int) (w : Int) : Int := if 0 < s ∧ 0 ≤ w ∧ w ≤ 5 then (if w = 0 then N 25 else if w = 1 then v else if w = 2 then N 27 else if w = 3 then N 26 else if w = 4 then N 24 else N 28) else -1
def sa_spot (B : Nat → Nat) (K N : Nat → Int) (p : Nat) (w : Int) : Int := if w = 0 then N p else if w = 1 then K p else if w = 2 then (if 0 < N (16 + p) then N (8 + p) else -1) else if w = 3 then N (16 + p) else (B p : Int)
def sa_steps (D : Nat → Int) (s : Nat) (p q : Int) : Int := if (0 ≤ p ∧ p < s) ∧ 0 ≤ q ∧ q < s then D (8 * p.toNat + q.toNat) else -1
def sa_status (rf : Nat → Int) (w : Int) : Int := if 0 ≤ w ∧ w ≤ 4 then rf w.toNat else -1
def sa_log (x : sT) (i w : Int) : Int := if (0 ≤ i ∧ i < x.1 30) ∧ 0 ≤ w ∧ w ≤ 2 then x.2.2.2.2 (x.1 29 - 1 - i).toNat w.toNat else -1
def sa_count (s nl z ck na : Nat) (hl pe : Int) (N : Nat → Int) (w : Int) : Int := if w = 0 then (s : Int) else if w = 1 then (nl : Int) else if w = 2 then (z : Int) else if w = 3 then hl else if w = 4 then N 29 else if w = 5 then pe else if w = 6 then (ck : Int) else if w = 7 then N 30 else if w = 8 then (na : Int) else -1000000
section SI
variable {n c t u s d : Nat} {I L : mm_I} {P : mm_P} {D : Nat → Int} {B : Nat → Nat} {g v pe : Int} {lw : Option Nat} {ev : sv_E} {N K rf : Nat → Int}
theorem oc_rule (hC : sq_CC n c P I t u s D B g v lw ev N) (w : Int) : mm_rn (d + 10) 91 [.inr (.inr (some 0)), .inl w] n I L P = some (some (.inl (sa_rule s v N w)), n, I, L, P) := by
  obtain ⟨hP, hW, hLW, hN, hok, hh⟩ := hC
  have ok0 := sq_ok0 hP
  have hs : I t 0 = (s : Int) := hW.2.1.2.2.1
  have hv : I t 2 = v := hW.2.1.2.2.2.2.2.2.2.2
  have okt := hW.1.ok
  have hC := hP.2.2.2.2.2.2.2.1
  have hPt := hP.2.2.2.2.2.2.1
  have ok40 := (hP.2.2.2.2.2.1 40 (by omega)).ok
  obtain ⟨n1, n2, n3, nf3, nf4, nf5, nf6, nf7, nf8⟩ := sq_cN_iff.1 hN
  rw [eX11_rule]
  unfold sa_rule
  by_cases h0 : s = 0
  · rw [if_neg (by omega)]
    simp (disch := (first | assumption | omega | exact nb_ix (by omega) (by assumption) (by omega) (by omega) | exact nb_ix (by omega) rfl (by omega) (by omega) | exact nb_ok (by omega) rfl | decide)) only [kX11_rule, sq_noTown hP hs, ↓if_pos, ↓if_neg, nb_add, nb_sub, nb_mul, Int.toNat_natCast, mm_kr_s, mm_kv_s, if_pos, if_neg, sq_tn, Int.toNat_zero, Int.reduceToNat, Int.reduceNeg, Nat.reduceAdd, Int.reduceAdd, Int.reduceEq, Int.reduceLT, Int.reduceLE, Int.zero_add, nb_ui_s, nb_ui_k, nb_ui_a, sp_min, sp_max, sp_bits]
  by_cases hw : 0 ≤ w ∧ w ≤ 5
  · rw [if_pos ⟨by omega, hw⟩]
    have hcs : w = 0 ∨ w = 1 ∨ w = 2 ∨ w = 3 ∨ w = 4 ∨ w = 5 := by omega
    rcases hcs with e | e | e | e | e | e <;> subst e <;> simp (disch := (first | assumption | omega | exact nb_ix (by omega) (by assumption) (by omega) (by omega) | exact nb_ix (by omega) rfl (by omega) (by omega) | exact nb_ok (by omega) rfl | decide)) only [kX11_rule, sq_noTown hP hs, hC, hPt, hv, nf3, nf4, nf5, nf6, nf7, ↓if_pos, ↓if_neg, nb_add, nb_sub, nb_mul, Int.toNat_natCast, mm_kr_s, mm_kv_s, if_pos, if_neg, sq_tn, Int.toNat_zero, Int.reduceToNat, Int.reduceNeg, Nat.reduceAdd, Int.reduceAdd, Int.reduceEq, Int.reduceLT, Int.reduceLE, Int.zero_add, nb_ui_s, nb_ui_k, nb_ui_a, sp_min, sp_max, sp_bits]
  · rw [if_neg (fun z => hw z.2)]
    simp (disch := (first | assumption | omega | exact nb_ix (by omega) (by assumption) (by omega) (by omega) | exact nb_ix (by omega) rfl (by omega) (by omega) | exact nb_ok (by omega) rfl | decide)) only [kX11_rule, sq_noTown hP hs, ↓if_pos, ↓if_neg, nb_add, nb_sub, nb_mul, Int.toNat_natCast, mm_kr_s, mm_kv_s, if_pos, if_neg, sq_tn, Int.toNat_zero, Int.reduceToNat, Int.reduceNeg, Nat.reduceAdd, Int.reduceAdd, Int.reduceEq, Int.reduceLT, Int.reduceLE, Int.zero_add, nb_ui_s, nb_ui_k, nb_ui_a, sp_min, sp_max, sp_bits]
theorem om_rule (hC : sq_MM n c P I s D B g v ev N) (w : Int) : mm_rn (d + 10) 200 [.inr (.inr (some 239)), .inl w] n I L P = some (some (.inl (sa_rule s v N w)), n, I, L, P) := by
  obtain ⟨hW, hN, hok, hh⟩ := hC
  have hM := hW.1
  have ok := hM.ok
  have hs : I 239 26 = (s : Int) := hW.2.1.2.1
  have hv : I 253 1 = v := hW.2.1.2.2.2.2.2
  have hP := hM.2
  have hn := hM.1
  have e24 := hN 24 (by omega)
  have e25 := hN 25 (by omega)
  have e26 := hN 26 (by omega)
  have e27 := hN 27 (by omega)
  have e28 := hN 28 (by omega)
  rw [eX12_rule]
  unfold sa_rule
  by_cases h0 : s = 0
  · rw [if_neg (by omega)]
    simp (disch := (first | assumption | omega | exact nb_ix (by omega) (by assumption) (by omega) (by omega) | exact nb_ix (by omega) rfl (by omega) (by omega) | exact nb_ok (by omega) rfl | decide)) only [kX12_rule, hs, ↓if_pos, ↓if_neg, nb_add, nb_sub, nb_mul, Int.toNat_natCast, mm_kr_s, mm_kv_s, if_pos, if_neg, sq_tn, Int.toNat_zero, Int.reduceToNat, Int.reduceNeg, Nat.reduceAdd, Int.reduceAdd, Int.reduceEq, Int.reduceLT, Int.reduceLE, Int.zero_add, nb_ui_s, nb_ui_k, nb_ui_a, sp_min, sp_max, sp_bits]
  have h0' : ¬ (s : Int) = 0 := by omega
  by_cases hw : 0 ≤ w ∧ w ≤ 5
  · rw [if_pos ⟨by omega, hw⟩]
    have hcs : w = 0 ∨ w = 1 ∨ w = 2 ∨ w = 3 ∨ w = 4 ∨ w = 5 := by omega
    rcases hcs with e | e | e | e | e | e <;> subst e <;> simp (disch := (first | assumption | omega | exact nb_ix (by omega) (by assumption) (by omega) (by omega) | exact nb_ix (by omega) rfl (by omega) (by omega) | exact nb_ok (by omega) rfl | decide)) only [kX12_rule, hs, sp_min2, hP, hv, e24, e25, e26, e27, e28, ↓if_pos, ↓if_neg, nb_add, nb_sub, nb_mul, Int.toNat_natCast, mm_kr_s, mm_kv_s, if_pos, if_neg, sq_tn, Int.toNat_zero, Int.reduceToNat, Int.reduceNeg, Nat.reduceAdd, Int.reduceAdd, Int.reduceEq, Int.reduceLT, Int.reduceLE, Int.zero_add, nb_ui_s, nb_ui_k, nb_ui_a, sp_min, sp_max, sp_bits]
  · rw [if_neg (fun z => hw z.2)]
    simp (disch := (first | assumption | omega | exact nb_ix (by omega) (by assumption) (by omega) (by omega) | exact nb_ix (by omega) rfl (by omega) (by omega) | exact nb_ok (by omega) rfl | decide)) only [kX12_rule, hs, sp_min2, ↓if_pos, ↓if_neg, nb_add, nb_sub, nb_mul, Int.toNat_natCast, mm_kr_s, mm_kv_s, if_pos, if_neg, sq_tn, Int.toNat_zero, Int.reduceToNat, Int.reduceNeg, Nat.reduceAdd, Int.reduceAdd, Int.reduceEq, Int.reduceLT, Int.reduceLE, Int.zero_add, nb_ui_s, nb_ui_k, nb_ui_a, sp_min, sp_max, sp_bits]
theorem oc_spot (hC : sq_CC n c P I t u s D B g v lw ev N) (hKr : ∀ p, p < s → I (t + 2) p = K p) (p w : Int) : ((0 ≤ p ∧ p < s) ∧ 0 ≤ w ∧ w ≤ 4 → mm_rn (d + 10) 93 [.inr (.inr (some 0)), .inl p, .inl w] n I L P = some (some (.inl (sa_spot B K N p.toNat w)), n, I, L, P)) ∧ (¬ ((0 ≤ p ∧ p < s) ∧ 0 ≤ w ∧ w ≤ 4) → mm_rn (d + 10) 93 [.inr (.inr (some 0)), .inl p, .inl w] n I L P = some (some (.inr (.inr (some 66666666))), n + 1, I, L, P)) := by
  obtain ⟨hP, hW, hLW, hN, hok, hh⟩ := hC
  have ok0 := sq_ok0 hP
  have hs : I t 0 = (s : Int) := hW.2.1.2.2.1
  have hs8 : s ≤ 8 := hW.2.1.2.1
  have hTP := hW.1
  have okt := hTP.ok
  have hC := hP.2.2.2.2.2.2.2.1
  have hPt := hP.2.2.2.2.2.2.1
  have hn := hP.1
  have hA := hP.2.2.2.2.2.1 40 (by omega)
  have ok40 := hA.ok
  obtain ⟨a0, a1, a2, a3, a4, a5, a6, a7⟩ := hA
  obtain ⟨n1, n2, n3, nf3, nf⟩ := sq_cN_iff.1 hN
  refine ⟨fun h => ?_, fun h => ?_⟩
  · obtain ⟨h1, h2⟩ := h
    obtain ⟨q, rfl⟩ : ∃ k : Nat, p = (k : Int) := ⟨p.toNat, by omega⟩
    rw [Int.toNat_natCast]
    have e1 := n1 q (by omega)
    have e2 := n2 q (by omega)
    have e3 := n3 q (by omega)
    have ek := hKr q (by omega)
    have b1 := (hW.2.1.2.2.2.2.2.1 q (by omega)).1
    obtain ⟨t0, t1, t2, t3, t4, t5, t6, t7, t8, t9, t10, t11⟩ := hTP
    have hTP : sp_T n P t := ⟨t0, t1, t2, t3, t4, t5, t6, t7, t8, t9, t10, t11⟩
    rw [eX11_spot]
    unfold sa_spot
    have hcs : w = 0 ∨ w = 1 ∨ w = 2 ∨ w = 3 ∨ w = 4 := by omega
    rcases hcs with e | e | e | e | e
    · subst e; simp (disch := (first | assumption | omega | exact nb_ix (by omega) (by assumption) (by omega) (by omega) | exact nb_ix (by omega) rfl (by omega) (by omega) | exact nb_ok (by omega) rfl | decide)) only [kX11_spot, sp_has hTP, hs, hC, hPt, a5, e1, ↓if_pos, ↓if_neg, nb_add, nb_sub, nb_mul, Int.toNat_natCast, mm_kr_s, mm_kv_s, if_pos, if_neg, sq_tn, Int.toNat_zero, Int.reduceToNat, Int.reduceNeg, Nat.reduceAdd, Int.reduceAdd, Int.reduceEq, Int.reduceLT, Int.reduceLE, Int.zero_add, nb_ui_s, nb_ui_k, nb_ui_a, sp_min, sp_max, sp_bits]
    · subst e; simp (disch := (first | assumption | omega | exact nb_ix (by omega) (by assumption) (by omega) (by omega) | exact nb_ix (by omega) rfl (by omega) (by omega) | exact nb_ok (by omega) rfl | decide)) only [kX11_spot, sp_has hTP, hs, hC, hPt, t8, ek, ↓if_pos, ↓if_neg, nb_add, nb_sub, nb_mul, Int.toNat_natCast, mm_kr_s, mm_kv_s, if_pos, if_neg, sq_tn, Int.toNat_zero, Int.reduceToNat, Int.reduceNeg, Nat.reduceAdd, Int.reduceAdd, Int.reduceEq, Int.reduceLT, Int.reduceLE, Int.zero_add, nb_ui_s, nb_ui_k, nb_ui_a, sp_min, sp_max, sp_bits]
    · subst e
      by_cases hz : 0 < N (16 + q)
      · simp (disch := (first | assumption | omega | exact nb_ix (by omega) (by assumption) (by omega) (by omega) | exact nb_ix (by omega) rfl (by omega) (by omega) | exact nb_ok (by omega) rfl | decide)) only [kX11_spot, sp_has hTP, hs, hC, hPt, a6, a7, e2, e3, ↓if_pos, ↓if_neg, nb_add, nb_sub, nb_mul, Int.toNat_natCast, mm_kr_s, mm_kv_s, if_pos, if_neg, sq_tn, Int.toNat_zero, Int.reduceToNat, Int.reduceNeg, Nat.reduceAdd, Int.reduceAdd, Int.reduceEq, Int.reduceLT, Int.reduceLE, Int.zero_add, nb_ui_s, nb_ui_k, nb_ui_a, sp_min, sp_max, sp_bits]
      · simp (disch := (first | assumption | omega | exact nb_ix (by omega) (by assumption) (by omega) (by omega) | exact nb_ix (by omega) rfl (by omega) (by omega) | exact nb_ok (by omega) rfl | decide)) only [kX11_spot, sp_has hTP, hs, hC, hPt, a6, a7, e2, e3, ↓if_pos, ↓if_neg, nb_add, nb_sub, nb_mul, Int.toNat_natCast, mm_kr_s, mm_kv_s, if_pos, if_neg, sq_tn, Int.toNat_zero, Int.reduceToNat, Int.reduceNeg, Nat.reduceAdd, Int.reduceAdd, Int.reduceEq, Int.reduceLT, Int.reduceLE, Int.zero_add, nb_ui_s, nb_ui_k, nb_ui_a, sp_min, sp_max, sp_bits]
    · subst e; simp (disch := (first | assumption | omega | exact nb_ix (by omega) (by assumption) (by omega) (by omega) | exact nb_ix (by omega) rfl (by omega) (by omega) | exact nb_ok (by omega) rfl | decide)) only [kX11_spot, sp_has hTP, hs, hC, hPt, a7, e3, ↓if_pos, ↓if_neg, nb_add, nb_sub, nb_mul, Int.toNat_natCast, mm_kr_s, mm_kv_s, if_pos, if_neg, sq_tn, Int.toNat_zero, Int.reduceToNat, Int.reduceNeg, Nat.reduceAdd, Int.reduceAdd, Int.reduceEq, Int.reduceLT, Int.reduceLE, Int.zero_add, nb_ui_s, nb_ui_k, nb_ui_a, sp_min, sp_max, sp_bits]
    · subst e; simp (disch := (first | assumption | omega | exact nb_ix (by omega) (by assumption) (by omega) (by omega) | exact nb_ix (by omega) rfl (by omega) (by omega) | exact nb_ok (by omega) rfl | decide)) only [kX11_spot, sp_has hTP, hs, hC, hPt, t9, b1, ↓if_pos, ↓if_neg, nb_add, nb_sub, nb_mul, Int.toNat_natCast, mm_kr_s, mm_kv_s, if_pos, if_neg, sq_tn, Int.toNat_zero, Int.reduceToNat, Int.reduceNeg, Nat.reduceAdd, Int.reduceAdd, Int.reduceEq, Int.reduceLT, Int.reduceLE, Int.zero_add, nb_ui_s, nb_ui_k, nb_ui_a, sp_min, sp_max, sp_bits]
  · rw [eX11_spot]
    by_cases h1 : 0 ≤ p ∧ p < (s : Int)
    · by_cases h2 : w < 0
      · simp (disch := (first | assumption | omega | exact nb_ix (by omega) (by assumption) (by omega) (by omega) | exact nb_ix (by omega) rfl (by omega) (by omega) | exact nb_ok (by omega) rfl | decide)) only [kX11_spot, sp_has hTP, hs, hPt, ↓if_pos, ↓if_neg, nb_add, nb_sub, nb_mul, Int.toNat_natCast, mm_kr_s, mm_kv_s, if_pos, if_neg, sq_tn, Int.toNat_zero, Int.reduceToNat, Int.reduceNeg, Nat.reduceAdd, Int.reduceAdd, Int.reduceEq, Int.reduceLT, Int.reduceLE, Int.zero_add, nb_ui_s, nb_ui_k, nb_ui_a, sp_min, sp_max, sp_bits]
      · have h3 : 4 < w := by
          have : ¬ (0 ≤ w ∧ w ≤ 4) := fun z => h ⟨h1, z⟩
          omega
        simp (disch := (first | assumption | omega | exact nb_ix (by omega) (by assumption) (by omega) (by omega) | exact nb_ix (by omega) rfl (by omega) (by omega) | exact nb_ok (by omega) rfl | decide)) only [kX11_spot, sp_has hTP, hs, hPt, ↓if_pos, ↓if_neg, nb_add, nb_sub, nb_mul, Int.toNat_natCast, mm_kr_s, mm_kv_s, if_pos, if_neg, sq_tn, Int.toNat_zero, Int.reduceToNat, Int.reduceNeg, Nat.reduceAdd, Int.reduceAdd, Int.reduceEq, Int.reduceLT, Int.reduceLE, Int.zero_add, nb_ui_s, nb_ui_k, nb_ui_a, sp_min, sp_max, sp_bits]
    · simp (disch := (first | assumption | omega | exact nb_ix (by omega) (by assumption) (by omega) (by omega) | exact nb_ix (by omega) rfl (by omega) (by omega) | exact nb_ok (by omega) rfl | decide)) only [kX11_spot, sp_has hTP, hs, hPt, ↓if_pos, ↓if_neg, nb_add, nb_sub, nb_mul, Int.toNat_natCast, mm_kr_s, mm_kv_s, if_pos, if_neg, sq_tn, Int.toNat_zero, Int.reduceToNat, Int.reduceNeg, Nat.reduceAdd, Int.reduceAdd, Int.reduceEq, Int.reduceLT, Int.reduceLE, Int.zero_add, nb_ui_s, nb_ui_k, nb_ui_a, sp_min, sp_max, sp_bits]
theorem om_spot (hC : sq_MM n c P I s D B g v ev N) (hKr : ∀ p, p < s → I 254 (2 * p + 1) = K p) (p w : Int) : ((0 ≤ p ∧ p < s) ∧ 0 ≤ w ∧ w ≤ 4 → mm_rn (d + 10) 201 [.inr (.inr (some 239)), .inl p, .inl w] n I L P = some (some (.inl (sa_spot B K N p.toNat w)), n, mm_ui I 239 0 0, L, P)) ∧ (¬ ((0 ≤ p ∧ p < s) ∧ 0 ≤ w ∧ w ≤ 4) → mm_rn (d + 10) 201 [.inr (.inr (some 239)), .inl p, .inl w] n I L P = some (some (.inl 0), n, mm_ui I 239 0 1, L, P)) := by
  obtain ⟨hW, hN, hok, hh⟩ := hC
  have hM := hW.1
  have ok := hM.ok
  have hs : I 239 26 = (s : Int) := hW.2.1.2.1
  have hs8 : s ≤ 8 := hW.2.1.1
  have his := sp_isSpot (d := d + 7) (L := L) hM p (I := I) (by omega)
  rw [hs] at his
  have hP := hM.2
  have hn := hM.1
  refine ⟨fun h => ?_, fun h => ?_⟩
  · obtain ⟨h1, h2⟩ := h
    obtain ⟨q, rfl⟩ : ∃ k : Nat, p = (k : Int) := ⟨p.toNat, by omega⟩
    rw [Int.toNat_natCast]
    have e1 := hN q (by omega)
    have e2 := hN (8 + q) (by omega)
    have e3 := hN (16 + q) (by omega)
    have ek := hKr q (by omega)
    have b1 := (hW.2.1.2.2.2.1 q (by omega)).1
    have e5 : (2 * (q : Int) + 1).toNat = 2 * q + 1 := by omega
    have hit := sp_isT (d := d + 8) (I := mm_ui I 239 0 0) (L := L) hM (show q < 8 by omega)
    rw [nb_ui_a (by decide), e3] at hit
    rw [eX12_spot]
    unfold sa_spot
    have hcs : w = 0 ∨ w = 1 ∨ w = 2 ∨ w = 3 ∨ w = 4 := by omega
    rcases hcs with e | e | e | e | e
    · subst e; simp (disch := (first | assumption | omega | exact nb_ix (by omega) (by assumption) (by omega) (by omega) | exact nb_ix (by omega) rfl (by omega) (by omega) | exact nb_ok (by omega) rfl | decide)) only [kX12_spot, his, sp_min2, hP, e1, ↓if_pos, ↓if_neg, nb_add, nb_sub, nb_mul, Int.toNat_natCast, mm_kr_s, mm_kv_s, if_pos, if_neg, sq_tn, Int.toNat_zero, Int.reduceToNat, Int.reduceNeg, Nat.reduceAdd, Int.reduceAdd, Int.reduceEq, Int.reduceLT, Int.reduceLE, Int.zero_add, nb_ui_s, nb_ui_k, nb_ui_a, sp_min, sp_max, sp_bits]
    · subst e; simp (disch := (first | assumption | omega | exact nb_ix (by omega) (by assumption) (by omega) (by omega) | exact nb_ix (by omega) rfl (by omega) (by omega) | exact nb_ok (by omega) rfl | decide)) only [kX12_spot, his, sp_min2, hP, e5, ek, ↓if_pos, ↓if_neg, nb_add, nb_sub, nb_mul, Int.toNat_natCast, mm_kr_s, mm_kv_s, if_pos, if_neg, sq_tn, Int.toNat_zero, Int.reduceToNat, Int.reduceNeg, Nat.reduceAdd, Int.reduceAdd, Int.reduceEq, Int.reduceLT, Int.reduceLE, Int.zero_add, nb_ui_s, nb_ui_k, nb_ui_a, sp_min, sp_max, sp_bits]
    · subst e
      by_cases hz : 0 < N (16 + q)
      · rw [if_pos hz] at hit
        simp (disch := (first | assumption | omega | exact nb_ix (by omega) (by assumption) (by omega) (by omega) | exact nb_ix (by omega) rfl (by omega) (by omega) | exact nb_ok (by omega) rfl | decide)) only [kX12_spot, his, sp_min2, hP, hit, e2, ↓if_pos, ↓if_neg, nb_add, nb_sub, nb_mul, Int.toNat_natCast, mm_kr_s, mm_kv_s, if_pos, if_neg, sq_tn, Int.toNat_zero, Int.reduceToNat, Int.reduceNeg, Nat.reduceAdd, Int.reduceAdd, Int.reduceEq, Int.reduceLT, Int.reduceLE, Int.zero_add, nb_ui_s, nb_ui_k, nb_ui_a, sp_min, sp_max, sp_bits]
      · rw [if_neg hz] at hit
        simp (disch := (first | assumption | omega | exact nb_ix (by omega) (by assumption) (by omega) (by omega) | exact nb_ix (by omega) rfl (by omega) (by omega) | exact nb_ok (by omega) rfl | decide)) only [kX12_spot, his, sp_min2, hP, hit, e2, ↓if_pos, ↓if_neg, nb_add, nb_sub, nb_mul, Int.toNat_natCast, mm_kr_s, mm_kv_s, if_pos, if_neg, sq_tn, Int.toNat_zero, Int.reduceToNat, Int.reduceNeg, Nat.reduceAdd, Int.reduceAdd, Int.reduceEq, Int.reduceLT, Int.reduceLE, Int.zero_add, nb_ui_s, nb_ui_k, nb_ui_a, sp_min, sp_max, sp_bits]
    · subst e; simp (disch := (first | assumption | omega | exact nb_ix (by omega) (by assumption) (by omega) (by omega) | exact nb_ix (by omega) rfl (by omega) (by omega) | exact nb_ok (by omega) rfl | decide)) only [kX12_spot, his, sp_min2, hP, e3, ↓if_pos, ↓if_neg, nb_add, nb_sub, nb_mul, Int.toNat_natCast, mm_kr_s, mm_kv_s, if_pos, if_neg, sq_tn, Int.toNat_zero, Int.reduceToNat, Int.reduceNeg, Nat.reduceAdd, Int.reduceAdd, Int.reduceEq, Int.reduceLT, Int.reduceLE, Int.zero_add, nb_ui_s, nb_ui_k, nb_ui_a, sp_min, sp_max, sp_bits]
    · subst e; simp (disch := (first | assumption | omega | exact nb_ix (by omega) (by assumption) (by omega) (by omega) | exact nb_ix (by omega) rfl (by omega) (by omega) | exact nb_ok (by omega) rfl | decide)) only [kX12_spot, his, sp_min2, hP, b1, ↓if_pos, ↓if_neg, nb_add, nb_sub, nb_mul, Int.toNat_natCast, mm_kr_s, mm_kv_s, if_pos, if_neg, sq_tn, Int.toNat_zero, Int.reduceToNat, Int.reduceNeg, Nat.reduceAdd, Int.reduceAdd, Int.reduceEq, Int.reduceLT, Int.reduceLE, Int.zero_add, nb_ui_s, nb_ui_k, nb_ui_a, sp_min, sp_max, sp_bits]
  · rw [eX12_spot]
    by_cases h1 : 0 ≤ p ∧ p < (s : Int)
    · have h3 : ¬ (0 ≤ w ∧ w ≤ 4) := fun z => h ⟨h1, z⟩
      simp (disch := (first | assumption | omega | exact nb_ix (by omega) (by assumption) (by omega) (by omega) | exact nb_ix (by omega) rfl (by omega) (by omega) | exact nb_ok (by omega) rfl | decide)) only [kX12_spot, his, sp_min2, ↓if_pos, ↓if_neg, nb_add, nb_sub, nb_mul, Int.toNat_natCast, mm_kr_s, mm_kv_s, if_pos, if_neg, sq_tn, Int.toNat_zero, Int.reduceToNat, Int.reduceNeg, Nat.reduceAdd, Int.reduceAdd, Int.reduceEq, Int.reduceLT, Int.reduceLE, Int.zero_add, nb_ui_s, nb_ui_k, nb_ui_a, sp_min, sp_max, sp_bits]
    · simp (disch := (first | assumption | omega | exact nb_ix (by omega) (by assumption) (by omega) (by omega) | exact nb_ix (by omega) rfl (by omega) (by omega) | exact nb_ok (by omega) rfl | decide)) only [kX12_spot, his, sp_min2, ↓if_pos, ↓if_neg, nb_add, nb_sub, nb_mul, Int.toNat_natCast, mm_kr_s, mm_kv_s, if_pos, if_neg, sq_tn, Int.toNat_zero, Int.reduceToNat, Int.reduceNeg, Nat.reduceAdd, Int.reduceAdd, Int.reduceEq, Int.reduceLT, Int.reduceLE, Int.zero_add, nb_ui_s, nb_ui_k, nb_ui_a, sp_min, sp_max, sp_bits]
theorem oc_steps (hC : sq_CC n c P I t u s D B g v lw ev N) (p q : Int) : mm_rn (d + 10) 94 [.inr (.inr (some 0)), .inl p, .inl q] n I L P = some (some (.inl (sa_steps D s p q)), n, I, L, P) := by
  obtain ⟨hP, hW, hLW, hN, hok, hh⟩ := hC
  have ok0 := sq_ok0 hP
  have hs : I t 0 = (s : Int) := hW.2.1.2.2.1
  have hs8 : s ≤ 8 := hW.2.1.2.1
  have hTP := hW.1
  have okt := hTP.ok
  have hPt := hP.2.2.2.2.2.2.1
  rw [eX11_steps]
  unfold sa_steps
  by_cases h1 : 0 ≤ p ∧ p < (s : Int)
  · by_cases h2 : 0 ≤ q ∧ q < (s : Int)
    · obtain ⟨a, rfl⟩ : ∃ k : Nat, p = (k : Int) := ⟨p.toNat, by omega⟩
      obtain ⟨b, rfl⟩ : ∃ k : Nat, q = (k : Int) := ⟨q.toNat, by omega⟩
      have wa := sp_way (d := d + 7) (I := I) (L := L) hTP hs hs8 (show a < s by omega) (show b < s by omega)
      rw [hW.2.1.2.2.2.1 a b (by omega) (by omega)] at wa
      rw [if_pos ⟨h1, h2⟩, Int.toNat_natCast, Int.toNat_natCast]
      simp (disch := (first | assumption | omega | exact nb_ix (by omega) (by assumption) (by omega) (by omega) | exact nb_ix (by omega) rfl (by omega) (by omega) | exact nb_ok (by omega) rfl | decide)) only [kX11_steps, sp_has hTP, hs, hPt, wa, ↓if_pos, ↓if_neg, nb_add, nb_sub, nb_mul, Int.toNat_natCast, mm_kr_s, mm_kv_s, if_pos, if_neg, sq_tn, Int.toNat_zero, Int.reduceToNat, Int.reduceNeg, Nat.reduceAdd, Int.reduceAdd, Int.reduceEq, Int.reduceLT, Int.reduceLE, Int.zero_add, nb_ui_s, nb_ui_k, nb_ui_a, sp_min, sp_max, sp_bits]
    · rw [if_neg (fun z => h2 z.2)]
      simp (disch := (first | assumption | omega | exact nb_ix (by omega) (by assumption) (by omega) (by omega) | exact nb_ix (by omega) rfl (by omega) (by omega) | exact nb_ok (by omega) rfl | decide)) only [kX11_steps, sp_has hTP, hs, hPt, ↓if_pos, ↓if_neg, nb_add, nb_sub, nb_mul, Int.toNat_natCast, mm_kr_s, mm_kv_s, if_pos, if_neg, sq_tn, Int.toNat_zero, Int.reduceToNat, Int.reduceNeg, Nat.reduceAdd, Int.reduceAdd, Int.reduceEq, Int.reduceLT, Int.reduceLE, Int.zero_add, nb_ui_s, nb_ui_k, nb_ui_a, sp_min, sp_max, sp_bits]
  · rw [if_neg (fun z => h1 z.1)]
    simp (disch := (first | assumption | omega | exact nb_ix (by omega) (by assumption) (by omega) (by omega) | exact nb_ix (by omega) rfl (by omega) (by omega) | exact nb_ok (by omega) rfl | decide)) only [kX11_steps, sp_has hTP, hs, hPt, ↓if_pos, ↓if_neg, nb_add, nb_sub, nb_mul, Int.toNat_natCast, mm_kr_s, mm_kv_s, if_pos, if_neg, sq_tn, Int.toNat_zero, Int.reduceToNat, Int.reduceNeg, Nat.reduceAdd, Int.reduceAdd, Int.reduceEq, Int.reduceLT, Int.reduceLE, Int.zero_add, nb_ui_s, nb_ui_k, nb_ui_a, sp_min, sp_max, sp_bits]
theorem om_steps (hC : sq_MM n c P I s D B g v ev N) (p q : Int) : mm_rn (d + 10) 202 [.inr (.inr (some 239)), .inl p, .inl q] n I L P = some (some (.inl (sa_steps D s p q)), n, I, L, P) := by
  obtain ⟨hW, hN, hok, hh⟩ := hC
  have hM := hW.1
  have ok := hM.ok
  have hs : I 239 26 = (s : Int) := hW.2.1.2.1
  have hs8 : s ≤ 8 := hW.2.1.1
  have his := fun p => sp_isSpot (d := d + 7) (L := L) hM p (I := I) (by omega)
  simp only [hs] at his
  rw [eX12_steps]
  unfold sa_steps
  by_cases h1 : 0 ≤ p ∧ p < (s : Int)
  · by_cases h2 : 0 ≤ q ∧ q < (s : Int)
    · obtain ⟨a, rfl⟩ : ∃ k : Nat, p = (k : Int) := ⟨p.toNat, by omega⟩
      obtain ⟨b, rfl⟩ : ∃ k : Nat, q = (k : Int) := ⟨q.toNat, by omega⟩
      have wa := sp_steps (d := d + 8) (I := I) (L := L) hM (show a < 8 by omega) (show b < 8 by omega)
      rw [(hW.2.1.2.2.1 (8 * a + b) (by omega)).1] at wa
      rw [if_pos ⟨h1, h2⟩, Int.toNat_natCast, Int.toNat_natCast]
      simp (disch := (first | assumption | omega | exact nb_ix (by omega) (by assumption) (by omega) (by omega) | exact nb_ix (by omega) rfl (by omega) (by omega) | exact nb_ok (by omega) rfl | decide)) only [kX12_steps, his, wa, ↓if_pos, ↓if_neg, nb_add, nb_sub, nb_mul, Int.toNat_natCast, mm_kr_s, mm_kv_s, if_pos, if_neg, sq_tn, Int.toNat_zero, Int.reduceToNat, Int.reduceNeg, Nat.reduceAdd, Int.reduceAdd, Int.reduceEq, Int.reduceLT, Int.reduceLE, Int.zero_add, nb_ui_s, nb_ui_k, nb_ui_a, sp_min, sp_max, sp_bits]
    · rw [if_neg (fun z => h2 z.2)]
      simp (disch := (first | assumption | omega | exact nb_ix (by omega) (by assumption) (by omega) (by omega) | exact nb_ix (by omega) rfl (by omega) (by omega) | exact nb_ok (by omega) rfl | decide)) only [kX12_steps, his, ↓if_pos, ↓if_neg, nb_add, nb_sub, nb_mul, Int.toNat_natCast, mm_kr_s, mm_kv_s, if_pos, if_neg, sq_tn, Int.toNat_zero, Int.reduceToNat, Int.reduceNeg, Nat.reduceAdd, Int.reduceAdd, Int.reduceEq, Int.reduceLT, Int.reduceLE, Int.zero_add, nb_ui_s, nb_ui_k, nb_ui_a, sp_min, sp_max, sp_bits]
  · rw [if_neg (fun z => h1 z.1)]
    simp (disch := (first | assumption | omega | exact nb_ix (by omega) (by assumption) (by omega) (by omega) | exact nb_ix (by omega) rfl (by omega) (by omega) | exact nb_ok (by omega) rfl | decide)) only [kX12_steps, his, ↓if_pos, ↓if_neg, nb_add, nb_sub, nb_mul, Int.toNat_natCast, mm_kr_s, mm_kv_s, if_pos, if_neg, sq_tn, Int.toNat_zero, Int.reduceToNat, Int.reduceNeg, Nat.reduceAdd, Int.reduceAdd, Int.reduceEq, Int.reduceLT, Int.reduceLE, Int.zero_add, nb_ui_s, nb_ui_k, nb_ui_a, sp_min, sp_max, sp_bits]
theorem oc_status (hP : sq_P n P t u) (hr : ∀ k, k < 5 → I 238 k = rf k) (w : Int) : mm_rn (d + 10) 112 [.inr (.inr (some 0)), .inl w] n I L P = some (some (.inl (sa_status rf w)), n, I, L, P) := by
  have ok0 := sq_ok0 hP
  have hC := hP.2.2.2.2.2.2.2.1
  have hn := hP.1
  have e5 : ((mm_ty 238).2 : Int) = 5 := rfl
  rw [eX11_status]
  unfold sa_status
  by_cases h : 0 ≤ w ∧ w ≤ 4
  · obtain ⟨k, rfl⟩ : ∃ k : Nat, w = (k : Int) := ⟨w.toNat, by omega⟩
    have e1 := hr k (by omega)
    rw [if_pos h, Int.toNat_natCast]
    simp (disch := (first | assumption | omega | exact nb_ix (by omega) (by assumption) (by omega) (by omega) | exact nb_ix (by omega) rfl (by omega) (by omega) | exact nb_ok (by omega) rfl | decide)) only [kX11_status, hC, e5, e1, ↓if_pos, ↓if_neg, nb_add, nb_sub, nb_mul, Int.toNat_natCast, mm_kr_s, mm_kv_s, if_pos, if_neg, sq_tn, Int.toNat_zero, Int.reduceToNat, Int.reduceNeg, Nat.reduceAdd, Int.reduceAdd, Int.reduceEq, Int.reduceLT, Int.reduceLE, Int.zero_add, nb_ui_s, nb_ui_k, nb_ui_a, sp_min, sp_max, sp_bits]
  · rw [if_neg h]
    by_cases h1 : w < 0
    · simp (disch := (first | assumption | omega | exact nb_ix (by omega) (by assumption) (by omega) (by omega) | exact nb_ix (by omega) rfl (by omega) (by omega) | exact nb_ok (by omega) rfl | decide)) only [kX11_status, ↓if_pos, ↓if_neg, nb_add, nb_sub, nb_mul, Int.toNat_natCast, mm_kr_s, mm_kv_s, if_pos, if_neg, sq_tn, Int.toNat_zero, Int.reduceToNat, Int.reduceNeg, Nat.reduceAdd, Int.reduceAdd, Int.reduceEq, Int.reduceLT, Int.reduceLE, Int.zero_add, nb_ui_s, nb_ui_k, nb_ui_a, sp_min, sp_max, sp_bits]
    · simp (disch := (first | assumption | omega | exact nb_ix (by omega) (by assumption) (by omega) (by omega) | exact nb_ix (by omega) rfl (by omega) (by omega) | exact nb_ok (by omega) rfl | decide)) only [kX11_status, hC, e5, ↓if_pos, ↓if_neg, nb_add, nb_sub, nb_mul, Int.toNat_natCast, mm_kr_s, mm_kv_s, if_pos, if_neg, sq_tn, Int.toNat_zero, Int.reduceToNat, Int.reduceNeg, Nat.reduceAdd, Int.reduceAdd, Int.reduceEq, Int.reduceLT, Int.reduceLE, Int.zero_add, nb_ui_s, nb_ui_k, nb_ui_a, sp_min, sp_max, sp_bits]
theorem om_status (hM : sp_M n P) (hr : ∀ k, k < 5 → I 258 k = rf k) (w : Int) : mm_rn (d + 10) 220 [.inr (.inr (some 239)), .inl w] n I L P = some (some (.inl (sa_status rf w)), n, I, L, P) := by
  have ok := hM.ok
  obtain ⟨hn, hP⟩ := hM
  rw [eX12_status]
  unfold sa_status
  by_cases h : 0 ≤ w ∧ w ≤ 4
  · obtain ⟨k, rfl⟩ : ∃ k : Nat, w = (k : Int) := ⟨w.toNat, by omega⟩
    have e1 := hr k (by omega)
    rw [if_pos h, Int.toNat_natCast]
    simp (disch := (first | assumption | omega | exact nb_ix (by omega) (by assumption) (by omega) (by omega) | exact nb_ix (by omega) rfl (by omega) (by omega) | exact nb_ok (by omega) rfl | decide)) only [kX12_status, sp_min2, hP, e1, ↓if_pos, ↓if_neg, nb_add, nb_sub, nb_mul, Int.toNat_natCast, mm_kr_s, mm_kv_s, if_pos, if_neg, sq_tn, Int.toNat_zero, Int.reduceToNat, Int.reduceNeg, Nat.reduceAdd, Int.reduceAdd, Int.reduceEq, Int.reduceLT, Int.reduceLE, Int.zero_add, nb_ui_s, nb_ui_k, nb_ui_a, sp_min, sp_max, sp_bits]
  · rw [if_neg h]
    simp (disch := (first | assumption | omega | exact nb_ix (by omega) (by assumption) (by omega) (by omega) | exact nb_ix (by omega) rfl (by omega) (by omega) | exact nb_ok (by omega) rfl | decide)) only [kX12_status, sp_min2, ↓if_pos, ↓if_neg, nb_add, nb_sub, nb_mul, Int.toNat_natCast, mm_kr_s, mm_kv_s, if_pos, if_neg, sq_tn, Int.toNat_zero, Int.reduceToNat, Int.reduceNeg, Nat.reduceAdd, Int.reduceAdd, Int.reduceEq, Int.reduceLT, Int.reduceLE, Int.zero_add, nb_ui_s, nb_ui_k, nb_ui_a, sp_min, sp_max, sp_bits]
theorem oc_loglen {x : sT} (hP : sq_P n P t u) (hT : rc_T I x) (hS : rs_T s x) : mm_rn (d + 2) 115 [.inr (.inr (some 0))] n I L P = some (some (.inl (x.1 30)), n, I, L, P) := by
  have ok0 := sq_ok0 hP
  have hC := hP.2.2.2.2.2.2.2.1
  have ok40 := (hP.2.2.2.2.2.1 40 (by omega)).ok
  have nf8 : I 40 8 = x.1 29 := (sq_cN_iff.1 hT.1).2.2.2.2.2.2.2.2
  have e30 := hS.2.2.1.2.1
  rw [eX11_logLength]
  simp (disch := (first | assumption | omega | exact nb_ix (by omega) (by assumption) (by omega) (by omega) | exact nb_ix (by omega) rfl (by omega) (by omega) | exact nb_ok (by omega) rfl | decide)) only [kX11_logLength, hC, nf8, ↓if_pos, ↓if_neg, nb_add, nb_sub, nb_mul, Int.toNat_natCast, mm_kr_s, mm_kv_s, if_pos, if_neg, sq_tn, Int.toNat_zero, Int.reduceToNat, Int.reduceNeg, Nat.reduceAdd, Int.reduceAdd, Int.reduceEq, Int.reduceLT, Int.reduceLE, Int.zero_add, nb_ui_s, nb_ui_k, nb_ui_a, sp_min, sp_max, sp_bits]
  rw [e30]
theorem oc_log {x : sT} (hP : sq_P n P t u) (hT : rc_T I x) (hS : rs_T s x) (i w : Int) : mm_rn (d + 10) 114 [.inr (.inr (some 0)), .inl i, .inl w] n I L P = some (some (.inl (sa_log x i w)), n, I, L, P) := by
  have hll := oc_loglen (d := d + 7) (L := L) hP hT hS
  have ok0 := sq_ok0 hP
  have hC := hP.2.2.2.2.2.2.2.1
  have hn := hP.1
  have ok40 := (hP.2.2.2.2.2.1 40 (by omega)).ok
  have ok44 : mm_ok n 44 1 := nb_ok (by omega) rfl
  have nf8 : I 40 8 = x.1 29 := (sq_cN_iff.1 hT.1).2.2.2.2.2.2.2.2
  obtain ⟨e290, e30, _⟩ := hS.2.2.1
  have h9 := hS.2.1
  rw [eX11_log]
  unfold sa_log
  by_cases h1 : 0 ≤ i ∧ i < x.1 30
  · obtain ⟨h, hh⟩ : ∃ h : Nat, x.1 29 - 1 - i = (h : Int) := ⟨(x.1 29 - 1 - i).toNat, by omega⟩
    have hf := sq_fmod (n := n) (d := d + 7) (I := I) (L := L) (P := P) (show h < 100000000 by omega)
    have hm : h % 100 < 100 := by omega
    have hold : sl_old x ≤ (x.1 29).toNat := by
      have hch := rs_chain hS
      unfold sl_old
      by_cases c0 : x.2.1 = 0
      · rw [if_pos c0]; exact Nat.le_refl _
      · rw [if_neg c0]
        have := hch x.2.1 0 (by omega) (by omega)
        omega
    have hrd : ∀ w : Nat, w < 3 → I (45 + w) (h % 100) = x.2.2.2.2 h w := fun w hw => hT.2.2 h w (by omega) (by omega) hw
    have r0 : I 45 (h % 100) = x.2.2.2.2 h 0 := hrd 0 (by omega)
    have r1 : I 46 (h % 100) = x.2.2.2.2 h 1 := hrd 1 (by omega)
    have r2 : I 47 (h % 100) = x.2.2.2.2 h 2 := hrd 2 (by omega)
    have hread : ∀ w : Int, mm_rn (d + 9) 9 [.inr (.inr (some 44)), .inl ((h : Int)), .inl w] n I L P = some (some (.inl (if 0 ≤ w ∧ w ≤ 2 then x.2.2.2.2 h w.toNat else -1)), n, I, L, P) := by
      intro w
      rw [eX1_read]
      by_cases hw : 0 ≤ w ∧ w ≤ 2
      · rw [if_pos hw]
        have hcs : w = 0 ∨ w = 1 ∨ w = 2 := by omega
        rcases hcs with e | e | e <;> subst e <;> simp (disch := (first | assumption | omega | exact nb_ix (by omega) (by assumption) (by omega) (by omega) | exact nb_ix (by omega) rfl (by omega) (by omega) | exact nb_ok (by omega) rfl | decide)) only [kX1_read, hf, hC, r0, r1, r2, ↓if_pos, ↓if_neg, nb_add, nb_sub, nb_mul, Int.toNat_natCast, mm_kr_s, mm_kv_s, if_pos, if_neg, sq_tn, Int.toNat_zero, Int.reduceToNat, Int.reduceNeg, Nat.reduceAdd, Int.reduceAdd, Int.reduceEq, Int.reduceLT, Int.reduceLE, Int.zero_add, nb_ui_s, nb_ui_k, nb_ui_a, sp_min, sp_max, sp_bits]
      · rw [if_neg hw]
        simp (disch := (first | assumption | omega | exact nb_ix (by omega) (by assumption) (by omega) (by omega) | exact nb_ix (by omega) rfl (by omega) (by omega) | exact nb_ok (by omega) rfl | decide)) only [kX1_read, hf, ↓if_pos, ↓if_neg, nb_add, nb_sub, nb_mul, Int.toNat_natCast, mm_kr_s, mm_kv_s, if_pos, if_neg, sq_tn, Int.toNat_zero, Int.reduceToNat, Int.reduceNeg, Nat.reduceAdd, Int.reduceAdd, Int.reduceEq, Int.reduceLT, Int.reduceLE, Int.zero_add, nb_ui_s, nb_ui_k, nb_ui_a, sp_min, sp_max, sp_bits]
    by_cases hw : 0 ≤ w ∧ w ≤ 2
    · rw [if_pos ⟨h1, hw⟩, hh, Int.toNat_natCast]
      simp (disch := (first | assumption | omega | exact nb_ix (by omega) (by assumption) (by omega) (by omega) | exact nb_ix (by omega) rfl (by omega) (by omega) | exact nb_ok (by omega) rfl | decide)) only [kX11_log, hll, hC, nf8, hh, hread, ↓if_pos, ↓if_neg, nb_add, nb_sub, nb_mul, Int.toNat_natCast, mm_kr_s, mm_kv_s, if_pos, if_neg, sq_tn, Int.toNat_zero, Int.reduceToNat, Int.reduceNeg, Nat.reduceAdd, Int.reduceAdd, Int.reduceEq, Int.reduceLT, Int.reduceLE, Int.zero_add, nb_ui_s, nb_ui_k, nb_ui_a, sp_min, sp_max, sp_bits]
    · rw [if_neg (fun z => hw z.2)]
      simp (disch := (first | assumption | omega | exact nb_ix (by omega) (by assumption) (by omega) (by omega) | exact nb_ix (by omega) rfl (by omega) (by omega) | exact nb_ok (by omega) rfl | decide)) only [kX11_log, hll, hC, nf8, hh, hread, ↓if_pos, ↓if_neg, nb_add, nb_sub, nb_mul, Int.toNat_natCast, mm_kr_s, mm_kv_s, if_pos, if_neg, sq_tn, Int.toNat_zero, Int.reduceToNat, Int.reduceNeg, Nat.reduceAdd, Int.reduceAdd, Int.reduceEq, Int.reduceLT, Int.reduceLE, Int.zero_add, nb_ui_s, nb_ui_k, nb_ui_a, sp_min, sp_max, sp_bits]
  · rw [if_neg (fun z => h1 z.1)]
    by_cases h2 : i < 0
    · simp (disch := (first | assumption | omega | exact nb_ix (by omega) (by assumption) (by omega) (by omega) | exact nb_ix (by omega) rfl (by omega) (by omega) | exact nb_ok (by omega) rfl | decide)) only [kX11_log, ↓if_pos, ↓if_neg, nb_add, nb_sub, nb_mul, Int.toNat_natCast, mm_kr_s, mm_kv_s, if_pos, if_neg, sq_tn, Int.toNat_zero, Int.reduceToNat, Int.reduceNeg, Nat.reduceAdd, Int.reduceAdd, Int.reduceEq, Int.reduceLT, Int.reduceLE, Int.zero_add, nb_ui_s, nb_ui_k, nb_ui_a, sp_min, sp_max, sp_bits]
    · simp (disch := (first | assumption | omega | exact nb_ix (by omega) (by assumption) (by omega) (by omega) | exact nb_ix (by omega) rfl (by omega) (by omega) | exact nb_ok (by omega) rfl | decide)) only [kX11_log, hll, ↓if_pos, ↓if_neg, nb_add, nb_sub, nb_mul, Int.toNat_natCast, mm_kr_s, mm_kv_s, if_pos, if_neg, sq_tn, Int.toNat_zero, Int.reduceToNat, Int.reduceNeg, Nat.reduceAdd, Int.reduceAdd, Int.reduceEq, Int.reduceLT, Int.reduceLE, Int.zero_add, nb_ui_s, nb_ui_k, nb_ui_a, sp_min, sp_max, sp_bits]
theorem om_log {x : sT} (hM : sp_M n P) (hN : sq_mN I x.1) (hS : rs_T s x) (i w : Int) : mm_rn (d + 10) 222 [.inr (.inr (some 239)), .inl i, .inl w] n I L P = some (some (.inl (sa_log x i w)), n, I, L, P) := by
  have ok := hM.ok
  obtain ⟨hn, hP⟩ := hM
  obtain ⟨e290, e30, hlg⟩ := hS.2.2.1
  have x30 := hN 30 (by omega)
  have h9 := hS.2.1
  rw [eX12_log]
  unfold sa_log
  by_cases h1 : 0 ≤ i ∧ i < x.1 30
  · have h1' : 0 ≤ i ∧ i ≤ x.1 30 - 1 := by omega
    by_cases hw : 0 ≤ w ∧ w ≤ 2
    · rw [if_pos ⟨h1, hw⟩]
      obtain ⟨k, hk⟩ : ∃ k : Nat, x.1 30 - 1 - i = (k : Int) := ⟨(x.1 30 - 1 - i).toNat, by omega⟩
      obtain ⟨b, rfl⟩ : ∃ k : Nat, w = (k : Int) := ⟨w.toNat, by omega⟩
      have e1 := hlg k b (by omega) (by omega)
      have e2 : (x.1 29 - x.1 30).toNat + k = (x.1 29 - 1 - i).toNat := by omega
      have e3 := hN (31 + 3 * k + b) (by omega)
      rw [e1, e2] at e3
      have e4 : (31 + 3 * (k : Int) + (b : Int)).toNat = 31 + 3 * k + b := by omega
      rw [Int.toNat_natCast]
      simp (disch := (first | assumption | omega | exact nb_ix (by omega) (by assumption) (by omega) (by omega) | exact nb_ix (by omega) rfl (by omega) (by omega) | exact nb_ok (by omega) rfl | decide)) only [kX12_log, hP, x30, sp_min2, hk, e4, e3, ↓if_pos, ↓if_neg, nb_add, nb_sub, nb_mul, Int.toNat_natCast, mm_kr_s, mm_kv_s, if_pos, if_neg, sq_tn, Int.toNat_zero, Int.reduceToNat, Int.reduceNeg, Nat.reduceAdd, Int.reduceAdd, Int.reduceEq, Int.reduceLT, Int.reduceLE, Int.zero_add, nb_ui_s, nb_ui_k, nb_ui_a, sp_min, sp_max, sp_bits]
    · rw [if_neg (fun z => hw z.2)]
      simp (disch := (first | assumption | omega | exact nb_ix (by omega) (by assumption) (by omega) (by omega) | exact nb_ix (by omega) rfl (by omega) (by omega) | exact nb_ok (by omega) rfl | decide)) only [kX12_log, hP, x30, sp_min2, ↓if_pos, ↓if_neg, nb_add, nb_sub, nb_mul, Int.toNat_natCast, mm_kr_s, mm_kv_s, if_pos, if_neg, sq_tn, Int.toNat_zero, Int.reduceToNat, Int.reduceNeg, Nat.reduceAdd, Int.reduceAdd, Int.reduceEq, Int.reduceLT, Int.reduceLE, Int.zero_add, nb_ui_s, nb_ui_k, nb_ui_a, sp_min, sp_max, sp_bits]
  · have h1' : ¬ (0 ≤ i ∧ i ≤ x.1 30 - 1) := by omega
    rw [if_neg (fun z => h1 z.1)]
    simp (disch := (first | assumption | omega | exact nb_ix (by omega) (by assumption) (by omega) (by omega) | exact nb_ix (by omega) rfl (by omega) (by omega) | exact nb_ok (by omega) rfl | decide)) only [kX12_log, hP, x30, sp_min2, ↓if_pos, ↓if_neg, nb_add, nb_sub, nb_mul, Int.toNat_natCast, mm_kr_s, mm_kv_s, if_pos, if_neg, sq_tn, Int.toNat_zero, Int.reduceToNat, Int.reduceNeg, Nat.reduceAdd, Int.reduceAdd, Int.reduceEq, Int.reduceLT, Int.reduceLE, Int.zero_add, nb_ui_s, nb_ui_k, nb_ui_a, sp_min, sp_max, sp_bits]
theorem oc_count {x : sT} {nl z ck : Nat} {hl : Int} (hP : sq_P n P t u) (hs : I t 0 = (s : Int)) (hT : rc_T I x) (hS : rs_T s x) (h5 : I 0 5 = (nl : Int)) (h6 : I 0 6 = hl) (h7 : I 0 7 = pe) (hz : I 1 1 = (z : Int)) (hck : I 218 4 = (ck : Int)) (w : Int) : mm_rn (d + 10) 144 [.inr (.inr (some 0)), .inl w] n I L P = some (some (.inl (sa_count s nl z ck x.2.1 hl pe x.1 w)), n, I, L, P) := by
  have hll := oc_loglen (d := d + 7) (L := L) hP hT hS
  have ok0 := sq_ok0 hP
  have okt := hP.2.2.2.1.ok
  have hC := hP.2.2.2.2.2.2.2.1
  have hPt := hP.2.2.2.2.2.2.1
  have hn := hP.1
  have ok40 := (hP.2.2.2.2.2.1 40 (by omega)).ok
  have nf8 : I 40 8 = x.1 29 := (sq_cN_iff.1 hT.1).2.2.2.2.2.2.2.2
  have p3 := hT.2.1.2.2.1
  rw [eX11_count]
  unfold sa_count
  by_cases hw : 0 ≤ w ∧ w ≤ 8
  · have hcs : w = 0 ∨ w = 1 ∨ w = 2 ∨ w = 3 ∨ w = 4 ∨ w = 5 ∨ w = 6 ∨ w = 7 ∨ w = 8 := by omega
    rcases hcs with e | e | e | e | e | e | e | e | e <;> subst e <;> simp (disch := (first | assumption | omega | exact nb_ix (by omega) (by assumption) (by omega) (by omega) | exact nb_ix (by omega) rfl (by omega) (by omega) | exact nb_ok (by omega) rfl | decide)) only [kX11_count, hC, hPt, hs, h5, h6, h7, hz, hck, nf8, p3, hll, ↓if_pos, ↓if_neg, nb_add, nb_sub, nb_mul, Int.toNat_natCast, mm_kr_s, mm_kv_s, if_pos, if_neg, sq_tn, Int.toNat_zero, Int.reduceToNat, Int.reduceNeg, Nat.reduceAdd, Int.reduceAdd, Int.reduceEq, Int.reduceLT, Int.reduceLE, Int.zero_add, nb_ui_s, nb_ui_k, nb_ui_a, sp_min, sp_max, sp_bits]
  · simp (disch := (first | assumption | omega | exact nb_ix (by omega) (by assumption) (by omega) (by omega) | exact nb_ix (by omega) rfl (by omega) (by omega) | exact nb_ok (by omega) rfl | decide)) only [kX11_count, ↓if_pos, ↓if_neg, nb_add, nb_sub, nb_mul, Int.toNat_natCast, mm_kr_s, mm_kv_s, if_pos, if_neg, sq_tn, Int.toNat_zero, Int.reduceToNat, Int.reduceNeg, Nat.reduceAdd, Int.reduceAdd, Int.reduceEq, Int.reduceLT, Int.reduceLE, Int.zero_add, nb_ui_s, nb_ui_k, nb_ui_a, sp_min, sp_max, sp_bits]
theorem om_count {x : sT} {nl z ck : Nat} {hl : Int} (hM : sp_M n P) (hs : I 239 26 = (s : Int)) (hT : rm_T I x) (h5 : I 239 13 = (nl : Int)) (h6 : I 239 29 = hl) (h7 : I 239 30 = pe) (hz : I 239 2 = (z : Int)) (hck : I 239 42 = (ck : Int)) (w : Int) : mm_rn (d + 10) 262 [.inr (.inr (some 239)), .inl w] n I L P = some (some (.inl (sa_count s nl z ck x.2.1 hl pe x.1 w)), n, I, L, P) := by
  have ok := hM.ok
  obtain ⟨hn, hP⟩ := hM
  have e29 := hT.1 29 (by omega)
  have e30 := hT.1 30 (by omega)
  have p3 := hT.2.1
  rw [eX12_count]
  unfold sa_count
  by_cases hw : 0 ≤ w ∧ w ≤ 8
  · have hcs : w = 0 ∨ w = 1 ∨ w = 2 ∨ w = 3 ∨ w = 4 ∨ w = 5 ∨ w = 6 ∨ w = 7 ∨ w = 8 := by omega
    rcases hcs with e | e | e | e | e | e | e | e | e <;> subst e <;> simp (disch := (first | assumption | omega | exact nb_ix (by omega) (by assumption) (by omega) (by omega) | exact nb_ix (by omega) rfl (by omega) (by omega) | exact nb_ok (by omega) rfl | decide)) only [kX12_count, hP, hs, h5, h6, h7, hz, hck, e29, e30, p3, ↓if_pos, ↓if_neg, nb_add, nb_sub, nb_mul, Int.toNat_natCast, mm_kr_s, mm_kv_s, if_pos, if_neg, sq_tn, Int.toNat_zero, Int.reduceToNat, Int.reduceNeg, Nat.reduceAdd, Int.reduceAdd, Int.reduceEq, Int.reduceLT, Int.reduceLE, Int.zero_add, nb_ui_s, nb_ui_k, nb_ui_a, sp_min, sp_max, sp_bits]
  · simp (disch := (first | assumption | omega | exact nb_ix (by omega) (by assumption) (by omega) (by omega) | exact nb_ix (by omega) rfl (by omega) (by omega) | exact nb_ok (by omega) rfl | decide)) only [kX12_count, ↓if_pos, ↓if_neg, nb_add, nb_sub, nb_mul, Int.toNat_natCast, mm_kr_s, mm_kv_s, if_pos, if_neg, sq_tn, Int.toNat_zero, Int.reduceToNat, Int.reduceNeg, Nat.reduceAdd, Int.reduceAdd, Int.reduceEq, Int.reduceLT, Int.reduceLE, Int.zero_add, nb_ui_s, nb_ui_k, nb_ui_a, sp_min, sp_max, sp_bits]
end SI
