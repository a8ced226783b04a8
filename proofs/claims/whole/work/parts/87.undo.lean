/-! the model's years; undo, image, back: both halves -/
section UN
variable {n c t u s d : Nat} {I L : mm_I} {P : mm_P} {D : Nat → Int} {B : Nat → Nat} {g v pe : Int} {lw : Option Nat} {ev : sv_E} {N : Nat → Int}
set_option maxHeartbeats 2000000 in
theorem ob_years {x : sT} (hd : c ≤ d) (hC : sq_MM n c P I s D B g v ev x.1) (hA : rm_past I x.2.1 x.2.2.1) (hS : rs_T s x) (hpe : I 239 30 = pe) (y z : Int) : (¬ sa_years s x.1 y → mm_rn (d + 10) 219 [.inr (.inr (some 239)), .inl y, .inr (.inl z)] n I L P = some (some (.inl (-1)), n, I, L, P)) ∧ (sa_years s x.1 y → ∃ L', sq_X (some (.inl (x.1 29 + y))) n L' P (fun I' => rm_T I' (sy_it (sw_live ev D B g s) s B pe y.toNat (x, z)).1 ∧ sq_ft I I') (mm_rn (d + 10) 219 [.inr (.inr (some 239)), .inl y, .inr (.inl z)] n I L P)) := by
  obtain ⟨hW, hN, hok, hh⟩ := hC
  have hM := hW.1
  have ok := hM.ok
  have hs : I 239 26 = (s : Int) := hW.2.1.2.1
  have hs8 : s ≤ 8 := hW.2.1.1
  have hg5 := hW.2.2.2
  have hP := hM.2
  have hn := hM.1
  have e29 := hN 29 (by omega)
  have h290 := hS.2.2.1.1
  have hah : mm_rn (d + 9) 207 [.inr (.inr (some 239)), .inl y] n I L P = some (some (.inl (if (1 ≤ y ∧ y ≤ 60) ∧ x.1 29 + y ≤ 9999 then 1 else 0)), n, I, L, P) := by
    rw [eX12_areHours]
    by_cases h1 : 1 ≤ y ∧ y ≤ 60
    · by_cases h : x.1 29 + y ≤ 9999
      · rw [if_pos ⟨h1, h⟩]
        simp (disch := (first | assumption | omega | exact nb_ix (by omega) (by assumption) (by omega) (by omega) | exact nb_ix (by omega) rfl (by omega) (by omega) | exact nb_ok (by omega) rfl | decide)) only [kX12_areHours, sp_min2, hP, e29, ↓if_pos, ↓if_neg, nb_add, nb_sub, nb_mul, Int.toNat_natCast, mm_kr_s, mm_kv_s, if_pos, if_neg, sq_tn, Int.toNat_zero, Int.reduceToNat, Int.reduceNeg, Nat.reduceAdd, Int.reduceAdd, Int.reduceEq, Int.reduceLT, Int.reduceLE, Int.zero_add, nb_ui_s, nb_ui_k, nb_ui_a, sp_min, sp_max, sp_bits]
      · rw [if_neg (fun q => h q.2)]
        simp (disch := (first | assumption | omega | exact nb_ix (by omega) (by assumption) (by omega) (by omega) | exact nb_ix (by omega) rfl (by omega) (by omega) | exact nb_ok (by omega) rfl | decide)) only [kX12_areHours, sp_min2, hP, e29, ↓if_pos, ↓if_neg, nb_add, nb_sub, nb_mul, Int.toNat_natCast, mm_kr_s, mm_kv_s, if_pos, if_neg, sq_tn, Int.toNat_zero, Int.reduceToNat, Int.reduceNeg, Nat.reduceAdd, Int.reduceAdd, Int.reduceEq, Int.reduceLT, Int.reduceLE, Int.zero_add, nb_ui_s, nb_ui_k, nb_ui_a, sp_min, sp_max, sp_bits]
    · rw [if_neg (fun q => h1 q.1)]
      simp (disch := (first | assumption | omega | exact nb_ix (by omega) (by assumption) (by omega) (by omega) | exact nb_ix (by omega) rfl (by omega) (by omega) | exact nb_ok (by omega) rfl | decide)) only [kX12_areHours, sp_min2, ↓if_pos, ↓if_neg, nb_add, nb_sub, nb_mul, Int.toNat_natCast, mm_kr_s, mm_kv_s, if_pos, if_neg, sq_tn, Int.toNat_zero, Int.reduceToNat, Int.reduceNeg, Nat.reduceAdd, Int.reduceAdd, Int.reduceEq, Int.reduceLT, Int.reduceLE, Int.zero_add, nb_ui_s, nb_ui_k, nb_ui_a, sp_min, sp_max, sp_bits]
  rw [eX12_years]
  refine ⟨fun hno => ?_, fun hyes => ?_⟩
  · by_cases h1 : s = 0
    · simp (disch := (first | assumption | omega | exact nb_ix (by omega) (by assumption) (by omega) (by omega) | exact nb_ix (by omega) rfl (by omega) (by omega) | exact nb_ok (by omega) rfl | decide)) only [kX12_years, hs, ↓if_pos, ↓if_neg, nb_add, nb_sub, nb_mul, Int.toNat_natCast, mm_kr_s, mm_kv_s, if_pos, if_neg, sq_tn, Int.toNat_zero, Int.reduceToNat, Int.reduceNeg, Nat.reduceAdd, Int.reduceAdd, Int.reduceEq, Int.reduceLT, Int.reduceLE, Int.zero_add, nb_ui_s, nb_ui_k, nb_ui_a, sp_min, sp_max, sp_bits]
    · have h2 : ¬ ((1 ≤ y ∧ y ≤ 60) ∧ x.1 29 + y ≤ 9999) := fun q => hno ⟨by omega, q⟩
      rw [if_neg h2] at hah
      simp (disch := (first | assumption | omega | exact nb_ix (by omega) (by assumption) (by omega) (by omega) | exact nb_ix (by omega) rfl (by omega) (by omega) | exact nb_ok (by omega) rfl | decide)) only [kX12_years, hs, hah, ↓if_pos, ↓if_neg, nb_add, nb_sub, nb_mul, Int.toNat_natCast, mm_kr_s, mm_kv_s, if_pos, if_neg, sq_tn, Int.toNat_zero, Int.reduceToNat, Int.reduceNeg, Nat.reduceAdd, Int.reduceAdd, Int.reduceEq, Int.reduceLT, Int.reduceLE, Int.zero_add, nb_ui_s, nb_ui_k, nb_ui_a, sp_min, sp_max, sp_bits]
  · obtain ⟨h1, h2, h3⟩ := hyes
    have h1' : ¬ (s : Int) = 0 := by omega
    rw [if_pos ⟨h2, h3⟩] at hah
    obtain ⟨m, rfl⟩ : ∃ k : Nat, y = (k : Int) := ⟨y.toNat, by omega⟩
    rw [Int.toNat_natCast]
    refine ⟨mm_ui L 239 34 (sy_it (sw_live ev D B g s) s B pe m (x, z)).2, ?_⟩
    simp (disch := (first | assumption | omega | exact nb_ix (by omega) (by assumption) (by omega) (by omega) | exact nb_ix (by omega) rfl (by omega) (by omega) | exact nb_ok (by omega) rfl | decide)) only [kX12_years, hs, hah, ↓if_pos, ↓if_neg, nb_add, nb_sub, nb_mul, Int.toNat_natCast, mm_kr_s, mm_kv_s, if_pos, if_neg, sq_tn, Int.toNat_zero, Int.reduceToNat, Int.reduceNeg, Nat.reduceAdd, Int.reduceAdd, Int.reduceEq, Int.reduceLT, Int.reduceLE, Int.zero_add, nb_ui_s, nb_ui_k, nb_ui_a, sp_min, sp_max, sp_bits]
    refine sq_loop (fun i (J : mm_I) => mm_E (d + 9) 219 25 [.inr (.inr (some 239)), .inl ((m : Int)), mm_junk, mm_junk, .inl ((i : Nat))] [none, none, some z, none, none] [] n J (mm_ui L 239 34 (sy_it (sw_live ev D B g s) s B pe i (x, z)).2) P) (fun i J => rm_T J (sy_it (sw_live ev D B g s) s B pe i (x, z)).1 ∧ sq_ft I J) m (s0 := I) ⟨⟨hN, hA⟩, sq_ft_refl _⟩ ?_ ?_
    · intro i J hi ⟨j1, j2⟩ ih
      have hsy := sy_it_rs (ev := ev) (D := D) (B := B) (pe := pe) (y := (x, z)) hs8 h1 hg5 hS i (by show x.1 29 + _ ≤ _; omega)
      have esy : sy_it (sw_live ev D B g s) s B pe (i + 1) (x, z) = (sh_st (sw_live ev D B g s) s (sy_it (sw_live ev D B g s) s B pe i (x, z)).1 (sy_N1 s B pe (sy_it (sw_live ev D B g s) s B pe i (x, z)).1.1 (sy_it (sw_live ev D B g s) s B pe i (x, z)).2), sy_nd (sy_x pe (sy_it (sw_live ev D B g s) s B pe i (x, z)).2)) := rfl
      rw [esy] at ih
      revert hsy ih j1
      generalize sy_it (sw_live ev D B g s) s B pe i (x, z) = X
      obtain ⟨X, w⟩ := X
      intro j1 ih hsy
      obtain ⟨s1, s2⟩ := hsy
      have s1' : rs_T s X := s1
      have s2' : X.1 29 = x.1 29 + i := s2
      have j1' : rm_T J X := j1
      have hlo := s1'.2.2.1
      obtain ⟨n1, n2⟩ := sy_N1_ok (B := B) (pe := pe) (x := w) s1'.1 hs8 h1
      show sq_X _ _ _ _ _ (mm_E _ _ _ _ _ _ _ _ _ _)
      rw [hX12_years_25]
      simp (disch := (first | assumption | omega | exact nb_ix (by omega) (by assumption) (by omega) (by omega) | exact nb_ix (by omega) rfl (by omega) (by omega) | exact nb_ok (by omega) rfl | decide)) only [kX12_years, ↓if_pos, ↓if_neg, nb_add, nb_sub, nb_mul, Int.toNat_natCast, mm_kr_s, mm_kv_s, if_pos, if_neg, sq_tn, Int.toNat_zero, Int.reduceToNat, Int.reduceNeg, Nat.reduceAdd, Int.reduceAdd, Int.reduceEq, Int.reduceLT, Int.reduceLE, Int.zero_add, nb_ui_s, nb_ui_k, nb_ui_a, sp_min, sp_max, sp_bits]
      refine sq_kv (sq_mkeep (d := d + 8) hM j1'.1 j1'.2) (fun J1 hJ1 => ?_)
      have hf1 := sq_ft_trans j2 (sq_ft_fk hJ1.2)
      have hW1 := sq_MW_ft hW hf1
      have hN1 := sq_fk_mN hJ1.2 j1'.1
      simp (disch := (first | assumption | omega | exact nb_ix (by omega) (by assumption) (by omega) (by omega) | exact nb_ix (by omega) rfl (by omega) (by omega) | exact nb_ok (by omega) rfl | decide)) only [kX12_years, ↓if_pos, ↓if_neg, nb_add, nb_sub, nb_mul, Int.toNat_natCast, mm_kr_s, mm_kv_s, if_pos, if_neg, sq_tn, Int.toNat_zero, Int.reduceToNat, Int.reduceNeg, Nat.reduceAdd, Int.reduceAdd, Int.reduceEq, Int.reduceLT, Int.reduceLE, Int.zero_add, nb_ui_s, nb_ui_k, nb_ui_a, sp_min, sp_max, sp_bits]
      refine sq_kv (sq_mdrawH (pe := pe) (d := d + 7) hW1 h1 (by rw [hf1.2 30 (by omega)]; exact hpe) hN1 s1'.1 w) (fun J2 hJ2 => ?_)
      have hf2 := sq_ft_trans hf1 (sq_ft_fr hJ2.2 (by simp))
      have hW2 := sq_MW_ft hW hf2
      simp (disch := (first | assumption | omega | exact nb_ix (by omega) (by assumption) (by omega) (by omega) | exact nb_ix (by omega) rfl (by omega) (by omega) | exact nb_ok (by omega) rfl | decide)) only [kX12_years, ↓if_pos, ↓if_neg, nb_add, nb_sub, nb_mul, Int.toNat_natCast, mm_kr_s, mm_kv_s, if_pos, if_neg, sq_tn, Int.toNat_zero, Int.reduceToNat, Int.reduceNeg, Nat.reduceAdd, Int.reduceAdd, Int.reduceEq, Int.reduceLT, Int.reduceLE, Int.zero_add, nb_ui_s, nb_ui_k, nb_ui_a, sp_min, sp_max, sp_bits]
      refine sq_kv (sq_mlogged (d := d + 3) (by omega) hW2 hJ2.1 n1 (by rw [n2 29 (by omega)]; omega) (by rw [n2 30 (by omega)]; have := hlo.1; have := hlo.2.1; omega)) (fun J3 hJ3 => ?_)
      simp (disch := (first | assumption | omega | exact nb_ix (by omega) (by assumption) (by omega) (by omega) | exact nb_ix (by omega) rfl (by omega) (by omega) | exact nb_ok (by omega) rfl | decide)) only [kX12_years, ↓if_pos, ↓if_neg, nb_add, nb_sub, nb_mul, Int.toNat_natCast, mm_kr_s, mm_kv_s, if_pos, if_neg, sq_tn, Int.toNat_zero, Int.reduceToNat, Int.reduceNeg, Nat.reduceAdd, Int.reduceAdd, Int.reduceEq, Int.reduceLT, Int.reduceLE, Int.zero_add, nb_ui_s, nb_ui_k, nb_ui_a, sp_min, sp_max, sp_bits]
      refine ih _ ⟨⟨hJ3.1, ?_⟩, sq_ft_trans hf2 (sq_ft_fr hJ3.2 (fun _ h => h))⟩
      obtain ⟨p1, p2, p3⟩ := hJ1.1
      show rm_past J3 (sk_na _) (sk_H _ _ _)
      unfold rm_past
      rw [hJ3.2 239 (by decide), hJ3.2 260 (by decide), hJ2.2 239 (by decide), hJ2.2 260 (by decide)]
      exact ⟨p1, p2, p3⟩
    · intro J ⟨j1, j2⟩
      have hsy := sy_it_rs (ev := ev) (D := D) (B := B) (pe := pe) (y := (x, z)) hs8 h1 hg5 hS m (by show x.1 29 + _ ≤ _; omega)
      have e8 : J 257 29 = x.1 29 + m := by rw [j1.1 29 (by omega)]; exact hsy.2
      rw [hX12_years_25]
      simp (disch := (first | assumption | omega | exact nb_ix (by omega) (by assumption) (by omega) (by omega) | exact nb_ix (by omega) rfl (by omega) (by omega) | exact nb_ok (by omega) rfl | decide)) only [kX12_years, hP, e8, ↓if_pos, ↓if_neg, nb_add, nb_sub, nb_mul, Int.toNat_natCast, mm_kr_s, mm_kv_s, if_pos, if_neg, sq_tn, Int.toNat_zero, Int.reduceToNat, Int.reduceNeg, Nat.reduceAdd, Int.reduceAdd, Int.reduceEq, Int.reduceLT, Int.reduceLE, Int.zero_add, nb_ui_s, nb_ui_k, nb_ui_a, sp_min, sp_max, sp_bits]
      exact sq_ret ⟨j1, j2⟩
/-! undo -/
def su_nx (nx : Nat) : Nat := if nx = 0 then 39 else nx - 1
def su_T (x : sT) : sT := (x.2.2.1 (x.2.1 - 1), x.2.1 - 1, x.2.2.1, su_nx x.2.2.2.1, x.2.2.2.2)
theorem sl_old_undo {x : sT} (h : rs_T s x) (h0 : 0 < x.2.1) : sl_old (su_T x) = sl_old x := by
  obtain ⟨N, na, H, nx, Lg⟩ := x
  have h0' : 0 < na := h0
  show (if na - 1 = 0 then (H (na - 1) 29).toNat else (H 0 29).toNat) = (if na = 0 then (N 29).toNat else (H 0 29).toNat)
  rw [if_neg (show ¬ na = 0 by omega)]
  by_cases c : na - 1 = 0
  · rw [if_pos c, c]
  · rw [if_neg c]
theorem oa_undo {x : sT} (hP : sq_P n P t u) (hT : rc_T I x) (hS : rs_T s x) : (x.2.1 = 0 → mm_rn (d + 10) 113 [.inr (.inr (some 0))] n I L P = some (some (.inl (-1)), n, I, L, P)) ∧ (0 < x.2.1 → sq_X (some (.inl (((x.2.1 - 1 : Nat) : Int)))) n L P (fun I' => rc_T I' (su_T x) ∧ sq_fr sq_TL I I') (mm_rn (d + 10) 113 [.inr (.inr (some 0))] n I L P)) := by
  have hch := rs_chain hS
  obtain ⟨N, na, H, nx, Lg⟩ := x
  have ok0 := sq_ok0 hP
  have hC := hP.2.2.2.2.2.2.2.1
  have hn := hP.1
  have ok48 : mm_ok n 48 6 := nb_ok (by omega) rfl
  have ok40 := (hP.2.2.2.2.2.1 40 (by omega)).ok
  obtain ⟨r1, ⟨p1, p2, p3, p4, p5⟩, r3⟩ := hT
  have p1' : I 48 1 = (nx : Int) := p1
  have p2' : nx < 40 := p2
  have p3' : I 48 2 = (na : Int) := p3
  have p4' : na ≤ 40 := p4
  rw [eX11_undo]
  refine ⟨fun h0 => ?_, fun h0 => ?_⟩
  · have h0' : na = 0 := h0
    have p30 : I 48 2 = 0 := by rw [p3', h0']; rfl
    have hg : mm_rn (d + 9) 52 [.inr (.inr (some 48)), .inr (.inr (some 40))] n I L P = some (some (.inl 0), n, I, L, P) := by
      rw [eX6_giveBack]
      simp (disch := (first | assumption | omega | exact nb_ix (by omega) (by assumption) (by omega) (by omega) | exact nb_ix (by omega) rfl (by omega) (by omega) | exact nb_ok (by omega) rfl | decide)) only [kX6_giveBack, p30, ↓if_pos, ↓if_neg, nb_add, nb_sub, nb_mul, Int.toNat_natCast, mm_kr_s, mm_kv_s, if_pos, if_neg, sq_tn, Int.toNat_zero, Int.reduceToNat, Int.reduceNeg, Nat.reduceAdd, Int.reduceAdd, Int.reduceEq, Int.reduceLT, Int.reduceLE, Int.zero_add, nb_ui_s, nb_ui_k, nb_ui_a, sp_min, sp_max, sp_bits]
    simp (disch := (first | assumption | omega | exact nb_ix (by omega) (by assumption) (by omega) (by omega) | exact nb_ix (by omega) rfl (by omega) (by omega) | exact nb_ok (by omega) rfl | decide)) only [kX11_undo, hC, hg, ↓if_pos, ↓if_neg, nb_add, nb_sub, nb_mul, Int.toNat_natCast, mm_kr_s, mm_kv_s, if_pos, if_neg, sq_tn, Int.toNat_zero, Int.reduceToNat, Int.reduceNeg, Nat.reduceAdd, Int.reduceAdd, Int.reduceEq, Int.reduceLT, Int.reduceLE, Int.zero_add, nb_ui_s, nb_ui_k, nb_ui_a, sp_min, sp_max, sp_bits]
  · have h0' : 0 < na := h0
    have hpos : (nx + 40 - na + (na - 1)) % 40 = su_nx nx := by unfold su_nx; split <;> omega
    have hsl : su_nx nx < 40 := by unfold su_nx; split <;> omega
    have hlast := p5 (na - 1) (show na - 1 < na by omega)
    have hl2 : sq_cN I (50 + 4 * su_nx nx) (H (na - 1)) := by rw [← hpos]; exact hlast
    have hA50 := hP.2.2.2.2.2.1 (50 + 4 * su_nx nx) (by omega)
    have h49 := hP.2.2.2.2.2.2.2.2.2 (su_nx nx) hsl
    have hg : sq_X (some (.inl 1)) n L P (fun I' => rc_T I' (su_T (N, na, H, nx, Lg)) ∧ I' 48 2 = ((na - 1 : Nat) : Int) ∧ sq_fr sq_TL I I') (mm_rn (d + 9) 52 [.inr (.inr (some 48)), .inr (.inr (some 40))] n I L P) := by
      have hna0 : ¬ (na : Int) = 0 := by omega
      have ena : (na : Int) - 1 = ((na - 1 : Nat) : Int) := by omega
      -- the copy
      have fin : ∀ K : mm_I, K 48 1 = (su_nx nx : Int) → K 48 2 = ((na - 1 : Nat) : Int) → (∀ b, b ≠ 48 → K b = I b) → sq_X (some (.inl 1)) n L P (fun I' => rc_T I' (su_T (N, na, H, nx, Lg)) ∧ I' 48 2 = ((na - 1 : Nat) : Int) ∧ sq_fr sq_TL I I') (mm_kv (d + 8) 52 54 [.inr (.inr (some 48)), .inr (.inr (some 40))] [] [] n (mm_rn (d + 8) 41 [.inr (.inr (some 40)), .inr (.inr (some (50 + 4 * su_nx nx)))] n K L P)) := by
        intro K k1 k2 k3
        have hKl : sq_cN K (50 + 4 * su_nx nx) (H (na - 1)) := sq_cN_rows hl2 (fun k hk => k3 _ (by omega))
        refine sq_kv (sq_ccopy (d := d + 7) (hP.2.2.2.2.2.1 40 (by omega)) hA50 (by omega) hKl) (fun J hJ => ?_)
        simp (disch := (first | assumption | omega | exact nb_ix (by omega) (by assumption) (by omega) (by omega) | exact nb_ix (by omega) rfl (by omega) (by omega) | exact nb_ok (by omega) rfl | decide)) only [kX6_giveBack, ↓if_pos, ↓if_neg, nb_add, nb_sub, nb_mul, Int.toNat_natCast, mm_kr_s, mm_kv_s, if_pos, if_neg, sq_tn, Int.toNat_zero, Int.reduceToNat, Int.reduceNeg, Nat.reduceAdd, Int.reduceAdd, Int.reduceEq, Int.reduceLT, Int.reduceLE, Int.zero_add, nb_ui_s, nb_ui_k, nb_ui_a, sp_min, sp_max, sp_bits]
        have e48 : J 48 = K 48 := hJ.2 48 (by decide)
        refine sq_ret ⟨⟨hJ.1, ⟨?_, hsl, ?_, ?_, fun i hi => ?_⟩, fun h w a b e => ?_⟩, ?_, fun b hb => ?_⟩
        · rw [e48]; exact k1
        · rw [e48]; exact k2
        · show na - 1 ≤ 40
          omega
        · have hi2 : i < na - 1 := hi
          show sq_cN J (50 + 4 * ((su_nx nx + 40 - (na - 1) + i) % 40)) (H i)
          have : (su_nx nx + 40 - (na - 1) + i) % 40 = (nx + 40 - na + i) % 40 := by unfold su_nx; split <;> omega
          rw [this]
          refine sq_cN_rows (p5 i (show i < na by omega)) (fun k hk => ?_)
          rw [hJ.2 _ (by simp; omega), k3 _ (by omega)]
        · show J (45 + w) (h % 100) = Lg h w
          rw [hJ.2 (45 + w) (by simp; omega), k3 (45 + w) (by omega)]
          rw [sl_old_undo hS h0] at a
          refine r3 h w a ?_ e
          have hc1 := hch 1 (na - 1) (show na - 1 + 1 = na by omega) (by omega)
          have hc2 : H (na - 1) 29 ≤ N 29 := hc1.1
          have b2 : h < (H (na - 1) 29).toNat := b
          show h < (N 29).toNat
          omega
        · rw [e48]; exact k2
        · rw [sq_TL_mem] at hb
          rw [hJ.2 b (by simp; omega), k3 b (by omega)]
      rw [eX6_giveBack]
      by_cases c0 : nx = 0
      · have en : su_nx nx = 39 := if_pos c0
        have p10 : I 48 1 = 0 := by rw [p1', c0]; rfl
        rw [en] at fin h49
        simp (disch := (first | assumption | omega | exact nb_ix (by omega) (by assumption) (by omega) (by omega) | exact nb_ix (by omega) rfl (by omega) (by omega) | exact nb_ok (by omega) rfl | decide)) only [kX6_giveBack, p3', p10, hC, ena, h49, Int.reduceToNat, ↓if_pos, ↓if_neg, nb_add, nb_sub, nb_mul, Int.toNat_natCast, mm_kr_s, mm_kv_s, if_pos, if_neg, sq_tn, Int.toNat_zero, Int.reduceToNat, Int.reduceNeg, Nat.reduceAdd, Int.reduceAdd, Int.reduceEq, Int.reduceLT, Int.reduceLE, Int.zero_add, nb_ui_s, nb_ui_k, nb_ui_a, sp_min, sp_max, sp_bits]
        refine fin _ ?_ ?_ (fun b hb => ?_)
        · simp [mm_ui]
        · simp [mm_ui]
        · rw [nb_ui_r hb, nb_ui_r hb]
      · have en : su_nx nx = nx - 1 := if_neg c0
        have e1 : (nx : Int) - 1 = ((nx - 1 : Nat) : Int) := by omega
        rw [en] at fin h49
        simp (disch := (first | assumption | omega | exact nb_ix (by omega) (by assumption) (by omega) (by omega) | exact nb_ix (by omega) rfl (by omega) (by omega) | exact nb_ok (by omega) rfl | decide)) only [kX6_giveBack, p3', p1', hC, ena, e1, h49, ↓if_pos, ↓if_neg, nb_add, nb_sub, nb_mul, Int.toNat_natCast, mm_kr_s, mm_kv_s, if_pos, if_neg, sq_tn, Int.toNat_zero, Int.reduceToNat, Int.reduceNeg, Nat.reduceAdd, Int.reduceAdd, Int.reduceEq, Int.reduceLT, Int.reduceLE, Int.zero_add, nb_ui_s, nb_ui_k, nb_ui_a, sp_min, sp_max, sp_bits]
        refine fin _ ?_ ?_ (fun b hb => ?_)
        · simp [mm_ui]
        · simp [mm_ui]
        · rw [nb_ui_r hb, nb_ui_r hb]
    simp (disch := (first | assumption | omega | exact nb_ix (by omega) (by assumption) (by omega) (by omega) | exact nb_ix (by omega) rfl (by omega) (by omega) | exact nb_ok (by omega) rfl | decide)) only [kX11_undo, hC, ↓if_pos, ↓if_neg, nb_add, nb_sub, nb_mul, Int.toNat_natCast, mm_kr_s, mm_kv_s, if_pos, if_neg, sq_tn, Int.toNat_zero, Int.reduceToNat, Int.reduceNeg, Nat.reduceAdd, Int.reduceAdd, Int.reduceEq, Int.reduceLT, Int.reduceLE, Int.zero_add, nb_ui_s, nb_ui_k, nb_ui_a, sp_min, sp_max, sp_bits]
    refine sq_kr hg (fun K hK => ?_)
    obtain ⟨k1, k2, k3⟩ := hK
    simp (disch := (first | assumption | omega | exact nb_ix (by omega) (by assumption) (by omega) (by omega) | exact nb_ix (by omega) rfl (by omega) (by omega) | exact nb_ok (by omega) rfl | decide)) only [kX11_undo, hC, k2, ↓if_pos, ↓if_neg, nb_add, nb_sub, nb_mul, Int.toNat_natCast, mm_kr_s, mm_kv_s, if_pos, if_neg, sq_tn, Int.toNat_zero, Int.reduceToNat, Int.reduceNeg, Nat.reduceAdd, Int.reduceAdd, Int.reduceEq, Int.reduceLT, Int.reduceLE, Int.zero_add, nb_ui_s, nb_ui_k, nb_ui_a, sp_min, sp_max, sp_bits]
    exact sq_ret ⟨k1, k3⟩
theorem ob_undo {x : sT} (hM : sp_M n P) (hT : rm_T I x) : (x.2.1 = 0 → mm_rn (d + 10) 221 [.inr (.inr (some 239))] n I L P = some (some (.inl (-1)), n, I, L, P)) ∧ (0 < x.2.1 → sq_X (some (.inl (((x.2.1 - 1 : Nat) : Int)))) n L P (fun I' => rm_T I' (su_T x) ∧ sq_ft I I') (mm_rn (d + 10) 221 [.inr (.inr (some 239))] n I L P)) := by
  obtain ⟨N, na, H, nx, Lg⟩ := x
  have ok := hM.ok
  obtain ⟨hn, hP⟩ := hM
  obtain ⟨r1, p1, p2, p3⟩ := hT
  have p1' : I 239 33 = (na : Int) := p1
  have p2' : na ≤ 40 := p2
  rw [eX12_undo]
  refine ⟨fun h0 => ?_, fun h0 => ?_⟩
  · have h0' : na = 0 := h0
    have p10 : I 239 33 = 0 := by rw [p1', h0']; rfl
    simp (disch := (first | assumption | omega | exact nb_ix (by omega) (by assumption) (by omega) (by omega) | exact nb_ix (by omega) rfl (by omega) (by omega) | exact nb_ok (by omega) rfl | decide)) only [kX12_undo, p10, ↓if_pos, ↓if_neg, nb_add, nb_sub, nb_mul, Int.toNat_natCast, mm_kr_s, mm_kv_s, if_pos, if_neg, sq_tn, Int.toNat_zero, Int.reduceToNat, Int.reduceNeg, Nat.reduceAdd, Int.reduceAdd, Int.reduceEq, Int.reduceLT, Int.reduceLE, Int.zero_add, nb_ui_s, nb_ui_k, nb_ui_a, sp_min, sp_max, sp_bits]
  · have h0' : 0 < na := h0
    have hna0 : ¬ (na : Int) = 0 := by omega
    have ena : (na : Int) - 1 = ((na - 1 : Nat) : Int) := by omega
    simp (disch := (first | assumption | omega | exact nb_ix (by omega) (by assumption) (by omega) (by omega) | exact nb_ix (by omega) rfl (by omega) (by omega) | exact nb_ok (by omega) rfl | decide)) only [kX12_undo, p1', ena, ↓if_pos, ↓if_neg, nb_add, nb_sub, nb_mul, Int.toNat_natCast, mm_kr_s, mm_kv_s, if_pos, if_neg, sq_tn, Int.toNat_zero, Int.reduceToNat, Int.reduceNeg, Nat.reduceAdd, Int.reduceAdd, Int.reduceEq, Int.reduceLT, Int.reduceLE, Int.zero_add, nb_ui_s, nb_ui_k, nb_ui_a, sp_min, sp_max, sp_bits]
    refine sq_loop (fun i (J : mm_I) => mm_E (d + 9) 221 21 [.inr (.inr (some 239)), .inl ((i : Nat))] [] [] n J L P) (fun i J => J 239 33 = ((na - 1 : Nat) : Int) ∧ J 260 = I 260 ∧ (∀ j, j < i → J 257 j = H (na - 1) j) ∧ sq_ft I J) 211 (s0 := mm_ui I 239 33 ((na - 1 : Nat) : Int)) ⟨by rw [nb_ui_s], nb_ui_r (by decide), fun j hj => by omega, ⟨fun b hb => nb_ui_r (by intro e; subst e; simp at hb), fun j hj => nb_ui_k hj⟩⟩ ?_ ?_
    · intro i J hi ⟨j1, j2, j3, j4⟩ ih
      have e8 : (211 * ((na - 1 : Nat) : Int) + (i : Int)).toNat = 211 * (na - 1) + i := by omega
      have e9 : J 260 (211 * (na - 1) + i) = H (na - 1) i := by rw [j2]; exact p3 (na - 1) (show na - 1 < na by omega) i hi
      rw [hX12_undo_21]
      simp (disch := (first | assumption | omega | exact nb_ix (by omega) (by assumption) (by omega) (by omega) | exact nb_ix (by omega) rfl (by omega) (by omega) | exact nb_ok (by omega) rfl | decide)) only [kX12_undo, hP, j1, e8, e9, ↓if_pos, ↓if_neg, nb_add, nb_sub, nb_mul, Int.toNat_natCast, mm_kr_s, mm_kv_s, if_pos, if_neg, sq_tn, Int.toNat_zero, Int.reduceToNat, Int.reduceNeg, Nat.reduceAdd, Int.reduceAdd, Int.reduceEq, Int.reduceLT, Int.reduceLE, Int.zero_add, nb_ui_s, nb_ui_k, nb_ui_a, sp_min, sp_max, sp_bits]
      refine ih _ ⟨?_, ?_, fun j hj => ?_, ?_⟩
      · rw [nb_ui_a (by decide)]; exact j1
      · rw [nb_ui_r (by decide)]; exact j2
      · by_cases hji : j = i
        · subst hji; rw [nb_ui_s]
        · rw [nb_ui_k hji]; exact j3 j (by omega)
      · refine ⟨fun b hb => ?_, fun j hj => ?_⟩
        · rw [nb_ui_r (by intro e; subst e; simp at hb)]; exact j4.1 b hb
        · rw [nb_ui_a (by decide)]; exact j4.2 j hj
    · intro J ⟨j1, j2, j3, j4⟩
      rw [hX12_undo_21]
      simp (disch := (first | assumption | omega | exact nb_ix (by omega) (by assumption) (by omega) (by omega) | exact nb_ix (by omega) rfl (by omega) (by omega) | exact nb_ok (by omega) rfl | decide)) only [kX12_undo, j1, ↓if_pos, ↓if_neg, nb_add, nb_sub, nb_mul, Int.toNat_natCast, mm_kr_s, mm_kv_s, if_pos, if_neg, sq_tn, Int.toNat_zero, Int.reduceToNat, Int.reduceNeg, Nat.reduceAdd, Int.reduceAdd, Int.reduceEq, Int.reduceLT, Int.reduceLE, Int.zero_add, nb_ui_s, nb_ui_k, nb_ui_a, sp_min, sp_max, sp_bits]
      refine sq_ret ⟨⟨j3, j1, ?_, fun i hi j hj => ?_⟩, j4⟩
      · show na - 1 ≤ 40
        omega
      · rw [j2]
        have hi2 : i < na - 1 := hi
        exact p3 i (show i < na by omega) j hj
end UN
