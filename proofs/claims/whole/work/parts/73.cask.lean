/-! the class's question -/
section CQ
variable {n c t u s d ck : Nat} {I L : mm_I} {P : mm_P} {D : Nat → Int} {B : Nat → Nat} {g v cn : Int} {lw : Option Nat} {ev : sv_E} {N W M cm co T : Nat → Int} {cp ch : Nat → Nat}
theorem sq_cfill (hn : 270 ≤ n) : sq_X none n L P (fun I' => (∀ j, j < 1300 → I' 227 j = 0) ∧ sq_fr [227] I I') (mm_rn (d + 1) 279 [.inr (.inr (some 227)), .inl 0] n I L P) := by
  rw [eJ7_fill_53178]
  have e0 : ((mm_ty 227).2 : Int) = 1300 := rfl
  simp (disch := (first | assumption | omega | exact nb_ix (by omega) (by assumption) (by omega) (by omega) | exact nb_ix (by omega) rfl (by omega) (by omega) | exact nb_ok (by omega) rfl | decide)) only [kJ7_fill_53178, e0, nb_add, nb_sub, nb_mul, Int.toNat_natCast, mm_kr_s, mm_kv_s, if_pos, if_neg, sq_tn, Int.toNat_zero, Int.reduceToNat, Int.reduceNeg, Nat.reduceAdd, Int.reduceAdd, Int.reduceEq, Int.reduceLT, Int.reduceLE, Int.zero_add, nb_ui_s, nb_ui_k, nb_ui_a, sp_min, sp_max, sp_bits]
  refine sq_loop (fun i (J : mm_I) => mm_E d 279 5 [.inr (.inr (some 227)), .inl 0, .inl ((i : Nat)), .inl 1300] [] [] n J L P) (fun i J => (∀ j, j < i → J 227 j = 0) ∧ sq_fr [227] I J) 1300 (s0 := I) ⟨fun j hj => by omega, sq_fr_refl _ _⟩ ?_ ?_
  · intro i J hi ⟨h1, h2⟩ ih
    rw [hJ7_fill_53178_5]
    simp (disch := (first | assumption | omega | exact nb_ix (by omega) (by assumption) (by omega) (by omega) | exact nb_ix (by omega) rfl (by omega) (by omega) | exact nb_ok (by omega) rfl | decide)) only [kJ7_fill_53178, nb_add, nb_sub, nb_mul, Int.toNat_natCast, mm_kr_s, mm_kv_s, if_pos, if_neg, sq_tn, Int.toNat_zero, Int.reduceToNat, Int.reduceNeg, Nat.reduceAdd, Int.reduceAdd, Int.reduceEq, Int.reduceLT, Int.reduceLE, Int.zero_add, nb_ui_s, nb_ui_k, nb_ui_a, sp_min, sp_max, sp_bits]
    refine ih _ ⟨fun j hj => ?_, sq_fr_up h2 (by simp)⟩
    by_cases hji : j = i
    · subst hji; rw [nb_ui_s]
    · rw [nb_ui_k hji]; exact h1 j (by omega)
  · intro J h
    rw [hJ7_fill_53178_5]
    simp (disch := (first | assumption | omega | exact nb_ix (by omega) (by assumption) (by omega) (by omega) | exact nb_ix (by omega) rfl (by omega) (by omega) | exact nb_ok (by omega) rfl | decide)) only [kJ7_fill_53178, nb_add, nb_sub, nb_mul, Int.toNat_natCast, mm_kr_s, mm_kv_s, if_pos, if_neg, sq_tn, Int.toNat_zero, Int.reduceToNat, Int.reduceNeg, Nat.reduceAdd, Int.reduceAdd, Int.reduceEq, Int.reduceLT, Int.reduceLE, Int.zero_add, nb_ui_s, nb_ui_k, nb_ui_a, sp_min, sp_max, sp_bits]
    exact sq_ret h
set_option maxHeartbeats 1000000 in
theorem sq_ccount {k q : Nat} (hd : c ≤ d) (hP : sq_P n P t u) (hW : sq_CW n c P I t s D B g v lw ev) (hcn : I t 3 = cn) (hWt : ∀ p, p < s → I (t + 1) p = W p) (hWr : ∀ p, p < s → 0 ≤ W p ∧ W p ≤ 99) (hcr : 0 ≤ cn ∧ cn ≤ 999) (hk : k < 27 * s) (hq : q < s) (htl : ∀ j, j < 1300 → 0 ≤ I 227 j ∧ I 227 j ≤ 1000) :
    sq_X none n L P (fun I' => (∀ h w, h ≤ 12 → w < 100 → I' 227 (100 * h + w) = I 227 (100 * h + w) + (if 1 ≤ h ∧ sw_it (sw_live ev D B g s) h (sw_T0 s W g M (sw_cd k)) q = (w : Int) then 1 else 0)) ∧ sq_cf [223, 224, 225, 226, 227] I I') (mm_rn (d + 6) 18 [.inr (.inr (some 218)), .inr (.inr (some t)), .inr (.inr lw), .inl ((k : Int)), .inl ((q : Int))] n I L P) := by
  have hC := hP.2.2.2.2.2.2.2.1
  have hn := hP.1
  have hA := hP.2.2.2.2.2.1 223 (by omega)
  have okA := hA.ok
  obtain ⟨a0, a1, a2, a3, a4, a5, a6, a7⟩ := hP.2.2.2.2.2.1 223 (by omega)
  have hs8 := hW.2.1.2.1
  have hg5 := hW.2.2.2
  have hok := sw_T0_ok (M := M) (cd := sw_cd k) hs8 hWr hg5 (sw_cd_C hk)
  have h29 : sw_T0 s W g M (sw_cd k) 29 = 0 := by
    obtain ⟨h1, h2, h3⟩ := sw_cd_p k
    unfold sw_T0 sw_beg
    rw [h1, if_neg (by omega), if_neg (by omega)]
    rfl
  rw [eX2_countLeft]
  simp (disch := (first | assumption | omega | exact nb_ix (by omega) (by assumption) (by omega) (by omega) | exact nb_ix (by omega) rfl (by omega) (by omega) | exact nb_ok (by omega) rfl | decide)) only [kX2_countLeft, nb_add, nb_sub, nb_mul, Int.toNat_natCast, mm_kr_s, mm_kv_s, if_pos, if_neg, sq_tn, Int.toNat_zero, Int.reduceToNat, Int.reduceNeg, Nat.reduceAdd, Int.reduceAdd, Int.reduceEq, Int.reduceLT, Int.reduceLE, Int.zero_add, nb_ui_s, nb_ui_k, nb_ui_a, sp_min, sp_max, sp_bits]
  refine sq_kv (sq_csort (d := d + 2) (M := M) hP hW hcn hWt hk) (fun J0 hJ0 => ?_)
  simp (disch := (first | assumption | omega | exact nb_ix (by omega) (by assumption) (by omega) (by omega) | exact nb_ix (by omega) rfl (by omega) (by omega) | exact nb_ok (by omega) rfl | decide)) only [kX2_countLeft, nb_add, nb_sub, nb_mul, Int.toNat_natCast, mm_kr_s, mm_kv_s, if_pos, if_neg, sq_tn, Int.toNat_zero, Int.reduceToNat, Int.reduceNeg, Nat.reduceAdd, Int.reduceAdd, Int.reduceEq, Int.reduceLT, Int.reduceLE, Int.zero_add, nb_ui_s, nb_ui_k, nb_ui_a, sp_min, sp_max, sp_bits]
  refine sq_loop2 (fun i (x6 : mm_V) (J : mm_I) => mm_E (d + 5) 18 9 [.inr (.inr (some 218)), .inr (.inr (some t)), .inr (.inr lw), .inl ((k : Int)), .inl ((q : Int)), .inl (((i + 1 : Nat) : Int)), x6] [] [] n J L P) (fun i _ J => sq_cN J 223 (sw_it (sw_live ev D B g s) i (sw_u27 (sw_T0 s W g M (sw_cd k)) cn)) ∧ sq_cf [223, 224, 225, 226, 227] I J ∧ (∀ h w, h ≤ 12 → w < 100 → J 227 (100 * h + w) = I 227 (100 * h + w) + (if 1 ≤ h ∧ h ≤ i ∧ sw_it (sw_live ev D B g s) h (sw_T0 s W g M (sw_cd k)) q = (w : Int) then 1 else 0))) 12 (s0 := mm_junk) (t0 := J0) ⟨hJ0.1, sq_cf_sub (sq_cf_of hJ0.2 (by decide)) (by decide), fun h w h1 h2 => ?_⟩ ?_ ?_
  · rw [hJ0.2 227 (by decide), if_neg (by omega), Int.add_zero]
  · intro i x6 J hi ⟨h1, h2, h3⟩ ih
    have hW2 := sq_CW_keep hW h2 (by decide)
    have hoki := sw_it_ok (ev := ev) (D := D) (B := B) (sw_u27_ok hok hcr) hs8 hg5 i
    have hok1 := sw_it_ok (ev := ev) (D := D) (B := B) hok hs8 hg5 (i + 1)
    have h29i := sw_it_29 (ev := ev) (D := D) (B := B) (g := g) (s := s) (N := sw_u27 (sw_T0 s W g M (sw_cd k)) cn) i
    rw [sw_u27_o (by omega), h29] at h29i
    rw [hX2_countLeft_9]
    simp (disch := (first | assumption | omega | exact nb_ix (by omega) (by assumption) (by omega) (by omega) | exact nb_ix (by omega) rfl (by omega) (by omega) | exact nb_ok (by omega) rfl | decide)) only [kX2_countLeft, hC, nb_add, nb_sub, nb_mul, Int.toNat_natCast, mm_kr_s, mm_kv_s, if_pos, if_neg, sq_tn, Int.toNat_zero, Int.reduceToNat, Int.reduceNeg, Nat.reduceAdd, Int.reduceAdd, Int.reduceEq, Int.reduceLT, Int.reduceLE, Int.zero_add, nb_ui_s, nb_ui_k, nb_ui_a, sp_min, sp_max, sp_bits]
    refine sq_kr (sq_chour hd (by omega) hA hW2.1 hW2.2.1 hW2.2.2.1 h1 hoki (by omega)) (fun K hK => ?_)
    have hK27 : K 227 = J 227 := sq_cf_ge hK.2 (by decide) (by omega)
    have hwq : K 224 q = sw_it (sw_live ev D B g s) (i + 1) (sw_T0 s W g M (sw_cd k)) q := by
      have e1 := (sq_cN_iff.1 hK.1).1 q (by omega)
      have e2 : sw_live ev D B g s (sw_it (sw_live ev D B g s) i (sw_u27 (sw_T0 s W g M (sw_cd k)) cn)) = sw_u27 (sw_it (sw_live ev D B g s) (i + 1) (sw_T0 s W g M (sw_cd k))) cn := sw_it_27 hs8 (i + 1)
      rw [e2, sw_u27_o (by omega)] at e1
      exact e1
    have hwr := (hok1.1 q (by omega)).1
    generalize hwe : sw_it (sw_live ev D B g s) (i + 1) (sw_T0 s W g M (sw_cd k)) q = wq at *
    obtain ⟨w0, rfl⟩ : ∃ w0 : Nat, wq = (w0 : Int) := ⟨wq.toNat, by omega⟩
    have hv0 := h3 (i + 1) w0 (by omega) (by omega)
    rw [if_neg (by omega), Int.add_zero] at hv0
    have htl0 := htl (100 * (i + 1) + w0) (by omega)
    have hvK : K 227 (100 * (i + 1) + w0) = I 227 (100 * (i + 1) + w0) := by rw [hK27]; exact hv0
    have e4 : (((i + 1 : Nat) : Int) * 100 + (w0 : Int)).toNat = 100 * (i + 1) + w0 := by omega
    have hwi := sp_worthIn (d := d + 3) (I := K) (L := L) hA (show q < 8 by omega)
    have hb1 : ¬ ((w0 : Int) < 0) := by omega
    have hb2 : ¬ ((100 : Int) ≤ (w0 : Int)) := by omega
    simp (disch := (first | assumption | omega | exact nb_ix (by omega) (by assumption) (by omega) (by omega) | exact nb_ix (by omega) rfl (by omega) (by omega) | exact nb_ok (by omega) rfl | decide)) only [kX2_countLeft, hC, hwi, hwq, e4, hvK, nb_add, nb_sub, nb_mul, Int.toNat_natCast, mm_kr_s, mm_kv_s, if_pos, if_neg, sq_tn, Int.toNat_zero, Int.reduceToNat, Int.reduceNeg, Nat.reduceAdd, Int.reduceAdd, Int.reduceEq, Int.reduceLT, Int.reduceLE, Int.zero_add, nb_ui_s, nb_ui_k, nb_ui_a, sp_min, sp_max, sp_bits]
    have hK9 : sq_cf [223, 224, 225, 226, 227] I K := sq_cf_trans h2 hK.2 (fun _ h => h) (by decide)
    refine ih _ _ ⟨?_, sq_cf_up hK9 (by decide) (by decide), fun h w hh hw => ?_⟩
    · intro j hj
      refine Eq.trans ?_ (hK.1 j hj)
      unfold sq_rd
      simp (disch := decide) only [nb_ui_r]
    · by_cases hc : h = i + 1 ∧ w = w0
      · obtain ⟨rfl, rfl⟩ := hc
        rw [nb_ui_s, if_pos ⟨by omega, by omega, hwe⟩]
      · rw [nb_ui_k (by omega), hK27, h3 h w hh hw]
        by_cases c1 : h = i + 1
        · subst c1
          rw [if_neg (by omega), if_neg (by rw [hwe]; omega)]
        · by_cases c2 : 1 ≤ h ∧ h ≤ i ∧ sw_it (sw_live ev D B g s) h (sw_T0 s W g M (sw_cd k)) q = (w : Int)
          · rw [if_pos c2, if_pos ⟨c2.1, by omega, c2.2.2⟩]
          · rw [if_neg c2, if_neg (fun q => c2 ⟨q.1, by omega, q.2.2⟩)]
  · intro x6 J ⟨h1, h2, h3⟩
    rw [hX2_countLeft_9]
    simp (disch := (first | assumption | omega | exact nb_ix (by omega) (by assumption) (by omega) (by omega) | exact nb_ix (by omega) rfl (by omega) (by omega) | exact nb_ok (by omega) rfl | decide)) only [kX2_countLeft, nb_add, nb_sub, nb_mul, Int.toNat_natCast, mm_kr_s, mm_kv_s, if_pos, if_neg, sq_tn, Int.toNat_zero, Int.reduceToNat, Int.reduceNeg, Nat.reduceAdd, Int.reduceAdd, Int.reduceEq, Int.reduceLT, Int.reduceLE, Int.zero_add, nb_ui_s, nb_ui_k, nb_ui_a, sp_min, sp_max, sp_bits]
    refine sq_ret ⟨fun h w b e => ?_, h2⟩
    rw [h3 h w b e]
    congr 1
    by_cases c2 : 1 ≤ h ∧ sw_it (sw_live ev D B g s) h (sw_T0 s W g M (sw_cd k)) q = (w : Int)
    · rw [if_pos c2, if_pos ⟨c2.1, b, c2.2⟩]
    · rw [if_neg c2, if_neg (fun q => c2 ⟨q.1, q.2.2⟩)]
theorem sq_calike {h : Nat} (hP : sq_P n P t u) (hh : h ≤ 12) : mm_rn (d + 1 + 1) 20 [.inr (.inr (some 218)), .inl ((h : Int))] n I L P = some (some (.inl (sw_mx (fun w => I 227 (100 * h + w)) 100)), n, I, L, P) := by
  have hC := hP.2.2.2.2.2.2.2.1
  have hn := hP.1
  rw [eX2_mostAlike]
  simp (disch := (first | assumption | omega | exact nb_ix (by omega) (by assumption) (by omega) (by omega) | exact nb_ix (by omega) rfl (by omega) (by omega) | exact nb_ok (by omega) rfl | decide)) only [kX2_mostAlike, nb_add, nb_sub, nb_mul, Int.toNat_natCast, mm_kr_s, mm_kv_s, if_pos, if_neg, sq_tn, Int.toNat_zero, Int.reduceToNat, Int.reduceNeg, Nat.reduceAdd, Int.reduceAdd, Int.reduceEq, Int.reduceLT, Int.reduceLE, Int.zero_add, nb_ui_s, nb_ui_k, nb_ui_a, sp_min, sp_max, sp_bits]
  refine Eq.trans (nb_loop (fun k => mm_E (d + 1) 20 4 [.inr (.inr (some 218)), .inl ((h : Int)), .inl (sw_mx (fun w => I 227 (100 * h + w)) k), .inl ((k : Nat))] [] [] n I L P) 100 (fun k hk => ?_)) ?_
  · have e4 : ((h : Int) * 100 + (k : Int)).toNat = 100 * h + k := by omega
    have e5 : sw_mx (fun w => I 227 (100 * h + w)) (k + 1) = max (sw_mx (fun w => I 227 (100 * h + w)) k) (I 227 (100 * h + k)) := rfl
    show mm_E _ _ _ _ _ _ _ _ _ _ = mm_E _ _ _ _ _ _ _ _ _ _
    rw [hX2_mostAlike_4, e5]
    simp (disch := (first | assumption | omega | exact nb_ix (by omega) (by assumption) (by omega) (by omega) | exact nb_ix (by omega) rfl (by omega) (by omega) | exact nb_ok (by omega) rfl | decide)) only [kX2_mostAlike, hC, e4, nb_add, nb_sub, nb_mul, Int.toNat_natCast, mm_kr_s, mm_kv_s, if_pos, if_neg, sq_tn, Int.toNat_zero, Int.reduceToNat, Int.reduceNeg, Nat.reduceAdd, Int.reduceAdd, Int.reduceEq, Int.reduceLT, Int.reduceLE, Int.zero_add, nb_ui_s, nb_ui_k, nb_ui_a, sp_min, sp_max, sp_bits]
    rfl
  · rw [hX2_mostAlike_4]
    simp (disch := (first | assumption | omega | exact nb_ix (by omega) (by assumption) (by omega) (by omega) | exact nb_ix (by omega) rfl (by omega) (by omega) | exact nb_ok (by omega) rfl | decide)) only [kX2_mostAlike, nb_add, nb_sub, nb_mul, Int.toNat_natCast, mm_kr_s, mm_kv_s, if_pos, if_neg, sq_tn, Int.toNat_zero, Int.reduceToNat, Int.reduceNeg, Nat.reduceAdd, Int.reduceAdd, Int.reduceEq, Int.reduceLT, Int.reduceLE, Int.zero_add, nb_ui_s, nb_ui_k, nb_ui_a, sp_min, sp_max, sp_bits]
theorem sq_cfewest {A : Nat → Int} (hP : sq_P n P t u) (hA : ∀ i, i < 12 → sw_mx (fun w => I 227 (100 * (i + 1) + w)) 100 = A i) : mm_rn (d + 3) 19 [.inr (.inr (some 218))] n I L P = some (some (.inl ((((sw_bst A 11).1 + 1 : Nat) : Int))), n, I, L, P) := by
  have hn := hP.1
  rw [eX2_hourOfFewest]
  simp (disch := (first | assumption | omega | exact nb_ix (by omega) (by assumption) (by omega) (by omega) | exact nb_ix (by omega) rfl (by omega) (by omega) | exact nb_ok (by omega) rfl | decide)) only [kX2_hourOfFewest, nb_add, nb_sub, nb_mul, Int.toNat_natCast, mm_kr_s, mm_kv_s, if_pos, if_neg, sq_tn, Int.toNat_zero, Int.reduceToNat, Int.reduceNeg, Nat.reduceAdd, Int.reduceAdd, Int.reduceEq, Int.reduceLT, Int.reduceLE, Int.zero_add, nb_ui_s, nb_ui_k, nb_ui_a, sp_min, sp_max, sp_bits]
  refine Eq.trans (nb_loop (fun k => mm_E (d + 2) 19 4 [.inr (.inr (some 218)), .inl ((((sw_bst A k).1 + 1 : Nat) : Int)), .inl (((k + 2 : Nat) : Int))] [] [] n I L P) 11 (fun k hk => ?_)) ?_
  · have hle := sw_bst_le A k
    have e1 := sq_calike (d := d) (I := I) (L := L) (h := k + 2) hP (by omega)
    have e2 := sq_calike (d := d) (I := I) (L := L) (h := (sw_bst A k).1 + 1) hP (by omega)
    rw [hA (k + 1) (by omega)] at e1
    rw [hA (sw_bst A k).1 (by omega), ← sw_bst_snd A k] at e2
    have e5 : sw_bst A (k + 1) = if A (k + 1) < (sw_bst A k).2 then (k + 1, A (k + 1)) else sw_bst A k := rfl
    show mm_E _ _ _ _ _ _ _ _ _ _ = mm_E _ _ _ _ _ _ _ _ _ _
    rw [hX2_hourOfFewest_4, e5]
    by_cases c : A (k + 1) < (sw_bst A k).2
    · rw [if_pos c]
      simp (disch := (first | assumption | omega | exact nb_ix (by omega) (by assumption) (by omega) (by omega) | exact nb_ix (by omega) rfl (by omega) (by omega) | exact nb_ok (by omega) rfl | decide)) only [kX2_hourOfFewest, e1, e2, nb_add, nb_sub, nb_mul, Int.toNat_natCast, mm_kr_s, mm_kv_s, if_pos, if_neg, sq_tn, Int.toNat_zero, Int.reduceToNat, Int.reduceNeg, Nat.reduceAdd, Int.reduceAdd, Int.reduceEq, Int.reduceLT, Int.reduceLE, Int.zero_add, nb_ui_s, nb_ui_k, nb_ui_a, sp_min, sp_max, sp_bits]
      rfl
    · rw [if_neg c]
      simp (disch := (first | assumption | omega | exact nb_ix (by omega) (by assumption) (by omega) (by omega) | exact nb_ix (by omega) rfl (by omega) (by omega) | exact nb_ok (by omega) rfl | decide)) only [kX2_hourOfFewest, e1, e2, nb_add, nb_sub, nb_mul, Int.toNat_natCast, mm_kr_s, mm_kv_s, if_pos, if_neg, sq_tn, Int.toNat_zero, Int.reduceToNat, Int.reduceNeg, Nat.reduceAdd, Int.reduceAdd, Int.reduceEq, Int.reduceLT, Int.reduceLE, Int.zero_add, nb_ui_s, nb_ui_k, nb_ui_a, sp_min, sp_max, sp_bits]
      rfl
  · rw [hX2_hourOfFewest_4]
    simp (disch := (first | assumption | omega | exact nb_ix (by omega) (by assumption) (by omega) (by omega) | exact nb_ix (by omega) rfl (by omega) (by omega) | exact nb_ok (by omega) rfl | decide)) only [kX2_hourOfFewest, nb_add, nb_sub, nb_mul, Int.toNat_natCast, mm_kr_s, mm_kv_s, if_pos, if_neg, sq_tn, Int.toNat_zero, Int.reduceToNat, Int.reduceNeg, Nat.reduceAdd, Int.reduceAdd, Int.reduceEq, Int.reduceLT, Int.reduceLE, Int.zero_add, nb_ui_s, nb_ui_k, nb_ui_a, sp_min, sp_max, sp_bits]
set_option maxHeartbeats 1000000 in
theorem sq_cask {q : Nat} (hd : c ≤ d) (hP : sq_P n P t u) (hW : sq_CW n c P I t s D B g v lw ev) (hcn : I t 3 = cn) (hWt : ∀ p, p < s → I (t + 1) p = W p) (hWr : ∀ p, p < s → 0 ≤ W p ∧ W p ≤ 99) (hcr : 0 ≤ cn ∧ cn ≤ 999) (hc : sq_ck s ck cp ch cm co) (hK : sq_CK I ck cp ch cm co) (hq : q < s) :
    sq_X (some (.inl (sa_ask (sw_F (sw_live ev D B g s) s W g M ck cp ch cm co) (fun c h => sw_it (sw_live ev D B g s) h (sw_T0 s W g M c) q) ((List.range' 0 (27 * s)).map sw_cd)))) n L P (sq_cf [223, 224, 225, 226, 227] I) (mm_rn (d + 7) 17 [.inr (.inr (some 218)), .inr (.inr (some t)), .inr (.inr lw), .inl ((q : Int))] n I L P) := by
  have hC := hP.2.2.2.2.2.2.2.1
  have hn := hP.1
  have hs8 := hW.2.1.2.1
  have ht13 := hW.2.1.1
  have hs : I t 0 = (s : Int) := hW.2.1.2.2.1
  have okt := hW.1.ok
  rw [eX2_bestQuestion]
  simp (disch := (first | assumption | omega | exact nb_ix (by omega) (by assumption) (by omega) (by omega) | exact nb_ix (by omega) rfl (by omega) (by omega) | exact nb_ok (by omega) rfl | decide)) only [kX2_bestQuestion, hC, nb_add, nb_sub, nb_mul, Int.toNat_natCast, mm_kr_s, mm_kv_s, if_pos, if_neg, sq_tn, Int.toNat_zero, Int.reduceToNat, Int.reduceNeg, Nat.reduceAdd, Int.reduceAdd, Int.reduceEq, Int.reduceLT, Int.reduceLE, Int.zero_add, nb_ui_s, nb_ui_k, nb_ui_a, sp_min, sp_max, sp_bits]
  refine sq_kv (sq_cfill (d := d + 5) hn) (fun J0 hJ0 => ?_)
  simp (disch := (first | assumption | omega | exact nb_ix (by omega) (by assumption) (by omega) (by omega) | exact nb_ix (by omega) rfl (by omega) (by omega) | exact nb_ok (by omega) rfl | decide)) only [kX2_bestQuestion, nb_add, nb_sub, nb_mul, Int.toNat_natCast, mm_kr_s, mm_kv_s, if_pos, if_neg, sq_tn, Int.toNat_zero, Int.reduceToNat, Int.reduceNeg, Nat.reduceAdd, Int.reduceAdd, Int.reduceEq, Int.reduceLT, Int.reduceLE, Int.zero_add, nb_ui_s, nb_ui_k, nb_ui_a, sp_min, sp_max, sp_bits]
  refine sq_loop (fun k (J : mm_I) => mm_E (d + 6) 17 14 [.inr (.inr (some 218)), .inr (.inr (some t)), .inr (.inr lw), .inl ((q : Int)), .inl ((sw_cn (sw_F (sw_live ev D B g s) s W g M ck cp ch cm co) ((List.range' 0 k).map sw_cd) : Nat)), .inl ((k : Nat))] [] [] n J L P) (fun k J => sq_cf [223, 224, 225, 226, 227] I J ∧ (∀ h w, h ≤ 12 → w < 100 → 1 ≤ h → J 227 (100 * h + w) = (sw_ct (sw_F (sw_live ev D B g s) s W g M ck cp ch cm co) (fun c h => sw_it (sw_live ev D B g s) h (sw_T0 s W g M c) q) ((List.range' 0 k).map sw_cd) h w : Nat)) ∧ (∀ j, j < 1300 → 0 ≤ J 227 j ∧ J 227 j ≤ (k : Int))) (27 * s) (s0 := J0) ⟨sq_cf_sub (sq_cf_of hJ0.2 (by decide)) (by decide), fun h w h1 h2 _ => ?_, fun j hj => ?_⟩ ?_ ?_
  · rw [hJ0.1 (100 * h + w) (by omega)]
    rfl
  · rw [hJ0.1 j hj]
    omega
  · intro k J hk ⟨h1, h2, h3⟩ ih
    have hW2 := sq_CW_keep hW h1 (by decide)
    have et : J t = I t := sq_cf_ge h1 (by simp; omega) (by omega)
    have et1 : J (t + 1) = I (t + 1) := sq_cf_ge h1 (by simp; omega) (by omega)
    have hKJ : sq_CK J ck cp ch cm co := by
      unfold sq_CK
      rw [sq_cf_ge h1 (b := 218) (by decide) (by omega), sq_cf_ge h1 (b := 219) (by decide) (by omega), sq_cf_ge h1 (b := 220) (by decide) (by omega), sq_cf_ge h1 (b := 221) (by decide) (by omega), sq_cf_ge h1 (b := 222) (by decide) (by omega)]
      exact hK
    have er : (List.range' 0 (k + 1)).map sw_cd = (List.range' 0 k).map sw_cd ++ [sw_cd k] := by
      rw [List.range'_concat]
      simp
    have hcl : sw_cn (sw_F (sw_live ev D B g s) s W g M ck cp ch cm co) ((List.range' 0 k).map sw_cd) ≤ k := by
      have := sw_cn_le (F := sw_F (sw_live ev D B g s) s W g M ck cp ch cm co) (l := (List.range' 0 k).map sw_cd)
      simpa using this
    rw [er] at ih
    rw [hX2_bestQuestion_14]
    simp (disch := (first | assumption | omega | exact nb_ix (by omega) (by assumption) (by omega) (by omega) | exact nb_ix (by omega) rfl (by omega) (by omega) | exact nb_ok (by omega) rfl | decide)) only [kX2_bestQuestion, et, hs, nb_add, nb_sub, nb_mul, Int.toNat_natCast, mm_kr_s, mm_kv_s, if_pos, if_neg, sq_tn, Int.toNat_zero, Int.reduceToNat, Int.reduceNeg, Nat.reduceAdd, Int.reduceAdd, Int.reduceEq, Int.reduceLT, Int.reduceLE, Int.zero_add, nb_ui_s, nb_ui_k, nb_ui_a, sp_min, sp_max, sp_bits]
    refine sq_kr (sq_cfits (M := M) hd hP hW2 (by rw [et]; exact hcn) (by rw [et1]; exact hWt) hWr hcr hc hKJ hk) (fun K hKf => ?_)
    have hKc : sq_cf [223, 224, 225, 226, 227] I K := sq_cf_trans h1 hKf (fun _ h => h) (by decide)
    have hK27 : K 227 = J 227 := sq_cf_ge hKf (by decide) (by omega)
    by_cases hF : sw_F (sw_live ev D B g s) s W g M ck cp ch cm co (sw_cd k) = true
    · have hW3 := sq_CW_keep hW hKc (by decide)
      have kt : K t = I t := sq_cf_ge hKc (by simp; omega) (by omega)
      have kt1 : K (t + 1) = I (t + 1) := sq_cf_ge hKc (by simp; omega) (by omega)
      simp (disch := (first | assumption | omega | exact nb_ix (by omega) (by assumption) (by omega) (by omega) | exact nb_ix (by omega) rfl (by omega) (by omega) | exact nb_ok (by omega) rfl | decide)) only [kX2_bestQuestion, hF, nb_add, nb_sub, nb_mul, Int.toNat_natCast, mm_kr_s, mm_kv_s, if_pos, if_neg, sq_tn, Int.toNat_zero, Int.reduceToNat, Int.reduceNeg, Nat.reduceAdd, Int.reduceAdd, Int.reduceEq, Int.reduceLT, Int.reduceLE, Int.zero_add, nb_ui_s, nb_ui_k, nb_ui_a, sp_min, sp_max, sp_bits]
      refine sq_kv (sq_ccount (M := M) hd hP hW3 (by rw [kt]; exact hcn) (by rw [kt1]; exact hWt) hWr hcr hk hq (by rw [hK27]; intro j hj; have := h3 j hj; omega)) (fun R hR => ?_)
      simp (disch := (first | assumption | omega | exact nb_ix (by omega) (by assumption) (by omega) (by omega) | exact nb_ix (by omega) rfl (by omega) (by omega) | exact nb_ok (by omega) rfl | decide)) only [kX2_bestQuestion, nb_add, nb_sub, nb_mul, Int.toNat_natCast, mm_kr_s, mm_kv_s, if_pos, if_neg, sq_tn, Int.toNat_zero, Int.reduceToNat, Int.reduceNeg, Nat.reduceAdd, Int.reduceAdd, Int.reduceEq, Int.reduceLT, Int.reduceLE, Int.zero_add, nb_ui_s, nb_ui_k, nb_ui_a, sp_min, sp_max, sp_bits]
      have hRc : sq_cf [223, 224, 225, 226, 227] I R := sq_cf_trans hKc hR.2 (fun _ h => h) (fun _ h => h)
      have ih2 := ih R
      rw [sw_cn_snoc, if_pos hF] at ih2
      have hnew : ∀ h w, h ≤ 12 → w < 100 → 1 ≤ h → R 227 (100 * h + w) = (sw_ct (sw_F (sw_live ev D B g s) s W g M ck cp ch cm co) (fun c h => sw_it (sw_live ev D B g s) h (sw_T0 s W g M c) q) ((List.range' 0 k).map sw_cd ++ [sw_cd k]) h w : Nat) := by
        intro h w a b e
        rw [hR.1 h w a b, hK27, h2 h w a b e, sw_ct_snoc]
        by_cases c : sw_it (sw_live ev D B g s) h (sw_T0 s W g M (sw_cd k)) q = (w : Int)
        · rw [if_pos ⟨e, c⟩, if_pos ⟨hF, c⟩]; rfl
        · rw [if_neg (fun q => c q.2), if_neg (fun q => c q.2)]; rfl
      refine ih2 ⟨hRc, hnew, fun j hj => ?_⟩
      have e1 := hR.1 (j / 100) (j % 100) (by omega) (by omega)
      rw [show 100 * (j / 100) + j % 100 = j by omega, hK27] at e1
      have e2 := h3 j hj
      rw [e1]
      split <;> omega
    · simp (disch := (first | assumption | omega | exact nb_ix (by omega) (by assumption) (by omega) (by omega) | exact nb_ix (by omega) rfl (by omega) (by omega) | exact nb_ok (by omega) rfl | decide)) only [kX2_bestQuestion, hF, nb_add, nb_sub, nb_mul, Int.toNat_natCast, mm_kr_s, mm_kv_s, if_pos, if_neg, sq_tn, Int.toNat_zero, Int.reduceToNat, Int.reduceNeg, Nat.reduceAdd, Int.reduceAdd, Int.reduceEq, Int.reduceLT, Int.reduceLE, Int.zero_add, nb_ui_s, nb_ui_k, nb_ui_a, sp_min, sp_max, sp_bits]
      have ih2 := ih K
      rw [sw_cn_snoc, if_neg hF, Nat.add_zero] at ih2
      refine ih2 ⟨hKc, fun h w a b e => ?_, by rw [hK27]; intro j hj; have := h3 j hj; omega⟩
      rw [hK27, h2 h w a b e, sw_ct_snoc, if_neg (fun q => hF q.1), Nat.add_zero]
  · intro J ⟨h1, h2, h3⟩
    have et : J t = I t := sq_cf_ge h1 (by simp; omega) (by omega)
    have e27 : ((27 * s : Nat) : Int) = (s : Int) * 27 := by omega
    have hfw := sq_cfewest (d := d + 3) (I := J) (L := L) (A := sw_ak (sw_F (sw_live ev D B g s) s W g M ck cp ch cm co) (fun c h => sw_it (sw_live ev D B g s) h (sw_T0 s W g M c) q) ((List.range' 0 (27 * s)).map sw_cd)) hP (fun i hi => by
      unfold sw_ak
      exact sw_mx_congr 100 (fun w hw => h2 (i + 1) w (by omega) hw (by omega)))
    rw [hX2_bestQuestion_14]
    unfold sa_ask
    by_cases h0 : sw_cn (sw_F (sw_live ev D B g s) s W g M ck cp ch cm co) ((List.range' 0 (27 * s)).map sw_cd) = 0
    · rw [if_pos h0, h0]
      have e0 : ((0 : Nat) : Int) = 0 := rfl
      simp (disch := (first | assumption | omega | exact nb_ix (by omega) (by assumption) (by omega) (by omega) | exact nb_ix (by omega) rfl (by omega) (by omega) | exact nb_ok (by omega) rfl | decide)) only [kX2_bestQuestion, et, hs, e27, e0, nb_add, nb_sub, nb_mul, Int.toNat_natCast, mm_kr_s, mm_kv_s, if_pos, if_neg, sq_tn, Int.toNat_zero, Int.reduceToNat, Int.reduceNeg, Nat.reduceAdd, Int.reduceAdd, Int.reduceEq, Int.reduceLT, Int.reduceLE, Int.zero_add, nb_ui_s, nb_ui_k, nb_ui_a, sp_min, sp_max, sp_bits]
      exact sq_ret h1
    · rw [if_neg h0]
      have h0' : ¬ ((sw_cn (sw_F (sw_live ev D B g s) s W g M ck cp ch cm co) ((List.range' 0 (27 * s)).map sw_cd) : Nat) : Int) = 0 := by omega
      simp (disch := (first | assumption | omega | exact nb_ix (by omega) (by assumption) (by omega) (by omega) | exact nb_ix (by omega) rfl (by omega) (by omega) | exact nb_ok (by omega) rfl | decide)) only [kX2_bestQuestion, et, hs, e27, hfw, nb_add, nb_sub, nb_mul, Int.toNat_natCast, mm_kr_s, mm_kv_s, if_pos, if_neg, sq_tn, Int.toNat_zero, Int.reduceToNat, Int.reduceNeg, Nat.reduceAdd, Int.reduceAdd, Int.reduceEq, Int.reduceLT, Int.reduceLE, Int.zero_add, nb_ui_s, nb_ui_k, nb_ui_a, sp_min, sp_max, sp_bits]
      exact sq_ret h1
theorem oc_ask (hd : c ≤ d) (hC : sq_CC n c P I t u s D B g v lw ev N) (hcn : I t 3 = cn) (hWt : ∀ p, p < s → I (t + 1) p = W p) (hWr : ∀ p, p < s → 0 ≤ W p ∧ W p ≤ 99) (hcr : 0 ≤ cn ∧ cn ≤ 999) (hc : sq_ck s ck cp ch cm co) (hK : sq_CK I ck cp ch cm co) (x : Int) : sq_X (some (.inl (if 0 ≤ x ∧ x < s then sa_ask (sw_F (sw_live ev D B g s) s W g M ck cp ch cm co) (fun c h => sw_it (sw_live ev D B g s) h (sw_T0 s W g M c) x.toNat) ((List.range' 0 (27 * s)).map sw_cd) else -1))) n L P (sq_cf sq_SC I) (mm_rn (d + 10) 128 [.inr (.inr (some 0)), .inl x] n I L P) := by
  obtain ⟨hP, hW, hLW, hN, hok, hh⟩ := hC
  have ok0 := sq_ok0 hP
  have hs : I t 0 = (s : Int) := hW.2.1.2.2.1
  have hTP := hW.1
  have okt := hTP.ok
  have hC := hP.2.2.2.2.2.2.2.1
  have hPt := hP.2.2.2.2.2.2.1
  have hn := hP.1
  rw [eX11_ask]
  by_cases h : 0 ≤ x ∧ x < (s : Int)
  · rw [if_pos h]
    obtain ⟨q, rfl⟩ : ∃ k : Nat, x = (k : Int) := ⟨x.toNat, by omega⟩
    rw [Int.toNat_natCast]
    simp (disch := (first | assumption | omega | exact nb_ix (by omega) (by assumption) (by omega) (by omega) | exact nb_ix (by omega) rfl (by omega) (by omega) | exact nb_ok (by omega) rfl | decide)) only [kX11_ask, sp_has hTP, hs, hC, hPt, sq_held hP hLW, nb_add, nb_sub, nb_mul, Int.toNat_natCast, mm_kr_s, mm_kv_s, if_pos, if_neg, sq_tn, Int.toNat_zero, Int.reduceToNat, Int.reduceNeg, Nat.reduceAdd, Int.reduceAdd, Int.reduceEq, Int.reduceLT, Int.reduceLE, Int.zero_add, nb_ui_s, nb_ui_k, nb_ui_a, sp_min, sp_max, sp_bits]
    refine sq_kr (sq_cask (d := d + 2) (M := M) (by omega) hP hW hcn hWt hWr hcr hc hK (by omega)) (fun J hJ => ?_)
    simp (disch := (first | assumption | omega | exact nb_ix (by omega) (by assumption) (by omega) (by omega) | exact nb_ix (by omega) rfl (by omega) (by omega) | exact nb_ok (by omega) rfl | decide)) only [kX11_ask, nb_add, nb_sub, nb_mul, Int.toNat_natCast, mm_kr_s, mm_kv_s, if_pos, if_neg, sq_tn, Int.toNat_zero, Int.reduceToNat, Int.reduceNeg, Nat.reduceAdd, Int.reduceAdd, Int.reduceEq, Int.reduceLT, Int.reduceLE, Int.zero_add, nb_ui_s, nb_ui_k, nb_ui_a, sp_min, sp_max, sp_bits]
    exact sq_ret (sq_cf_sub hJ (by decide))
  · rw [if_neg h]
    simp (disch := (first | assumption | omega | exact nb_ix (by omega) (by assumption) (by omega) (by omega) | exact nb_ix (by omega) rfl (by omega) (by omega) | exact nb_ok (by omega) rfl | decide)) only [kX11_ask, sp_has hTP, hs, hPt, nb_add, nb_sub, nb_mul, Int.toNat_natCast, mm_kr_s, mm_kv_s, if_pos, if_neg, sq_tn, Int.toNat_zero, Int.reduceToNat, Int.reduceNeg, Nat.reduceAdd, Int.reduceAdd, Int.reduceEq, Int.reduceLT, Int.reduceLE, Int.zero_add, nb_ui_s, nb_ui_k, nb_ui_a, sp_min, sp_max, sp_bits]
    exact sq_ret (sq_cf_refl _ _)
end CQ
