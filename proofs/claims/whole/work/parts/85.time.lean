/-! hours and years: both halves -/
def rc_T (I : mm_I) (x : sT) : Prop := sq_cN I 40 x.1 ∧ rc_past I x.2.2.2.1 x.2.1 x.2.2.1 ∧ rc_ring I x
def rm_T (I : mm_I) (x : sT) : Prop := sq_mN I x.1 ∧ rm_past I x.2.1 x.2.2.1
def sh_it (f : (Nat → Int) → Nat → Int) (s : Nat) : Nat → sT → sT
  | 0, x => x
  | k + 1, x => sh_st f s (sh_it f s k x) (sh_it f s k x).1
section TM
variable {n c t u s d : Nat} {I L : mm_I} {P : mm_P} {D : Nat → Int} {B : Nat → Nat} {g v : Int} {lw : Option Nat} {ev : sv_E} {N : Nat → Int}
theorem rs_st {x : sT} {N1 : Nat → Int} (hs : s ≤ 8) (hg : 0 ≤ g ∧ g ≤ 5) (h : rs_T s x) (ok : sv_ok s N1) (e29 : N1 29 = x.1 29) (hi : ∀ j, 30 ≤ j → N1 j = x.1 j) (h9 : x.1 29 + 1 ≤ 9999) : rs_T s (sh_st (sw_live ev D B g s) s x N1) ∧ (sh_st (sw_live ev D B g s) s x N1).1 29 = x.1 29 + 1 := by
  have hlN : sl_ok N1 x.2.2.2.2 := sl_ok_eq h.2.2.1 e29 hi
  have h30 : 0 ≤ sw_live ev D B g s N1 30 := by
    rw [sw_live_hi hs (by omega)]
    have := hlN.1
    have := hlN.2.1
    omega
  have lo : ∀ j, j < 30 → sl_hour (sw_live ev D B g s) s N1 j = sw_live ev D B g s N1 j := fun j hj => sl_hour_lt hj h30
  have x29 : sl_hour (sw_live ev D B g s) s N1 29 = x.1 29 + 1 := by rw [lo 29 (by omega), sw_live_29, e29]
  have hok2 : sv_ok s (sl_hour (sw_live ev D B g s) s N1) := by
    obtain ⟨o1, o2⟩ := sw_live_ok (ev := ev) (D := D) (B := B) ok hs hg
    refine ⟨fun p hp => ?_, ?_⟩
    · rw [lo p (by omega), lo (8 + p) (by omega), lo (16 + p) (by omega)]
      exact o1 p hp
    · rw [lo 24 (by omega), lo 25 (by omega), lo 26 (by omega), lo 27 (by omega), lo 28 (by omega), lo 29 (by omega)]
      exact o2
  refine ⟨rs_act h hok2 (by rw [x29]; omega) (sl_hour_ok hs hlN) (by rw [x29]; omega) (fun h w hh => ?_), x29⟩
  unfold sl_up
  rw [if_neg (by rw [e29]; omega)]
theorem rc_T_st {x : sT} {J J1 J2 J3 : mm_I} {N1 : Nat → Int} (hs : s ≤ 8) (hx : rs_T s x) (h : rc_T J x) (e29 : N1 29 = x.1 29) (hi : ∀ j, 30 ≤ j → N1 j = x.1 j)
    (h1 : rc_past J1 (sk_nx x.2.2.2.1) (sk_na x.2.1) (sk_H x.2.1 x.2.2.1 x.1) ∧ (∀ b, b ≠ 48 → ¬ (50 ≤ b ∧ b < 210) → J1 b = J b)) (h2 : ∀ b, (b < 40 ∨ 44 ≤ b) → J2 b = J1 b)
    (h3 : sq_cN J3 40 (sw_live ev D B g s N1) ∧ (∀ j w, w < 3 → J3 (45 + w) j = if j = (N1 29).toNat % 100 then sl_e (sw_live ev D B g s) s N1 w else J2 (45 + w) j) ∧ sq_cf [40, 41, 42, 43, 45, 46, 47] J2 J3) : rc_T J3 (sh_st (sw_live ev D B g s) s x N1) ∧ sq_cf sq_TL J J3 := by
  obtain ⟨r1, r2, r3⟩ := h
  obtain ⟨k1, k2⟩ := h1
  obtain ⟨l1, l2, l3⟩ := h3
  have hold := sl_old_act hx (sl_hour (sw_live ev D B g s) s N1) (sk_nx x.2.2.2.1) (sl_up (sw_live ev D B g s) s x.2.2.2.2 N1)
  have hlN : sl_ok N1 x.2.2.2.2 := sl_ok_eq hx.2.2.1 e29 hi
  have h30 : 0 ≤ sw_live ev D B g s N1 30 := by
    rw [sw_live_hi hs (by omega)]
    have := hlN.1
    have := hlN.2.1
    omega
  have x29 : sl_hour (sw_live ev D B g s) s N1 29 = x.1 29 + 1 := by rw [sl_hour_lt (by omega) h30, sw_live_29, e29]
  have h29p := hx.2.2.1.1
  refine ⟨⟨fun j hj => ?_, ?_, fun h w a b e => ?_⟩, ⟨fun b hb hb2 => ?_, fun b hb => ?_⟩⟩
  · show sq_rd J3 40 j = sl_hour (sw_live ev D B g s) s N1 j
    rw [sl_hour_lt hj h30]
    exact l1 j hj
  · show rc_past J3 (sk_nx x.2.2.2.1) (sk_na x.2.1) (sk_H x.2.1 x.2.2.1 x.1)
    refine rc_past_keep k1 (fun b hb => ?_)
    rw [sq_cf_ge l3 (by simp; omega) (by omega), h2 b (by omega)]
  · have b2 : h < (sl_hour (sw_live ev D B g s) s N1 29).toNat := b
    rw [x29] at b2
    have a2 : sl_old (sl_hour (sw_live ev D B g s) s N1, sk_na x.2.1, sk_H x.2.1 x.2.2.1 x.1, sk_nx x.2.2.2.1, sl_up (sw_live ev D B g s) s x.2.2.2.2 N1) - 60 ≤ h := a
    show J3 (45 + w) (h % 100) = sl_up (sw_live ev D B g s) s x.2.2.2.2 N1 h w
    rw [l2 _ w e, e29]
    unfold sl_up
    rw [e29]
    by_cases ch : h = (x.1 29).toNat
    · rw [if_pos ch, if_pos (by rw [ch])]
    · rw [if_neg ch, if_neg (by omega), h2 _ (by omega), k2 _ (by omega) (by omega)]
      exact r3 h w (by omega) (by omega) e
  · rw [sq_TL_mem] at hb
    rw [l3.1 b (by simp; omega) hb2, h2 b (by omega), k2 b (by omega) (by omega)]
  · rw [l3.2 b hb]
    simp at hb
    rw [h2 b (by omega), k2 b (by omega) (by omega)]
theorem sh_it_rs {x : sT} (hs : s ≤ 8) (hg : 0 ≤ g ∧ g ≤ 5) (h : rs_T s x) : ∀ k : Nat, x.1 29 + k ≤ 9999 → rs_T s (sh_it (sw_live ev D B g s) s k x) ∧ (sh_it (sw_live ev D B g s) s k x).1 29 = x.1 29 + k := by
  intro k
  induction k with
  | zero => intro _; exact ⟨h, by simp [sh_it]⟩
  | succ k ih =>
    intro hk
    obtain ⟨i1, i2⟩ := ih (by omega)
    have := rs_st (ev := ev) (D := D) (B := B) hs hg i1 i1.1 rfl (fun _ _ => rfl) (by omega)
    refine ⟨this.1, ?_⟩
    show (sh_st (sw_live ev D B g s) s _ _).1 29 = _
    rw [this.2, i2]
    omega
/-- reason and answer of hours -/
def ra_hours (s : Nat) (N : Nat → Int) (x : Int) : Int := if s = 0 then 0 else if ¬ (1 ≤ x ∧ x ≤ 60) then 1 else if 9999 < N 29 + x then 4 else -1
def sq_CC2 (n c : Nat) (P : mm_P) (I : mm_I) (t u s : Nat) (D : Nat → Int) (B : Nat → Nat) (g v : Int) (lw : Option Nat) (ev : sv_E) (x : sT) : Prop := sq_CC n c P I t u s D B g v lw ev x.1 ∧ rc_T I x ∧ rs_T s x
set_option maxHeartbeats 1000000 in
theorem oa_hours {x : sT} (hd : c ≤ d) (hC2 : sq_CC2 n c P I t u s D B g v lw ev x) (y : Int) : sq_X (some (.inl (if ra_hours s x.1 y = -1 then x.1 29 + y else -1))) n L P (fun I' => (ra_hours s x.1 y = -1 → rc_T I' (sh_it (sw_live ev D B g s) s y.toNat x) ∧ sq_cf sq_TL I I') ∧ (ra_hours s x.1 y ≠ -1 → I' = mm_ui I 238 (ra_hours s x.1 y).toNat (mm_add (I 238 (ra_hours s x.1 y).toNat) 1))) (mm_rn (d + 10) 99 [.inr (.inr (some 0)), .inl y] n I L P) := by
  obtain ⟨⟨hP, hW, hLW, hN, hok, hh⟩, hT, hS⟩ := hC2
  have ok0 := sq_ok0 hP
  have hs : I t 0 = (s : Int) := hW.2.1.2.2.1
  have hs8 : s ≤ 8 := hW.2.1.2.1
  have hg5 := hW.2.2.2
  have hC := hP.2.2.2.2.2.2.2.1
  have hn := hP.1
  have ok40 := (hP.2.2.2.2.2.1 40 (by omega)).ok
  have ok48 : mm_ok n 48 6 := nb_ok (by omega) rfl
  have nf8 : I 40 8 = x.1 29 := (sq_cN_iff.1 hN).2.2.2.2.2.2.2.2
  have h290 := hS.2.2.1.1
  rw [eX11_hours]
  by_cases h1 : s = 0
  · have hr : ra_hours s x.1 y = 0 := if_pos h1
    rw [hr, if_neg (by decide)]
    simp (disch := (first | assumption | omega | exact nb_ix (by omega) (by assumption) (by omega) (by omega) | exact nb_ix (by omega) rfl (by omega) (by omega) | exact nb_ok (by omega) rfl | decide)) only [kX11_hours, sq_noTown hP hs, sq_cref0 hP, ↓if_pos, ↓if_neg, nb_add, nb_sub, nb_mul, Int.toNat_natCast, mm_kr_s, mm_kv_s, if_pos, if_neg, sq_tn, Int.toNat_zero, Int.reduceToNat, Int.reduceNeg, Nat.reduceAdd, Int.reduceAdd, Int.reduceEq, Int.reduceLT, Int.reduceLE, Int.zero_add, nb_ui_s, nb_ui_k, nb_ui_a, sp_min, sp_max, sp_bits]
    exact sq_ret ⟨fun h => absurd h (by decide), fun _ => rfl⟩
  by_cases h2 : 1 ≤ y ∧ y ≤ 60
  case neg =>
    have hr : ra_hours s x.1 y = 1 := by unfold ra_hours; rw [if_neg h1, if_pos h2]
    rw [hr, if_neg (by decide)]
    by_cases h2a : y < 1
    · simp (disch := (first | assumption | omega | exact nb_ix (by omega) (by assumption) (by omega) (by omega) | exact nb_ix (by omega) rfl (by omega) (by omega) | exact nb_ok (by omega) rfl | decide)) only [kX11_hours, sq_noTown hP hs, sq_cref1 hP, ↓if_pos, ↓if_neg, nb_add, nb_sub, nb_mul, Int.toNat_natCast, mm_kr_s, mm_kv_s, if_pos, if_neg, sq_tn, Int.toNat_zero, Int.reduceToNat, Int.reduceNeg, Nat.reduceAdd, Int.reduceAdd, Int.reduceEq, Int.reduceLT, Int.reduceLE, Int.zero_add, nb_ui_s, nb_ui_k, nb_ui_a, sp_min, sp_max, sp_bits]
      exact sq_ret ⟨fun h => absurd h (by decide), fun _ => rfl⟩
    · simp (disch := (first | assumption | omega | exact nb_ix (by omega) (by assumption) (by omega) (by omega) | exact nb_ix (by omega) rfl (by omega) (by omega) | exact nb_ok (by omega) rfl | decide)) only [kX11_hours, sq_noTown hP hs, sq_cref1 hP, ↓if_pos, ↓if_neg, nb_add, nb_sub, nb_mul, Int.toNat_natCast, mm_kr_s, mm_kv_s, if_pos, if_neg, sq_tn, Int.toNat_zero, Int.reduceToNat, Int.reduceNeg, Nat.reduceAdd, Int.reduceAdd, Int.reduceEq, Int.reduceLT, Int.reduceLE, Int.zero_add, nb_ui_s, nb_ui_k, nb_ui_a, sp_min, sp_max, sp_bits]
      exact sq_ret ⟨fun h => absurd h (by decide), fun _ => rfl⟩
  by_cases h3 : 9999 < x.1 29 + y
  · have hr : ra_hours s x.1 y = 4 := by unfold ra_hours; rw [if_neg h1, if_neg (not_not_intro h2), if_pos h3]
    rw [hr, if_neg (by decide)]
    simp (disch := (first | assumption | omega | exact nb_ix (by omega) (by assumption) (by omega) (by omega) | exact nb_ix (by omega) rfl (by omega) (by omega) | exact nb_ok (by omega) rfl | decide)) only [kX11_hours, sq_noTown hP hs, hC, nf8, sq_cref4 hP, ↓if_pos, ↓if_neg, nb_add, nb_sub, nb_mul, Int.toNat_natCast, mm_kr_s, mm_kv_s, if_pos, if_neg, sq_tn, Int.toNat_zero, Int.reduceToNat, Int.reduceNeg, Nat.reduceAdd, Int.reduceAdd, Int.reduceEq, Int.reduceLT, Int.reduceLE, Int.zero_add, nb_ui_s, nb_ui_k, nb_ui_a, sp_min, sp_max, sp_bits]
    exact sq_ret ⟨fun h => absurd h (by decide), fun _ => rfl⟩
  have hr : ra_hours s x.1 y = -1 := by unfold ra_hours; rw [if_neg h1, if_neg (not_not_intro h2), if_neg h3]
  rw [hr, if_pos rfl]
  obtain ⟨m, rfl⟩ : ∃ k : Nat, y = (k : Int) := ⟨y.toNat, by omega⟩
  rw [Int.toNat_natCast]
  simp (disch := (first | assumption | omega | exact nb_ix (by omega) (by assumption) (by omega) (by omega) | exact nb_ix (by omega) rfl (by omega) (by omega) | exact nb_ok (by omega) rfl | decide)) only [kX11_hours, sq_noTown hP hs, hC, nf8, ↓if_pos, ↓if_neg, nb_add, nb_sub, nb_mul, Int.toNat_natCast, mm_kr_s, mm_kv_s, if_pos, if_neg, sq_tn, Int.toNat_zero, Int.reduceToNat, Int.reduceNeg, Nat.reduceAdd, Int.reduceAdd, Int.reduceEq, Int.reduceLT, Int.reduceLE, Int.zero_add, nb_ui_s, nb_ui_k, nb_ui_a, sp_min, sp_max, sp_bits]
  refine sq_loop (fun i (J : mm_I) => mm_E (d + 9) 99 53 [.inr (.inr (some 0)), .inl ((m : Int)), .inl ((i : Nat))] [] [] n J L P) (fun i J => rc_T J (sh_it (sw_live ev D B g s) s i x) ∧ sq_cf sq_TL I J) m (s0 := I) ⟨hT, sq_cf_refl _ _⟩ ?_ ?_
  · intro i J hi ⟨j1, j2⟩ ih
    obtain ⟨s1, s2⟩ := sh_it_rs (ev := ev) (D := D) (B := B) hs8 hg5 hS i (by omega)
    rw [hX11_hours_53]
    simp (disch := (first | assumption | omega | exact nb_ix (by omega) (by assumption) (by omega) (by omega) | exact nb_ix (by omega) rfl (by omega) (by omega) | exact nb_ok (by omega) rfl | decide)) only [kX11_hours, hC, ↓if_pos, ↓if_neg, nb_add, nb_sub, nb_mul, Int.toNat_natCast, mm_kr_s, mm_kv_s, if_pos, if_neg, sq_tn, Int.toNat_zero, Int.reduceToNat, Int.reduceNeg, Nat.reduceAdd, Int.reduceAdd, Int.reduceEq, Int.reduceLT, Int.reduceLE, Int.zero_add, nb_ui_s, nb_ui_k, nb_ui_a, sp_min, sp_max, sp_bits]
    refine sq_kv (sq_ckeep (d := d + 7) hP j1.1 j1.2.1) (fun J1 hJ1 => ?_)
    have hc1 : sq_cf sq_TL I J1 := sq_cf_trans j2 (l2 := sq_TL) ⟨fun b hb _ => hJ1.2 b (by rw [sq_TL_mem] at hb; omega) (by rw [sq_TL_mem] at hb; omega), fun b hb => by rw [hJ1.2 b (by simp at hb; omega) (by simp at hb; omega)]⟩ (fun _ h => h) (fun _ h => h)
    have hW1 := sq_CW_keep hW hc1 sq_TL_ge
    have hLW1 : sq_LW J1 lw := by
      unfold sq_LW
      rw [sq_cf_ge hc1 (b := 0) (by rw [sq_TL_mem]; omega) (by omega)]
      exact hLW
    have hN1 := sq_cN_rows (I' := J1) j1.1 (fun k hk => hJ1.2 _ (by omega) (by omega))
    simp (disch := (first | assumption | omega | exact nb_ix (by omega) (by assumption) (by omega) (by omega) | exact nb_ix (by omega) rfl (by omega) (by omega) | exact nb_ok (by omega) rfl | decide)) only [kX11_hours, ↓if_pos, ↓if_neg, nb_add, nb_sub, nb_mul, Int.toNat_natCast, mm_kr_s, mm_kv_s, if_pos, if_neg, sq_tn, Int.toNat_zero, Int.reduceToNat, Int.reduceNeg, Nat.reduceAdd, Int.reduceAdd, Int.reduceEq, Int.reduceLT, Int.reduceLE, Int.zero_add, nb_ui_s, nb_ui_k, nb_ui_a, sp_min, sp_max, sp_bits]
    refine sq_kv (sq_clogged (d := d + 3) (by omega) hP hW1 hLW1 hN1 s1.1 (by omega)) (fun J3 hJ3 => ?_)
    obtain ⟨t1, t2⟩ := rc_T_st hs8 s1 j1 rfl (fun _ _ => rfl) hJ1 (fun _ _ => rfl) hJ3
    simp (disch := (first | assumption | omega | exact nb_ix (by omega) (by assumption) (by omega) (by omega) | exact nb_ix (by omega) rfl (by omega) (by omega) | exact nb_ok (by omega) rfl | decide)) only [kX11_hours, ↓if_pos, ↓if_neg, nb_add, nb_sub, nb_mul, Int.toNat_natCast, mm_kr_s, mm_kv_s, if_pos, if_neg, sq_tn, Int.toNat_zero, Int.reduceToNat, Int.reduceNeg, Nat.reduceAdd, Int.reduceAdd, Int.reduceEq, Int.reduceLT, Int.reduceLE, Int.zero_add, nb_ui_s, nb_ui_k, nb_ui_a, sp_min, sp_max, sp_bits]
    exact ih _ ⟨t1, sq_cf_trans j2 t2 (fun _ h => h) (fun _ h => h)⟩
  · intro J ⟨j1, j2⟩
    obtain ⟨s1, s2⟩ := sh_it_rs (ev := ev) (D := D) (B := B) hs8 hg5 hS m (by omega)
    have e8 : J 40 8 = x.1 29 + m := by rw [(sq_cN_iff.1 j1.1).2.2.2.2.2.2.2.2, s2]
    rw [hX11_hours_53]
    simp (disch := (first | assumption | omega | exact nb_ix (by omega) (by assumption) (by omega) (by omega) | exact nb_ix (by omega) rfl (by omega) (by omega) | exact nb_ok (by omega) rfl | decide)) only [kX11_hours, hC, e8, ↓if_pos, ↓if_neg, nb_add, nb_sub, nb_mul, Int.toNat_natCast, mm_kr_s, mm_kv_s, if_pos, if_neg, sq_tn, Int.toNat_zero, Int.reduceToNat, Int.reduceNeg, Nat.reduceAdd, Int.reduceAdd, Int.reduceEq, Int.reduceLT, Int.reduceLE, Int.zero_add, nb_ui_s, nb_ui_k, nb_ui_a, sp_min, sp_max, sp_bits]
    exact sq_ret ⟨fun _ => ⟨j1, j2⟩, fun h => absurd rfl h⟩
/-- frames of the model's time: rows 248, 249, 257, 259, 260; of 239 the count of acts -/
def sq_ft (I I' : mm_I) : Prop := (∀ b, b ∉ [239, 248, 249, 257, 259, 260] → I' b = I b) ∧ (∀ j, j ≠ 33 → I' 239 j = I 239 j)
theorem sq_ft_refl (I : mm_I) : sq_ft I I := ⟨fun _ _ => rfl, fun _ _ => rfl⟩
theorem sq_ft_trans {I I1 I2 : mm_I} (h : sq_ft I I1) (h2 : sq_ft I1 I2) : sq_ft I I2 := ⟨fun b hb => by rw [h2.1 b hb, h.1 b hb], fun j hj => by rw [h2.2 j hj, h.2 j hj]⟩
theorem sq_ft_fk {I I' : mm_I} (h : sq_fk I I') : sq_ft I I' := ⟨fun b hb => h.1 b (by intro e; subst e; simp at hb) (by intro e; subst e; simp at hb), h.2⟩
theorem sq_ft_fr {I I' : mm_I} {l : List Nat} (h : sq_fr l I I') (hl : ∀ b, b ∈ l → b ∈ [248, 249, 257, 259]) : sq_ft I I' := ⟨fun b hb => h b (fun q => by have := hl b q; simp at this hb; omega), fun j _ => by rw [h 239 (fun q => by have := hl _ q; simp at this)]⟩
theorem sq_MW_ft {I I' : mm_I} (hW : sq_MW n c P I s D B g v ev) (h : sq_ft I I') : sq_MW n c P I' s D B g v ev :=
  sq_MW_keep hW (h.2 26 (by omega)) (h.2 29 (by omega)) (fun b hb => h.1 b (by simp at hb ⊢; omega))
set_option maxHeartbeats 1000000 in
theorem ob_hours {x : sT} (hd : c ≤ d) (hC : sq_MM n c P I s D B g v ev x.1) (hA : rm_past I x.2.1 x.2.2.1) (hS : rs_T s x) (y : Int) : sq_X (some (.inl (if ra_hours s x.1 y = -1 then x.1 29 + y else -1))) n L P (fun I' => (ra_hours s x.1 y = -1 → rm_T I' (sh_it (sw_live ev D B g s) s y.toNat x) ∧ sq_ft I I') ∧ (ra_hours s x.1 y ≠ -1 → I' = mm_ui I 258 (ra_hours s x.1 y).toNat (mm_add (I 258 (ra_hours s x.1 y).toNat) 1))) (mm_rn (d + 10) 208 [.inr (.inr (some 239)), .inl y] n I L P) := by
  obtain ⟨hW, hN, hok, hh⟩ := hC
  have hM := hW.1
  have ok := hM.ok
  have hs : I 239 26 = (s : Int) := hW.2.1.2.1
  have hs8 : s ≤ 8 := hW.2.1.1
  have hg5 := hW.2.2.2
  have hP := hM.2
  have hn := hM.1
  have e29 := hN 29 (by omega)
  have h290 := hS.2.2.1.1
  have hah : (1 ≤ y ∧ y ≤ 60) → mm_rn (d + 9) 207 [.inr (.inr (some 239)), .inl y] n I L P = some (some (.inl (if x.1 29 + y ≤ 9999 then 1 else 0)), n, I, L, P) := by
    intro hy
    rw [eX12_areHours]
    by_cases h : x.1 29 + y ≤ 9999
    · simp (disch := (first | assumption | omega | exact nb_ix (by omega) (by assumption) (by omega) (by omega) | exact nb_ix (by omega) rfl (by omega) (by omega) | exact nb_ok (by omega) rfl | decide)) only [kX12_areHours, sp_min2, hP, e29, ↓if_pos, ↓if_neg, nb_add, nb_sub, nb_mul, Int.toNat_natCast, mm_kr_s, mm_kv_s, if_pos, if_neg, sq_tn, Int.toNat_zero, Int.reduceToNat, Int.reduceNeg, Nat.reduceAdd, Int.reduceAdd, Int.reduceEq, Int.reduceLT, Int.reduceLE, Int.zero_add, nb_ui_s, nb_ui_k, nb_ui_a, sp_min, sp_max, sp_bits]
    · simp (disch := (first | assumption | omega | exact nb_ix (by omega) (by assumption) (by omega) (by omega) | exact nb_ix (by omega) rfl (by omega) (by omega) | exact nb_ok (by omega) rfl | decide)) only [kX12_areHours, sp_min2, hP, e29, ↓if_pos, ↓if_neg, nb_add, nb_sub, nb_mul, Int.toNat_natCast, mm_kr_s, mm_kv_s, if_pos, if_neg, sq_tn, Int.toNat_zero, Int.reduceToNat, Int.reduceNeg, Nat.reduceAdd, Int.reduceAdd, Int.reduceEq, Int.reduceLT, Int.reduceLE, Int.zero_add, nb_ui_s, nb_ui_k, nb_ui_a, sp_min, sp_max, sp_bits]
  rw [eX12_hours]
  by_cases h1 : s = 0
  · have hr : ra_hours s x.1 y = 0 := if_pos h1
    rw [hr, if_neg (by decide)]
    simp (disch := (first | assumption | omega | exact nb_ix (by omega) (by assumption) (by omega) (by omega) | exact nb_ix (by omega) rfl (by omega) (by omega) | exact nb_ok (by omega) rfl | decide)) only [kX12_hours, hs, sq_mref0' hM, ↓if_pos, ↓if_neg, nb_add, nb_sub, nb_mul, Int.toNat_natCast, mm_kr_s, mm_kv_s, if_pos, if_neg, sq_tn, Int.toNat_zero, Int.reduceToNat, Int.reduceNeg, Nat.reduceAdd, Int.reduceAdd, Int.reduceEq, Int.reduceLT, Int.reduceLE, Int.zero_add, nb_ui_s, nb_ui_k, nb_ui_a, sp_min, sp_max, sp_bits]
    exact sq_ret ⟨fun h => absurd h (by decide), fun _ => rfl⟩
  have h1' : ¬ (s : Int) = 0 := by omega
  by_cases h2 : 1 ≤ y ∧ y ≤ 60
  case neg =>
    have hr : ra_hours s x.1 y = 1 := by unfold ra_hours; rw [if_neg h1, if_pos h2]
    rw [hr, if_neg (by decide)]
    simp (disch := (first | assumption | omega | exact nb_ix (by omega) (by assumption) (by omega) (by omega) | exact nb_ix (by omega) rfl (by omega) (by omega) | exact nb_ok (by omega) rfl | decide)) only [kX12_hours, hs, sp_min2, sq_mref1' hM, ↓if_pos, ↓if_neg, nb_add, nb_sub, nb_mul, Int.toNat_natCast, mm_kr_s, mm_kv_s, if_pos, if_neg, sq_tn, Int.toNat_zero, Int.reduceToNat, Int.reduceNeg, Nat.reduceAdd, Int.reduceAdd, Int.reduceEq, Int.reduceLT, Int.reduceLE, Int.zero_add, nb_ui_s, nb_ui_k, nb_ui_a, sp_min, sp_max, sp_bits]
    exact sq_ret ⟨fun h => absurd h (by decide), fun _ => rfl⟩
  have hah := hah h2
  by_cases h3 : 9999 < x.1 29 + y
  · have hr : ra_hours s x.1 y = 4 := by unfold ra_hours; rw [if_neg h1, if_neg (not_not_intro h2), if_pos h3]
    rw [hr, if_neg (by decide)]
    rw [if_neg (by omega)] at hah
    simp (disch := (first | assumption | omega | exact nb_ix (by omega) (by assumption) (by omega) (by omega) | exact nb_ix (by omega) rfl (by omega) (by omega) | exact nb_ok (by omega) rfl | decide)) only [kX12_hours, hs, sp_min2, hah, sq_mref4' hM, ↓if_pos, ↓if_neg, nb_add, nb_sub, nb_mul, Int.toNat_natCast, mm_kr_s, mm_kv_s, if_pos, if_neg, sq_tn, Int.toNat_zero, Int.reduceToNat, Int.reduceNeg, Nat.reduceAdd, Int.reduceAdd, Int.reduceEq, Int.reduceLT, Int.reduceLE, Int.zero_add, nb_ui_s, nb_ui_k, nb_ui_a, sp_min, sp_max, sp_bits]
    exact sq_ret ⟨fun h => absurd h (by decide), fun _ => rfl⟩
  have hr : ra_hours s x.1 y = -1 := by unfold ra_hours; rw [if_neg h1, if_neg (not_not_intro h2), if_neg h3]
  rw [hr, if_pos rfl]
  rw [if_pos (by omega)] at hah
  obtain ⟨m, rfl⟩ : ∃ k : Nat, y = (k : Int) := ⟨y.toNat, by omega⟩
  rw [Int.toNat_natCast]
  simp (disch := (first | assumption | omega | exact nb_ix (by omega) (by assumption) (by omega) (by omega) | exact nb_ix (by omega) rfl (by omega) (by omega) | exact nb_ok (by omega) rfl | decide)) only [kX12_hours, hs, sp_min2, hah, sq_mref0 hM, ↓if_pos, ↓if_neg, nb_add, nb_sub, nb_mul, Int.toNat_natCast, mm_kr_s, mm_kv_s, if_pos, if_neg, sq_tn, Int.toNat_zero, Int.reduceToNat, Int.reduceNeg, Nat.reduceAdd, Int.reduceAdd, Int.reduceEq, Int.reduceLT, Int.reduceLE, Int.zero_add, nb_ui_s, nb_ui_k, nb_ui_a, sp_min, sp_max, sp_bits]
  refine sq_loop (fun i (J : mm_I) => mm_E (d + 9) 208 49 [.inr (.inr (some 239)), .inl ((m : Int)), .inl ((i : Nat))] [] [] n J L P) (fun i J => rm_T J (sh_it (sw_live ev D B g s) s i x) ∧ sq_ft I J) m (s0 := I) ⟨⟨hN, hA⟩, sq_ft_refl _⟩ ?_ ?_
  · intro i J hi ⟨j1, j2⟩ ih
    obtain ⟨s1, s2⟩ := sh_it_rs (ev := ev) (D := D) (B := B) hs8 hg5 hS i (by omega)
    have hlo := s1.2.2.1
    rw [hX12_hours_49]
    simp (disch := (first | assumption | omega | exact nb_ix (by omega) (by assumption) (by omega) (by omega) | exact nb_ix (by omega) rfl (by omega) (by omega) | exact nb_ok (by omega) rfl | decide)) only [kX12_hours, ↓if_pos, ↓if_neg, nb_add, nb_sub, nb_mul, Int.toNat_natCast, mm_kr_s, mm_kv_s, if_pos, if_neg, sq_tn, Int.toNat_zero, Int.reduceToNat, Int.reduceNeg, Nat.reduceAdd, Int.reduceAdd, Int.reduceEq, Int.reduceLT, Int.reduceLE, Int.zero_add, nb_ui_s, nb_ui_k, nb_ui_a, sp_min, sp_max, sp_bits]
    refine sq_kv (sq_mkeep (d := d + 8) hM j1.1 j1.2) (fun J1 hJ1 => ?_)
    have hf1 := sq_ft_trans j2 (sq_ft_fk hJ1.2)
    have hW1 := sq_MW_ft hW hf1
    have hN1 := sq_fk_mN hJ1.2 j1.1
    simp (disch := (first | assumption | omega | exact nb_ix (by omega) (by assumption) (by omega) (by omega) | exact nb_ix (by omega) rfl (by omega) (by omega) | exact nb_ok (by omega) rfl | decide)) only [kX12_hours, ↓if_pos, ↓if_neg, nb_add, nb_sub, nb_mul, Int.toNat_natCast, mm_kr_s, mm_kv_s, if_pos, if_neg, sq_tn, Int.toNat_zero, Int.reduceToNat, Int.reduceNeg, Nat.reduceAdd, Int.reduceAdd, Int.reduceEq, Int.reduceLT, Int.reduceLE, Int.zero_add, nb_ui_s, nb_ui_k, nb_ui_a, sp_min, sp_max, sp_bits]
    refine sq_kv (sq_mlogged (d := d + 3) (by omega) hW1 hN1 s1.1 (by omega) (by have := hlo.1; have := hlo.2.1; omega)) (fun J3 hJ3 => ?_)
    simp (disch := (first | assumption | omega | exact nb_ix (by omega) (by assumption) (by omega) (by omega) | exact nb_ix (by omega) rfl (by omega) (by omega) | exact nb_ok (by omega) rfl | decide)) only [kX12_hours, ↓if_pos, ↓if_neg, nb_add, nb_sub, nb_mul, Int.toNat_natCast, mm_kr_s, mm_kv_s, if_pos, if_neg, sq_tn, Int.toNat_zero, Int.reduceToNat, Int.reduceNeg, Nat.reduceAdd, Int.reduceAdd, Int.reduceEq, Int.reduceLT, Int.reduceLE, Int.zero_add, nb_ui_s, nb_ui_k, nb_ui_a, sp_min, sp_max, sp_bits]
    refine ih _ ⟨⟨hJ3.1, ?_⟩, sq_ft_trans hf1 (sq_ft_fr hJ3.2 (fun _ h => h))⟩
    obtain ⟨p1, p2, p3⟩ := hJ1.1
    show rm_past J3 (sk_na _) (sk_H _ _ _)
    unfold rm_past
    rw [hJ3.2 239 (by decide), hJ3.2 260 (by decide)]
    exact ⟨p1, p2, p3⟩
  · intro J ⟨j1, j2⟩
    obtain ⟨s1, s2⟩ := sh_it_rs (ev := ev) (D := D) (B := B) hs8 hg5 hS m (by omega)
    have e8 : J 257 29 = x.1 29 + m := by rw [j1.1 29 (by omega), s2]
    rw [hX12_hours_49]
    simp (disch := (first | assumption | omega | exact nb_ix (by omega) (by assumption) (by omega) (by omega) | exact nb_ix (by omega) rfl (by omega) (by omega) | exact nb_ok (by omega) rfl | decide)) only [kX12_hours, hP, e8, ↓if_pos, ↓if_neg, nb_add, nb_sub, nb_mul, Int.toNat_natCast, mm_kr_s, mm_kv_s, if_pos, if_neg, sq_tn, Int.toNat_zero, Int.reduceToNat, Int.reduceNeg, Nat.reduceAdd, Int.reduceAdd, Int.reduceEq, Int.reduceLT, Int.reduceLE, Int.zero_add, nb_ui_s, nb_ui_k, nb_ui_a, sp_min, sp_max, sp_bits]
    exact sq_ret ⟨fun _ => ⟨j1, j2⟩, fun h => absurd rfl h⟩
end TM
