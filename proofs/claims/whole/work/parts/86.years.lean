/-! years by draws: both halves -/
def sy_nd (x : Int) : Int := mm_laddl (mm_lmull x 6364136223846793005) 1442695040888963407
def sy_dr (x m : Int) : Int := Int.tmod (mm_lushr x 33) m
theorem sy_ush (x : Int) : 0 ≤ mm_lushr x 33 ∧ mm_lushr x 33 < 2147483648 := by
  unfold mm_lushr
  have e : (Int32.ofInt 33).toInt64.toUInt64 &&& Int64.toUInt64 63 = 33 := by decide
  rw [e]
  generalize (Int64.ofInt x).toUInt64 = w
  have h1 : (w >>> 33).toNat < 2147483648 := by
    rw [UInt64.toNat_shiftRight]
    have h2 : w.toNat < 2 ^ 64 := UInt64.toNat_lt w
    have h3 : (33 : UInt64).toNat % 64 = 33 := by decide
    rw [h3, Nat.shiftRight_eq_div_pow]
    omega
  have h4 : (w >>> 33).toInt64.toInt = ((w >>> 33).toNat : Int) := by
    show ((w >>> 33).toBitVec).toInt = _
    rw [BitVec.toInt_eq_toNat_of_lt]
    · rfl
    · show 2 * (w >>> 33).toNat < 2 ^ 64
      omega
  rw [h4]
  omega
theorem sy_dr_rg {x m : Int} (hm : 0 < m) : 0 ≤ sy_dr x m ∧ sy_dr x m < m := by
  have h := sy_ush x
  unfold sy_dr
  exact ⟨Int.tmod_nonneg m h.1, Int.tmod_lt_of_pos _ hm⟩
theorem sy_dr_w {x m : Int} (hm : 0 < m) (hm2 : m ≤ 100) : mm_wl (Int.tmod (mm_lushr x 33) m) = sy_dr x m ∧ mm_w (sy_dr x m) = sy_dr x m := by
  have h := sy_dr_rg (x := x) hm
  have h2 : 0 ≤ Int.tmod (mm_lushr x 33) m ∧ Int.tmod (mm_lushr x 33) m < m := h
  exact ⟨nb_wl (by omega) (by omega), nb_w (by omega) (by omega)⟩
/-- the draws of an hour: the seed behind them, the night behind them -/
def sy_x (pe x : Int) : Int := if sy_dr (sy_nd x) 10 < pe then sy_nd (sy_nd (sy_nd (sy_nd x))) else sy_nd x
def sy_N0 (s : Nat) (pe : Int) (N : Nat → Int) (x : Int) : Nat → Int := if sy_dr (sy_nd x) 10 < pe then (if N (16 + (sy_dr (sy_nd (sy_nd x)) s).toNat) = 0 then sw_beg N (sy_dr (sy_nd (sy_nd x)) s).toNat (sy_dr (sy_nd (sy_nd (sy_nd x))) 3) (sy_dr (sy_nd (sy_nd (sy_nd (sy_nd x)))) 3 + 1) else N) else N
def sy_N1 (s : Nat) (B : Nat → Nat) (pe : Int) (N : Nat → Int) (x : Int) : Nat → Int := fun j => if j = 24 ∧ Nat.testBit (B (N 24).toNat) (sy_dr (sy_nd (sy_x pe x)) s).toNat = true then sy_dr (sy_nd (sy_x pe x)) s else sy_N0 s pe N x j
def sy_it (f : (Nat → Int) → Nat → Int) (s : Nat) (B : Nat → Nat) (pe : Int) : Nat → sT × Int → sT × Int
  | 0, y => y
  | k + 1, y => (sh_st f s (sy_it f s B pe k y).1 (sy_N1 s B pe (sy_it f s B pe k y).1.1 (sy_it f s B pe k y).2), sy_nd (sy_x pe (sy_it f s B pe k y).2))
section YR
variable {n c t u s d : Nat} {I L : mm_I} {P : mm_P} {D : Nat → Int} {B : Nat → Nat} {g v pe : Int} {lw : Option Nat} {ev : sv_E} {N : Nat → Int}
theorem sy_N0_ok {x : Int} (h : sv_ok s N) (hs : s ≤ 8) (hs1 : 0 < s) : sv_ok s (sy_N0 s pe N x) ∧ (∀ j, 24 ≤ j → sy_N0 s pe N x j = N j) := by
  unfold sy_N0
  have r1 := sy_dr_rg (x := sy_nd (sy_nd x)) (m := s) (by omega)
  have r2 := sy_dr_rg (x := sy_nd (sy_nd (sy_nd x))) (m := 3) (by omega)
  have r3 := sy_dr_rg (x := sy_nd (sy_nd (sy_nd (sy_nd x)))) (m := 3) (by omega)
  split
  · split
    · generalize hq : (sy_dr (sy_nd (sy_nd x)) s).toNat = q at *
      have hqs : q < s := by omega
      refine ⟨?_, fun j hj => ?_⟩
      · obtain ⟨o1, o2⟩ := h
        refine ⟨fun j hj => ?_, ?_⟩
        · obtain ⟨q1, q2, q3, q4⟩ := o1 j hj
          unfold sw_beg
          refine ⟨?_, ?_, ?_, ?_⟩
          · rw [if_neg (by omega), if_neg (by omega)]; exact q1
          · by_cases c : j = q
            · rw [if_pos (by omega)]; omega
            · rw [if_neg (by omega), if_neg (by omega)]; exact q2
          · by_cases c : j = q
            · rw [if_neg (by omega), if_pos (by omega)]; omega
            · rw [if_neg (by omega), if_neg (by omega)]; exact q3
          · intro hj2
            have := q4 hj2
            rw [if_neg (by omega), if_neg (by omega), if_neg (by omega), if_neg (by omega)]
            exact this
        · unfold sw_beg
          simp (disch := omega) only [if_neg]
          exact o2
      · unfold sw_beg
        rw [if_neg (by omega), if_neg (by omega)]
    · exact ⟨h, fun _ _ => rfl⟩
  · exact ⟨h, fun _ _ => rfl⟩
theorem sy_N1_ok {x : Int} (h : sv_ok s N) (hs : s ≤ 8) (hs1 : 0 < s) : sv_ok s (sy_N1 s B pe N x) ∧ (∀ j, 25 ≤ j → sy_N1 s B pe N x j = N j) := by
  obtain ⟨⟨o1, o2⟩, oh⟩ := sy_N0_ok (pe := pe) (x := x) h hs hs1
  have r := sy_dr_rg (x := sy_nd (sy_x pe x)) (m := s) (by omega)
  have lo : ∀ j, j ≠ 24 → sy_N1 s B pe N x j = sy_N0 s pe N x j := fun j hj => if_neg (fun q => hj q.1)
  refine ⟨⟨fun p hp => ?_, ?_⟩, fun j hj => ?_⟩
  · rw [lo p (by omega), lo (8 + p) (by omega), lo (16 + p) (by omega)]
    exact o1 p hp
  · rw [lo 25 (by omega), lo 26 (by omega), lo 27 (by omega), lo 28 (by omega), lo 29 (by omega)]
    refine ⟨?_, o2.2⟩
    unfold sy_N1
    split
    · omega
    · exact o2.1
  · rw [lo j (by omega), oh j (by omega)]
theorem sy_it_rs {y : sT × Int} (hs : s ≤ 8) (hs1 : 0 < s) (hg : 0 ≤ g ∧ g ≤ 5) (h : rs_T s y.1) : ∀ k : Nat, y.1.1 29 + k ≤ 9999 → rs_T s (sy_it (sw_live ev D B g s) s B pe k y).1 ∧ (sy_it (sw_live ev D B g s) s B pe k y).1.1 29 = y.1.1 29 + k := by
  intro k
  induction k with
  | zero => intro _; exact ⟨h, by simp [sy_it]⟩
  | succ k ih =>
    intro hk
    obtain ⟨i1, i2⟩ := ih (by omega)
    obtain ⟨n1, n2⟩ := sy_N1_ok (B := B) (pe := pe) (x := (sy_it (sw_live ev D B g s) s B pe k y).2) i1.1 hs hs1
    have := rs_st (ev := ev) (D := D) (B := B) hs hg i1 n1 (n2 29 (by omega)) (fun j hj => n2 j (by omega)) (by omega)
    refine ⟨this.1, ?_⟩
    show (sh_st (sw_live ev D B g s) s _ _).1 29 = _
    rw [this.2, i2]
    omega
theorem sq_cnd {x : Int} : mm_rn (d + 1) 108 [.inr (.inl x)] n I L P = some (some (.inr (.inl (sy_nd x))), n, I, L, P) := by
  rw [eX11_nextDraw]
  simp (disch := (first | assumption | omega | exact nb_ix (by omega) (by assumption) (by omega) (by omega) | exact nb_ix (by omega) rfl (by omega) (by omega) | exact nb_ok (by omega) rfl | decide)) only [kX11_nextDraw, ↓if_pos, ↓if_neg, nb_add, nb_sub, nb_mul, Int.toNat_natCast, mm_kr_s, mm_kv_s, if_pos, if_neg, sq_tn, Int.toNat_zero, Int.reduceToNat, Int.reduceNeg, Nat.reduceAdd, Int.reduceAdd, Int.reduceEq, Int.reduceLT, Int.reduceLE, Int.zero_add, nb_ui_s, nb_ui_k, nb_ui_a, sp_min, sp_max, sp_bits]
  rfl
theorem sq_cdr {x m : Int} (hm : 0 < m) (hm2 : m ≤ 100) : mm_rn (d + 1) 109 [.inr (.inl x), .inl m] n I L P = some (some (.inl (sy_dr x m)), n, I, L, P) := by
  obtain ⟨e1, e2⟩ := sy_dr_w (x := x) hm hm2
  rw [eX11_drawn]
  simp (disch := (first | assumption | omega | exact nb_ix (by omega) (by assumption) (by omega) (by omega) | exact nb_ix (by omega) rfl (by omega) (by omega) | exact nb_ok (by omega) rfl | decide)) only [kX11_drawn, e1, e2, ↓if_pos, ↓if_neg, nb_add, nb_sub, nb_mul, Int.toNat_natCast, mm_kr_s, mm_kv_s, if_pos, if_neg, sq_tn, Int.toNat_zero, Int.reduceToNat, Int.reduceNeg, Nat.reduceAdd, Int.reduceAdd, Int.reduceEq, Int.reduceLT, Int.reduceLE, Int.zero_add, nb_ui_s, nb_ui_k, nb_ui_a, sp_min, sp_max, sp_bits]
theorem sq_cdrawT {x : Int} (hP : sq_P n P t u) (hs8 : s ≤ 8) (hs1 : 0 < s) (hs : I t 0 = (s : Int)) (hpe : I 0 7 = pe) (hN : sq_cN I 40 N) : sq_X (some (.inr (.inl (sy_x pe x)))) n L P (fun I' => sq_cN I' 40 (sy_N0 s pe N x) ∧ sq_fr [42, 43] I I') (mm_rn (d + 3) 110 [.inr (.inr (some 0)), .inr (.inl x)] n I L P) := by
  have ok0 := sq_ok0 hP
  have hC := hP.2.2.2.2.2.2.2.1
  have hPt := hP.2.2.2.2.2.2.1
  have hn := hP.1
  have okt := hP.2.2.2.1.ok
  have hA := hP.2.2.2.2.2.1 40 (by omega)
  have ok40 := hA.ok
  have r1 := sy_dr_rg (x := sy_nd (sy_nd x)) (m := s) (by omega)
  have r3 := sy_dr_rg (x := sy_nd (sy_nd (sy_nd (sy_nd x)))) (m := 3) (by omega)
  have d10 := fun x => sq_cdr (d := d + 1) (n := n) (I := I) (L := L) (P := P) (x := x) (m := 10) (by omega) (by omega)
  have d3 := fun x => sq_cdr (d := d + 1) (n := n) (I := I) (L := L) (P := P) (x := x) (m := 3) (by omega) (by omega)
  have ds := fun x => sq_cdr (d := d + 1) (n := n) (I := I) (L := L) (P := P) (x := x) (m := s) (by omega) (by omega)
  rw [eX11_drawTrouble]
  unfold sy_x sy_N0
  by_cases h1 : sy_dr (sy_nd x) 10 < pe
  · rw [if_pos h1, if_pos h1]
    obtain ⟨q, hq⟩ : ∃ q : Nat, sy_dr (sy_nd (sy_nd x)) s = (q : Int) := ⟨(sy_dr (sy_nd (sy_nd x)) s).toNat, by omega⟩
    have hqn : (sy_dr (sy_nd (sy_nd x)) s).toNat = q := by omega
    rw [hqn]
    by_cases hz : N (16 + q) = 0
    · rw [if_pos hz]
      simp (disch := (first | assumption | omega | exact nb_ix (by omega) (by assumption) (by omega) (by omega) | exact nb_ix (by omega) rfl (by omega) (by omega) | exact nb_ok (by omega) rfl | decide)) only [kX11_drawTrouble, sq_cnd, d10, d3, ds, hpe, hC, hPt, hs, hq, ↓if_pos, ↓if_neg, nb_add, nb_sub, nb_mul, Int.toNat_natCast, mm_kr_s, mm_kv_s, if_pos, if_neg, sq_tn, Int.toNat_zero, Int.reduceToNat, Int.reduceNeg, Nat.reduceAdd, Int.reduceAdd, Int.reduceEq, Int.reduceLT, Int.reduceLE, Int.zero_add, nb_ui_s, nb_ui_k, nb_ui_a, sp_min, sp_max, sp_bits]
      refine sq_kv (sq_cbeg (d := d) (p := q) hA (by omega) hN hz) (fun J hJ => ?_)
      simp (disch := (first | assumption | omega | exact nb_ix (by omega) (by assumption) (by omega) (by omega) | exact nb_ix (by omega) rfl (by omega) (by omega) | exact nb_ok (by omega) rfl | decide)) only [kX11_drawTrouble, ↓if_pos, ↓if_neg, nb_add, nb_sub, nb_mul, Int.toNat_natCast, mm_kr_s, mm_kv_s, if_pos, if_neg, sq_tn, Int.toNat_zero, Int.reduceToNat, Int.reduceNeg, Nat.reduceAdd, Int.reduceAdd, Int.reduceEq, Int.reduceLT, Int.reduceLE, Int.zero_add, nb_ui_s, nb_ui_k, nb_ui_a, sp_min, sp_max, sp_bits]
      exact sq_ret ⟨hJ.1, hJ.2⟩
    · rw [if_neg hz]
      have hb := fun k z => sq_cbegN (d := d) (L := L) (p := q) (k := k) (z := z) hA (by omega) hN hz
      simp (disch := (first | assumption | omega | exact nb_ix (by omega) (by assumption) (by omega) (by omega) | exact nb_ix (by omega) rfl (by omega) (by omega) | exact nb_ok (by omega) rfl | decide)) only [kX11_drawTrouble, sq_cnd, d10, d3, ds, hpe, hC, hPt, hs, hq, hb, ↓if_pos, ↓if_neg, nb_add, nb_sub, nb_mul, Int.toNat_natCast, mm_kr_s, mm_kv_s, if_pos, if_neg, sq_tn, Int.toNat_zero, Int.reduceToNat, Int.reduceNeg, Nat.reduceAdd, Int.reduceAdd, Int.reduceEq, Int.reduceLT, Int.reduceLE, Int.zero_add, nb_ui_s, nb_ui_k, nb_ui_a, sp_min, sp_max, sp_bits]
      exact sq_ret ⟨hN, sq_fr_refl _ _⟩
  · rw [if_neg h1, if_neg h1]
    simp (disch := (first | assumption | omega | exact nb_ix (by omega) (by assumption) (by omega) (by omega) | exact nb_ix (by omega) rfl (by omega) (by omega) | exact nb_ok (by omega) rfl | decide)) only [kX11_drawTrouble, sq_cnd, d10, hpe, ↓if_pos, ↓if_neg, nb_add, nb_sub, nb_mul, Int.toNat_natCast, mm_kr_s, mm_kv_s, if_pos, if_neg, sq_tn, Int.toNat_zero, Int.reduceToNat, Int.reduceNeg, Nat.reduceAdd, Int.reduceAdd, Int.reduceEq, Int.reduceLT, Int.reduceLE, Int.zero_add, nb_ui_s, nb_ui_k, nb_ui_a, sp_min, sp_max, sp_bits]
    exact sq_ret ⟨hN, sq_fr_refl _ _⟩
theorem sq_cdrawW {x : Int} {M : Nat → Int} (hP : sq_P n P t u) (hT : sq_CT I t s D B g v) (hs1 : 0 < s) (hN : sq_cN I 40 M) (h24 : 0 ≤ M 24 ∧ M 24 < s) : sq_X (some (.inr (.inl (sy_nd x)))) n L P (fun I' => sq_cN I' 40 (fun j => if j = 24 ∧ Nat.testBit (B (M 24).toNat) (sy_dr (sy_nd x) s).toNat = true then sy_dr (sy_nd x) s else M j) ∧ sq_fr [40] I I') (mm_rn (d + 4) 111 [.inr (.inr (some 0)), .inr (.inl x)] n I L P) := by
  have ok0 := sq_ok0 hP
  have hC := hP.2.2.2.2.2.2.2.1
  have hPt := hP.2.2.2.2.2.2.1
  have hn := hP.1
  have hTP := hP.2.2.2.1
  have okt := hTP.ok
  have hs : I t 0 = (s : Int) := hT.2.2.1
  have hs8 := hT.2.1
  have ok40 := (hP.2.2.2.2.2.1 40 (by omega)).ok
  have r1 := sy_dr_rg (x := sy_nd x) (m := s) (by omega)
  have ds := fun x => sq_cdr (d := d + 2) (n := n) (I := I) (L := L) (P := P) (x := x) (m := s) (by omega) (by omega)
  obtain ⟨q, hq⟩ : ∃ q : Nat, sy_dr (sy_nd x) s = (q : Int) := ⟨(sy_dr (sy_nd x) s).toNat, by omega⟩
  obtain ⟨a, ha⟩ : ∃ q : Nat, M 24 = (q : Int) := ⟨(M 24).toNat, by omega⟩
  have han : (M 24).toNat = a := by omega
  have e3 : I 40 3 = (a : Int) := by rw [← ha]; exact (sq_cN_iff.1 hN).2.2.2.1
  have hb := hT.2.2.2.2.2.1 a (by omega)
  have hj := sp_joined (d := d) (L := L) hTP hs hs8 (show a < s by omega) (show q < s by omega) hb.1 hb.2
  rw [eX11_drawWalk]
  rw [hq, han, Int.toNat_natCast]
  by_cases hbt : Nat.testBit (B a) q = true
  · rw [if_pos hbt] at hj
    simp (disch := (first | assumption | omega | exact nb_ix (by omega) (by assumption) (by omega) (by omega) | exact nb_ix (by omega) rfl (by omega) (by omega) | exact nb_ok (by omega) rfl | decide)) only [kX11_drawWalk, sq_cnd, ds, hC, hPt, hs, hq, e3, hj, ↓if_pos, ↓if_neg, nb_add, nb_sub, nb_mul, Int.toNat_natCast, mm_kr_s, mm_kv_s, if_pos, if_neg, sq_tn, Int.toNat_zero, Int.reduceToNat, Int.reduceNeg, Nat.reduceAdd, Int.reduceAdd, Int.reduceEq, Int.reduceLT, Int.reduceLE, Int.zero_add, nb_ui_s, nb_ui_k, nb_ui_a, sp_min, sp_max, sp_bits]
    refine sq_ret ⟨fun j hj => ?_, sq_fr_up (sq_fr_refl _ _) (by simp)⟩
    have h4 := hN j hj
    show _ = if j = 24 ∧ _ then _ else M j
    rw [← h4]
    unfold sq_rd mm_ui
    simp only [hbt, and_true]
    grind
  · rw [if_neg hbt] at hj
    simp (disch := (first | assumption | omega | exact nb_ix (by omega) (by assumption) (by omega) (by omega) | exact nb_ix (by omega) rfl (by omega) (by omega) | exact nb_ok (by omega) rfl | decide)) only [kX11_drawWalk, sq_cnd, ds, hC, hPt, hs, hq, e3, hj, ↓if_pos, ↓if_neg, nb_add, nb_sub, nb_mul, Int.toNat_natCast, mm_kr_s, mm_kv_s, if_pos, if_neg, sq_tn, Int.toNat_zero, Int.reduceToNat, Int.reduceNeg, Nat.reduceAdd, Int.reduceAdd, Int.reduceEq, Int.reduceLT, Int.reduceLE, Int.zero_add, nb_ui_s, nb_ui_k, nb_ui_a, sp_min, sp_max, sp_bits]
    refine sq_ret ⟨fun j hj => ?_, sq_fr_refl _ _⟩
    show sq_rd I 40 j = if j = 24 ∧ Nat.testBit (B a) q = true then (q : Int) else M j
    rw [if_neg (fun z => hbt z.2)]
    exact hN j hj
def sa_years (s : Nat) (N : Nat → Int) (m : Int) : Prop := 0 < s ∧ (1 ≤ m ∧ m ≤ 60) ∧ N 29 + m ≤ 9999
set_option maxHeartbeats 2000000 in
theorem oa_years {x : sT} (hd : c ≤ d) (hC2 : sq_CC2 n c P I t u s D B g v lw ev x) (hpe : I 0 7 = pe) (y z : Int) : (¬ sa_years s x.1 y → mm_rn (d + 10) 107 [.inr (.inr (some 0)), .inl y, .inr (.inl z)] n I L P = some (some (.inl (-1)), n, I, L, P)) ∧ (sa_years s x.1 y → sq_X (some (.inl (x.1 29 + y))) n L P (fun I' => rc_T I' (sy_it (sw_live ev D B g s) s B pe y.toNat (x, z)).1 ∧ sq_cf sq_TL I I') (mm_rn (d + 10) 107 [.inr (.inr (some 0)), .inl y, .inr (.inl z)] n I L P)) := by
  obtain ⟨⟨hP, hW, hLW, hN, hok, hh⟩, hT, hS⟩ := hC2
  have ok0 := sq_ok0 hP
  have hs : I t 0 = (s : Int) := hW.2.1.2.2.1
  have hs8 : s ≤ 8 := hW.2.1.2.1
  have hg5 := hW.2.2.2
  have hC := hP.2.2.2.2.2.2.2.1
  have hn := hP.1
  have ok40 := (hP.2.2.2.2.2.1 40 (by omega)).ok
  have ok48 : mm_ok n 48 6 := nb_ok (by omega) rfl
  have nf8 : I 40 8 = x.1 29 := (sq_cN_iff.1 hN).2.2.2.2.2.2.2.2
  have h290 := hS.2.2.1.1
  rw [eX11_years]
  refine ⟨fun hno => ?_, fun hyes => ?_⟩
  · unfold sa_years at hno
    by_cases h1 : s = 0
    · simp (disch := (first | assumption | omega | exact nb_ix (by omega) (by assumption) (by omega) (by omega) | exact nb_ix (by omega) rfl (by omega) (by omega) | exact nb_ok (by omega) rfl | decide)) only [kX11_years, sq_noTown hP hs, ↓if_pos, ↓if_neg, nb_add, nb_sub, nb_mul, Int.toNat_natCast, mm_kr_s, mm_kv_s, if_pos, if_neg, sq_tn, Int.toNat_zero, Int.reduceToNat, Int.reduceNeg, Nat.reduceAdd, Int.reduceAdd, Int.reduceEq, Int.reduceLT, Int.reduceLE, Int.zero_add, nb_ui_s, nb_ui_k, nb_ui_a, sp_min, sp_max, sp_bits]
    · by_cases h2 : y < 1
      · simp (disch := (first | assumption | omega | exact nb_ix (by omega) (by assumption) (by omega) (by omega) | exact nb_ix (by omega) rfl (by omega) (by omega) | exact nb_ok (by omega) rfl | decide)) only [kX11_years, sq_noTown hP hs, ↓if_pos, ↓if_neg, nb_add, nb_sub, nb_mul, Int.toNat_natCast, mm_kr_s, mm_kv_s, if_pos, if_neg, sq_tn, Int.toNat_zero, Int.reduceToNat, Int.reduceNeg, Nat.reduceAdd, Int.reduceAdd, Int.reduceEq, Int.reduceLT, Int.reduceLE, Int.zero_add, nb_ui_s, nb_ui_k, nb_ui_a, sp_min, sp_max, sp_bits]
      · by_cases h3 : 60 < y
        · simp (disch := (first | assumption | omega | exact nb_ix (by omega) (by assumption) (by omega) (by omega) | exact nb_ix (by omega) rfl (by omega) (by omega) | exact nb_ok (by omega) rfl | decide)) only [kX11_years, sq_noTown hP hs, ↓if_pos, ↓if_neg, nb_add, nb_sub, nb_mul, Int.toNat_natCast, mm_kr_s, mm_kv_s, if_pos, if_neg, sq_tn, Int.toNat_zero, Int.reduceToNat, Int.reduceNeg, Nat.reduceAdd, Int.reduceAdd, Int.reduceEq, Int.reduceLT, Int.reduceLE, Int.zero_add, nb_ui_s, nb_ui_k, nb_ui_a, sp_min, sp_max, sp_bits]
        · have h4 : ¬ x.1 29 + y ≤ 9999 := fun q => hno ⟨by omega, by omega, q⟩
          simp (disch := (first | assumption | omega | exact nb_ix (by omega) (by assumption) (by omega) (by omega) | exact nb_ix (by omega) rfl (by omega) (by omega) | exact nb_ok (by omega) rfl | decide)) only [kX11_years, sq_noTown hP hs, hC, nf8, ↓if_pos, ↓if_neg, nb_add, nb_sub, nb_mul, Int.toNat_natCast, mm_kr_s, mm_kv_s, if_pos, if_neg, sq_tn, Int.toNat_zero, Int.reduceToNat, Int.reduceNeg, Nat.reduceAdd, Int.reduceAdd, Int.reduceEq, Int.reduceLT, Int.reduceLE, Int.zero_add, nb_ui_s, nb_ui_k, nb_ui_a, sp_min, sp_max, sp_bits]
  · obtain ⟨h1, h2, h3⟩ := hyes
    have h1' : ¬ s = 0 := by omega
    obtain ⟨m, rfl⟩ : ∃ k : Nat, y = (k : Int) := ⟨y.toNat, by omega⟩
    rw [Int.toNat_natCast]
    simp (disch := (first | assumption | omega | exact nb_ix (by omega) (by assumption) (by omega) (by omega) | exact nb_ix (by omega) rfl (by omega) (by omega) | exact nb_ok (by omega) rfl | decide)) only [kX11_years, sq_noTown hP hs, hC, nf8, ↓if_pos, ↓if_neg, nb_add, nb_sub, nb_mul, Int.toNat_natCast, mm_kr_s, mm_kv_s, if_pos, if_neg, sq_tn, Int.toNat_zero, Int.reduceToNat, Int.reduceNeg, Nat.reduceAdd, Int.reduceAdd, Int.reduceEq, Int.reduceLT, Int.reduceLE, Int.zero_add, nb_ui_s, nb_ui_k, nb_ui_a, sp_min, sp_max, sp_bits]
    refine sq_loop (fun i (J : mm_I) => mm_E (d + 9) 107 41 [.inr (.inr (some 0)), .inl ((m : Int)), mm_junk, mm_junk, mm_junk, mm_junk, .inl ((i : Nat))] [none, none, some z, none, some (sy_it (sw_live ev D B g s) s B pe i (x, z)).2, none, none] [] n J L P) (fun i J => rc_T J (sy_it (sw_live ev D B g s) s B pe i (x, z)).1 ∧ sq_cf sq_TL I J) m (s0 := I) ⟨hT, sq_cf_refl _ _⟩ ?_ ?_
    · intro i J hi ⟨j1, j2⟩ ih
      have hsy := sy_it_rs (ev := ev) (D := D) (B := B) (pe := pe) (y := (x, z)) hs8 h1 hg5 hS i (by show x.1 29 + _ ≤ _; omega)
      have esy : sy_it (sw_live ev D B g s) s B pe (i + 1) (x, z) = (sh_st (sw_live ev D B g s) s (sy_it (sw_live ev D B g s) s B pe i (x, z)).1 (sy_N1 s B pe (sy_it (sw_live ev D B g s) s B pe i (x, z)).1.1 (sy_it (sw_live ev D B g s) s B pe i (x, z)).2), sy_nd (sy_x pe (sy_it (sw_live ev D B g s) s B pe i (x, z)).2)) := rfl
      rw [esy] at ih
      revert hsy ih j1
      generalize sy_it (sw_live ev D B g s) s B pe i (x, z) = X
      obtain ⟨X, w⟩ := X
      intro j1 ih hsy
      obtain ⟨s1, s2⟩ := hsy
      have s1' : rs_T s X := s1
      have s2' : X.1 29 = x.1 29 + i := s2
      have j1' : rc_T J X := j1
      obtain ⟨n1, n2⟩ := sy_N1_ok (B := B) (pe := pe) (x := w) s1'.1 hs8 h1
      obtain ⟨m1, m2⟩ := sy_N0_ok (pe := pe) (x := w) s1'.1 hs8 h1
      show sq_X _ _ _ _ _ (mm_E _ _ _ _ _ _ _ _ _ _)
      rw [hX11_years_41]
      simp (disch := (first | assumption | omega | exact nb_ix (by omega) (by assumption) (by omega) (by omega) | exact nb_ix (by omega) rfl (by omega) (by omega) | exact nb_ok (by omega) rfl | decide)) only [kX11_years, hC, ↓if_pos, ↓if_neg, nb_add, nb_sub, nb_mul, Int.toNat_natCast, mm_kr_s, mm_kv_s, if_pos, if_neg, sq_tn, Int.toNat_zero, Int.reduceToNat, Int.reduceNeg, Nat.reduceAdd, Int.reduceAdd, Int.reduceEq, Int.reduceLT, Int.reduceLE, Int.zero_add, nb_ui_s, nb_ui_k, nb_ui_a, sp_min, sp_max, sp_bits]
      refine sq_kv (sq_ckeep (d := d + 7) hP j1'.1 j1'.2.1) (fun J1 hJ1 => ?_)
      have hc1 : sq_cf sq_TL I J1 := sq_cf_trans j2 (l2 := sq_TL) ⟨fun b hb _ => hJ1.2 b (by rw [sq_TL_mem] at hb; omega) (by rw [sq_TL_mem] at hb; omega), fun b hb => by rw [hJ1.2 b (by simp at hb; omega) (by simp at hb; omega)]⟩ (fun _ h => h) (fun _ h => h)
      have e0 : J1 0 = I 0 := sq_cf_ge hc1 (by rw [sq_TL_mem]; omega) (by omega)
      have hW1 := sq_CW_keep hW hc1 sq_TL_ge
      have hN1 := sq_cN_rows (I' := J1) j1'.1 (fun k hk => hJ1.2 _ (by omega) (by omega))
      simp (disch := (first | assumption | omega | exact nb_ix (by omega) (by assumption) (by omega) (by omega) | exact nb_ix (by omega) rfl (by omega) (by omega) | exact nb_ok (by omega) rfl | decide)) only [kX11_years, ↓if_pos, ↓if_neg, nb_add, nb_sub, nb_mul, Int.toNat_natCast, mm_kr_s, mm_kv_s, if_pos, if_neg, sq_tn, Int.toNat_zero, Int.reduceToNat, Int.reduceNeg, Nat.reduceAdd, Int.reduceAdd, Int.reduceEq, Int.reduceLT, Int.reduceLE, Int.zero_add, nb_ui_s, nb_ui_k, nb_ui_a, sp_min, sp_max, sp_bits]
      refine sq_kr (sq_cdrawT (pe := pe) (d := d + 6) hP hs8 h1 hW1.2.1.2.2.1 (by rw [e0]; exact hpe) hN1) (fun J2 hJ2 => ?_)
      have hc2 : sq_cf sq_TL I J2 := sq_cf_trans hc1 (sq_cf_of hJ2.2 (by decide)) (fun _ h => h) (by decide)
      have hW2 := sq_CW_keep hW hc2 sq_TL_ge
      simp (disch := (first | assumption | omega | exact nb_ix (by omega) (by assumption) (by omega) (by omega) | exact nb_ix (by omega) rfl (by omega) (by omega) | exact nb_ok (by omega) rfl | decide)) only [kX11_years, ↓if_pos, ↓if_neg, nb_add, nb_sub, nb_mul, Int.toNat_natCast, mm_kr_s, mm_kv_s, if_pos, if_neg, sq_tn, Int.toNat_zero, Int.reduceToNat, Int.reduceNeg, Nat.reduceAdd, Int.reduceAdd, Int.reduceEq, Int.reduceLT, Int.reduceLE, Int.zero_add, nb_ui_s, nb_ui_k, nb_ui_a, sp_min, sp_max, sp_bits]
      refine sq_kr (sq_cdrawW (d := d + 5) hP hW2.2.1 h1 hJ2.1 (by have := m1.2.1; omega)) (fun J3 hJ3 => ?_)
      have hc3 : sq_cf sq_TL I J3 := sq_cf_trans hc2 (sq_cf_of hJ3.2 (by decide)) (fun _ h => h) (by decide)
      have hW3 := sq_CW_keep hW hc3 sq_TL_ge
      have hLW3 : sq_LW J3 lw := by
        unfold sq_LW
        rw [sq_cf_ge hc3 (b := 0) (by rw [sq_TL_mem]; omega) (by omega)]
        exact hLW
      have hN3 : sq_cN J3 40 (sy_N1 s B pe X.1 w) := by
        have := hJ3.1
        rw [m2 24 (by omega)] at this
        exact this
      simp (disch := (first | assumption | omega | exact nb_ix (by omega) (by assumption) (by omega) (by omega) | exact nb_ix (by omega) rfl (by omega) (by omega) | exact nb_ok (by omega) rfl | decide)) only [kX11_years, ↓if_pos, ↓if_neg, nb_add, nb_sub, nb_mul, Int.toNat_natCast, mm_kr_s, mm_kv_s, if_pos, if_neg, sq_tn, Int.toNat_zero, Int.reduceToNat, Int.reduceNeg, Nat.reduceAdd, Int.reduceAdd, Int.reduceEq, Int.reduceLT, Int.reduceLE, Int.zero_add, nb_ui_s, nb_ui_k, nb_ui_a, sp_min, sp_max, sp_bits]
      refine sq_kv (sq_clogged (d := d + 3) (by omega) hP hW3 hLW3 hN3 n1 (by rw [n2 29 (by omega)]; omega)) (fun J4 hJ4 => ?_)
      obtain ⟨t1, t2⟩ := rc_T_st hs8 s1' j1' (n2 29 (by omega)) (fun j hj => n2 j (by omega)) hJ1 (fun b hb => by rw [hJ3.2 b (by simp; omega), hJ2.2 b (by simp; omega)]) hJ4
      simp (disch := (first | assumption | omega | exact nb_ix (by omega) (by assumption) (by omega) (by omega) | exact nb_ix (by omega) rfl (by omega) (by omega) | exact nb_ok (by omega) rfl | decide)) only [kX11_years, ↓if_pos, ↓if_neg, nb_add, nb_sub, nb_mul, Int.toNat_natCast, mm_kr_s, mm_kv_s, if_pos, if_neg, sq_tn, Int.toNat_zero, Int.reduceToNat, Int.reduceNeg, Nat.reduceAdd, Int.reduceAdd, Int.reduceEq, Int.reduceLT, Int.reduceLE, Int.zero_add, nb_ui_s, nb_ui_k, nb_ui_a, sp_min, sp_max, sp_bits]
      exact ih _ ⟨t1, sq_cf_trans j2 t2 (fun _ h => h) (fun _ h => h)⟩
    · intro J ⟨j1, j2⟩
      have hsy := sy_it_rs (ev := ev) (D := D) (B := B) (pe := pe) (y := (x, z)) hs8 h1 hg5 hS m (by show x.1 29 + _ ≤ _; omega)
      have e8 : J 40 8 = x.1 29 + m := by rw [(sq_cN_iff.1 j1.1).2.2.2.2.2.2.2.2]; exact hsy.2
      rw [hX11_years_41]
      simp (disch := (first | assumption | omega | exact nb_ix (by omega) (by assumption) (by omega) (by omega) | exact nb_ix (by omega) rfl (by omega) (by omega) | exact nb_ok (by omega) rfl | decide)) only [kX11_years, hC, e8, ↓if_pos, ↓if_neg, nb_add, nb_sub, nb_mul, Int.toNat_natCast, mm_kr_s, mm_kv_s, if_pos, if_neg, sq_tn, Int.toNat_zero, Int.reduceToNat, Int.reduceNeg, Nat.reduceAdd, Int.reduceAdd, Int.reduceEq, Int.reduceLT, Int.reduceLE, Int.zero_add, nb_ui_s, nb_ui_k, nb_ui_a, sp_min, sp_max, sp_bits]
      exact sq_ret ⟨j1, j2⟩
/-! the model's -/
theorem nb_ui_uu {A : mm_I} {a k : Nat} {y z : Int} : mm_ui (mm_ui A a k y) a k z = mm_ui A a k z := by
  funext b j
  unfold mm_ui
  by_cases h : b = a ∧ j = k
  · rw [if_pos h, if_pos h]
  · rw [if_neg h, if_neg h, if_neg h]
theorem sq_mdr {m : Int} (hM : sp_M n P) (hm : 0 < m) (hm2 : m ≤ 100) (w : Int) : mm_rn (d + 1) 217 [.inr (.inr (some 239)), .inl m] n I (mm_ui L 239 34 w) P = some (some (.inl (sy_dr (sy_nd w) m)), n, I, mm_ui L 239 34 (sy_nd w), P) := by
  have ok := hM.ok
  obtain ⟨e1, e2⟩ := sy_dr_w (x := sy_nd w) hm hm2
  have e3 : mm_laddl (mm_lmull w 6364136223846793005) 1442695040888963407 = sy_nd w := rfl
  rw [eX12_draw]
  simp (disch := (first | assumption | omega | exact nb_ix (by omega) (by assumption) (by omega) (by omega) | exact nb_ix (by omega) rfl (by omega) (by omega) | exact nb_ok (by omega) rfl | decide)) only [kX12_draw, e3, nb_ui_uu, e1, e2, ↓if_pos, ↓if_neg, nb_add, nb_sub, nb_mul, Int.toNat_natCast, mm_kr_s, mm_kv_s, if_pos, if_neg, sq_tn, Int.toNat_zero, Int.reduceToNat, Int.reduceNeg, Nat.reduceAdd, Int.reduceAdd, Int.reduceEq, Int.reduceLT, Int.reduceLE, Int.zero_add, nb_ui_s, nb_ui_k, nb_ui_a, sp_min, sp_max, sp_bits]
set_option maxHeartbeats 1000000 in
theorem sq_mdrawH (hW : sq_MW n c P I s D B g v ev) (hs1 : 0 < s) (hpe : I 239 30 = pe) (hN : sq_mN I N) (hok : sv_ok s N) (w : Int) : sq_X none n (mm_ui L 239 34 (sy_nd (sy_x pe w))) P (fun I' => sq_mN I' (sy_N1 s B pe N w) ∧ sq_fr [257] I I') (mm_rn (d + 2) 218 [.inr (.inr (some 239))] n I (mm_ui L 239 34 w) P) := by
  have hM := hW.1
  have ok := hM.ok
  have hs : I 239 26 = (s : Int) := hW.2.1.2.1
  have hs8 : s ≤ 8 := hW.2.1.1
  have hP := hM.2
  have hn := hM.1
  have r1 := sy_dr_rg (x := sy_nd (sy_nd w)) (m := s) (by omega)
  have r3 := sy_dr_rg (x := sy_nd (sy_nd (sy_nd (sy_nd w)))) (m := 3) (by omega)
  have r5 := sy_dr_rg (x := sy_nd (sy_x pe w)) (m := s) (by omega)
  have d10 := fun w => sq_mdr (d := d) (n := n) (I := I) (L := L) (P := P) (m := 10) hM (by omega) (by omega) w
  have d3 := fun w => sq_mdr (d := d) (n := n) (I := I) (L := L) (P := P) (m := 3) hM (by omega) (by omega) w
  have ds := fun I w => sq_mdr (d := d) (n := n) (I := I) (L := L) (P := P) (m := s) hM (by omega) (by omega) w
  obtain ⟨m1, m2⟩ := sy_N0_ok (pe := pe) (x := w) hok hs8 hs1
  obtain ⟨a, ha⟩ : ∃ q : Nat, N 24 = (q : Int) := ⟨(N 24).toNat, by have := hok.2.1; omega⟩
  have han : (N 24).toNat = a := by omega
  have has : a < s := by have := hok.2.1; omega
  obtain ⟨q, hq⟩ : ∃ q : Nat, sy_dr (sy_nd (sy_x pe w)) s = (q : Int) := ⟨(sy_dr (sy_nd (sy_x pe w)) s).toNat, by omega⟩
  -- the walk, from a heap with the night behind the trouble
  have walk : ∀ (J : mm_I) (x1 x2 x3 : mm_V), sq_mN J (sy_N0 s pe N w) → sq_fr [257] I J → sq_X none n (mm_ui L 239 34 (sy_nd (sy_x pe w))) P (fun I' => sq_mN I' (sy_N1 s B pe N w) ∧ sq_fr [257] I I') (mm_kr (d + 1) 218 59 [.inr (.inr (some 239)), x1, x2, x3] [] [] n (mm_rn (d + 1) 217 [.inr (.inr (some 239)), .inl ((s : Int))] n J (mm_ui L 239 34 (sy_x pe w)) P)) := by
    intro J x1 x2 x3 h1 h2
    have e24 : J 257 24 = (a : Int) := by rw [h1 24 (by omega), m2 24 (by omega), ha]
    have b1 : J 255 a = (B a : Int) := by rw [h2 255 (by decide)]; exact (hW.2.1.2.2.2.1 a (by omega)).1
    have b2 := (hW.2.1.2.2.2.1 a (by omega)).2
    rw [ds, hq]
    by_cases hbt : Nat.testBit (B a) q = true
    · simp (disch := (first | assumption | omega | exact nb_ix (by omega) (by assumption) (by omega) (by omega) | exact nb_ix (by omega) rfl (by omega) (by omega) | exact nb_ok (by omega) rfl | decide)) only [kX12_drawHour, hP, e24, b1, sp_mhas, hbt, ↓if_pos, ↓if_neg, nb_add, nb_sub, nb_mul, Int.toNat_natCast, mm_kr_s, mm_kv_s, if_pos, if_neg, sq_tn, Int.toNat_zero, Int.reduceToNat, Int.reduceNeg, Nat.reduceAdd, Int.reduceAdd, Int.reduceEq, Int.reduceLT, Int.reduceLE, Int.zero_add, nb_ui_s, nb_ui_k, nb_ui_a, sp_min, sp_max, sp_bits]
      refine sq_ret ⟨fun j hj => ?_, sq_fr_up h2 (by simp)⟩
      have h4 := h1 j hj
      unfold sy_N1
      rw [hq, han, Int.toNat_natCast, ← h4]
      unfold mm_ui
      simp only [hbt, and_true]
      grind
    · simp (disch := (first | assumption | omega | exact nb_ix (by omega) (by assumption) (by omega) (by omega) | exact nb_ix (by omega) rfl (by omega) (by omega) | exact nb_ok (by omega) rfl | decide)) only [kX12_drawHour, hP, e24, b1, sp_mhas, hbt, ↓if_pos, ↓if_neg, nb_add, nb_sub, nb_mul, Int.toNat_natCast, mm_kr_s, mm_kv_s, if_pos, if_neg, sq_tn, Int.toNat_zero, Int.reduceToNat, Int.reduceNeg, Nat.reduceAdd, Int.reduceAdd, Int.reduceEq, Int.reduceLT, Int.reduceLE, Int.zero_add, nb_ui_s, nb_ui_k, nb_ui_a, sp_min, sp_max, sp_bits]
      refine sq_ret ⟨fun j hj => ?_, sq_fr_up h2 (by simp)⟩
      have h4 := h1 j hj
      unfold sy_N1
      rw [hq, han, Int.toNat_natCast, if_neg (fun z => hbt z.2), ← h4]
      unfold mm_ui
      by_cases c : j = 24
      · rw [if_pos ⟨rfl, c⟩, c, e24]
      · rw [if_neg (fun z => c z.2)]
  rw [eX12_drawHour]
  by_cases h1 : sy_dr (sy_nd w) 10 < pe
  · have ex : sy_x pe w = sy_nd (sy_nd (sy_nd (sy_nd w))) := if_pos h1
    rw [ex] at walk ⊢
    obtain ⟨q2, hq2⟩ : ∃ q : Nat, sy_dr (sy_nd (sy_nd w)) s = (q : Int) := ⟨(sy_dr (sy_nd (sy_nd w)) s).toNat, by omega⟩
    have hq2n : (sy_dr (sy_nd (sy_nd w)) s).toNat = q2 := by omega
    have hit := fun L' => sp_isT (d := d) (I := I) (L := L') hM (show q2 < 8 by omega)
    simp only [hN (16 + q2) (show 16 + q2 < 211 by omega)] at hit
    have zr := (hok.1 q2 (by omega)).2.2.1
    have eN0 : sy_N0 s pe N w = if N (16 + q2) = 0 then sw_beg N q2 (sy_dr (sy_nd (sy_nd (sy_nd w))) 3) (sy_dr (sy_nd (sy_nd (sy_nd (sy_nd w)))) 3 + 1) else N := by
      unfold sy_N0
      rw [if_pos h1, hq2n]
    by_cases hz : N (16 + q2) = 0
    · have hzn : ¬ 0 < N (16 + q2) := by omega
      rw [if_pos hz] at eN0
      simp (disch := (first | assumption | omega | exact nb_ix (by omega) (by assumption) (by omega) (by omega) | exact nb_ix (by omega) rfl (by omega) (by omega) | exact nb_ok (by omega) rfl | decide)) only [kX12_drawHour, d10, d3, ds, hpe, hs, hq2, hit, ↓if_pos, ↓if_neg, nb_add, nb_sub, nb_mul, Int.toNat_natCast, mm_kr_s, mm_kv_s, if_pos, if_neg, sq_tn, Int.toNat_zero, Int.reduceToNat, Int.reduceNeg, Nat.reduceAdd, Int.reduceAdd, Int.reduceEq, Int.reduceLT, Int.reduceLE, Int.zero_add, nb_ui_s, nb_ui_k, nb_ui_a, sp_min, sp_max, sp_bits]
      refine sq_kv (sq_mbeg (d := d) hM (show q2 < 8 by omega) hN) (fun J hJ => ?_)
      have hsJ : J 239 26 = (s : Int) := by rw [hJ.2 239 (by decide)]; exact hs
      have hw := fun x1 x2 x3 => walk J x1 x2 x3 (by rw [eN0]; exact hJ.1) hJ.2
      simp (disch := (first | assumption | omega | exact nb_ix (by omega) (by assumption) (by omega) (by omega) | exact nb_ix (by omega) rfl (by omega) (by omega) | exact nb_ok (by omega) rfl | decide)) only [kX12_drawHour, hsJ, ↓if_pos, ↓if_neg, nb_add, nb_sub, nb_mul, Int.toNat_natCast, mm_kr_s, mm_kv_s, if_pos, if_neg, sq_tn, Int.toNat_zero, Int.reduceToNat, Int.reduceNeg, Nat.reduceAdd, Int.reduceAdd, Int.reduceEq, Int.reduceLT, Int.reduceLE, Int.zero_add, nb_ui_s, nb_ui_k, nb_ui_a, sp_min, sp_max, sp_bits]
      exact hw _ _ _
    · have hzn : 0 < N (16 + q2) := by omega
      rw [if_neg hz] at eN0
      have hw := fun x1 x2 x3 => walk I x1 x2 x3 (by rw [eN0]; exact hN) (sq_fr_refl _ _)
      simp (disch := (first | assumption | omega | exact nb_ix (by omega) (by assumption) (by omega) (by omega) | exact nb_ix (by omega) rfl (by omega) (by omega) | exact nb_ok (by omega) rfl | decide)) only [kX12_drawHour, ↓if_pos, ↓if_neg, nb_add, mm_kr_s, mm_kv_s, d10, d3, ds, hpe, hs, hq2, hit]
      have h2 := hw (.inl ((q2 : Int))) (.inl (sy_dr (sy_nd (sy_nd (sy_nd w))) 3)) (.inl (sy_dr (sy_nd (sy_nd (sy_nd (sy_nd w)))) 3 + 1))
      rw [ds, mm_kr_s] at h2
      simp (disch := (first | assumption | omega | exact nb_ix (by omega) (by assumption) (by omega) (by omega) | exact nb_ix (by omega) rfl (by omega) (by omega) | exact nb_ok (by omega) rfl | decide)) only [kX12_drawHour] at h2
      exact h2
  · have ex : sy_x pe w = sy_nd w := if_neg h1
    rw [ex] at walk ⊢
    have eN0 : sy_N0 s pe N w = N := by
      unfold sy_N0
      rw [if_neg h1]
    have hw := fun x1 x2 x3 => walk I x1 x2 x3 (by rw [eN0]; exact hN) (sq_fr_refl _ _)
    have h2 := hw mm_junk mm_junk mm_junk
    rw [ds, mm_kr_s] at h2
    simp (disch := (first | assumption | omega | exact nb_ix (by omega) (by assumption) (by omega) (by omega) | exact nb_ix (by omega) rfl (by omega) (by omega) | exact nb_ok (by omega) rfl | decide)) only [kX12_drawHour] at h2
    simp (disch := (first | assumption | omega | exact nb_ix (by omega) (by assumption) (by omega) (by omega) | exact nb_ix (by omega) rfl (by omega) (by omega) | exact nb_ok (by omega) rfl | decide)) only [kX12_drawHour, ↓if_pos, ↓if_neg, nb_add, mm_kr_s, mm_kv_s, d10, d3, ds, hpe, hs]
    exact h2
end YR
