/-! games and rests -/
def sg_t (N : Nat → Int) (a b : Nat) (x y : Int) : Int := if x = y then -3 else Int.tdiv (N (if y = 0 then a else b)) 10 + 1
def sg_h (D N : Nat → Int) (a b : Nat) (x y : Int) : Int := - sg_t N a b x y - D (8 * (N 24).toNat + (if x = 0 then a else b))
def sg_r (D N : Nat → Int) (a b : Nat) (x y : Int) : Bool := decide (sg_h D N a b (1 - x) y ≤ sg_h D N a b x y) && decide (sg_t N a b x (1 - y) ≤ sg_t N a b x y)
def sg_F (D N : Nat → Int) (a b : Nat) (k : Nat) : Bool := sg_r D N a b ((k / 10 : Nat) : Int) ((k % 10 : Nat) : Int)
def sa_game (D N : Nat → Int) (s : Nat) (p q x y w : Int) : Int := if ((0 ≤ p ∧ p < s) ∧ (0 ≤ q ∧ q < s) ∧ p ≠ q) ∧ (0 ≤ x ∧ x ≤ 1) ∧ (0 ≤ y ∧ y ≤ 1) ∧ 0 ≤ w ∧ w ≤ 1 then (if w = 0 then sg_h D N p.toNat q.toNat x y else sg_t N p.toNat q.toNat x y) else -1000000
def sa_rests (D N : Nat → Int) (s : Nat) (p q i : Int) : Int := if ((0 ≤ p ∧ p < s) ∧ (0 ≤ q ∧ q < s) ∧ p ≠ q) ∧ -1 ≤ i then sw_pl (sg_F D N p.toNat q.toNat) i [0, 1, 10, 11] 0 else -1
theorem sq_t10 {z : Int} (h : 0 ≤ z ∧ z ≤ 99) : mm_w (Int.tdiv z 10) = Int.tdiv z 10 ∧ 0 ≤ Int.tdiv z 10 ∧ Int.tdiv z 10 ≤ 9 := by
  rw [Int.tdiv_eq_ediv_of_nonneg (by omega)]
  exact ⟨nb_w (by omega) (by omega), by omega, by omega⟩
theorem nb_neg {x : Int} (h : -2147483647 ≤ x) (h2 : x ≤ 2147483648) : mm_neg x = -x := nb_w (by omega) (by omega)
theorem sg_t_rg {N : Nat → Int} {s a b : Nat} (hN : ∀ p, p < s → 0 ≤ N p ∧ N p ≤ 99) (ha : a < s) (hb : b < s) (x y : Int) : -3 ≤ sg_t N a b x y ∧ sg_t N a b x y ≤ 10 := by
  unfold sg_t
  have h1 := (sq_t10 (hN a ha)).2
  have h2 := (sq_t10 (hN b hb)).2
  split
  · omega
  · split <;> omega
section GM
variable {n c t u s d : Nat} {I L : mm_I} {P : mm_P} {D : Nat → Int} {B : Nat → Nat} {g v : Int} {lw : Option Nat} {ev : sv_E} {N : Nat → Int}
theorem sq_cthief {a b : Nat} {x y : Int} (hC : sq_CC n c P I t u s D B g v lw ev N) (ha : a < s) (hb : b < s) : mm_rn (d + 1) 131 [.inr (.inr (some 0)), .inl ((a : Int)), .inl ((b : Int)), .inl x, .inl y] n I L P = some (some (.inl (sg_t N a b x y)), n, I, L, P) := by
  obtain ⟨hP, hW, hLW, hN, hok, hh⟩ := hC
  have ok0 := sq_ok0 hP
  have hs8 : s ≤ 8 := hW.2.1.2.1
  have hC := hP.2.2.2.2.2.2.2.1
  have hn := hP.1
  have hA := hP.2.2.2.2.2.1 40 (by omega)
  have ok40 := hA.ok
  obtain ⟨a0, a1, a2, a3, a4, a5, a6, a7⟩ := hA
  have n1 := (sq_cN_iff.1 hN).1
  have ea := n1 a (by omega)
  have eb := n1 b (by omega)
  obtain ⟨p1, p2, p3⟩ := sq_t10 (hok.1 a (by omega)).1
  obtain ⟨q1, q2, q3⟩ := sq_t10 (hok.1 b (by omega)).1
  rw [eX11_thiefHas]
  unfold sg_t
  by_cases hxy : x = y
  · simp (disch := (first | assumption | omega | exact nb_ix (by omega) (by assumption) (by omega) (by omega) | exact nb_ix (by omega) rfl (by omega) (by omega) | exact nb_ok (by omega) rfl | decide)) only [kX11_thiefHas, nb_add, nb_sub, nb_mul, Int.toNat_natCast, mm_kr_s, mm_kv_s, if_pos, if_neg, sq_tn, Int.toNat_zero, Int.reduceToNat, Int.reduceNeg, Nat.reduceAdd, Int.reduceAdd, Int.reduceEq, Int.reduceLT, Int.reduceLE, Int.zero_add, nb_ui_s, nb_ui_k, nb_ui_a, sp_min, sp_max, sp_bits]
  · by_cases hy : y = 0
    · simp (disch := (first | assumption | omega | exact nb_ix (by omega) (by assumption) (by omega) (by omega) | exact nb_ix (by omega) rfl (by omega) (by omega) | exact nb_ok (by omega) rfl | decide)) only [kX11_thiefHas, hC, a5, ea, eb, p1, q1, nb_add, nb_sub, nb_mul, Int.toNat_natCast, mm_kr_s, mm_kv_s, if_pos, if_neg, sq_tn, Int.toNat_zero, Int.reduceToNat, Int.reduceNeg, Nat.reduceAdd, Int.reduceAdd, Int.reduceEq, Int.reduceLT, Int.reduceLE, Int.zero_add, nb_ui_s, nb_ui_k, nb_ui_a, sp_min, sp_max, sp_bits]
    · simp (disch := (first | assumption | omega | exact nb_ix (by omega) (by assumption) (by omega) (by omega) | exact nb_ix (by omega) rfl (by omega) (by omega) | exact nb_ok (by omega) rfl | decide)) only [kX11_thiefHas, hC, a5, ea, eb, p1, q1, nb_add, nb_sub, nb_mul, Int.toNat_natCast, mm_kr_s, mm_kv_s, if_pos, if_neg, sq_tn, Int.toNat_zero, Int.reduceToNat, Int.reduceNeg, Nat.reduceAdd, Int.reduceAdd, Int.reduceEq, Int.reduceLT, Int.reduceLE, Int.zero_add, nb_ui_s, nb_ui_k, nb_ui_a, sp_min, sp_max, sp_bits]
theorem sq_cwatch {a b : Nat} {x y : Int} (hC : sq_CC n c P I t u s D B g v lw ev N) (ha : a < s) (hb : b < s) : mm_rn (d + 3) 132 [.inr (.inr (some 0)), .inl ((a : Int)), .inl ((b : Int)), .inl x, .inl y] n I L P = some (some (.inl (sg_h D N a b x y)), n, I, L, P) := by
  have hth := sq_cthief (d := d + 1) (L := L) (x := x) (y := y) hC ha hb
  obtain ⟨hP, hW, hLW, hN, hok, hh⟩ := hC
  have ok0 := sq_ok0 hP
  have hs8 : s ≤ 8 := hW.2.1.2.1
  have hC := hP.2.2.2.2.2.2.2.1
  have hPt := hP.2.2.2.2.2.2.1
  have hn := hP.1
  have okt := hW.1.ok
  have ok40 := (hP.2.2.2.2.2.1 40 (by omega)).ok
  obtain ⟨q, hq⟩ : ∃ q : Nat, N 24 = (q : Int) := ⟨(N 24).toNat, by have := hok.2.1; omega⟩
  have hqs : q < s := by have := hok.2.1; omega
  have hqn : (N 24).toNat = q := by omega
  have e3 : I 40 3 = (q : Int) := by rw [← hq]; exact (sq_cN_iff.1 hN).2.2.2.1
  have wa := sp_way (d := d) (I := I) (L := L) hW.1 hW.2.1.2.2.1 hs8 hqs ha
  have wb := sp_way (d := d) (I := I) (L := L) hW.1 hW.2.1.2.2.1 hs8 hqs hb
  rw [hW.2.1.2.2.2.1 q a hqs ha] at wa
  rw [hW.2.1.2.2.2.1 q b hqs hb] at wb
  have da := hW.2.1.2.2.2.2.1 (8 * q + a)
  have db := hW.2.1.2.2.2.2.1 (8 * q + b)
  have tr := sg_t_rg (N := N) (s := s) (fun p hp => (hok.1 p (by omega)).1) ha hb x y
  rw [eX11_watchmanHas]
  unfold sg_h
  rw [hqn]
  by_cases hx : x = 0
  · simp (disch := (first | assumption | omega | exact nb_ix (by omega) (by assumption) (by omega) (by omega) | exact nb_ix (by omega) rfl (by omega) (by omega) | exact nb_ok (by omega) rfl | decide)) only [kX11_watchmanHas, hth, hPt, hC, e3, wa, wb, nb_neg, nb_add, nb_sub, nb_mul, Int.toNat_natCast, mm_kr_s, mm_kv_s, if_pos, if_neg, sq_tn, Int.toNat_zero, Int.reduceToNat, Int.reduceNeg, Nat.reduceAdd, Int.reduceAdd, Int.reduceEq, Int.reduceLT, Int.reduceLE, Int.zero_add, nb_ui_s, nb_ui_k, nb_ui_a, sp_min, sp_max, sp_bits]
  · simp (disch := (first | assumption | omega | exact nb_ix (by omega) (by assumption) (by omega) (by omega) | exact nb_ix (by omega) rfl (by omega) (by omega) | exact nb_ok (by omega) rfl | decide)) only [kX11_watchmanHas, hth, hPt, hC, e3, wa, wb, nb_neg, nb_add, nb_sub, nb_mul, Int.toNat_natCast, mm_kr_s, mm_kv_s, if_pos, if_neg, sq_tn, Int.toNat_zero, Int.reduceToNat, Int.reduceNeg, Nat.reduceAdd, Int.reduceAdd, Int.reduceEq, Int.reduceLT, Int.reduceLE, Int.zero_add, nb_ui_s, nb_ui_k, nb_ui_a, sp_min, sp_max, sp_bits]
theorem sq_cpair {p q : Int} (hC : sq_CC n c P I t u s D B g v lw ev N) : mm_rn (d + 2) 130 [.inr (.inr (some 0)), .inl p, .inl q] n I L P = some (some (.inl (if (0 ≤ p ∧ p < s) ∧ (0 ≤ q ∧ q < s) ∧ p ≠ q then 1 else 0)), n, I, L, P) := by
  obtain ⟨hP, hW, hLW, hN, hok, hh⟩ := hC
  have ok0 := sq_ok0 hP
  have hs : I t 0 = (s : Int) := hW.2.1.2.2.1
  have hPt := hP.2.2.2.2.2.2.1
  have hn := hP.1
  have hTP := hW.1
  have okt := hW.1.ok
  rw [eX11_isPair]
  by_cases h1 : 0 ≤ p ∧ p < (s : Int)
  · by_cases h2 : 0 ≤ q ∧ q < (s : Int)
    · by_cases h3 : p = q
      · rw [if_neg (fun z => z.2.2 h3)]
        simp (disch := (first | assumption | omega | exact nb_ix (by omega) (by assumption) (by omega) (by omega) | exact nb_ix (by omega) rfl (by omega) (by omega) | exact nb_ok (by omega) rfl | decide)) only [kX11_isPair, hPt, sp_has hTP, hs, nb_add, nb_sub, nb_mul, Int.toNat_natCast, mm_kr_s, mm_kv_s, if_pos, if_neg, sq_tn, Int.toNat_zero, Int.reduceToNat, Int.reduceNeg, Nat.reduceAdd, Int.reduceAdd, Int.reduceEq, Int.reduceLT, Int.reduceLE, Int.zero_add, nb_ui_s, nb_ui_k, nb_ui_a, sp_min, sp_max, sp_bits]
      · rw [if_pos ⟨h1, h2, h3⟩]
        simp (disch := (first | assumption | omega | exact nb_ix (by omega) (by assumption) (by omega) (by omega) | exact nb_ix (by omega) rfl (by omega) (by omega) | exact nb_ok (by omega) rfl | decide)) only [kX11_isPair, hPt, sp_has hTP, hs, nb_add, nb_sub, nb_mul, Int.toNat_natCast, mm_kr_s, mm_kv_s, if_pos, if_neg, sq_tn, Int.toNat_zero, Int.reduceToNat, Int.reduceNeg, Nat.reduceAdd, Int.reduceAdd, Int.reduceEq, Int.reduceLT, Int.reduceLE, Int.zero_add, nb_ui_s, nb_ui_k, nb_ui_a, sp_min, sp_max, sp_bits]
    · rw [if_neg (fun z => h2 z.2.1)]
      simp (disch := (first | assumption | omega | exact nb_ix (by omega) (by assumption) (by omega) (by omega) | exact nb_ix (by omega) rfl (by omega) (by omega) | exact nb_ok (by omega) rfl | decide)) only [kX11_isPair, hPt, sp_has hTP, hs, nb_add, nb_sub, nb_mul, Int.toNat_natCast, mm_kr_s, mm_kv_s, if_pos, if_neg, sq_tn, Int.toNat_zero, Int.reduceToNat, Int.reduceNeg, Nat.reduceAdd, Int.reduceAdd, Int.reduceEq, Int.reduceLT, Int.reduceLE, Int.zero_add, nb_ui_s, nb_ui_k, nb_ui_a, sp_min, sp_max, sp_bits]
  · rw [if_neg (fun z => h1 z.1)]
    simp (disch := (first | assumption | omega | exact nb_ix (by omega) (by assumption) (by omega) (by omega) | exact nb_ix (by omega) rfl (by omega) (by omega) | exact nb_ok (by omega) rfl | decide)) only [kX11_isPair, hPt, sp_has hTP, hs, nb_add, nb_sub, nb_mul, Int.toNat_natCast, mm_kr_s, mm_kv_s, if_pos, if_neg, sq_tn, Int.toNat_zero, Int.reduceToNat, Int.reduceNeg, Nat.reduceAdd, Int.reduceAdd, Int.reduceEq, Int.reduceLT, Int.reduceLE, Int.zero_add, nb_ui_s, nb_ui_k, nb_ui_a, sp_min, sp_max, sp_bits]
theorem oc_game (hC : sq_CC n c P I t u s D B g v lw ev N) (p q x y w : Int) : mm_rn (d + 10) 129 [.inr (.inr (some 0)), .inl p, .inl q, .inl x, .inl y, .inl w] n I L P = some (some (.inl (sa_game D N s p q x y w)), n, I, L, P) := by
  have hpr := sq_cpair (d := d + 7) (L := L) (p := p) (q := q) hC
  have ok0 := sq_ok0 hC.1
  rw [eX11_game]
  by_cases h : ((0 ≤ p ∧ p < s) ∧ (0 ≤ q ∧ q < s) ∧ p ≠ q)
  · rw [if_pos h] at hpr
    obtain ⟨a, rfl⟩ : ∃ k : Nat, p = (k : Int) := ⟨p.toNat, by omega⟩
    obtain ⟨b, rfl⟩ : ∃ k : Nat, q = (k : Int) := ⟨q.toNat, by omega⟩
    have hth := sq_cthief (d := d + 8) (L := L) (x := x) (y := y) hC (show a < s by omega) (show b < s by omega)
    have hwa := sq_cwatch (d := d + 6) (L := L) (x := x) (y := y) hC (show a < s by omega) (show b < s by omega)
    by_cases h2 : (0 ≤ x ∧ x ≤ 1) ∧ (0 ≤ y ∧ y ≤ 1) ∧ 0 ≤ w ∧ w ≤ 1
    · unfold sa_game
      rw [if_pos ⟨h, h2⟩, Int.toNat_natCast, Int.toNat_natCast]
      by_cases hw : w = 0
      · simp (disch := (first | assumption | omega | exact nb_ix (by omega) (by assumption) (by omega) (by omega) | exact nb_ix (by omega) rfl (by omega) (by omega) | exact nb_ok (by omega) rfl | decide)) only [kX11_game, hpr, hth, hwa, nb_add, nb_sub, nb_mul, Int.toNat_natCast, mm_kr_s, mm_kv_s, if_pos, if_neg, sq_tn, Int.toNat_zero, Int.reduceToNat, Int.reduceNeg, Nat.reduceAdd, Int.reduceAdd, Int.reduceEq, Int.reduceLT, Int.reduceLE, Int.zero_add, nb_ui_s, nb_ui_k, nb_ui_a, sp_min, sp_max, sp_bits]
      · simp (disch := (first | assumption | omega | exact nb_ix (by omega) (by assumption) (by omega) (by omega) | exact nb_ix (by omega) rfl (by omega) (by omega) | exact nb_ok (by omega) rfl | decide)) only [kX11_game, hpr, hth, hwa, nb_add, nb_sub, nb_mul, Int.toNat_natCast, mm_kr_s, mm_kv_s, if_pos, if_neg, sq_tn, Int.toNat_zero, Int.reduceToNat, Int.reduceNeg, Nat.reduceAdd, Int.reduceAdd, Int.reduceEq, Int.reduceLT, Int.reduceLE, Int.zero_add, nb_ui_s, nb_ui_k, nb_ui_a, sp_min, sp_max, sp_bits]
    · have : sa_game D N s a b x y w = -1000000 := if_neg (fun z => h2 z.2)
      rw [this]
      by_cases x1 : x < 0
      · simp (disch := (first | assumption | omega | exact nb_ix (by omega) (by assumption) (by omega) (by omega) | exact nb_ix (by omega) rfl (by omega) (by omega) | exact nb_ok (by omega) rfl | decide)) only [kX11_game, hpr, nb_add, nb_sub, nb_mul, Int.toNat_natCast, mm_kr_s, mm_kv_s, if_pos, if_neg, sq_tn, Int.toNat_zero, Int.reduceToNat, Int.reduceNeg, Nat.reduceAdd, Int.reduceAdd, Int.reduceEq, Int.reduceLT, Int.reduceLE, Int.zero_add, nb_ui_s, nb_ui_k, nb_ui_a, sp_min, sp_max, sp_bits]
      · by_cases x2 : 1 < x
        · simp (disch := (first | assumption | omega | exact nb_ix (by omega) (by assumption) (by omega) (by omega) | exact nb_ix (by omega) rfl (by omega) (by omega) | exact nb_ok (by omega) rfl | decide)) only [kX11_game, hpr, nb_add, nb_sub, nb_mul, Int.toNat_natCast, mm_kr_s, mm_kv_s, if_pos, if_neg, sq_tn, Int.toNat_zero, Int.reduceToNat, Int.reduceNeg, Nat.reduceAdd, Int.reduceAdd, Int.reduceEq, Int.reduceLT, Int.reduceLE, Int.zero_add, nb_ui_s, nb_ui_k, nb_ui_a, sp_min, sp_max, sp_bits]
        · by_cases y1 : y < 0
          · simp (disch := (first | assumption | omega | exact nb_ix (by omega) (by assumption) (by omega) (by omega) | exact nb_ix (by omega) rfl (by omega) (by omega) | exact nb_ok (by omega) rfl | decide)) only [kX11_game, hpr, nb_add, nb_sub, nb_mul, Int.toNat_natCast, mm_kr_s, mm_kv_s, if_pos, if_neg, sq_tn, Int.toNat_zero, Int.reduceToNat, Int.reduceNeg, Nat.reduceAdd, Int.reduceAdd, Int.reduceEq, Int.reduceLT, Int.reduceLE, Int.zero_add, nb_ui_s, nb_ui_k, nb_ui_a, sp_min, sp_max, sp_bits]
          · by_cases y2 : 1 < y
            · simp (disch := (first | assumption | omega | exact nb_ix (by omega) (by assumption) (by omega) (by omega) | exact nb_ix (by omega) rfl (by omega) (by omega) | exact nb_ok (by omega) rfl | decide)) only [kX11_game, hpr, nb_add, nb_sub, nb_mul, Int.toNat_natCast, mm_kr_s, mm_kv_s, if_pos, if_neg, sq_tn, Int.toNat_zero, Int.reduceToNat, Int.reduceNeg, Nat.reduceAdd, Int.reduceAdd, Int.reduceEq, Int.reduceLT, Int.reduceLE, Int.zero_add, nb_ui_s, nb_ui_k, nb_ui_a, sp_min, sp_max, sp_bits]
            · by_cases w1 : w < 0
              · simp (disch := (first | assumption | omega | exact nb_ix (by omega) (by assumption) (by omega) (by omega) | exact nb_ix (by omega) rfl (by omega) (by omega) | exact nb_ok (by omega) rfl | decide)) only [kX11_game, hpr, nb_add, nb_sub, nb_mul, Int.toNat_natCast, mm_kr_s, mm_kv_s, if_pos, if_neg, sq_tn, Int.toNat_zero, Int.reduceToNat, Int.reduceNeg, Nat.reduceAdd, Int.reduceAdd, Int.reduceEq, Int.reduceLT, Int.reduceLE, Int.zero_add, nb_ui_s, nb_ui_k, nb_ui_a, sp_min, sp_max, sp_bits]
              · simp (disch := (first | assumption | omega | exact nb_ix (by omega) (by assumption) (by omega) (by omega) | exact nb_ix (by omega) rfl (by omega) (by omega) | exact nb_ok (by omega) rfl | decide)) only [kX11_game, hpr, nb_add, nb_sub, nb_mul, Int.toNat_natCast, mm_kr_s, mm_kv_s, if_pos, if_neg, sq_tn, Int.toNat_zero, Int.reduceToNat, Int.reduceNeg, Nat.reduceAdd, Int.reduceAdd, Int.reduceEq, Int.reduceLT, Int.reduceLE, Int.zero_add, nb_ui_s, nb_ui_k, nb_ui_a, sp_min, sp_max, sp_bits]
  · rw [if_neg h] at hpr
    have : sa_game D N s p q x y w = -1000000 := if_neg (fun z => h z.1)
    rw [this]
    simp (disch := (first | assumption | omega | exact nb_ix (by omega) (by assumption) (by omega) (by omega) | exact nb_ix (by omega) rfl (by omega) (by omega) | exact nb_ok (by omega) rfl | decide)) only [kX11_game, hpr, nb_add, nb_sub, nb_mul, Int.toNat_natCast, mm_kr_s, mm_kv_s, if_pos, if_neg, sq_tn, Int.toNat_zero, Int.reduceToNat, Int.reduceNeg, Nat.reduceAdd, Int.reduceAdd, Int.reduceEq, Int.reduceLT, Int.reduceLE, Int.zero_add, nb_ui_s, nb_ui_k, nb_ui_a, sp_min, sp_max, sp_bits]
theorem sq_crest {a b : Nat} {x y : Int} (hC : sq_CC n c P I t u s D B g v lw ev N) (ha : a < s) (hb : b < s) (hx : 0 ≤ x ∧ x ≤ 1) (hy : 0 ≤ y ∧ y ≤ 1) : mm_rn (d + 4) 134 [.inr (.inr (some 0)), .inl ((a : Int)), .inl ((b : Int)), .inl x, .inl y] n I L P = some (some (.inl (if sg_r D N a b x y = true then 1 else 0)), n, I, L, P) := by
  have ok0 := sq_ok0 hC.1
  have h1 := fun x y => sq_cwatch (d := d) (L := L) (x := x) (y := y) hC ha hb
  have h2 := fun x y => sq_cthief (d := d + 2) (L := L) (x := x) (y := y) hC ha hb
  rw [eX11_isRest]
  by_cases c1 : sg_h D N a b (1 - x) y ≤ sg_h D N a b x y
  · by_cases c2 : sg_t N a b x (1 - y) ≤ sg_t N a b x y
    · have : sg_r D N a b x y = true := by unfold sg_r; simp [c1, c2]
      rw [if_pos this]
      simp (disch := (first | assumption | omega | exact nb_ix (by omega) (by assumption) (by omega) (by omega) | exact nb_ix (by omega) rfl (by omega) (by omega) | exact nb_ok (by omega) rfl | decide)) only [kX11_isRest, h1, h2, nb_add, nb_sub, nb_mul, Int.toNat_natCast, mm_kr_s, mm_kv_s, if_pos, if_neg, sq_tn, Int.toNat_zero, Int.reduceToNat, Int.reduceNeg, Nat.reduceAdd, Int.reduceAdd, Int.reduceEq, Int.reduceLT, Int.reduceLE, Int.zero_add, nb_ui_s, nb_ui_k, nb_ui_a, sp_min, sp_max, sp_bits]
    · have : ¬ sg_r D N a b x y = true := by unfold sg_r; simp [c1, c2]
      rw [if_neg this]
      simp (disch := (first | assumption | omega | exact nb_ix (by omega) (by assumption) (by omega) (by omega) | exact nb_ix (by omega) rfl (by omega) (by omega) | exact nb_ok (by omega) rfl | decide)) only [kX11_isRest, h1, h2, nb_add, nb_sub, nb_mul, Int.toNat_natCast, mm_kr_s, mm_kv_s, if_pos, if_neg, sq_tn, Int.toNat_zero, Int.reduceToNat, Int.reduceNeg, Nat.reduceAdd, Int.reduceAdd, Int.reduceEq, Int.reduceLT, Int.reduceLE, Int.zero_add, nb_ui_s, nb_ui_k, nb_ui_a, sp_min, sp_max, sp_bits]
  · have : ¬ sg_r D N a b x y = true := by unfold sg_r; simp [c1]
    rw [if_neg this]
    simp (disch := (first | assumption | omega | exact nb_ix (by omega) (by assumption) (by omega) (by omega) | exact nb_ix (by omega) rfl (by omega) (by omega) | exact nb_ok (by omega) rfl | decide)) only [kX11_isRest, h1, h2, nb_add, nb_sub, nb_mul, Int.toNat_natCast, mm_kr_s, mm_kv_s, if_pos, if_neg, sq_tn, Int.toNat_zero, Int.reduceToNat, Int.reduceNeg, Nat.reduceAdd, Int.reduceAdd, Int.reduceEq, Int.reduceLT, Int.reduceLE, Int.zero_add, nb_ui_s, nb_ui_k, nb_ui_a, sp_min, sp_max, sp_bits]
set_option maxHeartbeats 1000000 in
theorem oc_rests (hC : sq_CC n c P I t u s D B g v lw ev N) (p q i : Int) : mm_rn (d + 10) 133 [.inr (.inr (some 0)), .inl p, .inl q, .inl i] n I L P = some (some (.inl (sa_rests D N s p q i)), n, I, L, P) := by
  have hpr := sq_cpair (d := d + 7) (L := L) (p := p) (q := q) hC
  have ok0 := sq_ok0 hC.1
  rw [eX11_rests]
  by_cases h : ((0 ≤ p ∧ p < s) ∧ (0 ≤ q ∧ q < s) ∧ p ≠ q)
  · rw [if_pos h] at hpr
    obtain ⟨a, rfl⟩ : ∃ k : Nat, p = (k : Int) := ⟨p.toNat, by omega⟩
    obtain ⟨b, rfl⟩ : ∃ k : Nat, q = (k : Int) := ⟨q.toNat, by omega⟩
    have e1 : sa_rests D N s a b i = sw_pl (sg_F D N a b) i [0, 1, 10, 11] 0 := by
      unfold sa_rests
      rw [Int.toNat_natCast, Int.toNat_natCast]
      by_cases hi : -1 ≤ i
      · rw [if_pos ⟨h, hi⟩]
      · rw [if_neg (fun z => hi z.2), sw_pl_low (by omega)]
    rw [e1]
    have hr := fun x y hx hy => sq_crest (d := d + 5) (L := L) (x := x) (y := y) hC (show a < s by omega) (show b < s by omega) hx hy
    have r00 := hr 0 0 (by omega) (by omega)
    have r01 := hr 0 1 (by omega) (by omega)
    have r10 := hr 1 0 (by omega) (by omega)
    have r11 := hr 1 1 (by omega) (by omega)
    have f00 : sg_F D N a b 0 = sg_r D N a b 0 0 := rfl
    have f01 : sg_F D N a b 1 = sg_r D N a b 0 1 := rfl
    have f10 : sg_F D N a b 10 = sg_r D N a b 1 0 := rfl
    have f11 : sg_F D N a b 11 = sg_r D N a b 1 1 := rfl
    simp (disch := (first | assumption | omega | exact nb_ix (by omega) (by assumption) (by omega) (by omega) | exact nb_ix (by omega) rfl (by omega) (by omega) | exact nb_ok (by omega) rfl | decide)) only [kX11_rests, hpr, nb_add, nb_sub, nb_mul, Int.toNat_natCast, mm_kr_s, mm_kv_s, if_pos, if_neg, sq_tn, Int.toNat_zero, Int.reduceToNat, Int.reduceNeg, Nat.reduceAdd, Int.reduceAdd, Int.reduceEq, Int.reduceLT, Int.reduceLE, Int.zero_add, nb_ui_s, nb_ui_k, nb_ui_a, sp_min, sp_max, sp_bits]
    -- from each of the four on
    have s5 : ∀ f : Nat, f ≤ 4 → mm_E (d + 9) 133 17 [.inr (.inr (some 0)), .inl ((a : Int)), .inl ((b : Int)), .inl i, .inl ((f : Int)), .inl 2, .inl 2] [] [] n I L P = some (some (.inl (sw_pl (sg_F D N a b) i [] f)), n, I, L, P) := by
      intro f hf
      rw [hX11_rests_17]
      unfold sw_pl
      by_cases hi : i = -1
      · simp (disch := (first | assumption | omega | exact nb_ix (by omega) (by assumption) (by omega) (by omega) | exact nb_ix (by omega) rfl (by omega) (by omega) | exact nb_ok (by omega) rfl | decide)) only [kX11_rests, nb_add, nb_sub, nb_mul, Int.toNat_natCast, mm_kr_s, mm_kv_s, if_pos, if_neg, sq_tn, Int.toNat_zero, Int.reduceToNat, Int.reduceNeg, Nat.reduceAdd, Int.reduceAdd, Int.reduceEq, Int.reduceLT, Int.reduceLE, Int.zero_add, nb_ui_s, nb_ui_k, nb_ui_a, sp_min, sp_max, sp_bits]
      · simp (disch := (first | assumption | omega | exact nb_ix (by omega) (by assumption) (by omega) (by omega) | exact nb_ix (by omega) rfl (by omega) (by omega) | exact nb_ok (by omega) rfl | decide)) only [kX11_rests, nb_add, nb_sub, nb_mul, Int.toNat_natCast, mm_kr_s, mm_kv_s, if_pos, if_neg, sq_tn, Int.toNat_zero, Int.reduceToNat, Int.reduceNeg, Nat.reduceAdd, Int.reduceAdd, Int.reduceEq, Int.reduceLT, Int.reduceLE, Int.zero_add, nb_ui_s, nb_ui_k, nb_ui_a, sp_min, sp_max, sp_bits]
    have s4 : ∀ f : Nat, f ≤ 3 → mm_E (d + 9) 133 26 [.inr (.inr (some 0)), .inl ((a : Int)), .inl ((b : Int)), .inl i, .inl ((f : Int)), .inl 1, .inl 1] [] [] n I L P = some (some (.inl (sw_pl (sg_F D N a b) i [11] f)), n, I, L, P) := by
      intro f hf
      rw [hX11_rests_26]
      have hu : sw_pl (sg_F D N a b) i [11] f = if sg_r D N a b 1 1 = true then (if (f : Int) = i then 11 else sw_pl (sg_F D N a b) i [] (f + 1)) else sw_pl (sg_F D N a b) i [] f := rfl
      rw [hu]
      by_cases hb : sg_r D N a b 1 1 = true
      · by_cases hfi : (f : Int) = i
        · simp (disch := (first | assumption | omega | exact nb_ix (by omega) (by assumption) (by omega) (by omega) | exact nb_ix (by omega) rfl (by omega) (by omega) | exact nb_ok (by omega) rfl | decide)) only [kX11_rests, r11, hb, Int.reduceMul, Int.add_zero, nb_add, nb_sub, nb_mul, Int.toNat_natCast, mm_kr_s, mm_kv_s, if_pos, if_neg, sq_tn, Int.toNat_zero, Int.reduceToNat, Int.reduceNeg, Nat.reduceAdd, Int.reduceAdd, Int.reduceEq, Int.reduceLT, Int.reduceLE, Int.zero_add, nb_ui_s, nb_ui_k, nb_ui_a, sp_min, sp_max, sp_bits]
        · have h5 := s5 (f + 1) (by omega)
          simp (disch := (first | assumption | omega | exact nb_ix (by omega) (by assumption) (by omega) (by omega) | exact nb_ix (by omega) rfl (by omega) (by omega) | exact nb_ok (by omega) rfl | decide)) only [kX11_rests, r11, hb, Int.reduceMul, Int.add_zero, nb_add, nb_sub, nb_mul, Int.toNat_natCast, mm_kr_s, mm_kv_s, if_pos, if_neg, sq_tn, Int.toNat_zero, Int.reduceToNat, Int.reduceNeg, Nat.reduceAdd, Int.reduceAdd, Int.reduceEq, Int.reduceLT, Int.reduceLE, Int.zero_add, nb_ui_s, nb_ui_k, nb_ui_a, sp_min, sp_max, sp_bits]
          rw [hX11_rests_26]
          simp (disch := (first | assumption | omega | exact nb_ix (by omega) (by assumption) (by omega) (by omega) | exact nb_ix (by omega) rfl (by omega) (by omega) | exact nb_ok (by omega) rfl | decide)) only [kX11_rests, nb_add, nb_sub, nb_mul, Int.toNat_natCast, mm_kr_s, mm_kv_s, if_pos, if_neg, sq_tn, Int.toNat_zero, Int.reduceToNat, Int.reduceNeg, Nat.reduceAdd, Int.reduceAdd, Int.reduceEq, Int.reduceLT, Int.reduceLE, Int.zero_add, nb_ui_s, nb_ui_k, nb_ui_a, sp_min, sp_max, sp_bits]
          exact h5
      · have h5 := s5 f (by omega)
        simp (disch := (first | assumption | omega | exact nb_ix (by omega) (by assumption) (by omega) (by omega) | exact nb_ix (by omega) rfl (by omega) (by omega) | exact nb_ok (by omega) rfl | decide)) only [kX11_rests, r11, hb, Int.reduceMul, Int.add_zero, nb_add, nb_sub, nb_mul, Int.toNat_natCast, mm_kr_s, mm_kv_s, if_pos, if_neg, sq_tn, Int.toNat_zero, Int.reduceToNat, Int.reduceNeg, Nat.reduceAdd, Int.reduceAdd, Int.reduceEq, Int.reduceLT, Int.reduceLE, Int.zero_add, nb_ui_s, nb_ui_k, nb_ui_a, sp_min, sp_max, sp_bits]
        rw [hX11_rests_26]
        simp (disch := (first | assumption | omega | exact nb_ix (by omega) (by assumption) (by omega) (by omega) | exact nb_ix (by omega) rfl (by omega) (by omega) | exact nb_ok (by omega) rfl | decide)) only [kX11_rests, nb_add, nb_sub, nb_mul, Int.toNat_natCast, mm_kr_s, mm_kv_s, if_pos, if_neg, sq_tn, Int.toNat_zero, Int.reduceToNat, Int.reduceNeg, Nat.reduceAdd, Int.reduceAdd, Int.reduceEq, Int.reduceLT, Int.reduceLE, Int.zero_add, nb_ui_s, nb_ui_k, nb_ui_a, sp_min, sp_max, sp_bits]
        exact h5
    have s3 : ∀ f : Nat, f ≤ 2 → mm_E (d + 9) 133 26 [.inr (.inr (some 0)), .inl ((a : Int)), .inl ((b : Int)), .inl i, .inl ((f : Int)), .inl 1, .inl 0] [] [] n I L P = some (some (.inl (sw_pl (sg_F D N a b) i [10, 11] f)), n, I, L, P) := by
      intro f hf
      rw [hX11_rests_26]
      have hu : sw_pl (sg_F D N a b) i [10, 11] f = if sg_r D N a b 1 0 = true then (if (f : Int) = i then 10 else sw_pl (sg_F D N a b) i [11] (f + 1)) else sw_pl (sg_F D N a b) i [11] f := rfl
      rw [hu]
      by_cases hb : sg_r D N a b 1 0 = true
      · by_cases hfi : (f : Int) = i
        · simp (disch := (first | assumption | omega | exact nb_ix (by omega) (by assumption) (by omega) (by omega) | exact nb_ix (by omega) rfl (by omega) (by omega) | exact nb_ok (by omega) rfl | decide)) only [kX11_rests, r10, hb, Int.reduceMul, Int.add_zero, nb_add, nb_sub, nb_mul, Int.toNat_natCast, mm_kr_s, mm_kv_s, if_pos, if_neg, sq_tn, Int.toNat_zero, Int.reduceToNat, Int.reduceNeg, Nat.reduceAdd, Int.reduceAdd, Int.reduceEq, Int.reduceLT, Int.reduceLE, Int.zero_add, nb_ui_s, nb_ui_k, nb_ui_a, sp_min, sp_max, sp_bits]
        · have h5 := s4 (f + 1) (by omega)
          simp (disch := (first | assumption | omega | exact nb_ix (by omega) (by assumption) (by omega) (by omega) | exact nb_ix (by omega) rfl (by omega) (by omega) | exact nb_ok (by omega) rfl | decide)) only [kX11_rests, r10, hb, Int.reduceMul, Int.add_zero, nb_add, nb_sub, nb_mul, Int.toNat_natCast, mm_kr_s, mm_kv_s, if_pos, if_neg, sq_tn, Int.toNat_zero, Int.reduceToNat, Int.reduceNeg, Nat.reduceAdd, Int.reduceAdd, Int.reduceEq, Int.reduceLT, Int.reduceLE, Int.zero_add, nb_ui_s, nb_ui_k, nb_ui_a, sp_min, sp_max, sp_bits]
          exact h5
      · have h5 := s4 f (by omega)
        simp (disch := (first | assumption | omega | exact nb_ix (by omega) (by assumption) (by omega) (by omega) | exact nb_ix (by omega) rfl (by omega) (by omega) | exact nb_ok (by omega) rfl | decide)) only [kX11_rests, r10, hb, Int.reduceMul, Int.add_zero, nb_add, nb_sub, nb_mul, Int.toNat_natCast, mm_kr_s, mm_kv_s, if_pos, if_neg, sq_tn, Int.toNat_zero, Int.reduceToNat, Int.reduceNeg, Nat.reduceAdd, Int.reduceAdd, Int.reduceEq, Int.reduceLT, Int.reduceLE, Int.zero_add, nb_ui_s, nb_ui_k, nb_ui_a, sp_min, sp_max, sp_bits]
        exact h5
    have s2 : ∀ f : Nat, f ≤ 1 → mm_E (d + 9) 133 26 [.inr (.inr (some 0)), .inl ((a : Int)), .inl ((b : Int)), .inl i, .inl ((f : Int)), .inl 0, .inl 1] [] [] n I L P = some (some (.inl (sw_pl (sg_F D N a b) i [1, 10, 11] f)), n, I, L, P) := by
      intro f hf
      rw [hX11_rests_26]
      have hu : sw_pl (sg_F D N a b) i [1, 10, 11] f = if sg_r D N a b 0 1 = true then (if (f : Int) = i then 1 else sw_pl (sg_F D N a b) i [10, 11] (f + 1)) else sw_pl (sg_F D N a b) i [10, 11] f := rfl
      rw [hu]
      by_cases hb : sg_r D N a b 0 1 = true
      · by_cases hfi : (f : Int) = i
        · simp (disch := (first | assumption | omega | exact nb_ix (by omega) (by assumption) (by omega) (by omega) | exact nb_ix (by omega) rfl (by omega) (by omega) | exact nb_ok (by omega) rfl | decide)) only [kX11_rests, r01, hb, Int.reduceMul, Int.add_zero, nb_add, nb_sub, nb_mul, Int.toNat_natCast, mm_kr_s, mm_kv_s, if_pos, if_neg, sq_tn, Int.toNat_zero, Int.reduceToNat, Int.reduceNeg, Nat.reduceAdd, Int.reduceAdd, Int.reduceEq, Int.reduceLT, Int.reduceLE, Int.zero_add, nb_ui_s, nb_ui_k, nb_ui_a, sp_min, sp_max, sp_bits]
        · have h5 := s3 (f + 1) (by omega)
          simp (disch := (first | assumption | omega | exact nb_ix (by omega) (by assumption) (by omega) (by omega) | exact nb_ix (by omega) rfl (by omega) (by omega) | exact nb_ok (by omega) rfl | decide)) only [kX11_rests, r01, hb, Int.reduceMul, Int.add_zero, nb_add, nb_sub, nb_mul, Int.toNat_natCast, mm_kr_s, mm_kv_s, if_pos, if_neg, sq_tn, Int.toNat_zero, Int.reduceToNat, Int.reduceNeg, Nat.reduceAdd, Int.reduceAdd, Int.reduceEq, Int.reduceLT, Int.reduceLE, Int.zero_add, nb_ui_s, nb_ui_k, nb_ui_a, sp_min, sp_max, sp_bits]
          rw [hX11_rests_26]
          simp (disch := (first | assumption | omega | exact nb_ix (by omega) (by assumption) (by omega) (by omega) | exact nb_ix (by omega) rfl (by omega) (by omega) | exact nb_ok (by omega) rfl | decide)) only [kX11_rests, nb_add, nb_sub, nb_mul, Int.toNat_natCast, mm_kr_s, mm_kv_s, if_pos, if_neg, sq_tn, Int.toNat_zero, Int.reduceToNat, Int.reduceNeg, Nat.reduceAdd, Int.reduceAdd, Int.reduceEq, Int.reduceLT, Int.reduceLE, Int.zero_add, nb_ui_s, nb_ui_k, nb_ui_a, sp_min, sp_max, sp_bits]
          rw [hX11_rests_17]
          simp (disch := (first | assumption | omega | exact nb_ix (by omega) (by assumption) (by omega) (by omega) | exact nb_ix (by omega) rfl (by omega) (by omega) | exact nb_ok (by omega) rfl | decide)) only [kX11_rests, nb_add, nb_sub, nb_mul, Int.toNat_natCast, mm_kr_s, mm_kv_s, if_pos, if_neg, sq_tn, Int.toNat_zero, Int.reduceToNat, Int.reduceNeg, Nat.reduceAdd, Int.reduceAdd, Int.reduceEq, Int.reduceLT, Int.reduceLE, Int.zero_add, nb_ui_s, nb_ui_k, nb_ui_a, sp_min, sp_max, sp_bits]
          exact h5
      · have h5 := s3 f (by omega)
        simp (disch := (first | assumption | omega | exact nb_ix (by omega) (by assumption) (by omega) (by omega) | exact nb_ix (by omega) rfl (by omega) (by omega) | exact nb_ok (by omega) rfl | decide)) only [kX11_rests, r01, hb, Int.reduceMul, Int.add_zero, nb_add, nb_sub, nb_mul, Int.toNat_natCast, mm_kr_s, mm_kv_s, if_pos, if_neg, sq_tn, Int.toNat_zero, Int.reduceToNat, Int.reduceNeg, Nat.reduceAdd, Int.reduceAdd, Int.reduceEq, Int.reduceLT, Int.reduceLE, Int.zero_add, nb_ui_s, nb_ui_k, nb_ui_a, sp_min, sp_max, sp_bits]
        rw [hX11_rests_26]
        simp (disch := (first | assumption | omega | exact nb_ix (by omega) (by assumption) (by omega) (by omega) | exact nb_ix (by omega) rfl (by omega) (by omega) | exact nb_ok (by omega) rfl | decide)) only [kX11_rests, nb_add, nb_sub, nb_mul, Int.toNat_natCast, mm_kr_s, mm_kv_s, if_pos, if_neg, sq_tn, Int.toNat_zero, Int.reduceToNat, Int.reduceNeg, Nat.reduceAdd, Int.reduceAdd, Int.reduceEq, Int.reduceLT, Int.reduceLE, Int.zero_add, nb_ui_s, nb_ui_k, nb_ui_a, sp_min, sp_max, sp_bits]
        rw [hX11_rests_17]
        simp (disch := (first | assumption | omega | exact nb_ix (by omega) (by assumption) (by omega) (by omega) | exact nb_ix (by omega) rfl (by omega) (by omega) | exact nb_ok (by omega) rfl | decide)) only [kX11_rests, nb_add, nb_sub, nb_mul, Int.toNat_natCast, mm_kr_s, mm_kv_s, if_pos, if_neg, sq_tn, Int.toNat_zero, Int.reduceToNat, Int.reduceNeg, Nat.reduceAdd, Int.reduceAdd, Int.reduceEq, Int.reduceLT, Int.reduceLE, Int.zero_add, nb_ui_s, nb_ui_k, nb_ui_a, sp_min, sp_max, sp_bits]
        exact h5
    rw [hX11_rests_17]
    simp (disch := (first | assumption | omega | exact nb_ix (by omega) (by assumption) (by omega) (by omega) | exact nb_ix (by omega) rfl (by omega) (by omega) | exact nb_ok (by omega) rfl | decide)) only [kX11_rests, nb_add, nb_sub, nb_mul, Int.toNat_natCast, mm_kr_s, mm_kv_s, if_pos, if_neg, sq_tn, Int.toNat_zero, Int.reduceToNat, Int.reduceNeg, Nat.reduceAdd, Int.reduceAdd, Int.reduceEq, Int.reduceLT, Int.reduceLE, Int.zero_add, nb_ui_s, nb_ui_k, nb_ui_a, sp_min, sp_max, sp_bits]
    rw [hX11_rests_26]
    have hu : sw_pl (sg_F D N a b) i [0, 1, 10, 11] 0 = if sg_r D N a b 0 0 = true then (if (0 : Int) = i then 0 else sw_pl (sg_F D N a b) i [1, 10, 11] (0 + 1)) else sw_pl (sg_F D N a b) i [1, 10, 11] 0 := rfl
    rw [hu]
    by_cases hb : sg_r D N a b 0 0 = true
    · by_cases hfi : (0 : Int) = i
      · simp (disch := (first | assumption | omega | exact nb_ix (by omega) (by assumption) (by omega) (by omega) | exact nb_ix (by omega) rfl (by omega) (by omega) | exact nb_ok (by omega) rfl | decide)) only [kX11_rests, r00, hb, Int.reduceMul, Int.add_zero, nb_add, nb_sub, nb_mul, Int.toNat_natCast, mm_kr_s, mm_kv_s, if_pos, if_neg, sq_tn, Int.toNat_zero, Int.reduceToNat, Int.reduceNeg, Nat.reduceAdd, Int.reduceAdd, Int.reduceEq, Int.reduceLT, Int.reduceLE, Int.zero_add, nb_ui_s, nb_ui_k, nb_ui_a, sp_min, sp_max, sp_bits]
      · have h5 := s2 1 (by omega)
        simp (disch := (first | assumption | omega | exact nb_ix (by omega) (by assumption) (by omega) (by omega) | exact nb_ix (by omega) rfl (by omega) (by omega) | exact nb_ok (by omega) rfl | decide)) only [kX11_rests, r00, hb, Int.reduceMul, Int.add_zero, nb_add, nb_sub, nb_mul, Int.toNat_natCast, mm_kr_s, mm_kv_s, if_pos, if_neg, sq_tn, Int.toNat_zero, Int.reduceToNat, Int.reduceNeg, Nat.reduceAdd, Int.reduceAdd, Int.reduceEq, Int.reduceLT, Int.reduceLE, Int.zero_add, nb_ui_s, nb_ui_k, nb_ui_a, sp_min, sp_max, sp_bits]
        exact h5
    · have h5 := s2 0 (by omega)
      simp (disch := (first | assumption | omega | exact nb_ix (by omega) (by assumption) (by omega) (by omega) | exact nb_ix (by omega) rfl (by omega) (by omega) | exact nb_ok (by omega) rfl | decide)) only [kX11_rests, r00, hb, Int.reduceMul, Int.add_zero, nb_add, nb_sub, nb_mul, Int.toNat_natCast, mm_kr_s, mm_kv_s, if_pos, if_neg, sq_tn, Int.toNat_zero, Int.reduceToNat, Int.reduceNeg, Nat.reduceAdd, Int.reduceAdd, Int.reduceEq, Int.reduceLT, Int.reduceLE, Int.zero_add, nb_ui_s, nb_ui_k, nb_ui_a, sp_min, sp_max, sp_bits]
      exact h5
  · rw [if_neg h] at hpr
    have : sa_rests D N s p q i = -1 := if_neg (fun z => h z.1)
    rw [this]
    simp (disch := (first | assumption | omega | exact nb_ix (by omega) (by assumption) (by omega) (by omega) | exact nb_ix (by omega) rfl (by omega) (by omega) | exact nb_ok (by omega) rfl | decide)) only [kX11_rests, hpr, nb_add, nb_sub, nb_mul, Int.toNat_natCast, mm_kr_s, mm_kv_s, if_pos, if_neg, sq_tn, Int.toNat_zero, Int.reduceToNat, Int.reduceNeg, Nat.reduceAdd, Int.reduceAdd, Int.reduceEq, Int.reduceLT, Int.reduceLE, Int.zero_add, nb_ui_s, nb_ui_k, nb_ui_a, sp_min, sp_max, sp_bits]
/-! the model's -/
theorem sq_mthief {a b : Nat} {x y : Int} (hC : sq_MM n c P I s D B g v ev N) (ha : a < s) (hb : b < s) : mm_rn (d + 1) 245 [.inr (.inr (some 239)), .inl ((a : Int)), .inl ((b : Int)), .inl x, .inl y] n I L P = some (some (.inl (sg_t N a b x y)), n, I, L, P) := by
  obtain ⟨hW, hN, hok, hh⟩ := hC
  have ok := hW.1.ok
  obtain ⟨hn, hP⟩ := hW.1
  have hs8 : s ≤ 8 := hW.2.1.1
  have ea := hN a (by omega)
  have eb := hN b (by omega)
  obtain ⟨p1, p2, p3⟩ := sq_t10 (hok.1 a (by omega)).1
  obtain ⟨q1, q2, q3⟩ := sq_t10 (hok.1 b (by omega)).1
  rw [eX12_thiefHas]
  unfold sg_t
  by_cases hxy : x = y
  · simp (disch := (first | assumption | omega | exact nb_ix (by omega) (by assumption) (by omega) (by omega) | exact nb_ix (by omega) rfl (by omega) (by omega) | exact nb_ok (by omega) rfl | decide)) only [kX12_thiefHas, nb_add, nb_sub, nb_mul, Int.toNat_natCast, mm_kr_s, mm_kv_s, if_pos, if_neg, sq_tn, Int.toNat_zero, Int.reduceToNat, Int.reduceNeg, Nat.reduceAdd, Int.reduceAdd, Int.reduceEq, Int.reduceLT, Int.reduceLE, Int.zero_add, nb_ui_s, nb_ui_k, nb_ui_a, sp_min, sp_max, sp_bits]
  · by_cases hy : y = 0
    · simp (disch := (first | assumption | omega | exact nb_ix (by omega) (by assumption) (by omega) (by omega) | exact nb_ix (by omega) rfl (by omega) (by omega) | exact nb_ok (by omega) rfl | decide)) only [kX12_thiefHas, hP, ea, eb, p1, q1, nb_add, nb_sub, nb_mul, Int.toNat_natCast, mm_kr_s, mm_kv_s, if_pos, if_neg, sq_tn, Int.toNat_zero, Int.reduceToNat, Int.reduceNeg, Nat.reduceAdd, Int.reduceAdd, Int.reduceEq, Int.reduceLT, Int.reduceLE, Int.zero_add, nb_ui_s, nb_ui_k, nb_ui_a, sp_min, sp_max, sp_bits]
    · simp (disch := (first | assumption | omega | exact nb_ix (by omega) (by assumption) (by omega) (by omega) | exact nb_ix (by omega) rfl (by omega) (by omega) | exact nb_ok (by omega) rfl | decide)) only [kX12_thiefHas, hP, ea, eb, p1, q1, nb_add, nb_sub, nb_mul, Int.toNat_natCast, mm_kr_s, mm_kv_s, if_pos, if_neg, sq_tn, Int.toNat_zero, Int.reduceToNat, Int.reduceNeg, Nat.reduceAdd, Int.reduceAdd, Int.reduceEq, Int.reduceLT, Int.reduceLE, Int.zero_add, nb_ui_s, nb_ui_k, nb_ui_a, sp_min, sp_max, sp_bits]
theorem sq_mhe {a b : Nat} {x y : Int} (hC : sq_MM n c P I s D B g v ev N) (ha : a < s) (hb : b < s) : mm_rn (d + 2) 246 [.inr (.inr (some 239)), .inl ((a : Int)), .inl ((b : Int)), .inl x, .inl y] n I L P = some (some (.inl (sg_h D N a b x y)), n, I, L, P) := by
  have hth := sq_mthief (d := d) (L := L) (x := x) (y := y) hC ha hb
  obtain ⟨hW, hN, hok, hh⟩ := hC
  have ok := hW.1.ok
  have hM := hW.1
  obtain ⟨hn, hP⟩ := hW.1
  have hs8 : s ≤ 8 := hW.2.1.1
  obtain ⟨q, hq⟩ : ∃ q : Nat, N 24 = (q : Int) := ⟨(N 24).toNat, by have := hok.2.1; omega⟩
  have hqs : q < s := by have := hok.2.1; omega
  have hqn : (N 24).toNat = q := by omega
  have e3 : I 257 24 = (q : Int) := by rw [hN 24 (by omega), hq]
  have wa := sp_steps (d := d) (I := I) (L := L) hM (show q < 8 by omega) (show a < 8 by omega)
  have wb := sp_steps (d := d) (I := I) (L := L) hM (show q < 8 by omega) (show b < 8 by omega)
  have da := hW.2.1.2.2.1 (8 * q + a) (by omega)
  have db := hW.2.1.2.2.1 (8 * q + b) (by omega)
  rw [da.1] at wa
  rw [db.1] at wb
  have tr := sg_t_rg (N := N) (s := s) (fun p hp => (hok.1 p (by omega)).1) ha hb x y
  rw [eX12_heHas]
  unfold sg_h
  rw [hqn]
  by_cases hx : x = 0
  · simp (disch := (first | assumption | omega | exact nb_ix (by omega) (by assumption) (by omega) (by omega) | exact nb_ix (by omega) rfl (by omega) (by omega) | exact nb_ok (by omega) rfl | decide)) only [kX12_heHas, hth, hP, e3, wa, wb, nb_neg, nb_add, nb_sub, nb_mul, Int.toNat_natCast, mm_kr_s, mm_kv_s, if_pos, if_neg, sq_tn, Int.toNat_zero, Int.reduceToNat, Int.reduceNeg, Nat.reduceAdd, Int.reduceAdd, Int.reduceEq, Int.reduceLT, Int.reduceLE, Int.zero_add, nb_ui_s, nb_ui_k, nb_ui_a, sp_min, sp_max, sp_bits]
  · simp (disch := (first | assumption | omega | exact nb_ix (by omega) (by assumption) (by omega) (by omega) | exact nb_ix (by omega) rfl (by omega) (by omega) | exact nb_ok (by omega) rfl | decide)) only [kX12_heHas, hth, hP, e3, wa, wb, nb_neg, nb_add, nb_sub, nb_mul, Int.toNat_natCast, mm_kr_s, mm_kv_s, if_pos, if_neg, sq_tn, Int.toNat_zero, Int.reduceToNat, Int.reduceNeg, Nat.reduceAdd, Int.reduceAdd, Int.reduceEq, Int.reduceLT, Int.reduceLE, Int.zero_add, nb_ui_s, nb_ui_k, nb_ui_a, sp_min, sp_max, sp_bits]
theorem sq_mtwo {p q : Int} (hC : sq_MM n c P I s D B g v ev N) : mm_rn (d + 3) 247 [.inr (.inr (some 239)), .inl p, .inl q] n I L P = some (some (.inl (if (0 ≤ p ∧ p < s) ∧ (0 ≤ q ∧ q < s) ∧ p ≠ q then 1 else 0)), n, I, L, P) := by
  obtain ⟨hW, hN, hok, hh⟩ := hC
  have ok := hW.1.ok
  have hM := hW.1
  have hs : I 239 26 = (s : Int) := hW.2.1.2.1
  have hs8 : s ≤ 8 := hW.2.1.1
  have his := fun p => sp_isSpot (d := d) (L := L) hM p (I := I) (by omega)
  simp only [hs] at his
  rw [eX12_areTwo]
  by_cases h1 : 0 ≤ p ∧ p < (s : Int)
  · by_cases h2 : 0 ≤ q ∧ q < (s : Int)
    · by_cases h3 : p = q
      · rw [if_neg (fun z => z.2.2 h3)]
        simp (disch := (first | assumption | omega | exact nb_ix (by omega) (by assumption) (by omega) (by omega) | exact nb_ix (by omega) rfl (by omega) (by omega) | exact nb_ok (by omega) rfl | decide)) only [kX12_areTwo, his, nb_add, nb_sub, nb_mul, Int.toNat_natCast, mm_kr_s, mm_kv_s, if_pos, if_neg, sq_tn, Int.toNat_zero, Int.reduceToNat, Int.reduceNeg, Nat.reduceAdd, Int.reduceAdd, Int.reduceEq, Int.reduceLT, Int.reduceLE, Int.zero_add, nb_ui_s, nb_ui_k, nb_ui_a, sp_min, sp_max, sp_bits]
      · rw [if_pos ⟨h1, h2, h3⟩]
        simp (disch := (first | assumption | omega | exact nb_ix (by omega) (by assumption) (by omega) (by omega) | exact nb_ix (by omega) rfl (by omega) (by omega) | exact nb_ok (by omega) rfl | decide)) only [kX12_areTwo, his, nb_add, nb_sub, nb_mul, Int.toNat_natCast, mm_kr_s, mm_kv_s, if_pos, if_neg, sq_tn, Int.toNat_zero, Int.reduceToNat, Int.reduceNeg, Nat.reduceAdd, Int.reduceAdd, Int.reduceEq, Int.reduceLT, Int.reduceLE, Int.zero_add, nb_ui_s, nb_ui_k, nb_ui_a, sp_min, sp_max, sp_bits]
    · rw [if_neg (fun z => h2 z.2.1)]
      simp (disch := (first | assumption | omega | exact nb_ix (by omega) (by assumption) (by omega) (by omega) | exact nb_ix (by omega) rfl (by omega) (by omega) | exact nb_ok (by omega) rfl | decide)) only [kX12_areTwo, his, nb_add, nb_sub, nb_mul, Int.toNat_natCast, mm_kr_s, mm_kv_s, if_pos, if_neg, sq_tn, Int.toNat_zero, Int.reduceToNat, Int.reduceNeg, Nat.reduceAdd, Int.reduceAdd, Int.reduceEq, Int.reduceLT, Int.reduceLE, Int.zero_add, nb_ui_s, nb_ui_k, nb_ui_a, sp_min, sp_max, sp_bits]
  · rw [if_neg (fun z => h1 z.1)]
    simp (disch := (first | assumption | omega | exact nb_ix (by omega) (by assumption) (by omega) (by omega) | exact nb_ix (by omega) rfl (by omega) (by omega) | exact nb_ok (by omega) rfl | decide)) only [kX12_areTwo, his, nb_add, nb_sub, nb_mul, Int.toNat_natCast, mm_kr_s, mm_kv_s, if_pos, if_neg, sq_tn, Int.toNat_zero, Int.reduceToNat, Int.reduceNeg, Nat.reduceAdd, Int.reduceAdd, Int.reduceEq, Int.reduceLT, Int.reduceLE, Int.zero_add, nb_ui_s, nb_ui_k, nb_ui_a, sp_min, sp_max, sp_bits]
theorem om_game (hC : sq_MM n c P I s D B g v ev N) (p q x y w : Int) : mm_rn (d + 10) 248 [.inr (.inr (some 239)), .inl p, .inl q, .inl x, .inl y, .inl w] n I L P = some (some (.inl (sa_game D N s p q x y w)), n, I, L, P) := by
  have hpr := sq_mtwo (d := d + 6) (L := L) (p := p) (q := q) hC
  have ok := hC.1.1.ok
  rw [eX12_game]
  by_cases h : ((0 ≤ p ∧ p < s) ∧ (0 ≤ q ∧ q < s) ∧ p ≠ q)
  · rw [if_pos h] at hpr
    obtain ⟨a, rfl⟩ : ∃ k : Nat, p = (k : Int) := ⟨p.toNat, by omega⟩
    obtain ⟨b, rfl⟩ : ∃ k : Nat, q = (k : Int) := ⟨q.toNat, by omega⟩
    have hth := sq_mthief (d := d + 8) (L := L) (x := x) (y := y) hC (show a < s by omega) (show b < s by omega)
    have hwa := sq_mhe (d := d + 7) (L := L) (x := x) (y := y) hC (show a < s by omega) (show b < s by omega)
    by_cases h2 : (0 ≤ x ∧ x ≤ 1) ∧ (0 ≤ y ∧ y ≤ 1) ∧ 0 ≤ w ∧ w ≤ 1
    · unfold sa_game
      rw [if_pos ⟨h, h2⟩, Int.toNat_natCast, Int.toNat_natCast]
      obtain ⟨x1, y1, w1⟩ := h2
      by_cases hw : w = 0
      · simp (disch := (first | assumption | omega | exact nb_ix (by omega) (by assumption) (by omega) (by omega) | exact nb_ix (by omega) rfl (by omega) (by omega) | exact nb_ok (by omega) rfl | decide)) only [kX12_game, hpr, hth, hwa, sp_min2, nb_add, nb_sub, nb_mul, Int.toNat_natCast, mm_kr_s, mm_kv_s, if_pos, if_neg, sq_tn, Int.toNat_zero, Int.reduceToNat, Int.reduceNeg, Nat.reduceAdd, Int.reduceAdd, Int.reduceEq, Int.reduceLT, Int.reduceLE, Int.zero_add, nb_ui_s, nb_ui_k, nb_ui_a, sp_min, sp_max, sp_bits]
      · simp (disch := (first | assumption | omega | exact nb_ix (by omega) (by assumption) (by omega) (by omega) | exact nb_ix (by omega) rfl (by omega) (by omega) | exact nb_ok (by omega) rfl | decide)) only [kX12_game, hpr, hth, hwa, sp_min2, nb_add, nb_sub, nb_mul, Int.toNat_natCast, mm_kr_s, mm_kv_s, if_pos, if_neg, sq_tn, Int.toNat_zero, Int.reduceToNat, Int.reduceNeg, Nat.reduceAdd, Int.reduceAdd, Int.reduceEq, Int.reduceLT, Int.reduceLE, Int.zero_add, nb_ui_s, nb_ui_k, nb_ui_a, sp_min, sp_max, sp_bits]
    · have : sa_game D N s a b x y w = -1000000 := if_neg (fun z => h2 z.2)
      rw [this]
      by_cases x1 : 0 ≤ x ∧ x ≤ 1
      · by_cases y1 : 0 ≤ y ∧ y ≤ 1
        · have w1 : ¬ (0 ≤ w ∧ w ≤ 1) := fun z => h2 ⟨x1, y1, z⟩
          simp (disch := (first | assumption | omega | exact nb_ix (by omega) (by assumption) (by omega) (by omega) | exact nb_ix (by omega) rfl (by omega) (by omega) | exact nb_ok (by omega) rfl | decide)) only [kX12_game, hpr, sp_min2, nb_add, nb_sub, nb_mul, Int.toNat_natCast, mm_kr_s, mm_kv_s, if_pos, if_neg, sq_tn, Int.toNat_zero, Int.reduceToNat, Int.reduceNeg, Nat.reduceAdd, Int.reduceAdd, Int.reduceEq, Int.reduceLT, Int.reduceLE, Int.zero_add, nb_ui_s, nb_ui_k, nb_ui_a, sp_min, sp_max, sp_bits]
        · simp (disch := (first | assumption | omega | exact nb_ix (by omega) (by assumption) (by omega) (by omega) | exact nb_ix (by omega) rfl (by omega) (by omega) | exact nb_ok (by omega) rfl | decide)) only [kX12_game, hpr, sp_min2, nb_add, nb_sub, nb_mul, Int.toNat_natCast, mm_kr_s, mm_kv_s, if_pos, if_neg, sq_tn, Int.toNat_zero, Int.reduceToNat, Int.reduceNeg, Nat.reduceAdd, Int.reduceAdd, Int.reduceEq, Int.reduceLT, Int.reduceLE, Int.zero_add, nb_ui_s, nb_ui_k, nb_ui_a, sp_min, sp_max, sp_bits]
      · simp (disch := (first | assumption | omega | exact nb_ix (by omega) (by assumption) (by omega) (by omega) | exact nb_ix (by omega) rfl (by omega) (by omega) | exact nb_ok (by omega) rfl | decide)) only [kX12_game, hpr, sp_min2, nb_add, nb_sub, nb_mul, Int.toNat_natCast, mm_kr_s, mm_kv_s, if_pos, if_neg, sq_tn, Int.toNat_zero, Int.reduceToNat, Int.reduceNeg, Nat.reduceAdd, Int.reduceAdd, Int.reduceEq, Int.reduceLT, Int.reduceLE, Int.zero_add, nb_ui_s, nb_ui_k, nb_ui_a, sp_min, sp_max, sp_bits]
  · rw [if_neg h] at hpr
    have : sa_game D N s p q x y w = -1000000 := if_neg (fun z => h z.1)
    rw [this]
    simp (disch := (first | assumption | omega | exact nb_ix (by omega) (by assumption) (by omega) (by omega) | exact nb_ix (by omega) rfl (by omega) (by omega) | exact nb_ok (by omega) rfl | decide)) only [kX12_game, hpr, nb_add, nb_sub, nb_mul, Int.toNat_natCast, mm_kr_s, mm_kv_s, if_pos, if_neg, sq_tn, Int.toNat_zero, Int.reduceToNat, Int.reduceNeg, Nat.reduceAdd, Int.reduceAdd, Int.reduceEq, Int.reduceLT, Int.reduceLE, Int.zero_add, nb_ui_s, nb_ui_k, nb_ui_a, sp_min, sp_max, sp_bits]
theorem sq_mrst {a b : Nat} {x y : Int} (hC : sq_MM n c P I s D B g v ev N) (ha : a < s) (hb : b < s) (hx : 0 ≤ x ∧ x ≤ 1) (hy : 0 ≤ y ∧ y ≤ 1) : mm_rn (d + 3) 249 [.inr (.inr (some 239)), .inl ((a : Int)), .inl ((b : Int)), .inl x, .inl y] n I L P = some (some (.inl (if sg_r D N a b x y = true then 1 else 0)), n, I, L, P) := by
  have ok := hC.1.1.ok
  have h1 := fun x y => sq_mhe (d := d) (L := L) (x := x) (y := y) hC ha hb
  have h2 := fun x y => sq_mthief (d := d + 1) (L := L) (x := x) (y := y) hC ha hb
  rw [eX12_isRest]
  by_cases c1 : sg_h D N a b (1 - x) y ≤ sg_h D N a b x y
  · by_cases c2 : sg_t N a b x (1 - y) ≤ sg_t N a b x y
    · have : sg_r D N a b x y = true := by unfold sg_r; simp [c1, c2]
      rw [if_pos this]
      simp (disch := (first | assumption | omega | exact nb_ix (by omega) (by assumption) (by omega) (by omega) | exact nb_ix (by omega) rfl (by omega) (by omega) | exact nb_ok (by omega) rfl | decide)) only [kX12_isRest, h1, h2, nb_add, nb_sub, nb_mul, Int.toNat_natCast, mm_kr_s, mm_kv_s, if_pos, if_neg, sq_tn, Int.toNat_zero, Int.reduceToNat, Int.reduceNeg, Nat.reduceAdd, Int.reduceAdd, Int.reduceEq, Int.reduceLT, Int.reduceLE, Int.zero_add, nb_ui_s, nb_ui_k, nb_ui_a, sp_min, sp_max, sp_bits]
    · have : ¬ sg_r D N a b x y = true := by unfold sg_r; simp [c1, c2]
      rw [if_neg this]
      simp (disch := (first | assumption | omega | exact nb_ix (by omega) (by assumption) (by omega) (by omega) | exact nb_ix (by omega) rfl (by omega) (by omega) | exact nb_ok (by omega) rfl | decide)) only [kX12_isRest, h1, h2, nb_add, nb_sub, nb_mul, Int.toNat_natCast, mm_kr_s, mm_kv_s, if_pos, if_neg, sq_tn, Int.toNat_zero, Int.reduceToNat, Int.reduceNeg, Nat.reduceAdd, Int.reduceAdd, Int.reduceEq, Int.reduceLT, Int.reduceLE, Int.zero_add, nb_ui_s, nb_ui_k, nb_ui_a, sp_min, sp_max, sp_bits]
  · have : ¬ sg_r D N a b x y = true := by unfold sg_r; simp [c1]
    rw [if_neg this]
    simp (disch := (first | assumption | omega | exact nb_ix (by omega) (by assumption) (by omega) (by omega) | exact nb_ix (by omega) rfl (by omega) (by omega) | exact nb_ok (by omega) rfl | decide)) only [kX12_isRest, h1, h2, nb_add, nb_sub, nb_mul, Int.toNat_natCast, mm_kr_s, mm_kv_s, if_pos, if_neg, sq_tn, Int.toNat_zero, Int.reduceToNat, Int.reduceNeg, Nat.reduceAdd, Int.reduceAdd, Int.reduceEq, Int.reduceLT, Int.reduceLE, Int.zero_add, nb_ui_s, nb_ui_k, nb_ui_a, sp_min, sp_max, sp_bits]
set_option maxHeartbeats 1000000 in
theorem om_rests (hC : sq_MM n c P I s D B g v ev N) (p q i : Int) : mm_rn (d + 10) 250 [.inr (.inr (some 239)), .inl p, .inl q, .inl i] n I L P = some (some (.inl (sa_rests D N s p q i)), n, I, L, P) := by
  have hpr := sq_mtwo (d := d + 6) (L := L) (p := p) (q := q) hC
  have ok := hC.1.1.ok
  rw [eX12_rests]
  by_cases h : ((0 ≤ p ∧ p < s) ∧ (0 ≤ q ∧ q < s) ∧ p ≠ q)
  · rw [if_pos h] at hpr
    by_cases hi : i < -1
    · have : sa_rests D N s p q i = -1 := if_neg (by omega)
      rw [this]
      simp (disch := (first | assumption | omega | exact nb_ix (by omega) (by assumption) (by omega) (by omega) | exact nb_ix (by omega) rfl (by omega) (by omega) | exact nb_ok (by omega) rfl | decide)) only [kX12_rests, hpr, nb_add, nb_sub, nb_mul, Int.toNat_natCast, mm_kr_s, mm_kv_s, if_pos, if_neg, sq_tn, Int.toNat_zero, Int.reduceToNat, Int.reduceNeg, Nat.reduceAdd, Int.reduceAdd, Int.reduceEq, Int.reduceLT, Int.reduceLE, Int.zero_add, nb_ui_s, nb_ui_k, nb_ui_a, sp_min, sp_max, sp_bits]
    obtain ⟨a, rfl⟩ : ∃ k : Nat, p = (k : Int) := ⟨p.toNat, by omega⟩
    obtain ⟨b, rfl⟩ : ∃ k : Nat, q = (k : Int) := ⟨q.toNat, by omega⟩
    have e1 : sa_rests D N s a b i = sw_pl (sg_F D N a b) i [0, 1, 10, 11] 0 := by
      unfold sa_rests
      rw [Int.toNat_natCast, Int.toNat_natCast, if_pos ⟨h, by omega⟩]
    rw [e1]
    have hr := fun x y hx hy => sq_mrst (d := d + 6) (L := L) (x := x) (y := y) hC (show a < s by omega) (show b < s by omega) hx hy
    have r00 := hr 0 0 (by omega) (by omega)
    have r01 := hr 0 1 (by omega) (by omega)
    have r10 := hr 1 0 (by omega) (by omega)
    have r11 := hr 1 1 (by omega) (by omega)
    have d0 : mm_w (Int.tdiv 0 2) = 0 := by decide
    have d1 : mm_w (Int.tdiv 1 2) = 0 := by decide
    have d2 : mm_w (Int.tdiv 2 2) = 1 := by decide
    have d3 : mm_w (Int.tdiv 3 2) = 1 := by decide
    have m0 : mm_w (Int.tmod 0 2) = 0 := by decide
    have m1 : mm_w (Int.tmod 1 2) = 1 := by decide
    have m2 : mm_w (Int.tmod 2 2) = 0 := by decide
    have m3 : mm_w (Int.tmod 3 2) = 1 := by decide
    simp (disch := (first | assumption | omega | exact nb_ix (by omega) (by assumption) (by omega) (by omega) | exact nb_ix (by omega) rfl (by omega) (by omega) | exact nb_ok (by omega) rfl | decide)) only [kX12_rests, hpr, nb_add, nb_sub, nb_mul, Int.toNat_natCast, mm_kr_s, mm_kv_s, if_pos, if_neg, sq_tn, Int.toNat_zero, Int.reduceToNat, Int.reduceNeg, Nat.reduceAdd, Int.reduceAdd, Int.reduceEq, Int.reduceLT, Int.reduceLE, Int.zero_add, nb_ui_s, nb_ui_k, nb_ui_a, sp_min, sp_max, sp_bits]
    have s5 : ∀ f : Nat, f ≤ 4 → mm_E (d + 9) 250 22 [.inr (.inr (some 239)), .inl ((a : Int)), .inl ((b : Int)), .inl i, .inl ((f : Int)), .inl 4] [] [] n I L P = some (some (.inl (sw_pl (sg_F D N a b) i [] f)), n, I, L, P) := by
      intro f hf
      rw [hX12_rests_22]
      unfold sw_pl
      by_cases hi : i = -1
      · simp (disch := (first | assumption | omega | exact nb_ix (by omega) (by assumption) (by omega) (by omega) | exact nb_ix (by omega) rfl (by omega) (by omega) | exact nb_ok (by omega) rfl | decide)) only [kX12_rests, nb_add, nb_sub, nb_mul, Int.toNat_natCast, mm_kr_s, mm_kv_s, if_pos, if_neg, sq_tn, Int.toNat_zero, Int.reduceToNat, Int.reduceNeg, Nat.reduceAdd, Int.reduceAdd, Int.reduceEq, Int.reduceLT, Int.reduceLE, Int.zero_add, nb_ui_s, nb_ui_k, nb_ui_a, sp_min, sp_max, sp_bits]
      · simp (disch := (first | assumption | omega | exact nb_ix (by omega) (by assumption) (by omega) (by omega) | exact nb_ix (by omega) rfl (by omega) (by omega) | exact nb_ok (by omega) rfl | decide)) only [kX12_rests, nb_add, nb_sub, nb_mul, Int.toNat_natCast, mm_kr_s, mm_kv_s, if_pos, if_neg, sq_tn, Int.toNat_zero, Int.reduceToNat, Int.reduceNeg, Nat.reduceAdd, Int.reduceAdd, Int.reduceEq, Int.reduceLT, Int.reduceLE, Int.zero_add, nb_ui_s, nb_ui_k, nb_ui_a, sp_min, sp_max, sp_bits]
    have s4 : ∀ f : Nat, f ≤ 3 → mm_E (d + 9) 250 22 [.inr (.inr (some 239)), .inl ((a : Int)), .inl ((b : Int)), .inl i, .inl ((f : Int)), .inl 3] [] [] n I L P = some (some (.inl (sw_pl (sg_F D N a b) i [11] f)), n, I, L, P) := by
      intro f hf
      rw [hX12_rests_22]
      have hu : sw_pl (sg_F D N a b) i [11] f = if sg_r D N a b 1 1 = true then (if (f : Int) = i then 11 else sw_pl (sg_F D N a b) i [] (f + 1)) else sw_pl (sg_F D N a b) i [] f := rfl
      rw [hu]
      by_cases hb : sg_r D N a b 1 1 = true
      · by_cases hfi : (f : Int) = i
        · simp (disch := (first | assumption | omega | exact nb_ix (by omega) (by assumption) (by omega) (by omega) | exact nb_ix (by omega) rfl (by omega) (by omega) | exact nb_ok (by omega) rfl | decide)) only [kX12_rests, d3, m3, r11, hb, Int.reduceMul, Int.add_zero, nb_add, nb_sub, nb_mul, Int.toNat_natCast, mm_kr_s, mm_kv_s, if_pos, if_neg, sq_tn, Int.toNat_zero, Int.reduceToNat, Int.reduceNeg, Nat.reduceAdd, Int.reduceAdd, Int.reduceEq, Int.reduceLT, Int.reduceLE, Int.zero_add, nb_ui_s, nb_ui_k, nb_ui_a, sp_min, sp_max, sp_bits]
        · have h5 := s5 (f + 1) (by omega)
          simp (disch := (first | assumption | omega | exact nb_ix (by omega) (by assumption) (by omega) (by omega) | exact nb_ix (by omega) rfl (by omega) (by omega) | exact nb_ok (by omega) rfl | decide)) only [kX12_rests, d3, m3, r11, hb, Int.reduceMul, Int.add_zero, nb_add, nb_sub, nb_mul, Int.toNat_natCast, mm_kr_s, mm_kv_s, if_pos, if_neg, sq_tn, Int.toNat_zero, Int.reduceToNat, Int.reduceNeg, Nat.reduceAdd, Int.reduceAdd, Int.reduceEq, Int.reduceLT, Int.reduceLE, Int.zero_add, nb_ui_s, nb_ui_k, nb_ui_a, sp_min, sp_max, sp_bits]
          exact h5
      · have h5 := s5 f (by omega)
        simp (disch := (first | assumption | omega | exact nb_ix (by omega) (by assumption) (by omega) (by omega) | exact nb_ix (by omega) rfl (by omega) (by omega) | exact nb_ok (by omega) rfl | decide)) only [kX12_rests, d3, m3, r11, hb, Int.reduceMul, Int.add_zero, nb_add, nb_sub, nb_mul, Int.toNat_natCast, mm_kr_s, mm_kv_s, if_pos, if_neg, sq_tn, Int.toNat_zero, Int.reduceToNat, Int.reduceNeg, Nat.reduceAdd, Int.reduceAdd, Int.reduceEq, Int.reduceLT, Int.reduceLE, Int.zero_add, nb_ui_s, nb_ui_k, nb_ui_a, sp_min, sp_max, sp_bits]
        exact h5
    have s3 : ∀ f : Nat, f ≤ 2 → mm_E (d + 9) 250 22 [.inr (.inr (some 239)), .inl ((a : Int)), .inl ((b : Int)), .inl i, .inl ((f : Int)), .inl 2] [] [] n I L P = some (some (.inl (sw_pl (sg_F D N a b) i [10, 11] f)), n, I, L, P) := by
      intro f hf
      rw [hX12_rests_22]
      have hu : sw_pl (sg_F D N a b) i [10, 11] f = if sg_r D N a b 1 0 = true then (if (f : Int) = i then 10 else sw_pl (sg_F D N a b) i [11] (f + 1)) else sw_pl (sg_F D N a b) i [11] f := rfl
      rw [hu]
      by_cases hb : sg_r D N a b 1 0 = true
      · by_cases hfi : (f : Int) = i
        · simp (disch := (first | assumption | omega | exact nb_ix (by omega) (by assumption) (by omega) (by omega) | exact nb_ix (by omega) rfl (by omega) (by omega) | exact nb_ok (by omega) rfl | decide)) only [kX12_rests, d2, m2, r10, hb, Int.reduceMul, Int.add_zero, nb_add, nb_sub, nb_mul, Int.toNat_natCast, mm_kr_s, mm_kv_s, if_pos, if_neg, sq_tn, Int.toNat_zero, Int.reduceToNat, Int.reduceNeg, Nat.reduceAdd, Int.reduceAdd, Int.reduceEq, Int.reduceLT, Int.reduceLE, Int.zero_add, nb_ui_s, nb_ui_k, nb_ui_a, sp_min, sp_max, sp_bits]
        · have h5 := s4 (f + 1) (by omega)
          simp (disch := (first | assumption | omega | exact nb_ix (by omega) (by assumption) (by omega) (by omega) | exact nb_ix (by omega) rfl (by omega) (by omega) | exact nb_ok (by omega) rfl | decide)) only [kX12_rests, d2, m2, r10, hb, Int.reduceMul, Int.add_zero, nb_add, nb_sub, nb_mul, Int.toNat_natCast, mm_kr_s, mm_kv_s, if_pos, if_neg, sq_tn, Int.toNat_zero, Int.reduceToNat, Int.reduceNeg, Nat.reduceAdd, Int.reduceAdd, Int.reduceEq, Int.reduceLT, Int.reduceLE, Int.zero_add, nb_ui_s, nb_ui_k, nb_ui_a, sp_min, sp_max, sp_bits]
          exact h5
      · have h5 := s4 f (by omega)
        simp (disch := (first | assumption | omega | exact nb_ix (by omega) (by assumption) (by omega) (by omega) | exact nb_ix (by omega) rfl (by omega) (by omega) | exact nb_ok (by omega) rfl | decide)) only [kX12_rests, d2, m2, r10, hb, Int.reduceMul, Int.add_zero, nb_add, nb_sub, nb_mul, Int.toNat_natCast, mm_kr_s, mm_kv_s, if_pos, if_neg, sq_tn, Int.toNat_zero, Int.reduceToNat, Int.reduceNeg, Nat.reduceAdd, Int.reduceAdd, Int.reduceEq, Int.reduceLT, Int.reduceLE, Int.zero_add, nb_ui_s, nb_ui_k, nb_ui_a, sp_min, sp_max, sp_bits]
        exact h5
    have s2 : ∀ f : Nat, f ≤ 1 → mm_E (d + 9) 250 22 [.inr (.inr (some 239)), .inl ((a : Int)), .inl ((b : Int)), .inl i, .inl ((f : Int)), .inl 1] [] [] n I L P = some (some (.inl (sw_pl (sg_F D N a b) i [1, 10, 11] f)), n, I, L, P) := by
      intro f hf
      rw [hX12_rests_22]
      have hu : sw_pl (sg_F D N a b) i [1, 10, 11] f = if sg_r D N a b 0 1 = true then (if (f : Int) = i then 1 else sw_pl (sg_F D N a b) i [10, 11] (f + 1)) else sw_pl (sg_F D N a b) i [10, 11] f := rfl
      rw [hu]
      by_cases hb : sg_r D N a b 0 1 = true
      · by_cases hfi : (f : Int) = i
        · simp (disch := (first | assumption | omega | exact nb_ix (by omega) (by assumption) (by omega) (by omega) | exact nb_ix (by omega) rfl (by omega) (by omega) | exact nb_ok (by omega) rfl | decide)) only [kX12_rests, d1, m1, r01, hb, Int.reduceMul, Int.add_zero, nb_add, nb_sub, nb_mul, Int.toNat_natCast, mm_kr_s, mm_kv_s, if_pos, if_neg, sq_tn, Int.toNat_zero, Int.reduceToNat, Int.reduceNeg, Nat.reduceAdd, Int.reduceAdd, Int.reduceEq, Int.reduceLT, Int.reduceLE, Int.zero_add, nb_ui_s, nb_ui_k, nb_ui_a, sp_min, sp_max, sp_bits]
        · have h5 := s3 (f + 1) (by omega)
          simp (disch := (first | assumption | omega | exact nb_ix (by omega) (by assumption) (by omega) (by omega) | exact nb_ix (by omega) rfl (by omega) (by omega) | exact nb_ok (by omega) rfl | decide)) only [kX12_rests, d1, m1, r01, hb, Int.reduceMul, Int.add_zero, nb_add, nb_sub, nb_mul, Int.toNat_natCast, mm_kr_s, mm_kv_s, if_pos, if_neg, sq_tn, Int.toNat_zero, Int.reduceToNat, Int.reduceNeg, Nat.reduceAdd, Int.reduceAdd, Int.reduceEq, Int.reduceLT, Int.reduceLE, Int.zero_add, nb_ui_s, nb_ui_k, nb_ui_a, sp_min, sp_max, sp_bits]
          exact h5
      · have h5 := s3 f (by omega)
        simp (disch := (first | assumption | omega | exact nb_ix (by omega) (by assumption) (by omega) (by omega) | exact nb_ix (by omega) rfl (by omega) (by omega) | exact nb_ok (by omega) rfl | decide)) only [kX12_rests, d1, m1, r01, hb, Int.reduceMul, Int.add_zero, nb_add, nb_sub, nb_mul, Int.toNat_natCast, mm_kr_s, mm_kv_s, if_pos, if_neg, sq_tn, Int.toNat_zero, Int.reduceToNat, Int.reduceNeg, Nat.reduceAdd, Int.reduceAdd, Int.reduceEq, Int.reduceLT, Int.reduceLE, Int.zero_add, nb_ui_s, nb_ui_k, nb_ui_a, sp_min, sp_max, sp_bits]
        exact h5
    rw [hX12_rests_22]
    have hu : sw_pl (sg_F D N a b) i [0, 1, 10, 11] 0 = if sg_r D N a b 0 0 = true then (if (0 : Int) = i then 0 else sw_pl (sg_F D N a b) i [1, 10, 11] (0 + 1)) else sw_pl (sg_F D N a b) i [1, 10, 11] 0 := rfl
    rw [hu]
    by_cases hb : sg_r D N a b 0 0 = true
    · by_cases hfi : (0 : Int) = i
      · simp (disch := (first | assumption | omega | exact nb_ix (by omega) (by assumption) (by omega) (by omega) | exact nb_ix (by omega) rfl (by omega) (by omega) | exact nb_ok (by omega) rfl | decide)) only [kX12_rests, d0, m0, r00, hb, Int.reduceMul, Int.add_zero, nb_add, nb_sub, nb_mul, Int.toNat_natCast, mm_kr_s, mm_kv_s, if_pos, if_neg, sq_tn, Int.toNat_zero, Int.reduceToNat, Int.reduceNeg, Nat.reduceAdd, Int.reduceAdd, Int.reduceEq, Int.reduceLT, Int.reduceLE, Int.zero_add, nb_ui_s, nb_ui_k, nb_ui_a, sp_min, sp_max, sp_bits]
      · have h5 := s2 1 (by omega)
        simp (disch := (first | assumption | omega | exact nb_ix (by omega) (by assumption) (by omega) (by omega) | exact nb_ix (by omega) rfl (by omega) (by omega) | exact nb_ok (by omega) rfl | decide)) only [kX12_rests, d0, m0, r00, hb, Int.reduceMul, Int.add_zero, nb_add, nb_sub, nb_mul, Int.toNat_natCast, mm_kr_s, mm_kv_s, if_pos, if_neg, sq_tn, Int.toNat_zero, Int.reduceToNat, Int.reduceNeg, Nat.reduceAdd, Int.reduceAdd, Int.reduceEq, Int.reduceLT, Int.reduceLE, Int.zero_add, nb_ui_s, nb_ui_k, nb_ui_a, sp_min, sp_max, sp_bits]
        exact h5
    · have h5 := s2 0 (by omega)
      simp (disch := (first | assumption | omega | exact nb_ix (by omega) (by assumption) (by omega) (by omega) | exact nb_ix (by omega) rfl (by omega) (by omega) | exact nb_ok (by omega) rfl | decide)) only [kX12_rests, d0, m0, r00, hb, Int.reduceMul, Int.add_zero, nb_add, nb_sub, nb_mul, Int.toNat_natCast, mm_kr_s, mm_kv_s, if_pos, if_neg, sq_tn, Int.toNat_zero, Int.reduceToNat, Int.reduceNeg, Nat.reduceAdd, Int.reduceAdd, Int.reduceEq, Int.reduceLT, Int.reduceLE, Int.zero_add, nb_ui_s, nb_ui_k, nb_ui_a, sp_min, sp_max, sp_bits]
      exact h5
  · rw [if_neg h] at hpr
    have : sa_rests D N s p q i = -1 := if_neg (fun z => h z.1)
    rw [this]
    simp (disch := (first | assumption | omega | exact nb_ix (by omega) (by assumption) (by omega) (by omega) | exact nb_ix (by omega) rfl (by omega) (by omega) | exact nb_ok (by omega) rfl | decide)) only [kX12_rests, hpr, nb_add, nb_sub, nb_mul, Int.toNat_natCast, mm_kr_s, mm_kv_s, if_pos, if_neg, sq_tn, Int.toNat_zero, Int.reduceToNat, Int.reduceNeg, Nat.reduceAdd, Int.reduceAdd, Int.reduceEq, Int.reduceLT, Int.reduceLE, Int.zero_add, nb_ui_s, nb_ui_k, nb_ui_a, sp_min, sp_max, sp_bits]
end GM
