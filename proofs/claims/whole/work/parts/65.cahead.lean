/-! the pointers of both halves; what would come, in the class -/
def sq_P (n : Nat) (P : mm_P) (t u : Nat) : Prop := 270 ≤ n ∧ ((t = 7 ∧ u = 13) ∨ (t = 13 ∧ u = 7)) ∧ sp_M n P ∧ sp_T n P t ∧ sp_T n P u ∧ (∀ a, (a = 40 ∨ a = 210 ∨ a = 223 ∨ a = 229 ∨ a = 233 ∨ (50 ≤ a ∧ a < 210 ∧ a % 4 = 2)) → sp_N n P a) ∧
  (P 0 2 = some t ∧ P 0 3 = some u) ∧
  (P 0 0 = some 1 ∧ P 0 1 = some 3 ∧ P 0 4 = some 19 ∧ P 0 8 = some 40 ∧ P 0 9 = some 44 ∧ P 0 10 = some 48 ∧ P 0 11 = some 210 ∧ P 0 12 = some 214 ∧ P 0 14 = some 218 ∧ P 0 15 = some 228 ∧ P 0 16 = some 237 ∧ P 0 17 = some 238 ∧ P 1 0 = some 2 ∧ P 3 0 = some 4 ∧ P 3 1 = some 5 ∧ P 3 2 = some 6 ∧
   P 44 0 = some 45 ∧ P 44 1 = some 46 ∧ P 44 2 = some 47 ∧ P 214 0 = some 215 ∧ P 214 1 = some 216 ∧ P 214 2 = some 217 ∧ P 48 0 = some 49 ∧ P 218 0 = some 219 ∧ P 218 1 = some 220 ∧ P 218 2 = some 221 ∧ P 218 3 = some 222 ∧ P 218 5 = some 223 ∧ P 218 6 = some 227 ∧ P 228 0 = some 229 ∧ P 228 1 = some 233) ∧
  (∀ i, i < 5 → P 19 i = some (20 + 4 * i) ∧ P (20 + 4 * i) 0 = some (21 + 4 * i) ∧ P (20 + 4 * i) 2 = some (22 + 4 * i) ∧ P (20 + 4 * i) 3 = some (23 + 4 * i)) ∧
  (∀ i, i < 40 → P 49 i = some (50 + 4 * i))
/-- which law object holds -/
def sq_LW (I : mm_I) (lw : Option Nat) : Prop := I 0 5 ≤ 4 ∧ lw = if 0 ≤ I 0 6 ∧ I 0 6 < I 0 5 then some (20 + 4 * (I 0 6).toNat) else none
/-- scratch of the class: questions on nights of their own -/
def sq_SC : List Nat := [223, 224, 225, 226, 227, 228, 229, 230, 231, 232, 233, 234, 235, 236, 237]
theorem sq_SC_ge : ∀ b, b ∈ sq_SC → 36 ≤ b := by decide
def sq_CC (n c : Nat) (P : mm_P) (I : mm_I) (t u s : Nat) (D : Nat → Int) (B : Nat → Nat) (g v : Int) (lw : Option Nat) (ev : sv_E) (N : Nat → Int) : Prop := sq_P n P t u ∧ sq_CW n c P I t s D B g v lw ev ∧ sq_LW I lw ∧ sq_cN I 40 N ∧ sv_ok s N ∧ N 29 ≤ 9999
def sq_MM (n c : Nat) (P : mm_P) (I : mm_I) (s : Nat) (D : Nat → Int) (B : Nat → Nat) (g v : Int) (ev : sv_E) (N : Nat → Int) : Prop := sq_MW n c P I s D B g v ev ∧ sq_mN I N ∧ sv_ok s N ∧ N 29 ≤ 9999
section CA
variable {n c t u s d : Nat} {I L : mm_I} {P : mm_P} {D : Nat → Int} {B : Nat → Nat} {g v : Int} {lw : Option Nat} {ev : sv_E} {N : Nat → Int}
theorem sq_ok0 (hP : sq_P n P t u) : mm_ok n 0 11 := ⟨by have := hP.1; omega, rfl⟩
theorem sq_noTown (hP : sq_P n P t u) (hs : I t 0 = (s : Int)) : mm_rn (d + 1) 92 [.inr (.inr (some 0))] n I L P = some (some (.inl (if s = 0 then 1 else 0)), n, I, L, P) := by
  have ok0 := sq_ok0 hP
  have okt := hP.2.2.2.1.ok
  have hp2 := hP.2.2.2.2.2.2.1.1
  rw [eX11_noTown]
  by_cases h : s = 0
  · have h2 : (s : Int) = 0 := by omega
    simp (disch := (first | assumption | omega | exact nb_ix (by omega) (by assumption) (by omega) (by omega) | exact nb_ix (by omega) rfl (by omega) (by omega) | exact nb_ok (by omega) rfl | decide)) only [kX11_noTown, hp2, hs, nb_add, nb_sub, nb_mul, Int.toNat_natCast, mm_kr_s, mm_kv_s, if_pos, if_neg, sq_tn, Int.toNat_zero, Int.reduceToNat, Int.reduceNeg, Nat.reduceAdd, Int.reduceAdd, Int.reduceEq, Int.reduceLT, Int.reduceLE, Int.zero_add, nb_ui_s, nb_ui_k, nb_ui_a, sp_min, sp_max, sp_bits]
  · have h2 : ¬ (s : Int) = 0 := by omega
    simp (disch := (first | assumption | omega | exact nb_ix (by omega) (by assumption) (by omega) (by omega) | exact nb_ix (by omega) rfl (by omega) (by omega) | exact nb_ok (by omega) rfl | decide)) only [kX11_noTown, hp2, hs, nb_add, nb_sub, nb_mul, Int.toNat_natCast, mm_kr_s, mm_kv_s, if_pos, if_neg, sq_tn, Int.toNat_zero, Int.reduceToNat, Int.reduceNeg, Nat.reduceAdd, Int.reduceAdd, Int.reduceEq, Int.reduceLT, Int.reduceLE, Int.zero_add, nb_ui_s, nb_ui_k, nb_ui_a, sp_min, sp_max, sp_bits]
theorem sq_held (hP : sq_P n P t u) (hL : sq_LW I lw) : mm_rn (d + 1) 96 [.inr (.inr (some 0))] n I L P = some (some (.inr (.inr lw)), n, I, L, P) := by
  have ok0 := sq_ok0 hP
  obtain ⟨hn, htu, _, _, _, _, _, hC, hLw, _⟩ := hP
  obtain ⟨l1, l2⟩ := hL
  rw [eX11_heldLaw]
  by_cases h1 : 0 ≤ I 0 6
  · by_cases h2 : I 0 6 < I 0 5
    · have h3 := (hLw (I 0 6).toNat (by omega)).1
      rw [if_pos ⟨h1, h2⟩] at l2
      simp (disch := (first | assumption | omega | exact nb_ix (by omega) (by assumption) (by omega) (by omega) | exact nb_ix (by omega) rfl (by omega) (by omega) | exact nb_ok (by omega) rfl | decide)) only [kX11_heldLaw, hC, h3, l2, nb_add, nb_sub, nb_mul, Int.toNat_natCast, mm_kr_s, mm_kv_s, if_pos, if_neg, sq_tn, Int.toNat_zero, Int.reduceToNat, Int.reduceNeg, Nat.reduceAdd, Int.reduceAdd, Int.reduceEq, Int.reduceLT, Int.reduceLE, Int.zero_add, nb_ui_s, nb_ui_k, nb_ui_a, sp_min, sp_max, sp_bits]
    · rw [if_neg (by omega)] at l2
      simp (disch := (first | assumption | omega | exact nb_ix (by omega) (by assumption) (by omega) (by omega) | exact nb_ix (by omega) rfl (by omega) (by omega) | exact nb_ok (by omega) rfl | decide)) only [kX11_heldLaw, hC, l2, nb_add, nb_sub, nb_mul, Int.toNat_natCast, mm_kr_s, mm_kv_s, if_pos, if_neg, sq_tn, Int.toNat_zero, Int.reduceToNat, Int.reduceNeg, Nat.reduceAdd, Int.reduceAdd, Int.reduceEq, Int.reduceLT, Int.reduceLE, Int.zero_add, nb_ui_s, nb_ui_k, nb_ui_a, sp_min, sp_max, sp_bits]
  · rw [if_neg (by omega)] at l2
    simp (disch := (first | assumption | omega | exact nb_ix (by omega) (by assumption) (by omega) (by omega) | exact nb_ix (by omega) rfl (by omega) (by omega) | exact nb_ok (by omega) rfl | decide)) only [kX11_heldLaw, hC, l2, nb_add, nb_sub, nb_mul, Int.toNat_natCast, mm_kr_s, mm_kv_s, if_pos, if_neg, sq_tn, Int.toNat_zero, Int.reduceToNat, Int.reduceNeg, Nat.reduceAdd, Int.reduceAdd, Int.reduceEq, Int.reduceLT, Int.reduceLE, Int.zero_add, nb_ui_s, nb_ui_k, nb_ui_a, sp_min, sp_max, sp_bits]
/-- lostWithin, lostBehindCry -/
theorem sq_cwithin {a k : Nat} (hd : c ≤ d) (hP : sq_P n P t u) (hW : sq_CW n c P I t s D B g v lw ev) (hA : sp_N n P a) (ha : a = 40 ∨ a = 233) (hN : sq_cN I a N) (hok : sv_ok s N) (hh : N 29 ≤ 100000) (hk : k ≤ 100) :
    sq_X (some (.inl (sw_sm (sw_live ev D B g s) s k N))) n L P (fun I' => sq_cN I' 229 (sw_it (sw_live ev D B g s) k N) ∧ sq_cf [229, 230, 231, 232] I I') (mm_rn (d + 7) 1 [.inr (.inr (some 228)), .inr (.inr (some a)), .inr (.inr (some t)), .inr (.inr lw), .inl ((k : Int))] n I L P) := by
  obtain ⟨hn, htu, _, _, _, hNt, _, hC, _⟩ := hP
  have hA9 := hNt 229 (by omega)
  have ok9 := hA9.ok
  rw [eX0_lostWithin]
  simp (disch := (first | assumption | omega | exact nb_ix (by omega) (by assumption) (by omega) (by omega) | exact nb_ix (by omega) rfl (by omega) (by omega) | exact nb_ok (by omega) rfl | decide)) only [kX0_lostWithin, hC, nb_add, nb_sub, nb_mul, Int.toNat_natCast, mm_kr_s, mm_kv_s, if_pos, if_neg, sq_tn, Int.toNat_zero, Int.reduceToNat, Int.reduceNeg, Nat.reduceAdd, Int.reduceAdd, Int.reduceEq, Int.reduceLT, Int.reduceLE, Int.zero_add, nb_ui_s, nb_ui_k, nb_ui_a, sp_min, sp_max, sp_bits]
  refine sq_kv (sq_ccopy (d := d + 5) hA9 hA (by omega) hN) (fun J hJ => ?_)
  simp (disch := (first | assumption | omega | exact nb_ix (by omega) (by assumption) (by omega) (by omega) | exact nb_ix (by omega) rfl (by omega) (by omega) | exact nb_ok (by omega) rfl | decide)) only [kX0_lostWithin, hC, nb_add, nb_sub, nb_mul, Int.toNat_natCast, mm_kr_s, mm_kv_s, if_pos, if_neg, sq_tn, Int.toNat_zero, Int.reduceToNat, Int.reduceNeg, Nat.reduceAdd, Int.reduceAdd, Int.reduceEq, Int.reduceLT, Int.reduceLE, Int.zero_add, nb_ui_s, nb_ui_k, nb_ui_a, sp_min, sp_max, sp_bits]
  refine sq_kr (sq_cpass hd (by omega) hA9 (sq_CW_keepf hW hJ.2 (by decide)) hJ.1 hok hh hk) (fun K hK => ?_)
  simp (disch := (first | assumption | omega | exact nb_ix (by omega) (by assumption) (by omega) (by omega) | exact nb_ix (by omega) rfl (by omega) (by omega) | exact nb_ok (by omega) rfl | decide)) only [kX0_lostWithin, nb_add, nb_sub, nb_mul, Int.toNat_natCast, mm_kr_s, mm_kv_s, if_pos, if_neg, sq_tn, Int.toNat_zero, Int.reduceToNat, Int.reduceNeg, Nat.reduceAdd, Int.reduceAdd, Int.reduceEq, Int.reduceLT, Int.reduceLE, Int.zero_add, nb_ui_s, nb_ui_k, nb_ui_a, sp_min, sp_max, sp_bits]
  exact sq_ret ⟨hK.1, sq_cf_trans (sq_cf_of hJ.2 (by decide)) hK.2 (fun _ h => h) (fun _ h => h)⟩
theorem sq_cbehind {a k : Nat} (hd : c ≤ d) (hP : sq_P n P t u) (hW : sq_CW n c P I t s D B g v lw ev) (hs1 : 0 < s) (hA : sp_N n P a) (ha : a = 40 ∨ a = 229) (hN : sq_cN I a N) (hok : sv_ok s N) (hh : N 29 ≤ 100000) (hk : k ≤ 100) :
    sq_X (some (.inl (sw_sm (sw_live ev D B g s) s k (sw_hush D v s N)))) n L P (fun I' => sq_cf [233, 234, 235, 236] I I') (mm_rn (d + 7) 3 [.inr (.inr (some 228)), .inr (.inr (some a)), .inr (.inr (some t)), .inr (.inr lw), .inl ((k : Int))] n I L P) := by
  obtain ⟨hn, htu, _, _, _, hNt, _, hC, _⟩ := hP
  have hA9 := hNt 233 (by omega)
  have ok9 := hA9.ok
  rw [eX0_lostBehindCry]
  simp (disch := (first | assumption | omega | exact nb_ix (by omega) (by assumption) (by omega) (by omega) | exact nb_ix (by omega) rfl (by omega) (by omega) | exact nb_ok (by omega) rfl | decide)) only [kX0_lostBehindCry, hC, nb_add, nb_sub, nb_mul, Int.toNat_natCast, mm_kr_s, mm_kv_s, if_pos, if_neg, sq_tn, Int.toNat_zero, Int.reduceToNat, Int.reduceNeg, Nat.reduceAdd, Int.reduceAdd, Int.reduceEq, Int.reduceLT, Int.reduceLE, Int.zero_add, nb_ui_s, nb_ui_k, nb_ui_a, sp_min, sp_max, sp_bits]
  refine sq_kv (sq_ccopy (d := d + 5) hA9 hA (by omega) hN) (fun J hJ => ?_)
  simp (disch := (first | assumption | omega | exact nb_ix (by omega) (by assumption) (by omega) (by omega) | exact nb_ix (by omega) rfl (by omega) (by omega) | exact nb_ok (by omega) rfl | decide)) only [kX0_lostBehindCry, hC, nb_add, nb_sub, nb_mul, Int.toNat_natCast, mm_kr_s, mm_kv_s, if_pos, if_neg, sq_tn, Int.toNat_zero, Int.reduceToNat, Int.reduceNeg, Nat.reduceAdd, Int.reduceAdd, Int.reduceEq, Int.reduceLT, Int.reduceLE, Int.zero_add, nb_ui_s, nb_ui_k, nb_ui_a, sp_min, sp_max, sp_bits]
  refine sq_kr (sq_ccry (d := d + 3) hA9 (sq_CW_keepf hW hJ.2 (by decide)) hs1 hJ.1 hok) (fun K hK => ?_)
  simp (disch := (first | assumption | omega | exact nb_ix (by omega) (by assumption) (by omega) (by omega) | exact nb_ix (by omega) rfl (by omega) (by omega) | exact nb_ok (by omega) rfl | decide)) only [kX0_lostBehindCry, hC, nb_add, nb_sub, nb_mul, Int.toNat_natCast, mm_kr_s, mm_kv_s, if_pos, if_neg, sq_tn, Int.toNat_zero, Int.reduceToNat, Int.reduceNeg, Nat.reduceAdd, Int.reduceAdd, Int.reduceEq, Int.reduceLT, Int.reduceLE, Int.zero_add, nb_ui_s, nb_ui_k, nb_ui_a, sp_min, sp_max, sp_bits]
  refine sq_kr (sq_cpass hd (by omega) hA9 (sq_CW_keepf (sq_CW_keepf hW hJ.2 (by decide)) hK.2 (by decide)) hK.1 (sw_hush_ok hok) (by rw [sw_hush_hi (by omega)]; exact hh) hk) (fun M hM => ?_)
  simp (disch := (first | assumption | omega | exact nb_ix (by omega) (by assumption) (by omega) (by omega) | exact nb_ix (by omega) rfl (by omega) (by omega) | exact nb_ok (by omega) rfl | decide)) only [kX0_lostBehindCry, nb_add, nb_sub, nb_mul, Int.toNat_natCast, mm_kr_s, mm_kv_s, if_pos, if_neg, sq_tn, Int.toNat_zero, Int.reduceToNat, Int.reduceNeg, Nat.reduceAdd, Int.reduceAdd, Int.reduceEq, Int.reduceLT, Int.reduceLE, Int.zero_add, nb_ui_s, nb_ui_k, nb_ui_a, sp_min, sp_max, sp_bits]
  exact sq_ret (sq_cf_trans (sq_cf_trans (l := [233, 234, 235, 236]) (sq_cf_of hJ.2 (by decide)) (sq_cf_of hK.2 (by decide)) (fun _ h => h) (by decide)) hM.2 (fun _ h => h) (fun _ h => h))
/-- what is lost with a cry behind k of m hours -/
def sw_A (ev : sv_E) (D : Nat → Int) (B : Nat → Nat) (g v : Int) (s : Nat) (N : Nat → Int) (m k : Nat) : Int := sw_sm (sw_live ev D B g s) s k N + sw_sm (sw_live ev D B g s) s (m - k) (sw_hush D v s (sw_it (sw_live ev D B g s) k N))
set_option maxHeartbeats 2000000 in
theorem sq_cfind {m : Nat} (hd : c ≤ d) (hP : sq_P n P t u) (hW : sq_CW n c P I t s D B g v lw ev) (hs1 : 0 < s) (hN : sq_cN I 40 N) (hok : sv_ok s N) (hh : N 29 ≤ 9999) (hm : m ≤ 24) :
    sq_X none n L P (fun I' => I' 228 2 = ((sw_bst (sw_A ev D B g v s N m) m).1 : Int) ∧ I' 228 3 = (sw_bst (sw_A ev D B g v s N m) m).2 ∧ sq_cf sq_SC I I') (mm_rn (d + 8) 4 [.inr (.inr (some 228)), .inr (.inr (some 40)), .inr (.inr (some t)), .inr (.inr lw), .inl ((m : Int))] n I L P) := by
  have hP2 := hP
  have hs8 : s ≤ 8 := hW.2.1.2.1
  have hg5 := hW.2.2.2
  obtain ⟨hn, htu, _, _, _, hNt, _, hC, _⟩ := hP
  have hA9 := hNt 229 (by omega)
  have ok9 := hA9.ok
  have ok8 : mm_ok n 228 0 := ⟨by omega, rfl⟩
  rw [eX0_findCryHour]
  simp (disch := (first | assumption | omega | exact nb_ix (by omega) (by assumption) (by omega) (by omega) | exact nb_ix (by omega) rfl (by omega) (by omega) | exact nb_ok (by omega) rfl | decide)) only [kX0_findCryHour, hC, nb_add, nb_sub, nb_mul, Int.toNat_natCast, mm_kr_s, mm_kv_s, if_pos, if_neg, sq_tn, Int.toNat_zero, Int.reduceToNat, Int.reduceNeg, Nat.reduceAdd, Int.reduceAdd, Int.reduceEq, Int.reduceLT, Int.reduceLE, Int.zero_add, nb_ui_s, nb_ui_k, nb_ui_a, sp_min, sp_max, sp_bits]
  refine sq_kv (sq_ccopy (d := d + 6) hA9 (hNt 40 (by omega)) (by omega) hN) (fun J hJ => ?_)
  simp (disch := (first | assumption | omega | exact nb_ix (by omega) (by assumption) (by omega) (by omega) | exact nb_ix (by omega) rfl (by omega) (by omega) | exact nb_ok (by omega) rfl | decide)) only [kX0_findCryHour, hC, nb_add, nb_sub, nb_mul, Int.toNat_natCast, mm_kr_s, mm_kv_s, if_pos, if_neg, sq_tn, Int.toNat_zero, Int.reduceToNat, Int.reduceNeg, Nat.reduceAdd, Int.reduceAdd, Int.reduceEq, Int.reduceLT, Int.reduceLE, Int.zero_add, nb_ui_s, nb_ui_k, nb_ui_a, sp_min, sp_max, sp_bits]
  refine sq_loop2 (fun i (x : mm_V) (J : mm_I) => mm_E (d + 7) 4 14 [.inr (.inr (some 228)), .inr (.inr (some 40)), .inr (.inr (some t)), .inr (.inr lw), .inl ((m : Int)), .inl (sw_sm (sw_live ev D B g s) s i N), .inl ((i : Nat)), x] [] [] n J L P) (fun i _ J => sq_cN J 229 (sw_it (sw_live ev D B g s) i N) ∧ sq_cf sq_SC I J ∧ (0 < i → J 228 2 = ((sw_bst (sw_A ev D B g v s N m) (i - 1)).1 : Int) ∧ J 228 3 = (sw_bst (sw_A ev D B g v s N m) (i - 1)).2)) (m + 1) (s0 := mm_junk) (t0 := J) ⟨hJ.1, sq_cf_sub (sq_cf_of hJ.2 (by decide)) (by decide), fun h => by omega⟩ ?_ ?_
  · intro i x J hi ⟨h1, h2, h3⟩ ih
    have lr := sw_sm_rg (ev := ev) (D := D) (B := B) hok hs8 hg5 i
    have hoki := sw_it_ok (ev := ev) (D := D) (B := B) hok hs8 hg5 i
    have h29 := sw_it_29 (ev := ev) (D := D) (B := B) (g := g) (s := s) (N := N) i
    have lr2 := sv_lost_rg hoki hs8
    have lr3 := sw_sm_rg (ev := ev) (D := D) (B := B) (sw_hush_ok (D := D) (v := v) hoki) hs8 hg5 (m - i)
    have hW2 := sq_CW_keep hW h2 sq_SC_ge
    have e4 : sw_sm (sw_live ev D B g s) s i N + sv_lost (sw_it (sw_live ev D B g s) i N) s = sw_sm (sw_live ev D B g s) s (i + 1) N := rfl
    have e5 : sw_sm (sw_live ev D B g s) s i N + sw_sm (sw_live ev D B g s) s (m - i) (sw_hush D v s (sw_it (sw_live ev D B g s) i N)) = sw_A ev D B g v s N m i := rfl
    have e6 : (m : Int) - (i : Int) = ((m - i : Nat) : Int) := by omega
    rw [hX0_findCryHour_14]
    simp (disch := (first | assumption | omega | exact nb_ix (by omega) (by assumption) (by omega) (by omega) | exact nb_ix (by omega) rfl (by omega) (by omega) | exact nb_ok (by omega) rfl | decide)) only [kX0_findCryHour, hC, e6, nb_add, nb_sub, nb_mul, Int.toNat_natCast, mm_kr_s, mm_kv_s, if_pos, if_neg, sq_tn, Int.toNat_zero, Int.reduceToNat, Int.reduceNeg, Nat.reduceAdd, Int.reduceAdd, Int.reduceEq, Int.reduceLT, Int.reduceLE, Int.zero_add, nb_ui_s, nb_ui_k, nb_ui_a, sp_min, sp_max, sp_bits]
    refine sq_kr (sq_cbehind hd hP2 hW2 hs1 hA9 (by omega) h1 hoki (by omega) (by omega)) (fun K hK => ?_)
    have hK9 : sq_cN K 229 (sw_it (sw_live ev D B g s) i N) := by
      intro j hj
      rw [← h1 j hj]
      unfold sq_rd
      rw [sq_cf_ge hK (b := 230) (by decide) (by omega), sq_cf_ge hK (b := 231) (by decide) (by omega), sq_cf_ge hK (b := 232) (by decide) (by omega), sq_cf_ge hK (b := 229) (by decide) (by omega)]
    have hK8 : K 228 = J 228 := sq_cf_ge hK (by decide) (by omega)
    have hKc : sq_cf sq_SC I K := sq_cf_trans h2 hK (fun _ h => h) (by decide)
    have fin : ∀ M : mm_I, M 229 = K 229 → M 230 = K 230 → M 231 = K 231 → M 232 = K 232 → sq_cf sq_SC I M → M 228 2 = ((sw_bst (sw_A ev D B g v s N m) i).1 : Int) → M 228 3 = (sw_bst (sw_A ev D B g v s N m) i).2 → sq_X none n L P (fun I' => I' 228 2 = ((sw_bst (sw_A ev D B g v s N m) m).1 : Int) ∧ I' 228 3 = (sw_bst (sw_A ev D B g v s N m) m).2 ∧ sq_cf sq_SC I I') (mm_E (d + 7) 4 75 [.inr (.inr (some 228)), .inr (.inr (some 40)), .inr (.inr (some t)), .inr (.inr lw), .inl ((m : Int)), .inl (sw_sm (sw_live ev D B g s) s i N), .inl ((i : Nat)), .inl (sw_A ev D B g v s N m i)] [] [.inr (.inr lw), .inr (.inr (some t)), .inr (.inr (P 228 0)), .inl (sw_sm (sw_live ev D B g s) s i N)] n M L P) := by
      intro M m1 m2 m3 m4 m5 m6 m7
      have hM9 : sq_cN M 229 (sw_it (sw_live ev D B g s) i N) := by
        intro j hj
        rw [← hK9 j hj]
        unfold sq_rd
        rw [m1, m2, m3, m4]
      have hW3 := sq_CW_keep hW m5 sq_SC_ge
      simp (disch := (first | assumption | omega | exact nb_ix (by omega) (by assumption) (by omega) (by omega) | exact nb_ix (by omega) rfl (by omega) (by omega) | exact nb_ok (by omega) rfl | decide)) only [kX0_findCryHour, hC, nb_add, nb_sub, nb_mul, Int.toNat_natCast, mm_kr_s, mm_kv_s, if_pos, if_neg, sq_tn, Int.toNat_zero, Int.reduceToNat, Int.reduceNeg, Nat.reduceAdd, Int.reduceAdd, Int.reduceEq, Int.reduceLT, Int.reduceLE, Int.zero_add, nb_ui_s, nb_ui_k, nb_ui_a, sp_min, sp_max, sp_bits]
      refine sq_kr (sq_chour (d := d + 2) (by omega) (by omega) hA9 hW3.1 hW3.2.1 hW3.2.2.1 hM9 hoki (by omega)) (fun Q hQ => ?_)
      have hQ8 : Q 228 = M 228 := sq_cf_ge hQ.2 (by decide) (by omega)
      simp (disch := (first | assumption | omega | exact nb_ix (by omega) (by assumption) (by omega) (by omega) | exact nb_ix (by omega) rfl (by omega) (by omega) | exact nb_ok (by omega) rfl | decide)) only [kX0_findCryHour, e4, nb_add, nb_sub, nb_mul, Int.toNat_natCast, mm_kr_s, mm_kv_s, if_pos, if_neg, sq_tn, Int.toNat_zero, Int.reduceToNat, Int.reduceNeg, Nat.reduceAdd, Int.reduceAdd, Int.reduceEq, Int.reduceLT, Int.reduceLE, Int.zero_add, nb_ui_s, nb_ui_k, nb_ui_a, sp_min, sp_max, sp_bits]
      refine ih _ _ ⟨hQ.1, sq_cf_trans m5 hQ.2 (fun _ h => h) (by decide), fun _ => ?_⟩
      rw [hQ8, Nat.add_sub_cancel]
      exact ⟨m6, m7⟩
    cases i with
    | zero =>
      simp (disch := (first | assumption | omega | exact nb_ix (by omega) (by assumption) (by omega) (by omega) | exact nb_ix (by omega) rfl (by omega) (by omega) | exact nb_ok (by omega) rfl | decide)) only [kX0_findCryHour, e5, nb_add, nb_sub, nb_mul, Int.toNat_natCast, mm_kr_s, mm_kv_s, if_pos, if_neg, sq_tn, Int.toNat_zero, Int.reduceToNat, Int.reduceNeg, Nat.reduceAdd, Int.reduceAdd, Int.reduceEq, Int.reduceLT, Int.reduceLE, Int.zero_add, nb_ui_s, nb_ui_k, nb_ui_a, sp_min, sp_max, sp_bits]
      refine fin _ ?_ ?_ ?_ ?_ ?_ ?_ ?_
      all_goals first
        | (simp (disch := decide) only [nb_ui_r]; done)
        | (refine sq_cf_up (sq_cf_up hKc (by decide) (by decide)) (by decide) (by decide); done)
        | (simp [mm_ui, sw_bst]; done)
    | succ i =>
      obtain ⟨h3a, h3b⟩ := h3 (by omega)
      rw [Nat.add_sub_cancel] at h3a h3b
      have e7 : K 228 3 = (sw_bst (sw_A ev D B g v s N m) i).2 := by rw [hK8]; exact h3b
      have e8 : sw_bst (sw_A ev D B g v s N m) (i + 1) = if sw_A ev D B g v s N m (i + 1) < (sw_bst (sw_A ev D B g v s N m) i).2 then (i + 1, sw_A ev D B g v s N m (i + 1)) else sw_bst (sw_A ev D B g v s N m) i := rfl
      have hi0 : ¬ ((i + 1 : Nat) : Int) = 0 := by omega
      by_cases hlt : sw_A ev D B g v s N m (i + 1) < (sw_bst (sw_A ev D B g v s N m) i).2
      · rw [if_pos hlt] at e8
        simp (disch := (first | assumption | omega | exact nb_ix (by omega) (by assumption) (by omega) (by omega) | exact nb_ix (by omega) rfl (by omega) (by omega) | exact nb_ok (by omega) rfl | decide)) only [kX0_findCryHour, e5, e7, nb_add, nb_sub, nb_mul, Int.toNat_natCast, mm_kr_s, mm_kv_s, if_pos, if_neg, sq_tn, Int.toNat_zero, Int.reduceToNat, Int.reduceNeg, Nat.reduceAdd, Int.reduceAdd, Int.reduceEq, Int.reduceLT, Int.reduceLE, Int.zero_add, nb_ui_s, nb_ui_k, nb_ui_a, sp_min, sp_max, sp_bits]
        refine fin _ ?_ ?_ ?_ ?_ ?_ ?_ ?_
        all_goals first
          | (simp (disch := decide) only [nb_ui_r]; done)
          | (refine sq_cf_up (sq_cf_up hKc (by decide) (by decide)) (by decide) (by decide); done)
          | (rw [e8]; simp [mm_ui]; done)
      · rw [if_neg hlt] at e8
        simp (disch := (first | assumption | omega | exact nb_ix (by omega) (by assumption) (by omega) (by omega) | exact nb_ix (by omega) rfl (by omega) (by omega) | exact nb_ok (by omega) rfl | decide)) only [kX0_findCryHour, e5, e7, nb_add, nb_sub, nb_mul, Int.toNat_natCast, mm_kr_s, mm_kv_s, if_pos, if_neg, sq_tn, Int.toNat_zero, Int.reduceToNat, Int.reduceNeg, Nat.reduceAdd, Int.reduceAdd, Int.reduceEq, Int.reduceLT, Int.reduceLE, Int.zero_add, nb_ui_s, nb_ui_k, nb_ui_a, sp_min, sp_max, sp_bits]
        refine fin K rfl rfl rfl rfl hKc ?_ ?_
        · rw [e8, hK8]; exact h3a
        · rw [e8]; exact e7
  · intro x J ⟨h1, h2, h3⟩
    rw [hX0_findCryHour_14]
    simp (disch := (first | assumption | omega | exact nb_ix (by omega) (by assumption) (by omega) (by omega) | exact nb_ix (by omega) rfl (by omega) (by omega) | exact nb_ok (by omega) rfl | decide)) only [kX0_findCryHour, nb_add, nb_sub, nb_mul, Int.toNat_natCast, mm_kr_s, mm_kv_s, if_pos, if_neg, sq_tn, Int.toNat_zero, Int.reduceToNat, Int.reduceNeg, Nat.reduceAdd, Int.reduceAdd, Int.reduceEq, Int.reduceLT, Int.reduceLE, Int.zero_add, nb_ui_s, nb_ui_k, nb_ui_a, sp_min, sp_max, sp_bits]
    have := h3 (by omega)
    rw [Nat.add_sub_cancel] at this
    exact sq_ret ⟨this.1, this.2, h2⟩
set_option maxHeartbeats 1000000 in
theorem sq_cquiet (hd : c ≤ d) (hP : sq_P n P t u) (hW : sq_CW n c P I t s D B g v lw ev) (hN : sq_cN I 40 N) (hok : sv_ok s N) (hh : N 29 ≤ 9999) :
    sq_X (some (.inl (sw_first (fun i => decide (sv_am (sw_it (sw_live ev D B g s) i N) s = 0)) 100 0))) n L P (sq_cf sq_SC I) (mm_rn (d + 8) 5 [.inr (.inr (some 228)), .inr (.inr (some 40)), .inr (.inr (some t)), .inr (.inr lw)] n I L P) := by
  have hs8 : s ≤ 8 := hW.2.1.2.1
  have hg5 := hW.2.2.2
  obtain ⟨hn, htu, _, _, _, hNt, _, hC, _⟩ := hP
  have hA9 := hNt 229 (by omega)
  have ok9 := hA9.ok
  rw [eX0_quietHour]
  simp (disch := (first | assumption | omega | exact nb_ix (by omega) (by assumption) (by omega) (by omega) | exact nb_ix (by omega) rfl (by omega) (by omega) | exact nb_ok (by omega) rfl | decide)) only [kX0_quietHour, hC, nb_add, nb_sub, nb_mul, Int.toNat_natCast, mm_kr_s, mm_kv_s, if_pos, if_neg, sq_tn, Int.toNat_zero, Int.reduceToNat, Int.reduceNeg, Nat.reduceAdd, Int.reduceAdd, Int.reduceEq, Int.reduceLT, Int.reduceLE, Int.zero_add, nb_ui_s, nb_ui_k, nb_ui_a, sp_min, sp_max, sp_bits]
  refine sq_kv (sq_ccopy (d := d + 6) hA9 (hNt 40 (by omega)) (by omega) hN) (fun J hJ => ?_)
  simp (disch := (first | assumption | omega | exact nb_ix (by omega) (by assumption) (by omega) (by omega) | exact nb_ix (by omega) rfl (by omega) (by omega) | exact nb_ok (by omega) rfl | decide)) only [kX0_quietHour, hC, nb_add, nb_sub, nb_mul, Int.toNat_natCast, mm_kr_s, mm_kv_s, if_pos, if_neg, sq_tn, Int.toNat_zero, Int.reduceToNat, Int.reduceNeg, Nat.reduceAdd, Int.reduceAdd, Int.reduceEq, Int.reduceLT, Int.reduceLE, Int.zero_add, nb_ui_s, nb_ui_k, nb_ui_a, sp_min, sp_max, sp_bits]
  refine sq_loop (fun i (J : mm_I) => mm_E (d + 7) 5 11 [.inr (.inr (some 228)), .inr (.inr (some 40)), .inr (.inr (some t)), .inr (.inr lw), .inl ((i : Nat))] [] [] n J L P) (fun i J => sq_cN J 229 (sw_it (sw_live ev D B g s) i N) ∧ sq_cf sq_SC I J ∧ sw_first (fun i => decide (sv_am (sw_it (sw_live ev D B g s) i N) s = 0)) 100 0 = sw_first (fun i => decide (sv_am (sw_it (sw_live ev D B g s) i N) s = 0)) (100 - i) i) 100 (s0 := J) ⟨hJ.1, sq_cf_sub (sq_cf_of hJ.2 (by decide)) (by decide), rfl⟩ ?_ ?_
  · intro i J hi ⟨h1, h2, h3⟩ ih
    have hoki := sw_it_ok (ev := ev) (D := D) (B := B) hok hs8 hg5 i
    have h29 := sw_it_29 (ev := ev) (D := D) (B := B) (g := g) (s := s) (N := N) i
    have etr := sq_ctroub (d := d + 6) (n := n) (L := L) (P := P) hA9 hs8 h1 hoki
    have hW2 := sq_CW_keep hW h2 sq_SC_ge
    have e1 : 100 - i = (100 - (i + 1)) + 1 := by omega
    have h4 : sw_first (fun i => decide (sv_am (sw_it (sw_live ev D B g s) i N) s = 0)) (100 - (i + 1) + 1) i = if decide (sv_am (sw_it (sw_live ev D B g s) i N) s = 0) = true then (i : Int) else sw_first (fun i => decide (sv_am (sw_it (sw_live ev D B g s) i N) s = 0)) (100 - (i + 1)) (i + 1) := rfl
    rw [e1, h4] at h3
    rw [hX0_quietHour_11]
    by_cases hq : sv_am (sw_it (sw_live ev D B g s) i N) s = 0
    · rw [hq] at etr
      have etr2 : mm_rn (d + 6 + 1) 42 [.inr (.inr (some 229))] n J L P = some (some (.inl 0), n, J, L, P) := etr
      simp (disch := (first | assumption | omega | exact nb_ix (by omega) (by assumption) (by omega) (by omega) | exact nb_ix (by omega) rfl (by omega) (by omega) | exact nb_ok (by omega) rfl | decide)) only [kX0_quietHour, hC, etr2, nb_add, nb_sub, nb_mul, Int.toNat_natCast, mm_kr_s, mm_kv_s, if_pos, if_neg, sq_tn, Int.toNat_zero, Int.reduceToNat, Int.reduceNeg, Nat.reduceAdd, Int.reduceAdd, Int.reduceEq, Int.reduceLT, Int.reduceLE, Int.zero_add, nb_ui_s, nb_ui_k, nb_ui_a, sp_min, sp_max, sp_bits]
      refine sq_ret2 ?_ h2
      rw [h3]
      simp [hq]
    · have hq2 : ¬ (sv_am (sw_it (sw_live ev D B g s) i N) s : Int) = 0 := by omega
      simp (disch := (first | assumption | omega | exact nb_ix (by omega) (by assumption) (by omega) (by omega) | exact nb_ix (by omega) rfl (by omega) (by omega) | exact nb_ok (by omega) rfl | decide)) only [kX0_quietHour, hC, etr, nb_add, nb_sub, nb_mul, Int.toNat_natCast, mm_kr_s, mm_kv_s, if_pos, if_neg, sq_tn, Int.toNat_zero, Int.reduceToNat, Int.reduceNeg, Nat.reduceAdd, Int.reduceAdd, Int.reduceEq, Int.reduceLT, Int.reduceLE, Int.zero_add, nb_ui_s, nb_ui_k, nb_ui_a, sp_min, sp_max, sp_bits]
      refine sq_kr (sq_chour (d := d + 2) (by omega) (by omega) hA9 hW2.1 hW2.2.1 hW2.2.2.1 h1 hoki (by omega)) (fun Q hQ => ?_)
      simp (disch := (first | assumption | omega | exact nb_ix (by omega) (by assumption) (by omega) (by omega) | exact nb_ix (by omega) rfl (by omega) (by omega) | exact nb_ok (by omega) rfl | decide)) only [kX0_quietHour, nb_add, nb_sub, nb_mul, Int.toNat_natCast, mm_kr_s, mm_kv_s, if_pos, if_neg, sq_tn, Int.toNat_zero, Int.reduceToNat, Int.reduceNeg, Nat.reduceAdd, Int.reduceAdd, Int.reduceEq, Int.reduceLT, Int.reduceLE, Int.zero_add, nb_ui_s, nb_ui_k, nb_ui_a, sp_min, sp_max, sp_bits]
      refine ih _ ⟨hQ.1, sq_cf_trans h2 hQ.2 (fun _ h => h) (by decide), ?_⟩
      rw [h3]
      simp [hq]
  · intro J ⟨h1, h2, h3⟩
    rw [hX0_quietHour_11]
    simp (disch := (first | assumption | omega | exact nb_ix (by omega) (by assumption) (by omega) (by omega) | exact nb_ix (by omega) rfl (by omega) (by omega) | exact nb_ok (by omega) rfl | decide)) only [kX0_quietHour, nb_add, nb_sub, nb_mul, Int.toNat_natCast, mm_kr_s, mm_kv_s, if_pos, if_neg, sq_tn, Int.toNat_zero, Int.reduceToNat, Int.reduceNeg, Nat.reduceAdd, Int.reduceAdd, Int.reduceEq, Int.reduceLT, Int.reduceLE, Int.zero_add, nb_ui_s, nb_ui_k, nb_ui_a, sp_min, sp_max, sp_bits]
    refine sq_ret2 ?_ h2
    rw [h3]
    rfl
end CA
