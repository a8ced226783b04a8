/-! acts of the class -/
section AC
variable {n c t u s d nx na : Nat} {I L : mm_I} {P : mm_P} {D : Nat → Int} {B : Nat → Nat} {g v : Int} {lw : Option Nat} {ev : sv_E} {N : Nat → Int} {H : Nat → Nat → Int}
theorem sq_cref0 (hP : sq_P n P t u) : mm_rn (d + 1) 98 [.inr (.inr (some 0)), .inl 0] n I L P = some (some (.inl (-1)), n, mm_ui I 238 0 (mm_add (I 238 0) 1), L, P) := sq_cref (k := 0) hP (by omega)
theorem sq_mref0' (hM : sp_M n P) : mm_rn (d + 1) 206 [.inr (.inr (some 239)), .inl 0] n I L P = some (some (.inl 1), n, mm_ui I 258 0 (mm_add (I 258 0) 1), L, P) := sq_mref (k := 0) hM (by omega)
theorem sq_cref1 (hP : sq_P n P t u) : mm_rn (d + 1) 98 [.inr (.inr (some 0)), .inl 1] n I L P = some (some (.inl (-1)), n, mm_ui I 238 1 (mm_add (I 238 1) 1), L, P) := sq_cref (k := 1) hP (by omega)
theorem sq_mref1' (hM : sp_M n P) : mm_rn (d + 1) 206 [.inr (.inr (some 239)), .inl 1] n I L P = some (some (.inl 1), n, mm_ui I 258 1 (mm_add (I 258 1) 1), L, P) := sq_mref (k := 1) hM (by omega)
theorem sq_cref2 (hP : sq_P n P t u) : mm_rn (d + 1) 98 [.inr (.inr (some 0)), .inl 2] n I L P = some (some (.inl (-1)), n, mm_ui I 238 2 (mm_add (I 238 2) 1), L, P) := sq_cref (k := 2) hP (by omega)
theorem sq_mref2' (hM : sp_M n P) : mm_rn (d + 1) 206 [.inr (.inr (some 239)), .inl 2] n I L P = some (some (.inl 1), n, mm_ui I 258 2 (mm_add (I 258 2) 1), L, P) := sq_mref (k := 2) hM (by omega)
theorem sq_cref3 (hP : sq_P n P t u) : mm_rn (d + 1) 98 [.inr (.inr (some 0)), .inl 3] n I L P = some (some (.inl (-1)), n, mm_ui I 238 3 (mm_add (I 238 3) 1), L, P) := sq_cref (k := 3) hP (by omega)
theorem sq_mref3' (hM : sp_M n P) : mm_rn (d + 1) 206 [.inr (.inr (some 239)), .inl 3] n I L P = some (some (.inl 1), n, mm_ui I 258 3 (mm_add (I 258 3) 1), L, P) := sq_mref (k := 3) hM (by omega)
theorem sq_cref4 (hP : sq_P n P t u) : mm_rn (d + 1) 98 [.inr (.inr (some 0)), .inl 4] n I L P = some (some (.inl (-1)), n, mm_ui I 238 4 (mm_add (I 238 4) 1), L, P) := sq_cref (k := 4) hP (by omega)
theorem sq_mref4' (hM : sp_M n P) : mm_rn (d + 1) 206 [.inr (.inr (some 239)), .inl 4] n I L P = some (some (.inl 1), n, mm_ui I 258 4 (mm_add (I 258 4) 1), L, P) := sq_mref (k := 4) hM (by omega)
theorem rc_past_keep {I I' : mm_I} (h : rc_past I nx na H) (e : ∀ b, (b = 48 ∨ (50 ≤ b ∧ b < 210)) → I' b = I b) : rc_past I' nx na H := by
  obtain ⟨p1, p2, p3, p4, p5⟩ := h
  unfold rc_past
  rw [e 48 (by omega)]
  refine ⟨p1, p2, p3, p4, fun i hi => sq_cN_rows (p5 i hi) (fun k hk => e _ (by omega))⟩
theorem sq_AC_ref {N' : Nat → Int} {k : Nat} : sq_AC nx na H N N' (k : Int) I (mm_ui I 238 k (mm_add (I 238 k) 1)) := ⟨fun h => by omega, fun _ => by rw [Int.toNat_natCast]⟩
theorem sq_AC_done {N' : Nat → Int} {J K : mm_I} (hJ : rc_past J (sk_nx nx) (sk_na na) (sk_H na H N) ∧ (∀ b, b ≠ 48 → ¬ (50 ≤ b ∧ b < 210) → J b = I b)) (hK : ∀ b, (b < 40 ∨ 44 ≤ b) → K b = J b) (hN' : sq_cN K 40 N') : sq_AC nx na H N N' (-1) I K := by
  refine ⟨fun _ => ⟨hN', rc_past_keep hJ.1 (fun b hb => hK b (by omega)), fun b hb => ?_⟩, fun h => absurd rfl h⟩
  rw [hK b (by omega), hJ.2 b (by omega) (by omega)]
def ra_walk (s : Nat) (B : Nat → Nat) (N : Nat → Int) (x : Int) : Int := if ¬ (0 ≤ x ∧ x < s) then 0 else if ¬ Nat.testBit (B (N 24).toNat) x.toNat = true then 2 else if N 25 < 1 then 3 else -1
def rN_walk (N : Nat → Int) (x : Int) : Nat → Int := fun j => if j = 24 then x else if j = 25 then N 25 - 1 else N j
def ra_cry (s : Nat) (N : Nat → Int) : Int := if s = 0 then 0 else if N 26 < 3 then 3 else -1
def rN_cry0 (N : Nat → Int) : Nat → Int := fun j => if j = 26 then 0 else N j
def ra_whi (s : Nat) (N : Nat → Int) : Int := if s = 0 then 0 else if N (16 + (N 24).toNat) < 1 then 2 else if N 26 < 1 then 3 else -1
def rN_whi (N : Nat → Int) : Nat → Int := fun j => if j = 26 then N 26 - 1 else if j = 16 + (N 24).toNat then max 0 (N (16 + (N 24).toNat) - 3) else N j
def ra_heir (s : Nat) (N : Nat → Int) : Int := if s = 0 then 0 else if 3 ≤ N 26 then 2 else if N 27 < 5 then 3 else -1
def rN_heir (N : Nat → Int) : Nat → Int := fun j => if j = 24 then 0 else if j = 26 then 3 else if j = 27 then N 27 - 5 else N j
def ra_beg (s : Nat) (N : Nat → Int) (p k z : Int) : Int := if ¬ (0 ≤ p ∧ p < s) then 0 else if ¬ ((0 ≤ k ∧ k ≤ 2) ∧ 1 ≤ z ∧ z ≤ 9) then 1 else if 0 < N (16 + p.toNat) then 2 else -1
def ra_give (s : Nat) (N : Nat → Int) (x : Int) : Int := if s = 0 then 0 else if ¬ (1 ≤ x ∧ x ≤ 50) then 1 else if 999 < N 27 + x then 3 else -1
def rN_give (N : Nat → Int) (x : Int) : Nat → Int := fun j => if j = 27 then N 27 + x else N j
theorem oa_walk (hC : sq_CC n c P I t u s D B g v lw ev N) (hA : rc_past I nx na H) (x : Int) : sq_X (some (.inl (if ra_walk s B N x = -1 then N 25 - 1 else -1))) n L P (sq_AC nx na H N (rN_walk N x) (ra_walk s B N x) I) (mm_rn (d + 10) 101 [.inr (.inr (some 0)), .inl x] n I L P) := by
  obtain ⟨hP, hW, hLW, hN, hok, hh⟩ := hC
  have ok0 := sq_ok0 hP
  have hs : I t 0 = (s : Int) := hW.2.1.2.2.1
  have hs8 : s ≤ 8 := hW.2.1.2.1
  have hTP := hW.1
  have okt := hTP.ok
  have hC := hP.2.2.2.2.2.2.2.1
  have hPt := hP.2.2.2.2.2.2.1
  have hn := hP.1
  have ok40 := (hP.2.2.2.2.2.1 40 (by omega)).ok
  have ok48 : mm_ok n 48 6 := nb_ok (by omega) rfl
  rw [eX11_walk]
  by_cases h1 : 0 ≤ x ∧ x < (s : Int)
  case neg =>
    have hr : ra_walk s B N x = 0 := if_pos h1
    rw [hr, if_neg (by decide)]
    simp (disch := (first | assumption | omega | exact nb_ix (by omega) (by assumption) (by omega) (by omega) | exact nb_ix (by omega) rfl (by omega) (by omega) | exact nb_ok (by omega) rfl | decide)) only [kX11_walk, sp_has hTP, hs, hPt, sq_cref0 hP, ↓if_pos, ↓if_neg, nb_add, nb_sub, nb_mul, Int.toNat_natCast, mm_kr_s, mm_kv_s, if_pos, if_neg, sq_tn, Int.toNat_zero, Int.reduceToNat, Int.reduceNeg, Nat.reduceAdd, Int.reduceAdd, Int.reduceEq, Int.reduceLT, Int.reduceLE, Int.zero_add, nb_ui_s, nb_ui_k, nb_ui_a, sp_min, sp_max, sp_bits]
    exact sq_ret (sq_AC_ref (k := 0))
  obtain ⟨p, rfl⟩ : ∃ k : Nat, x = (k : Int) := ⟨x.toNat, by omega⟩
  obtain ⟨q, hq⟩ : ∃ q : Nat, N 24 = (q : Int) := ⟨(N 24).toNat, by have := hok.2.1; omega⟩
  have hqs : q < s := by have := hok.2.1; omega
  have hqn : (N 24).toNat = q := by omega
  obtain ⟨n1, n2, n3, nf3, nf4, nf⟩ := sq_cN_iff.1 hN
  have e3 : I 40 3 = (q : Int) := by rw [← hq]; exact nf3
  have hb := hW.2.1.2.2.2.2.2.1 q hqs
  have hj := sp_joined (d := d + 6) (L := L) hTP hs hs8 hqs (show p < s by omega) hb.1 hb.2
  by_cases h2 : Nat.testBit (B q) p = true
  case neg =>
    have hr : ra_walk s B N p = 2 := by
      unfold ra_walk
      rw [if_neg (not_not_intro h1), hqn, Int.toNat_natCast, if_pos h2]
    rw [hr, if_neg (by decide)]
    rw [if_neg h2] at hj
    simp (disch := (first | assumption | omega | exact nb_ix (by omega) (by assumption) (by omega) (by omega) | exact nb_ix (by omega) rfl (by omega) (by omega) | exact nb_ok (by omega) rfl | decide)) only [kX11_walk, sp_has hTP, hs, hPt, hC, e3, hj, sq_cref2 hP, ↓if_pos, ↓if_neg, nb_add, nb_sub, nb_mul, Int.toNat_natCast, mm_kr_s, mm_kv_s, if_pos, if_neg, sq_tn, Int.toNat_zero, Int.reduceToNat, Int.reduceNeg, Nat.reduceAdd, Int.reduceAdd, Int.reduceEq, Int.reduceLT, Int.reduceLE, Int.zero_add, nb_ui_s, nb_ui_k, nb_ui_a, sp_min, sp_max, sp_bits]
    exact sq_ret (sq_AC_ref (k := 2))
  rw [if_pos h2] at hj
  by_cases h3 : N 25 < 1
  case pos =>
    have hr : ra_walk s B N p = 3 := by
      unfold ra_walk
      rw [if_neg (not_not_intro h1), hqn, Int.toNat_natCast, if_neg (not_not_intro h2), if_pos h3]
    rw [hr, if_neg (by decide)]
    simp (disch := (first | assumption | omega | exact nb_ix (by omega) (by assumption) (by omega) (by omega) | exact nb_ix (by omega) rfl (by omega) (by omega) | exact nb_ok (by omega) rfl | decide)) only [kX11_walk, sp_has hTP, hs, hPt, hC, e3, hj, nf4, sq_cref3 hP, ↓if_pos, ↓if_neg, nb_add, nb_sub, nb_mul, Int.toNat_natCast, mm_kr_s, mm_kv_s, if_pos, if_neg, sq_tn, Int.toNat_zero, Int.reduceToNat, Int.reduceNeg, Nat.reduceAdd, Int.reduceAdd, Int.reduceEq, Int.reduceLT, Int.reduceLE, Int.zero_add, nb_ui_s, nb_ui_k, nb_ui_a, sp_min, sp_max, sp_bits]
    exact sq_ret (sq_AC_ref (k := 3))
  have hr : ra_walk s B N p = -1 := by
    unfold ra_walk
    rw [if_neg (not_not_intro h1), hqn, Int.toNat_natCast, if_neg (not_not_intro h2), if_neg h3]
  rw [hr, if_pos rfl]
  simp (disch := (first | assumption | omega | exact nb_ix (by omega) (by assumption) (by omega) (by omega) | exact nb_ix (by omega) rfl (by omega) (by omega) | exact nb_ok (by omega) rfl | decide)) only [kX11_walk, sp_has hTP, hs, hPt, hC, e3, hj, nf4, ↓if_pos, ↓if_neg, nb_add, nb_sub, nb_mul, Int.toNat_natCast, mm_kr_s, mm_kv_s, if_pos, if_neg, sq_tn, Int.toNat_zero, Int.reduceToNat, Int.reduceNeg, Nat.reduceAdd, Int.reduceAdd, Int.reduceEq, Int.reduceLT, Int.reduceLE, Int.zero_add, nb_ui_s, nb_ui_k, nb_ui_a, sp_min, sp_max, sp_bits]
  refine sq_kv (sq_ckeep (d := d + 7) hP hN hA) (fun J hJ => ?_)
  have e40 : J 40 = I 40 := hJ.2 40 (by omega) (by omega)
  have l25 := hok.2.2.1
  simp (disch := (first | assumption | omega | exact nb_ix (by omega) (by assumption) (by omega) (by omega) | exact nb_ix (by omega) rfl (by omega) (by omega) | exact nb_ok (by omega) rfl | decide)) only [kX11_walk, hC, e40, nf4, ↓if_pos, ↓if_neg, nb_add, nb_sub, nb_mul, Int.toNat_natCast, mm_kr_s, mm_kv_s, if_pos, if_neg, sq_tn, Int.toNat_zero, Int.reduceToNat, Int.reduceNeg, Nat.reduceAdd, Int.reduceAdd, Int.reduceEq, Int.reduceLT, Int.reduceLE, Int.zero_add, nb_ui_s, nb_ui_k, nb_ui_a, sp_min, sp_max, sp_bits]
  refine sq_ret (sq_AC_done hJ (fun b hb => ?_) ?_)
  · rw [nb_ui_r (by omega), nb_ui_r (by omega)]
  · intro j hj
    have h4 := (sq_cN_rows (I' := J) hN (fun k hk => hJ.2 _ (by omega) (by omega))) j hj
    unfold rN_walk
    rw [← h4]
    unfold sq_rd mm_ui
    grind
theorem oa_cry (hC : sq_CC n c P I t u s D B g v lw ev N) (hA : rc_past I nx na H) : sq_X (some (.inl (if ra_cry s N = -1 then (sp_pc (sw_m D v s (rN_cry0 N)) : Nat) else -1))) n L P (sq_AC nx na H N (sw_hush D v s (rN_cry0 N)) (ra_cry s N) I) (mm_rn (d + 10) 102 [.inr (.inr (some 0))] n I L P) := by
  obtain ⟨hP, hW, hLW, hN, hok, hh⟩ := hC
  have ok0 := sq_ok0 hP
  have hs : I t 0 = (s : Int) := hW.2.1.2.2.1
  have hs8 : s ≤ 8 := hW.2.1.2.1
  have hC := hP.2.2.2.2.2.2.2.1
  have hPt := hP.2.2.2.2.2.2.1
  have hn := hP.1
  have hA40 := hP.2.2.2.2.2.1 40 (by omega)
  have ok40 := hA40.ok
  have ok48 : mm_ok n 48 6 := nb_ok (by omega) rfl
  obtain ⟨n1, n2, n3, nf3, nf4, nf5, nf⟩ := sq_cN_iff.1 hN
  rw [eX11_cry]
  by_cases h1 : s = 0
  · have hr : ra_cry s N = 0 := if_pos h1
    rw [hr, if_neg (by decide)]
    simp (disch := (first | assumption | omega | exact nb_ix (by omega) (by assumption) (by omega) (by omega) | exact nb_ix (by omega) rfl (by omega) (by omega) | exact nb_ok (by omega) rfl | decide)) only [kX11_cry, sq_noTown hP hs, sq_cref0 hP, ↓if_pos, ↓if_neg, nb_add, nb_sub, nb_mul, Int.toNat_natCast, mm_kr_s, mm_kv_s, if_pos, if_neg, sq_tn, Int.toNat_zero, Int.reduceToNat, Int.reduceNeg, Nat.reduceAdd, Int.reduceAdd, Int.reduceEq, Int.reduceLT, Int.reduceLE, Int.zero_add, nb_ui_s, nb_ui_k, nb_ui_a, sp_min, sp_max, sp_bits]
    exact sq_ret (sq_AC_ref (k := 0))
  by_cases h2 : N 26 < 3
  · have hr : ra_cry s N = 3 := by unfold ra_cry; rw [if_neg h1, if_pos h2]
    rw [hr, if_neg (by decide)]
    simp (disch := (first | assumption | omega | exact nb_ix (by omega) (by assumption) (by omega) (by omega) | exact nb_ix (by omega) rfl (by omega) (by omega) | exact nb_ok (by omega) rfl | decide)) only [kX11_cry, sq_noTown hP hs, hC, nf5, sq_cref3 hP, ↓if_pos, ↓if_neg, nb_add, nb_sub, nb_mul, Int.toNat_natCast, mm_kr_s, mm_kv_s, if_pos, if_neg, sq_tn, Int.toNat_zero, Int.reduceToNat, Int.reduceNeg, Nat.reduceAdd, Int.reduceAdd, Int.reduceEq, Int.reduceLT, Int.reduceLE, Int.zero_add, nb_ui_s, nb_ui_k, nb_ui_a, sp_min, sp_max, sp_bits]
    exact sq_ret (sq_AC_ref (k := 3))
  have hr : ra_cry s N = -1 := by unfold ra_cry; rw [if_neg h1, if_neg h2]
  rw [hr, if_pos rfl]
  simp (disch := (first | assumption | omega | exact nb_ix (by omega) (by assumption) (by omega) (by omega) | exact nb_ix (by omega) rfl (by omega) (by omega) | exact nb_ok (by omega) rfl | decide)) only [kX11_cry, sq_noTown hP hs, hC, nf5, ↓if_pos, ↓if_neg, nb_add, nb_sub, nb_mul, Int.toNat_natCast, mm_kr_s, mm_kv_s, if_pos, if_neg, sq_tn, Int.toNat_zero, Int.reduceToNat, Int.reduceNeg, Nat.reduceAdd, Int.reduceAdd, Int.reduceEq, Int.reduceLT, Int.reduceLE, Int.zero_add, nb_ui_s, nb_ui_k, nb_ui_a, sp_min, sp_max, sp_bits]
  refine sq_kv (sq_ckeep (d := d + 7) hP hN hA) (fun J hJ => ?_)
  have hJN := sq_cN_rows (I' := J) hN (fun k hk => hJ.2 _ (by omega) (by omega))
  have hJ2 : sq_cN (mm_ui J 40 5 0) 40 (rN_cry0 N) := by
    intro j hj
    have h4 := hJN j hj
    unfold rN_cry0
    rw [← h4]
    unfold sq_rd mm_ui
    grind
  have hok0 : sv_ok s (rN_cry0 N) := by
    obtain ⟨o1, o2⟩ := hok
    refine ⟨fun p hp => ?_, ?_⟩
    · have := o1 p hp
      unfold rN_cry0
      grind
    · unfold rN_cry0
      grind
  have ht13 := hW.2.1.1
  have hWJ : sq_CW n c P (mm_ui J 40 5 0) t s D B g v lw ev := by
    refine sq_CW_keep (l := sq_TL) hW ⟨fun b hb _ => ?_, fun b hb => ?_⟩ sq_TL_ge
    · rw [sq_TL_mem] at hb
      rw [nb_ui_r (by omega), hJ.2 b (by omega) (by omega)]
    · simp at hb
      rw [nb_ui_r (by omega), hJ.2 b (by omega) (by omega)]
  simp (disch := (first | assumption | omega | exact nb_ix (by omega) (by assumption) (by omega) (by omega) | exact nb_ix (by omega) rfl (by omega) (by omega) | exact nb_ok (by omega) rfl | decide)) only [kX11_cry, hC, hPt, ↓if_pos, ↓if_neg, nb_add, nb_sub, nb_mul, Int.toNat_natCast, mm_kr_s, mm_kv_s, if_pos, if_neg, sq_tn, Int.toNat_zero, Int.reduceToNat, Int.reduceNeg, Nat.reduceAdd, Int.reduceAdd, Int.reduceEq, Int.reduceLT, Int.reduceLE, Int.zero_add, nb_ui_s, nb_ui_k, nb_ui_a, sp_min, sp_max, sp_bits]
  refine sq_kr (sq_ccry (d := d + 6) hA40 hWJ (by omega) hJ2 hok0) (fun K hK => ?_)
  simp (disch := (first | assumption | omega | exact nb_ix (by omega) (by assumption) (by omega) (by omega) | exact nb_ix (by omega) rfl (by omega) (by omega) | exact nb_ok (by omega) rfl | decide)) only [kX11_cry, ↓if_pos, ↓if_neg, nb_add, nb_sub, nb_mul, Int.toNat_natCast, mm_kr_s, mm_kv_s, if_pos, if_neg, sq_tn, Int.toNat_zero, Int.reduceToNat, Int.reduceNeg, Nat.reduceAdd, Int.reduceAdd, Int.reduceEq, Int.reduceLT, Int.reduceLE, Int.zero_add, nb_ui_s, nb_ui_k, nb_ui_a, sp_min, sp_max, sp_bits]
  refine sq_ret (sq_AC_done hJ (fun b hb => ?_) hK.1)
  rw [hK.2 b (by simp; omega), nb_ui_r (by omega)]
theorem sq_clessen {a p : Nat} {z : Int} (hA : sp_N n P a) (hp : p < 8) (hr : 0 ≤ I (a + 3) p ∧ I (a + 3) p ≤ 9) (hz : 0 ≤ z ∧ z ≤ 9) : mm_rn (d + 2) 286 [.inr (.inr (some a)), .inl ((p : Int)), .inl z] n I L P = some (none, n, mm_ui I (a + 3) p (max 0 (I (a + 3) p - z)), L, P) := by
  have oka := hA.ok
  obtain ⟨a0, a1, a2, a3, a4, a5, a6, a7⟩ := hA
  have hin := sp_isIn (d := d) (n := n) (I := I) (L := L) (P := P) hp
  have hix : mm_ix n (a + 3) 20 (p : Int) := nb_ix a0 a4 (by omega) (by omega)
  rw [eX5_lessen]
  simp (disch := (first | assumption | omega | exact nb_ix (by omega) (by assumption) (by omega) (by omega) | exact nb_ix (by omega) rfl (by omega) (by omega) | exact nb_ok (by omega) rfl | decide)) only [kX5_lessen, hin, a7, ↓if_pos, ↓if_neg, nb_add, nb_sub, nb_mul, Int.toNat_natCast, mm_kr_s, mm_kv_s, if_pos, if_neg, sq_tn, Int.toNat_zero, Int.reduceToNat, Int.reduceNeg, Nat.reduceAdd, Int.reduceAdd, Int.reduceEq, Int.reduceLT, Int.reduceLE, Int.zero_add, nb_ui_s, nb_ui_k, nb_ui_a, sp_min, sp_max, sp_bits]
theorem oa_whi (hC : sq_CC n c P I t u s D B g v lw ev N) (hA : rc_past I nx na H) : sq_X (some (.inl (if ra_whi s N = -1 then max 0 (N (16 + (N 24).toNat) - 3) else -1))) n L P (sq_AC nx na H N (rN_whi N) (ra_whi s N) I) (mm_rn (d + 10) 103 [.inr (.inr (some 0))] n I L P) := by
  obtain ⟨hP, hW, hLW, hN, hok, hh⟩ := hC
  have ok0 := sq_ok0 hP
  have hs : I t 0 = (s : Int) := hW.2.1.2.2.1
  have hs8 : s ≤ 8 := hW.2.1.2.1
  have hC := hP.2.2.2.2.2.2.2.1
  have hn := hP.1
  have hA40 := hP.2.2.2.2.2.1 40 (by omega)
  have ok40 := hA40.ok
  have ok48 : mm_ok n 48 6 := nb_ok (by omega) rfl
  obtain ⟨a0, a1, a2, a3, a4, a5, a6, a7⟩ := hA40
  obtain ⟨n1, n2, n3, nf3, nf4, nf5, nf⟩ := sq_cN_iff.1 hN
  have hA0 := hP.2.2.2.2.2.1 40 (by omega)
  rw [eX11_whisper]
  by_cases h1 : s = 0
  · have hr : ra_whi s N = 0 := if_pos h1
    rw [hr, if_neg (by decide)]
    simp (disch := (first | assumption | omega | exact nb_ix (by omega) (by assumption) (by omega) (by omega) | exact nb_ix (by omega) rfl (by omega) (by omega) | exact nb_ok (by omega) rfl | decide)) only [kX11_whisper, sq_noTown hP hs, sq_cref0 hP, ↓if_pos, ↓if_neg, nb_add, nb_sub, nb_mul, Int.toNat_natCast, mm_kr_s, mm_kv_s, if_pos, if_neg, sq_tn, Int.toNat_zero, Int.reduceToNat, Int.reduceNeg, Nat.reduceAdd, Int.reduceAdd, Int.reduceEq, Int.reduceLT, Int.reduceLE, Int.zero_add, nb_ui_s, nb_ui_k, nb_ui_a, sp_min, sp_max, sp_bits]
    exact sq_ret (sq_AC_ref (k := 0))
  obtain ⟨q, hq⟩ : ∃ q : Nat, N 24 = (q : Int) := ⟨(N 24).toNat, by have := hok.2.1; omega⟩
  have hqs : q < s := by have := hok.2.1; omega
  have hqn : (N 24).toNat = q := by omega
  have e3 : I 40 3 = (q : Int) := by rw [← hq]; exact nf3
  have ez := n3 q (by omega)
  have zr := (hok.1 q (by omega)).2.2.1
  have cr := hok.2.2.2.1
  have hsz0 := sp_sizeIn (d := d + 7) (I := I) (L := L) hA0 (show q < 8 by omega)
  rw [ez] at hsz0
  rw [hqn]
  by_cases h2 : N (16 + q) < 1
  · have hr : ra_whi s N = 2 := by unfold ra_whi; rw [if_neg h1, hqn, if_pos h2]
    rw [hr, if_neg (by decide)]
    simp (disch := (first | assumption | omega | exact nb_ix (by omega) (by assumption) (by omega) (by omega) | exact nb_ix (by omega) rfl (by omega) (by omega) | exact nb_ok (by omega) rfl | decide)) only [kX11_whisper, sq_noTown hP hs, hC, e3, hsz0, sq_cref2 hP, ↓if_pos, ↓if_neg, nb_add, nb_sub, nb_mul, Int.toNat_natCast, mm_kr_s, mm_kv_s, if_pos, if_neg, sq_tn, Int.toNat_zero, Int.reduceToNat, Int.reduceNeg, Nat.reduceAdd, Int.reduceAdd, Int.reduceEq, Int.reduceLT, Int.reduceLE, Int.zero_add, nb_ui_s, nb_ui_k, nb_ui_a, sp_min, sp_max, sp_bits]
    exact sq_ret (sq_AC_ref (k := 2))
  by_cases h3 : N 26 < 1
  · have hr : ra_whi s N = 3 := by unfold ra_whi; rw [if_neg h1, hqn, if_neg h2, if_pos h3]
    rw [hr, if_neg (by decide)]
    simp (disch := (first | assumption | omega | exact nb_ix (by omega) (by assumption) (by omega) (by omega) | exact nb_ix (by omega) rfl (by omega) (by omega) | exact nb_ok (by omega) rfl | decide)) only [kX11_whisper, sq_noTown hP hs, hC, e3, hsz0, nf5, sq_cref3 hP, ↓if_pos, ↓if_neg, nb_add, nb_sub, nb_mul, Int.toNat_natCast, mm_kr_s, mm_kv_s, if_pos, if_neg, sq_tn, Int.toNat_zero, Int.reduceToNat, Int.reduceNeg, Nat.reduceAdd, Int.reduceAdd, Int.reduceEq, Int.reduceLT, Int.reduceLE, Int.zero_add, nb_ui_s, nb_ui_k, nb_ui_a, sp_min, sp_max, sp_bits]
    exact sq_ret (sq_AC_ref (k := 3))
  have hr : ra_whi s N = -1 := by unfold ra_whi; rw [if_neg h1, hqn, if_neg h2, if_neg h3]
  rw [hr, if_pos rfl]
  simp (disch := (first | assumption | omega | exact nb_ix (by omega) (by assumption) (by omega) (by omega) | exact nb_ix (by omega) rfl (by omega) (by omega) | exact nb_ok (by omega) rfl | decide)) only [kX11_whisper, sq_noTown hP hs, hC, e3, hsz0, nf5, ↓if_pos, ↓if_neg, nb_add, nb_sub, nb_mul, Int.toNat_natCast, mm_kr_s, mm_kv_s, if_pos, if_neg, sq_tn, Int.toNat_zero, Int.reduceToNat, Int.reduceNeg, Nat.reduceAdd, Int.reduceAdd, Int.reduceEq, Int.reduceLT, Int.reduceLE, Int.zero_add, nb_ui_s, nb_ui_k, nb_ui_a, sp_min, sp_max, sp_bits]
  refine sq_kv (sq_ckeep (d := d + 7) hP hN hA) (fun J hJ => ?_)
  have hJN := sq_cN_rows (I' := J) hN (fun k hk => hJ.2 _ (by omega) (by omega))
  have e40 : J 40 = I 40 := hJ.2 40 (by omega) (by omega)
  have e43 : J 43 = I 43 := hJ.2 43 (by omega) (by omega)
  have ez1 : mm_ui J 40 5 (N 26 - 1) (40 + 3) q = N (16 + q) := by rw [nb_ui_a (by decide), show J (40 + 3) = I (40 + 3) from e43]; exact ez
  have hle := sq_clessen (d := d + 7) (I := mm_ui J 40 5 (N 26 - 1)) (L := L) (z := 3) hA0 (show q < 8 by omega) (by rw [ez1]; omega) (by omega)
  rw [ez1] at hle
  have hsz : mm_rn (d + 9) 285 [.inr (.inr (some 40)), .inl ((q : Int))] n (mm_ui (mm_ui J 40 5 (N 26 - 1)) 43 q (max 0 (N (16 + q) - 3))) L P = some (some (.inl (max 0 (N (16 + q) - 3))), n, mm_ui (mm_ui J 40 5 (N 26 - 1)) 43 q (max 0 (N (16 + q) - 3)), L, P) := by
    have h := sp_sizeIn (d := d + 7) (I := mm_ui (mm_ui J 40 5 (N 26 - 1)) 43 q (max 0 (N (16 + q) - 3))) (L := L) hA0 (show q < 8 by omega)
    have e : mm_ui (mm_ui J 40 5 (N 26 - 1)) 43 q (max 0 (N (16 + q) - 3)) (40 + 3) q = max 0 (N (16 + q) - 3) := nb_ui_s
    rw [e] at h
    exact h
  have hle2 : mm_rn (d + 9) 286 [.inr (.inr (some 40)), .inl ((q : Int)), .inl 3] n (mm_ui J 40 5 (N 26 - 1)) L P = some (none, n, mm_ui (mm_ui J 40 5 (N 26 - 1)) 43 q (max 0 (N (16 + q) - 3)), L, P) := hle
  simp (disch := (first | assumption | omega | exact nb_ix (by omega) (by assumption) (by omega) (by omega) | exact nb_ix (by omega) rfl (by omega) (by omega) | exact nb_ok (by omega) rfl | decide)) only [kX11_whisper, hC, e40, e3, nf5, hle2, hsz, ↓if_pos, ↓if_neg, nb_add, nb_sub, nb_mul, Int.toNat_natCast, mm_kr_s, mm_kv_s, if_pos, if_neg, sq_tn, Int.toNat_zero, Int.reduceToNat, Int.reduceNeg, Nat.reduceAdd, Int.reduceAdd, Int.reduceEq, Int.reduceLT, Int.reduceLE, Int.zero_add, nb_ui_s, nb_ui_k, nb_ui_a, sp_min, sp_max, sp_bits]
  refine sq_ret (sq_AC_done hJ (fun b hb => ?_) ?_)
  · rw [nb_ui_r (by omega), nb_ui_r (by omega)]
  · intro j hj
    have h4 := hJN j hj
    unfold rN_whi
    rw [hqn, ← h4]
    unfold sq_rd mm_ui
    grind
theorem oa_heir (hC : sq_CC n c P I t u s D B g v lw ev N) (hA : rc_past I nx na H) : sq_X (some (.inl (if ra_heir s N = -1 then N 27 - 5 else -1))) n L P (sq_AC nx na H N (rN_heir N) (ra_heir s N) I) (mm_rn (d + 10) 104 [.inr (.inr (some 0))] n I L P) := by
  obtain ⟨hP, hW, hLW, hN, hok, hh⟩ := hC
  have ok0 := sq_ok0 hP
  have hs : I t 0 = (s : Int) := hW.2.1.2.2.1
  have hC := hP.2.2.2.2.2.2.2.1
  have hn := hP.1
  have ok40 := (hP.2.2.2.2.2.1 40 (by omega)).ok
  have ok48 : mm_ok n 48 6 := nb_ok (by omega) rfl
  obtain ⟨n1, n2, n3, nf3, nf4, nf5, nf6, nf⟩ := sq_cN_iff.1 hN
  have cr := hok.2.2.2.2.1
  rw [eX11_heir]
  by_cases h1 : s = 0
  · have hr : ra_heir s N = 0 := if_pos h1
    rw [hr, if_neg (by decide)]
    simp (disch := (first | assumption | omega | exact nb_ix (by omega) (by assumption) (by omega) (by omega) | exact nb_ix (by omega) rfl (by omega) (by omega) | exact nb_ok (by omega) rfl | decide)) only [kX11_heir, sq_noTown hP hs, sq_cref0 hP, ↓if_pos, ↓if_neg, nb_add, nb_sub, nb_mul, Int.toNat_natCast, mm_kr_s, mm_kv_s, if_pos, if_neg, sq_tn, Int.toNat_zero, Int.reduceToNat, Int.reduceNeg, Nat.reduceAdd, Int.reduceAdd, Int.reduceEq, Int.reduceLT, Int.reduceLE, Int.zero_add, nb_ui_s, nb_ui_k, nb_ui_a, sp_min, sp_max, sp_bits]
    exact sq_ret (sq_AC_ref (k := 0))
  by_cases h2 : 3 ≤ N 26
  · have hr : ra_heir s N = 2 := by unfold ra_heir; rw [if_neg h1, if_pos h2]
    rw [hr, if_neg (by decide)]
    simp (disch := (first | assumption | omega | exact nb_ix (by omega) (by assumption) (by omega) (by omega) | exact nb_ix (by omega) rfl (by omega) (by omega) | exact nb_ok (by omega) rfl | decide)) only [kX11_heir, sq_noTown hP hs, hC, nf5, sq_cref2 hP, ↓if_pos, ↓if_neg, nb_add, nb_sub, nb_mul, Int.toNat_natCast, mm_kr_s, mm_kv_s, if_pos, if_neg, sq_tn, Int.toNat_zero, Int.reduceToNat, Int.reduceNeg, Nat.reduceAdd, Int.reduceAdd, Int.reduceEq, Int.reduceLT, Int.reduceLE, Int.zero_add, nb_ui_s, nb_ui_k, nb_ui_a, sp_min, sp_max, sp_bits]
    exact sq_ret (sq_AC_ref (k := 2))
  by_cases h3 : N 27 < 5
  · have hr : ra_heir s N = 3 := by unfold ra_heir; rw [if_neg h1, if_neg h2, if_pos h3]
    rw [hr, if_neg (by decide)]
    simp (disch := (first | assumption | omega | exact nb_ix (by omega) (by assumption) (by omega) (by omega) | exact nb_ix (by omega) rfl (by omega) (by omega) | exact nb_ok (by omega) rfl | decide)) only [kX11_heir, sq_noTown hP hs, hC, nf5, nf6, sq_cref3 hP, ↓if_pos, ↓if_neg, nb_add, nb_sub, nb_mul, Int.toNat_natCast, mm_kr_s, mm_kv_s, if_pos, if_neg, sq_tn, Int.toNat_zero, Int.reduceToNat, Int.reduceNeg, Nat.reduceAdd, Int.reduceAdd, Int.reduceEq, Int.reduceLT, Int.reduceLE, Int.zero_add, nb_ui_s, nb_ui_k, nb_ui_a, sp_min, sp_max, sp_bits]
    exact sq_ret (sq_AC_ref (k := 3))
  have hr : ra_heir s N = -1 := by unfold ra_heir; rw [if_neg h1, if_neg h2, if_neg h3]
  rw [hr, if_pos rfl]
  simp (disch := (first | assumption | omega | exact nb_ix (by omega) (by assumption) (by omega) (by omega) | exact nb_ix (by omega) rfl (by omega) (by omega) | exact nb_ok (by omega) rfl | decide)) only [kX11_heir, sq_noTown hP hs, hC, nf5, nf6, ↓if_pos, ↓if_neg, nb_add, nb_sub, nb_mul, Int.toNat_natCast, mm_kr_s, mm_kv_s, if_pos, if_neg, sq_tn, Int.toNat_zero, Int.reduceToNat, Int.reduceNeg, Nat.reduceAdd, Int.reduceAdd, Int.reduceEq, Int.reduceLT, Int.reduceLE, Int.zero_add, nb_ui_s, nb_ui_k, nb_ui_a, sp_min, sp_max, sp_bits]
  refine sq_kv (sq_ckeep (d := d + 7) hP hN hA) (fun J hJ => ?_)
  have hJN := sq_cN_rows (I' := J) hN (fun k hk => hJ.2 _ (by omega) (by omega))
  have e40 : J 40 = I 40 := hJ.2 40 (by omega) (by omega)
  simp (disch := (first | assumption | omega | exact nb_ix (by omega) (by assumption) (by omega) (by omega) | exact nb_ix (by omega) rfl (by omega) (by omega) | exact nb_ok (by omega) rfl | decide)) only [kX11_heir, hC, e40, nf6, ↓if_pos, ↓if_neg, nb_add, nb_sub, nb_mul, Int.toNat_natCast, mm_kr_s, mm_kv_s, if_pos, if_neg, sq_tn, Int.toNat_zero, Int.reduceToNat, Int.reduceNeg, Nat.reduceAdd, Int.reduceAdd, Int.reduceEq, Int.reduceLT, Int.reduceLE, Int.zero_add, nb_ui_s, nb_ui_k, nb_ui_a, sp_min, sp_max, sp_bits]
  refine sq_ret (sq_AC_done hJ (fun b hb => ?_) ?_)
  · rw [nb_ui_r (by omega), nb_ui_r (by omega), nb_ui_r (by omega)]
  · intro j hj
    have h4 := hJN j hj
    unfold rN_heir
    rw [← h4]
    unfold sq_rd mm_ui
    grind
theorem oa_give (hC : sq_CC n c P I t u s D B g v lw ev N) (hA : rc_past I nx na H) (x : Int) : sq_X (some (.inl (if ra_give s N x = -1 then N 27 + x else -1))) n L P (sq_AC nx na H N (rN_give N x) (ra_give s N x) I) (mm_rn (d + 10) 106 [.inr (.inr (some 0)), .inl x] n I L P) := by
  obtain ⟨hP, hW, hLW, hN, hok, hh⟩ := hC
  have ok0 := sq_ok0 hP
  have hs : I t 0 = (s : Int) := hW.2.1.2.2.1
  have hC := hP.2.2.2.2.2.2.2.1
  have hn := hP.1
  have ok40 := (hP.2.2.2.2.2.1 40 (by omega)).ok
  have ok48 : mm_ok n 48 6 := nb_ok (by omega) rfl
  obtain ⟨n1, n2, n3, nf3, nf4, nf5, nf6, nf⟩ := sq_cN_iff.1 hN
  have cr := hok.2.2.2.2.1
  rw [eX11_give]
  by_cases h1 : s = 0
  · have hr : ra_give s N x = 0 := if_pos h1
    rw [hr, if_neg (by decide)]
    simp (disch := (first | assumption | omega | exact nb_ix (by omega) (by assumption) (by omega) (by omega) | exact nb_ix (by omega) rfl (by omega) (by omega) | exact nb_ok (by omega) rfl | decide)) only [kX11_give, sq_noTown hP hs, sq_cref0 hP, ↓if_pos, ↓if_neg, nb_add, nb_sub, nb_mul, Int.toNat_natCast, mm_kr_s, mm_kv_s, if_pos, if_neg, sq_tn, Int.toNat_zero, Int.reduceToNat, Int.reduceNeg, Nat.reduceAdd, Int.reduceAdd, Int.reduceEq, Int.reduceLT, Int.reduceLE, Int.zero_add, nb_ui_s, nb_ui_k, nb_ui_a, sp_min, sp_max, sp_bits]
    exact sq_ret (sq_AC_ref (k := 0))
  by_cases h2 : 1 ≤ x ∧ x ≤ 50
  case neg =>
    have hr : ra_give s N x = 1 := by unfold ra_give; rw [if_neg h1, if_pos h2]
    rw [hr, if_neg (by decide)]
    by_cases h2a : x < 1
    · simp (disch := (first | assumption | omega | exact nb_ix (by omega) (by assumption) (by omega) (by omega) | exact nb_ix (by omega) rfl (by omega) (by omega) | exact nb_ok (by omega) rfl | decide)) only [kX11_give, sq_noTown hP hs, sq_cref1 hP, ↓if_pos, ↓if_neg, nb_add, nb_sub, nb_mul, Int.toNat_natCast, mm_kr_s, mm_kv_s, if_pos, if_neg, sq_tn, Int.toNat_zero, Int.reduceToNat, Int.reduceNeg, Nat.reduceAdd, Int.reduceAdd, Int.reduceEq, Int.reduceLT, Int.reduceLE, Int.zero_add, nb_ui_s, nb_ui_k, nb_ui_a, sp_min, sp_max, sp_bits]
      exact sq_ret (sq_AC_ref (k := 1))
    · simp (disch := (first | assumption | omega | exact nb_ix (by omega) (by assumption) (by omega) (by omega) | exact nb_ix (by omega) rfl (by omega) (by omega) | exact nb_ok (by omega) rfl | decide)) only [kX11_give, sq_noTown hP hs, sq_cref1 hP, ↓if_pos, ↓if_neg, nb_add, nb_sub, nb_mul, Int.toNat_natCast, mm_kr_s, mm_kv_s, if_pos, if_neg, sq_tn, Int.toNat_zero, Int.reduceToNat, Int.reduceNeg, Nat.reduceAdd, Int.reduceAdd, Int.reduceEq, Int.reduceLT, Int.reduceLE, Int.zero_add, nb_ui_s, nb_ui_k, nb_ui_a, sp_min, sp_max, sp_bits]
      exact sq_ret (sq_AC_ref (k := 1))
  by_cases h3 : 999 < N 27 + x
  · have hr : ra_give s N x = 3 := by unfold ra_give; rw [if_neg h1, if_neg (not_not_intro h2), if_pos h3]
    rw [hr, if_neg (by decide)]
    simp (disch := (first | assumption | omega | exact nb_ix (by omega) (by assumption) (by omega) (by omega) | exact nb_ix (by omega) rfl (by omega) (by omega) | exact nb_ok (by omega) rfl | decide)) only [kX11_give, sq_noTown hP hs, hC, nf6, sq_cref3 hP, ↓if_pos, ↓if_neg, nb_add, nb_sub, nb_mul, Int.toNat_natCast, mm_kr_s, mm_kv_s, if_pos, if_neg, sq_tn, Int.toNat_zero, Int.reduceToNat, Int.reduceNeg, Nat.reduceAdd, Int.reduceAdd, Int.reduceEq, Int.reduceLT, Int.reduceLE, Int.zero_add, nb_ui_s, nb_ui_k, nb_ui_a, sp_min, sp_max, sp_bits]
    exact sq_ret (sq_AC_ref (k := 3))
  have hr : ra_give s N x = -1 := by unfold ra_give; rw [if_neg h1, if_neg (not_not_intro h2), if_neg h3]
  rw [hr, if_pos rfl]
  simp (disch := (first | assumption | omega | exact nb_ix (by omega) (by assumption) (by omega) (by omega) | exact nb_ix (by omega) rfl (by omega) (by omega) | exact nb_ok (by omega) rfl | decide)) only [kX11_give, sq_noTown hP hs, hC, nf6, ↓if_pos, ↓if_neg, nb_add, nb_sub, nb_mul, Int.toNat_natCast, mm_kr_s, mm_kv_s, if_pos, if_neg, sq_tn, Int.toNat_zero, Int.reduceToNat, Int.reduceNeg, Nat.reduceAdd, Int.reduceAdd, Int.reduceEq, Int.reduceLT, Int.reduceLE, Int.zero_add, nb_ui_s, nb_ui_k, nb_ui_a, sp_min, sp_max, sp_bits]
  refine sq_kv (sq_ckeep (d := d + 7) hP hN hA) (fun J hJ => ?_)
  have hJN := sq_cN_rows (I' := J) hN (fun k hk => hJ.2 _ (by omega) (by omega))
  have e40 : J 40 = I 40 := hJ.2 40 (by omega) (by omega)
  simp (disch := (first | assumption | omega | exact nb_ix (by omega) (by assumption) (by omega) (by omega) | exact nb_ix (by omega) rfl (by omega) (by omega) | exact nb_ok (by omega) rfl | decide)) only [kX11_give, hC, e40, nf6, ↓if_pos, ↓if_neg, nb_add, nb_sub, nb_mul, Int.toNat_natCast, mm_kr_s, mm_kv_s, if_pos, if_neg, sq_tn, Int.toNat_zero, Int.reduceToNat, Int.reduceNeg, Nat.reduceAdd, Int.reduceAdd, Int.reduceEq, Int.reduceLT, Int.reduceLE, Int.zero_add, nb_ui_s, nb_ui_k, nb_ui_a, sp_min, sp_max, sp_bits]
  refine sq_ret (sq_AC_done hJ (fun b hb => ?_) ?_)
  · rw [nb_ui_r (by omega)]
  · intro j hj
    have h4 := hJN j hj
    unfold rN_give
    rw [← h4]
    unfold sq_rd mm_ui
    grind
theorem oa_beg (hC : sq_CC n c P I t u s D B g v lw ev N) (hA : rc_past I nx na H) (p k z : Int) : sq_X (some (.inl (if ra_beg s N p k z = -1 then (sp_pc (sv_am (sw_beg N p.toNat k z) s) : Nat) else -1))) n L P (sq_AC nx na H N (sw_beg N p.toNat k z) (ra_beg s N p k z) I) (mm_rn (d + 10) 105 [.inr (.inr (some 0)), .inl p, .inl k, .inl z] n I L P) := by
  obtain ⟨hP, hW, hLW, hN, hok, hh⟩ := hC
  have ok0 := sq_ok0 hP
  have hs : I t 0 = (s : Int) := hW.2.1.2.2.1
  have hs8 : s ≤ 8 := hW.2.1.2.1
  have hTP := hW.1
  have okt := hTP.ok
  have hC := hP.2.2.2.2.2.2.2.1
  have hPt := hP.2.2.2.2.2.2.1
  have hn := hP.1
  have hA40 := hP.2.2.2.2.2.1 40 (by omega)
  have hA40' := hA40
  have ok40 := hA40.ok
  have ok48 : mm_ok n 48 6 := nb_ok (by omega) rfl
  obtain ⟨a0, a1, a2, a3, a4, a5, a6, a7⟩ := hA40
  obtain ⟨n1, n2, n3, nf3, nf4, nf5, nf⟩ := sq_cN_iff.1 hN
  rw [eX11_begin]
  by_cases h1 : 0 ≤ p ∧ p < (s : Int)
  case neg =>
    have hr : ra_beg s N p k z = 0 := if_pos h1
    rw [hr, if_neg (by decide)]
    simp (disch := (first | assumption | omega | exact nb_ix (by omega) (by assumption) (by omega) (by omega) | exact nb_ix (by omega) rfl (by omega) (by omega) | exact nb_ok (by omega) rfl | decide)) only [kX11_begin, sp_has hTP, hs, hPt, sq_cref0 hP, ↓if_pos, ↓if_neg, nb_add, nb_sub, nb_mul, Int.toNat_natCast, mm_kr_s, mm_kv_s, if_pos, if_neg, sq_tn, Int.toNat_zero, Int.reduceToNat, Int.reduceNeg, Nat.reduceAdd, Int.reduceAdd, Int.reduceEq, Int.reduceLT, Int.reduceLE, Int.zero_add, nb_ui_s, nb_ui_k, nb_ui_a, sp_min, sp_max, sp_bits]
    exact sq_ret (sq_AC_ref (k := 0))
  obtain ⟨q, rfl⟩ : ∃ k : Nat, p = (k : Int) := ⟨p.toNat, by omega⟩
  rw [Int.toNat_natCast]
  by_cases h2 : (0 ≤ k ∧ k ≤ 2) ∧ 1 ≤ z ∧ z ≤ 9
  case neg =>
    have hr : ra_beg s N q k z = 1 := by unfold ra_beg; rw [if_neg (not_not_intro h1), if_pos h2]
    rw [hr, if_neg (by decide)]
    by_cases k1 : k < 0
    · simp (disch := (first | assumption | omega | exact nb_ix (by omega) (by assumption) (by omega) (by omega) | exact nb_ix (by omega) rfl (by omega) (by omega) | exact nb_ok (by omega) rfl | decide)) only [kX11_begin, sp_has hTP, hs, hPt, sq_cref1 hP, ↓if_pos, ↓if_neg, nb_add, nb_sub, nb_mul, Int.toNat_natCast, mm_kr_s, mm_kv_s, if_pos, if_neg, sq_tn, Int.toNat_zero, Int.reduceToNat, Int.reduceNeg, Nat.reduceAdd, Int.reduceAdd, Int.reduceEq, Int.reduceLT, Int.reduceLE, Int.zero_add, nb_ui_s, nb_ui_k, nb_ui_a, sp_min, sp_max, sp_bits]
      exact sq_ret (sq_AC_ref (k := 1))
    · by_cases k2 : 3 ≤ k
      · simp (disch := (first | assumption | omega | exact nb_ix (by omega) (by assumption) (by omega) (by omega) | exact nb_ix (by omega) rfl (by omega) (by omega) | exact nb_ok (by omega) rfl | decide)) only [kX11_begin, sp_has hTP, hs, hPt, sq_cref1 hP, ↓if_pos, ↓if_neg, nb_add, nb_sub, nb_mul, Int.toNat_natCast, mm_kr_s, mm_kv_s, if_pos, if_neg, sq_tn, Int.toNat_zero, Int.reduceToNat, Int.reduceNeg, Nat.reduceAdd, Int.reduceAdd, Int.reduceEq, Int.reduceLT, Int.reduceLE, Int.zero_add, nb_ui_s, nb_ui_k, nb_ui_a, sp_min, sp_max, sp_bits]
        exact sq_ret (sq_AC_ref (k := 1))
      · by_cases z1 : z < 1
        · simp (disch := (first | assumption | omega | exact nb_ix (by omega) (by assumption) (by omega) (by omega) | exact nb_ix (by omega) rfl (by omega) (by omega) | exact nb_ok (by omega) rfl | decide)) only [kX11_begin, sp_has hTP, hs, hPt, sq_cref1 hP, ↓if_pos, ↓if_neg, nb_add, nb_sub, nb_mul, Int.toNat_natCast, mm_kr_s, mm_kv_s, if_pos, if_neg, sq_tn, Int.toNat_zero, Int.reduceToNat, Int.reduceNeg, Nat.reduceAdd, Int.reduceAdd, Int.reduceEq, Int.reduceLT, Int.reduceLE, Int.zero_add, nb_ui_s, nb_ui_k, nb_ui_a, sp_min, sp_max, sp_bits]
          exact sq_ret (sq_AC_ref (k := 1))
        · simp (disch := (first | assumption | omega | exact nb_ix (by omega) (by assumption) (by omega) (by omega) | exact nb_ix (by omega) rfl (by omega) (by omega) | exact nb_ok (by omega) rfl | decide)) only [kX11_begin, sp_has hTP, hs, hPt, sq_cref1 hP, ↓if_pos, ↓if_neg, nb_add, nb_sub, nb_mul, Int.toNat_natCast, mm_kr_s, mm_kv_s, if_pos, if_neg, sq_tn, Int.toNat_zero, Int.reduceToNat, Int.reduceNeg, Nat.reduceAdd, Int.reduceAdd, Int.reduceEq, Int.reduceLT, Int.reduceLE, Int.zero_add, nb_ui_s, nb_ui_k, nb_ui_a, sp_min, sp_max, sp_bits]
          exact sq_ret (sq_AC_ref (k := 1))
  have ez := n3 q (by omega)
  have zr := (hok.1 q (by omega)).2.2.1
  by_cases h3 : 0 < N (16 + q)
  · have hr : ra_beg s N q k z = 2 := by unfold ra_beg; rw [if_neg (not_not_intro h1), if_neg (not_not_intro h2), Int.toNat_natCast, if_pos h3]
    rw [hr, if_neg (by decide)]
    simp (disch := (first | assumption | omega | exact nb_ix (by omega) (by assumption) (by omega) (by omega) | exact nb_ix (by omega) rfl (by omega) (by omega) | exact nb_ok (by omega) rfl | decide)) only [kX11_begin, sp_has hTP, hs, hPt, hC, a7, ez, sq_cref2 hP, ↓if_pos, ↓if_neg, nb_add, nb_sub, nb_mul, Int.toNat_natCast, mm_kr_s, mm_kv_s, if_pos, if_neg, sq_tn, Int.toNat_zero, Int.reduceToNat, Int.reduceNeg, Nat.reduceAdd, Int.reduceAdd, Int.reduceEq, Int.reduceLT, Int.reduceLE, Int.zero_add, nb_ui_s, nb_ui_k, nb_ui_a, sp_min, sp_max, sp_bits]
    exact sq_ret (sq_AC_ref (k := 2))
  have hr : ra_beg s N q k z = -1 := by unfold ra_beg; rw [if_neg (not_not_intro h1), if_neg (not_not_intro h2), Int.toNat_natCast, if_neg h3]
  rw [hr, if_pos rfl]
  simp (disch := (first | assumption | omega | exact nb_ix (by omega) (by assumption) (by omega) (by omega) | exact nb_ix (by omega) rfl (by omega) (by omega) | exact nb_ok (by omega) rfl | decide)) only [kX11_begin, sp_has hTP, hs, hPt, hC, a7, ez, ↓if_pos, ↓if_neg, nb_add, nb_sub, nb_mul, Int.toNat_natCast, mm_kr_s, mm_kv_s, if_pos, if_neg, sq_tn, Int.toNat_zero, Int.reduceToNat, Int.reduceNeg, Nat.reduceAdd, Int.reduceAdd, Int.reduceEq, Int.reduceLT, Int.reduceLE, Int.zero_add, nb_ui_s, nb_ui_k, nb_ui_a, sp_min, sp_max, sp_bits]
  refine sq_kv (sq_ckeep (d := d + 7) hP hN hA) (fun J hJ => ?_)
  have hJN := sq_cN_rows (I' := J) hN (fun k hk => hJ.2 _ (by omega) (by omega))
  simp (disch := (first | assumption | omega | exact nb_ix (by omega) (by assumption) (by omega) (by omega) | exact nb_ix (by omega) rfl (by omega) (by omega) | exact nb_ok (by omega) rfl | decide)) only [kX11_begin, hC, ↓if_pos, ↓if_neg, nb_add, nb_sub, nb_mul, Int.toNat_natCast, mm_kr_s, mm_kv_s, if_pos, if_neg, sq_tn, Int.toNat_zero, Int.reduceToNat, Int.reduceNeg, Nat.reduceAdd, Int.reduceAdd, Int.reduceEq, Int.reduceLT, Int.reduceLE, Int.zero_add, nb_ui_s, nb_ui_k, nb_ui_a, sp_min, sp_max, sp_bits]
  refine sq_kv (sq_cbeg (d := d + 7) (p := q) hA40' (by omega) hJN (by omega)) (fun K hK => ?_)
  have hokb : sv_ok s (sw_beg N q k z) := by
    obtain ⟨o1, o2⟩ := hok
    refine ⟨fun j hj => ?_, ?_⟩
    · obtain ⟨q1, q2, q3, q4⟩ := o1 j hj
      unfold sw_beg
      refine ⟨?_, ?_, ?_, ?_⟩
      · rw [if_neg (by omega), if_neg (by omega)]; exact q1
      · by_cases c : j = q
        · rw [if_pos (by omega)]; omega
        · rw [if_neg (by omega), if_neg (by omega)]; exact q2
      · by_cases c : j = q
        · rw [if_neg (by omega), if_pos (by omega)]; omega
        · rw [if_neg (by omega), if_neg (by omega)]; exact q3
      · intro hj2
        have := q4 hj2
        rw [if_neg (by omega), if_neg (by omega), if_neg (by omega), if_neg (by omega)]
        exact this
    · unfold sw_beg
      simp (disch := omega) only [if_neg]
      exact o2
  have etr := sq_ctroub (d := d + 8) (L := L) hA40' hs8 hK.1 hokb
  have hlt := sv_am_lt (N := sw_beg N q k z) hs8
  simp (disch := (first | assumption | omega | exact nb_ix (by omega) (by assumption) (by omega) (by omega) | exact nb_ix (by omega) rfl (by omega) (by omega) | exact nb_ok (by omega) rfl | decide)) only [kX11_begin, hC, etr, ↓if_pos, ↓if_neg, nb_add, nb_sub, nb_mul, Int.toNat_natCast, mm_kr_s, mm_kv_s, if_pos, if_neg, sq_tn, Int.toNat_zero, Int.reduceToNat, Int.reduceNeg, Nat.reduceAdd, Int.reduceAdd, Int.reduceEq, Int.reduceLT, Int.reduceLE, Int.zero_add, nb_ui_s, nb_ui_k, nb_ui_a, sp_min, sp_max, sp_bits]
  refine sq_ret (sq_AC_done hJ (fun b hb => ?_) hK.1)
  exact hK.2 b (by simp; omega)
end AC
