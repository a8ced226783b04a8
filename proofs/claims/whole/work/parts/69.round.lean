/-! rounds that see most; posts that see all -/
def sw_V (D : Nat → Int) (v : Int) (s p : Nat) : Nat := sp_mask (fun o => decide (D (8 * p + o) ≤ v)) s
def sw_W (N : Nat → Int) (s m : Nat) : Int := sp_sum (fun p => if Nat.testBit m p = true then N p else 0) s
def sw_fold {S : Type} (f : Nat → S → S) : Nat → S → S
  | 0, x => x
  | k + 1, x => f k (sw_fold f k x)
def sw_go (D : Nat → Int) (v : Int) (B : Nat → Nat) (N : Nat → Int) (s : Nat) : Nat → Nat → Nat → Nat → Int × Int → Int × Int
  | 0, _, m, r, st => if st.2 < sw_W N s m then ((r : Int), sw_W N s m) else st
  | k + 1, q, m, r, st => sw_fold (fun p st => if Nat.testBit (B q) p = true then sw_go D v B N s k p (m ||| sw_V D v s p) (10 * r + p) st else st) s st
theorem sw_V_lt {D : Nat → Int} {v : Int} {s p : Nat} (hs : s ≤ 8) : sw_V D v s p < 256 := Nat.lt_of_lt_of_le (sp_mask_lt _ s) (sp_pow8 hs)
theorem sw_W_rg {N : Nat → Int} {s m : Nat} (hN : ∀ p, p < s → 0 ≤ N p ∧ N p ≤ 99) (k : Nat) (hk : k ≤ s) : 0 ≤ sp_sum (fun p => if Nat.testBit m p = true then N p else 0) k ∧ sp_sum (fun p => if Nat.testBit m p = true then N p else 0) k ≤ k * 99 :=
  sp_sum_rg (by omega) k (fun j hj => by
    have := hN j (by omega)
    split <;> omega)
theorem sw_row_up {r k p : Nat} (h : (r + 1) * 10 ^ (k + 1) ≤ 100000) (hp : p < 8) : (10 * r + p + 1) * 10 ^ k ≤ 100000 := by
  have e : (r + 1) * 10 ^ (k + 1) = ((r + 1) * 10) * 10 ^ k := by rw [Nat.pow_succ, Nat.mul_assoc, Nat.mul_comm (10 ^ k) 10]
  rw [e] at h
  exact Nat.le_trans (Nat.mul_le_mul_right _ (by omega)) h
theorem sw_row_lt {r k : Nat} (h : (r + 1) * 10 ^ k ≤ 100000) : r < 100000 := by
  have h1 : r + 1 ≤ (r + 1) * 10 ^ k := Nat.le_mul_of_pos_right _ (Nat.pow_pos (by omega))
  omega
section RD
variable {n c t u s d : Nat} {I L : mm_I} {P : mm_P} {D : Nat → Int} {B : Nat → Nat} {g v : Int} {lw : Option Nat} {ev : sv_E} {N : Nat → Int}
theorem sq_cworthOf {m : Nat} (hTP : sp_T n P t) (hA : sp_N n P 40) (hs8 : s ≤ 8) (hs : I t 0 = (s : Int)) (hN : sq_cN I 40 N) (hNr : ∀ p, p < s → 0 ≤ N p ∧ N p ≤ 99) (hm : m < 256) : mm_rn (d + 1) 56 [.inr (.inr (some t)), .inr (.inr (some 40)), .inl ((m : Int))] n I L P = some (some (.inl (sw_W N s m)), n, I, L, P) := by
  have okt := hTP.ok
  have ok40 := hA.ok
  obtain ⟨a0, a1, a2, a3, a4, a5, a6, a7⟩ := hA
  have n1 := (sq_cN_iff.1 hN).1
  rw [eX7_worthOf]
  simp (disch := (first | assumption | omega | exact nb_ix (by omega) (by assumption) (by omega) (by omega) | exact nb_ix (by omega) rfl (by omega) (by omega) | exact nb_ok (by omega) rfl | decide)) only [kX7_worthOf, nb_add, nb_sub, nb_mul, Int.toNat_natCast, mm_kr_s, mm_kv_s, if_pos, if_neg, sq_tn, Int.toNat_zero, Int.reduceToNat, Int.reduceNeg, Nat.reduceAdd, Int.reduceAdd, Int.reduceEq, Int.reduceLT, Int.reduceLE, Int.zero_add, nb_ui_s, nb_ui_k, nb_ui_a, sp_min, sp_max, sp_bits]
  refine Eq.trans (nb_loop (fun k => mm_E d 56 5 [.inr (.inr (some t)), .inr (.inr (some 40)), .inl ((m : Int)), .inl (sp_sum (fun p => if Nat.testBit m p = true then N p else 0) k), .inl ((k : Nat))] [] [] n I L P) s (fun k hk => ?_)) ?_
  · have h1 := n1 k (by omega)
    have h2 := hNr k hk
    have h3 := sw_W_rg (m := m) hNr k (by omega)
    have hb := nb_tst0 m hm k (by omega)
    have e4 : sp_sum (fun p => if Nat.testBit m p = true then N p else 0) (k + 1) = sp_sum (fun p => if Nat.testBit m p = true then N p else 0) k + (if Nat.testBit m k = true then N k else 0) := rfl
    show mm_E _ _ _ _ _ _ _ _ _ _ = mm_E _ _ _ _ _ _ _ _ _ _
    rw [hX7_worthOf_5, e4]
    generalize sp_sum (fun p => if Nat.testBit m p = true then N p else 0) k = z at h3 ⊢
    cases hb2 : Nat.testBit m k with
    | true =>
      rw [hb2] at hb
      simp (disch := (first | assumption | omega | exact nb_ix (by omega) (by assumption) (by omega) (by omega) | exact nb_ix (by omega) rfl (by omega) (by omega) | exact nb_ok (by omega) rfl | decide)) only [kX7_worthOf, hs, a5, h1, hb, nb_add, nb_sub, nb_mul, Int.toNat_natCast, mm_kr_s, mm_kv_s, if_pos, if_neg, sq_tn, Int.toNat_zero, Int.reduceToNat, Int.reduceNeg, Nat.reduceAdd, Int.reduceAdd, Int.reduceEq, Int.reduceLT, Int.reduceLE, Int.zero_add, nb_ui_s, nb_ui_k, nb_ui_a, sp_min, sp_max, sp_bits]
      rfl
    | false =>
      rw [hb2] at hb
      simp (disch := (first | assumption | omega | exact nb_ix (by omega) (by assumption) (by omega) (by omega) | exact nb_ix (by omega) rfl (by omega) (by omega) | exact nb_ok (by omega) rfl | decide)) only [kX7_worthOf, hs, a5, h1, hb, Int.add_zero, nb_add, nb_sub, nb_mul, Int.toNat_natCast, mm_kr_s, mm_kv_s, if_pos, if_neg, sq_tn, Int.toNat_zero, Int.reduceToNat, Int.reduceNeg, Nat.reduceAdd, Int.reduceAdd, Int.reduceEq, Int.reduceLT, Int.reduceLE, Int.zero_add, nb_ui_s, nb_ui_k, nb_ui_a, sp_min, sp_max, sp_bits]
      rfl
  · rw [hX7_worthOf_5]
    simp (disch := (first | assumption | omega | exact nb_ix (by omega) (by assumption) (by omega) (by omega) | exact nb_ix (by omega) rfl (by omega) (by omega) | exact nb_ok (by omega) rfl | decide)) only [kX7_worthOf, hs, nb_add, nb_sub, nb_mul, Int.toNat_natCast, mm_kr_s, mm_kv_s, if_pos, if_neg, sq_tn, Int.toNat_zero, Int.reduceToNat, Int.reduceNeg, Nat.reduceAdd, Int.reduceAdd, Int.reduceEq, Int.reduceLT, Int.reduceLE, Int.zero_add, nb_ui_s, nb_ui_k, nb_ui_a, sp_min, sp_max, sp_bits]
    rfl
set_option maxHeartbeats 1000000 in
theorem sq_cgo (hTP : sp_T n P t) (hA : sp_N n P 40) (hNr : ∀ p, p < s → 0 ≤ N p ∧ N p ≤ 99) (hn : 270 ≤ n) : ∀ (k : Nat) (I : mm_I) (q m r : Nat) (st : Int × Int), sq_CT I t s D B g v → sq_cN I 40 N → q < s → m < 256 → (r + 1) * 10 ^ k ≤ 100000 → I 237 0 = st.1 → I 237 1 = st.2 → k ≤ 5 →
    sq_X none n L P (fun I' => I' 237 0 = (sw_go D v B N s k q m r st).1 ∧ I' 237 1 = (sw_go D v B N s k q m r st).2 ∧ sq_fr [237] I I') (mm_rn (d + k + 3) 55 [.inr (.inr (some 237)), .inr (.inr (some t)), .inr (.inr (some 40)), .inl ((q : Int)), .inl ((k : Int)), .inl ((m : Int)), .inl ((r : Int))] n I L P) := by
  have okt := hTP.ok
  have ok37 : mm_ok n 237 7 := nb_ok (by omega) rfl
  intro k
  induction k with
  | zero =>
    intro I q m r st hT hN hq hm hr h0 h1 hk5
    have hwo := sq_cworthOf (d := d + 1) (L := L) hTP hA hT.2.1 hT.2.2.1 hN hNr hm
    have hk0 : ((0 : Nat) : Int) = 0 := rfl
    rw [eX7_goOn]
    by_cases hlt : st.2 < sw_W N s m
    · simp (disch := (first | assumption | omega | exact nb_ix (by omega) (by assumption) (by omega) (by omega) | exact nb_ix (by omega) rfl (by omega) (by omega) | exact nb_ok (by omega) rfl | decide)) only [kX7_goOn, hk0, hwo, h1, nb_add, nb_sub, nb_mul, Int.toNat_natCast, mm_kr_s, mm_kv_s, if_pos, if_neg, sq_tn, Int.toNat_zero, Int.reduceToNat, Int.reduceNeg, Nat.reduceAdd, Int.reduceAdd, Int.reduceEq, Int.reduceLT, Int.reduceLE, Int.zero_add, nb_ui_s, nb_ui_k, nb_ui_a, sp_min, sp_max, sp_bits]
      refine sq_ret ⟨?_, ?_, sq_fr_up (sq_fr_up (sq_fr_refl _ _) (by simp)) (by simp)⟩
      · rw [nb_ui_s]; unfold sw_go; rw [if_pos hlt]
      · rw [nb_ui_k (by omega), nb_ui_s]; unfold sw_go; rw [if_pos hlt]
    · simp (disch := (first | assumption | omega | exact nb_ix (by omega) (by assumption) (by omega) (by omega) | exact nb_ix (by omega) rfl (by omega) (by omega) | exact nb_ok (by omega) rfl | decide)) only [kX7_goOn, hk0, hwo, h1, nb_add, nb_sub, nb_mul, Int.toNat_natCast, mm_kr_s, mm_kv_s, if_pos, if_neg, sq_tn, Int.toNat_zero, Int.reduceToNat, Int.reduceNeg, Nat.reduceAdd, Int.reduceAdd, Int.reduceEq, Int.reduceLT, Int.reduceLE, Int.zero_add, nb_ui_s, nb_ui_k, nb_ui_a, sp_min, sp_max, sp_bits]
      refine sq_ret ⟨?_, ?_, sq_fr_refl _ _⟩
      · rw [h0]; unfold sw_go; rw [if_neg hlt]
      · rw [h1]; unfold sw_go; rw [if_neg hlt]
  | succ k ih =>
    intro I q m r st hT hN hq hm hr h0 h1 hk5
    have hT2 := hT
    obtain ⟨ht13, hs8, hs, hD, hDr, hB, hV, hg, hv⟩ := hT
    obtain ⟨t0, t1, t2, t3, t4, t5, t6, t7, t8, t9, t10, t11⟩ := hTP
    have hrl := sw_row_lt hr
    have e1 : ((k + 1 : Nat) : Int) - 1 = (k : Int) := by omega
    rw [eX7_goOn]
    simp (disch := (first | assumption | omega | exact nb_ix (by omega) (by assumption) (by omega) (by omega) | exact nb_ix (by omega) rfl (by omega) (by omega) | exact nb_ok (by omega) rfl | decide)) only [kX7_goOn, nb_add, nb_sub, nb_mul, Int.toNat_natCast, mm_kr_s, mm_kv_s, if_pos, if_neg, sq_tn, Int.toNat_zero, Int.reduceToNat, Int.reduceNeg, Nat.reduceAdd, Int.reduceAdd, Int.reduceEq, Int.reduceLT, Int.reduceLE, Int.zero_add, nb_ui_s, nb_ui_k, nb_ui_a, sp_min, sp_max, sp_bits]
    refine sq_loop (fun i (J : mm_I) => mm_E (d + k + 3) 55 39 [.inr (.inr (some 237)), .inr (.inr (some t)), .inr (.inr (some 40)), .inl ((q : Int)), .inl (((k + 1 : Nat) : Int)), .inl ((m : Int)), .inl ((r : Int)), .inl ((i : Nat))] [] [] n J L P) (fun i J => J 237 0 = (sw_fold (fun p st => if Nat.testBit (B q) p = true then sw_go D v B N s k p (m ||| sw_V D v s p) (10 * r + p) st else st) i st).1 ∧ J 237 1 = (sw_fold (fun p st => if Nat.testBit (B q) p = true then sw_go D v B N s k p (m ||| sw_V D v s p) (10 * r + p) st else st) i st).2 ∧ sq_fr [237] I J) s (s0 := I) ⟨h0, h1, sq_fr_refl _ _⟩ ?_ ?_
    · intro i J hi ⟨j1, j2, j3⟩ ih2
      have hTJ : sq_CT J t s D B g v := by
        refine sq_CT_keep (l := [237]) hT2 (sq_cf_of j3 (by decide)) (by decide)
      have hNJ : sq_cN J 40 N := by
        intro j hj
        rw [← hN j hj]
        unfold sq_rd
        rw [j3 40 (by decide), j3 41 (by decide), j3 42 (by decide), j3 43 (by decide)]
      have et : J t = I t := j3 t (by simp; omega)
      have et4 : J (t + 4) i = (sw_V D v s i : Nat) := hTJ.2.2.2.2.2.2.1 i hi
      have hb := hTJ.2.2.2.2.2.1 q hq
      have hjn := sp_joined (d := d + k) (L := L) (P := P) (n := n) (t := t) ⟨t0, t1, t2, t3, t4, t5, t6, t7, t8, t9, t10, t11⟩ hTJ.2.2.1 hs8 hq hi hb.1 hb.2
      have hVl : sw_V D v s i < 256 := sw_V_lt hs8
      have hml : m ||| sw_V D v s i < 256 := Nat.or_lt_two_pow (n := 8) hm hVl
      have e2 : 10 * (r : Int) + (i : Int) = ((10 * r + i : Nat) : Int) := by omega
      have ef : sw_fold (fun p st => if Nat.testBit (B q) p = true then sw_go D v B N s k p (m ||| sw_V D v s p) (10 * r + p) st else st) (i + 1) st = if Nat.testBit (B q) i = true then sw_go D v B N s k i (m ||| sw_V D v s i) (10 * r + i) (sw_fold (fun p st => if Nat.testBit (B q) p = true then sw_go D v B N s k p (m ||| sw_V D v s p) (10 * r + p) st else st) i st) else sw_fold (fun p st => if Nat.testBit (B q) p = true then sw_go D v B N s k p (m ||| sw_V D v s p) (10 * r + p) st else st) i st := rfl
      rw [hX7_goOn_39]
      cases hbt : Nat.testBit (B q) i with
      | true =>
        rw [hbt] at hjn
        rw [if_pos hbt] at ef
        simp (disch := (first | assumption | omega | exact nb_ix (by omega) (by assumption) (by omega) (by omega) | exact nb_ix (by omega) rfl (by omega) (by omega) | exact nb_ok (by omega) rfl | decide)) only [kX7_goOn, et, hs, hjn, t10, et4, nb_or, e1, e2, nb_add, nb_sub, nb_mul, Int.toNat_natCast, mm_kr_s, mm_kv_s, if_pos, if_neg, sq_tn, Int.toNat_zero, Int.reduceToNat, Int.reduceNeg, Nat.reduceAdd, Int.reduceAdd, Int.reduceEq, Int.reduceLT, Int.reduceLE, Int.zero_add, nb_ui_s, nb_ui_k, nb_ui_a, sp_min, sp_max, sp_bits]
        refine sq_kv (ih J i (m ||| sw_V D v s i) (10 * r + i) _ hTJ hNJ hi hml (sw_row_up hr (by omega)) j1 j2 (by omega)) (fun K hK => ?_)
        simp (disch := (first | assumption | omega | exact nb_ix (by omega) (by assumption) (by omega) (by omega) | exact nb_ix (by omega) rfl (by omega) (by omega) | exact nb_ok (by omega) rfl | decide)) only [kX7_goOn, nb_add, nb_sub, nb_mul, Int.toNat_natCast, mm_kr_s, mm_kv_s, if_pos, if_neg, sq_tn, Int.toNat_zero, Int.reduceToNat, Int.reduceNeg, Nat.reduceAdd, Int.reduceAdd, Int.reduceEq, Int.reduceLT, Int.reduceLE, Int.zero_add, nb_ui_s, nb_ui_k, nb_ui_a, sp_min, sp_max, sp_bits]
        refine ih2 _ ⟨?_, ?_, sq_fr_trans j3 hK.2.2 (fun _ h => h) (fun _ h => h)⟩
        · rw [ef]; exact hK.1
        · rw [ef]; exact hK.2.1
      | false =>
        rw [hbt] at hjn
        rw [if_neg (by rw [hbt]; decide)] at ef
        simp (disch := (first | assumption | omega | exact nb_ix (by omega) (by assumption) (by omega) (by omega) | exact nb_ix (by omega) rfl (by omega) (by omega) | exact nb_ok (by omega) rfl | decide)) only [kX7_goOn, et, hs, hjn, nb_add, nb_sub, nb_mul, Int.toNat_natCast, mm_kr_s, mm_kv_s, if_pos, if_neg, sq_tn, Int.toNat_zero, Int.reduceToNat, Int.reduceNeg, Nat.reduceAdd, Int.reduceAdd, Int.reduceEq, Int.reduceLT, Int.reduceLE, Int.zero_add, nb_ui_s, nb_ui_k, nb_ui_a, sp_min, sp_max, sp_bits]
        refine ih2 _ ⟨?_, ?_, j3⟩
        · rw [ef]; exact j1
        · rw [ef]; exact j2
    · intro J ⟨j1, j2, j3⟩
      have et : J t = I t := j3 t (by simp; omega)
      rw [hX7_goOn_39]
      simp (disch := (first | assumption | omega | exact nb_ix (by omega) (by assumption) (by omega) (by omega) | exact nb_ix (by omega) rfl (by omega) (by omega) | exact nb_ok (by omega) rfl | decide)) only [kX7_goOn, et, hs, nb_add, nb_sub, nb_mul, Int.toNat_natCast, mm_kr_s, mm_kv_s, if_pos, if_neg, sq_tn, Int.toNat_zero, Int.reduceToNat, Int.reduceNeg, Nat.reduceAdd, Int.reduceAdd, Int.reduceEq, Int.reduceLT, Int.reduceLE, Int.zero_add, nb_ui_s, nb_ui_k, nb_ui_a, sp_min, sp_max, sp_bits]
      exact sq_ret ⟨j1, j2, j3⟩
def sa_round (D : Nat → Int) (v : Int) (B : Nat → Nat) (N : Nat → Int) (s : Nat) (x w : Int) : Int := if 0 < s ∧ (1 ≤ x ∧ x ≤ 5) ∧ 0 ≤ w ∧ w ≤ 1 then (if w = 0 then (sw_go D v B N s x.toNat (N 24).toNat (sw_V D v s (N 24).toNat) 0 (-1, -1)).1 else (sw_go D v B N s x.toNat (N 24).toNat (sw_V D v s (N 24).toNat) 0 (-1, -1)).2) else -1
theorem sw_go_none {k q m r : Nat} {st : Int × Int} (h : B q = 0) : sw_go D v B N s (k + 1) q m r st = st := by
  unfold sw_go
  have : ∀ i, sw_fold (fun p st => if Nat.testBit (B q) p = true then sw_go D v B N s k p (m ||| sw_V D v s p) (10 * r + p) st else st) i st = st := by
    intro i
    induction i with
    | zero => rfl
    | succ i ih =>
      unfold sw_fold
      rw [ih, h, Nat.zero_testBit, if_neg (by decide)]
  exact this s
theorem oc_round (hC : sq_CC n c P I t u s D B g v lw ev N) (x w : Int) : sq_X (some (.inl (sa_round D v B N s x w))) n L P (sq_cf sq_SC I) (mm_rn (d + 10) 124 [.inr (.inr (some 0)), .inl x, .inl w] n I L P) := by
  obtain ⟨hP, hW, hLW, hN, hok, hh⟩ := hC
  have ok0 := sq_ok0 hP
  have hs : I t 0 = (s : Int) := hW.2.1.2.2.1
  have hs8 : s ≤ 8 := hW.2.1.2.1
  have hT := hW.2.1
  have hC := hP.2.2.2.2.2.2.2.1
  have hPt := hP.2.2.2.2.2.2.1
  have hn := hP.1
  have hTP := hP.2.2.2.1
  have okt := hTP.ok
  have hA := hP.2.2.2.2.2.1 40 (by omega)
  have ok40 := hA.ok
  have ok37 : mm_ok n 237 7 := nb_ok (by omega) rfl
  have hNr : ∀ p, p < s → 0 ≤ N p ∧ N p ≤ 99 := fun p hp => (hok.1 p (by omega)).1
  rw [eX11_round]
  by_cases h : 0 < s ∧ (1 ≤ x ∧ x ≤ 5) ∧ 0 ≤ w ∧ w ≤ 1
  · obtain ⟨m, rfl⟩ : ∃ k : Nat, x = (k : Int) := ⟨x.toNat, by omega⟩
    unfold sa_round
    rw [if_pos h, Int.toNat_natCast]
    have h0 : ¬ s = 0 := by omega
    obtain ⟨q, hq⟩ : ∃ q : Nat, N 24 = (q : Int) := ⟨(N 24).toNat, by have := hok.2.1; omega⟩
    have hqs : q < s := by have := hok.2.1; omega
    have hqn : (N 24).toNat = q := by omega
    rw [hqn]
    have nf3 : I 40 3 = (q : Int) := by rw [← hq]; exact (sq_cN_iff.1 hN).2.2.2.1
    have hB := hT.2.2.2.2.2.1 q hqs
    have hV : I (t + 4) q = (sw_V D v s q : Nat) := hT.2.2.2.2.2.2.1 q hqs
    have hB1 := hB.1
    have hTP0 := hTP
    have hT13 := hT.1
    have hbe := fun e => sp_beside (d := e) (L := L) hTP0 hs hs8 hqs
    obtain ⟨t0, t1, t2, t3, t4, t5, t6, t7, t8, t9, t10, t11⟩ := hTP
    by_cases hb0 : B q = 0
    · have e0 : I (t + 3) q = 0 := by rw [hB1, hb0]; rfl
      obtain ⟨k, rfl⟩ : ∃ k, m = k + 1 := ⟨m - 1, by omega⟩
      rw [sw_go_none hb0]
      simp (disch := (first | assumption | omega | exact nb_ix (by omega) (by assumption) (by omega) (by omega) | exact nb_ix (by omega) rfl (by omega) (by omega) | exact nb_ok (by omega) rfl | decide)) only [kX11_round, sq_noTown hP hs, hPt, hC, nf3, hbe, e0, nb_add, nb_sub, nb_mul, Int.toNat_natCast, mm_kr_s, mm_kv_s, if_pos, if_neg, sq_tn, Int.toNat_zero, Int.reduceToNat, Int.reduceNeg, Nat.reduceAdd, Int.reduceAdd, Int.reduceEq, Int.reduceLT, Int.reduceLE, Int.zero_add, nb_ui_s, nb_ui_k, nb_ui_a, sp_min, sp_max, sp_bits]
      refine sq_ret2 ?_ (sq_cf_refl _ _)
      split <;> rfl
    · have hb1 : ¬ (B q : Int) = 0 := by omega
      simp (disch := (first | assumption | omega | exact nb_ix (by omega) (by assumption) (by omega) (by omega) | exact nb_ix (by omega) rfl (by omega) (by omega) | exact nb_ok (by omega) rfl | decide)) only [kX11_round, sq_noTown hP hs, hPt, hC, nf3, hbe, hB1, nb_add, nb_sub, nb_mul, Int.toNat_natCast, mm_kr_s, mm_kv_s, if_pos, if_neg, sq_tn, Int.toNat_zero, Int.reduceToNat, Int.reduceNeg, Nat.reduceAdd, Int.reduceAdd, Int.reduceEq, Int.reduceLT, Int.reduceLE, Int.zero_add, nb_ui_s, nb_ui_k, nb_ui_a, sp_min, sp_max, sp_bits]
      have hfind : sq_X none n L P (fun I' => I' 237 0 = (sw_go D v B N s m q (sw_V D v s q) 0 (-1, -1)).1 ∧ I' 237 1 = (sw_go D v B N s m q (sw_V D v s q) 0 (-1, -1)).2 ∧ sq_fr [237] I I') (mm_rn (d + 9) 54 [.inr (.inr (some 237)), .inr (.inr (some t)), .inr (.inr (some 40)), .inl ((m : Int))] n I L P) := by
        have hsf : mm_ui (mm_ui I 237 0 (-1)) 237 1 (-1) t 0 = (s : Int) := by rw [nb_ui_a (by omega), nb_ui_a (by omega)]; exact hs
        have hvo := fun e => sp_viewOf (d := e) (L := L) (I := mm_ui (mm_ui I 237 0 (-1)) 237 1 (-1)) hTP0 hsf hs8 hqs
        rw [eX7_find]
        simp (disch := (first | assumption | omega | exact nb_ix (by omega) (by assumption) (by omega) (by omega) | exact nb_ix (by omega) rfl (by omega) (by omega) | exact nb_ok (by omega) rfl | decide)) only [kX7_find, nf3, hvo, hV, nb_add, nb_sub, nb_mul, Int.toNat_natCast, mm_kr_s, mm_kv_s, if_pos, if_neg, sq_tn, Int.toNat_zero, Int.reduceToNat, Int.reduceNeg, Nat.reduceAdd, Int.reduceAdd, Int.reduceEq, Int.reduceLT, Int.reduceLE, Int.zero_add, nb_ui_s, nb_ui_k, nb_ui_a, sp_min, sp_max, sp_bits]
        obtain ⟨e, he⟩ : ∃ e, d + 8 = e + m + 3 := ⟨d + 5 - m, by omega⟩
        rw [he]
        have hfr : sq_fr [237] I (mm_ui (mm_ui I 237 0 (-1)) 237 1 (-1)) := sq_fr_up (sq_fr_up (sq_fr_refl _ _) (by simp)) (by simp)
        refine sq_kv (sq_cgo (D := D) (B := B) (v := v) (g := g) (N := N) ⟨t0, t1, t2, t3, t4, t5, t6, t7, t8, t9, t10, t11⟩ hA hNr hn m _ q (sw_V D v s q) 0 (-1, -1) ?_ ?_ hqs (sw_V_lt hs8) ?_ ?_ ?_ (by omega)) (fun K hK => ?_)
        · exact sq_CT_keep (l := [237]) hT (sq_cf_of hfr (by decide)) (by decide)
        · intro j hj
          rw [← hN j hj]
          unfold sq_rd
          rw [hfr 40 (by decide), hfr 41 (by decide), hfr 42 (by decide), hfr 43 (by decide)]
        · have : m = 0 ∨ m = 1 ∨ m = 2 ∨ m = 3 ∨ m = 4 ∨ m = 5 := by omega
          rcases this with e | e | e | e | e | e <;> subst e <;> decide
        · simp [mm_ui]
        · simp [mm_ui]
        simp (disch := (first | assumption | omega | exact nb_ix (by omega) (by assumption) (by omega) (by omega) | exact nb_ix (by omega) rfl (by omega) (by omega) | exact nb_ok (by omega) rfl | decide)) only [kX7_find, nb_add, nb_sub, nb_mul, Int.toNat_natCast, mm_kr_s, mm_kv_s, if_pos, if_neg, sq_tn, Int.toNat_zero, Int.reduceToNat, Int.reduceNeg, Nat.reduceAdd, Int.reduceAdd, Int.reduceEq, Int.reduceLT, Int.reduceLE, Int.zero_add, nb_ui_s, nb_ui_k, nb_ui_a, sp_min, sp_max, sp_bits]
        exact sq_ret ⟨hK.1, hK.2.1, sq_fr_trans hfr hK.2.2 (fun _ h => h) (fun _ h => h)⟩
      refine sq_kv hfind (fun K hK => ?_)
      obtain ⟨k1, k2, k3⟩ := hK
      have hf : sq_cf sq_SC I K := sq_cf_sub (sq_cf_of k3 (by decide)) (by decide)
      by_cases hw : w = 0
      · simp (disch := (first | assumption | omega | exact nb_ix (by omega) (by assumption) (by omega) (by omega) | exact nb_ix (by omega) rfl (by omega) (by omega) | exact nb_ok (by omega) rfl | decide)) only [kX11_round, hC, k1, k2, nb_add, nb_sub, nb_mul, Int.toNat_natCast, mm_kr_s, mm_kv_s, if_pos, if_neg, sq_tn, Int.toNat_zero, Int.reduceToNat, Int.reduceNeg, Nat.reduceAdd, Int.reduceAdd, Int.reduceEq, Int.reduceLT, Int.reduceLE, Int.zero_add, nb_ui_s, nb_ui_k, nb_ui_a, sp_min, sp_max, sp_bits]
        exact sq_ret hf
      · simp (disch := (first | assumption | omega | exact nb_ix (by omega) (by assumption) (by omega) (by omega) | exact nb_ix (by omega) rfl (by omega) (by omega) | exact nb_ok (by omega) rfl | decide)) only [kX11_round, hC, k1, k2, nb_add, nb_sub, nb_mul, Int.toNat_natCast, mm_kr_s, mm_kv_s, if_pos, if_neg, sq_tn, Int.toNat_zero, Int.reduceToNat, Int.reduceNeg, Nat.reduceAdd, Int.reduceAdd, Int.reduceEq, Int.reduceLT, Int.reduceLE, Int.zero_add, nb_ui_s, nb_ui_k, nb_ui_a, sp_min, sp_max, sp_bits]
        exact sq_ret hf
  · have : sa_round D v B N s x w = -1 := if_neg h
    rw [this]
    by_cases h0 : s = 0
    · simp (disch := (first | assumption | omega | exact nb_ix (by omega) (by assumption) (by omega) (by omega) | exact nb_ix (by omega) rfl (by omega) (by omega) | exact nb_ok (by omega) rfl | decide)) only [kX11_round, sq_noTown hP hs, nb_add, nb_sub, nb_mul, Int.toNat_natCast, mm_kr_s, mm_kv_s, if_pos, if_neg, sq_tn, Int.toNat_zero, Int.reduceToNat, Int.reduceNeg, Nat.reduceAdd, Int.reduceAdd, Int.reduceEq, Int.reduceLT, Int.reduceLE, Int.zero_add, nb_ui_s, nb_ui_k, nb_ui_a, sp_min, sp_max, sp_bits]
      exact sq_ret (sq_cf_refl _ _)
    · by_cases h1 : x < 1
      · simp (disch := (first | assumption | omega | exact nb_ix (by omega) (by assumption) (by omega) (by omega) | exact nb_ix (by omega) rfl (by omega) (by omega) | exact nb_ok (by omega) rfl | decide)) only [kX11_round, sq_noTown hP hs, nb_add, nb_sub, nb_mul, Int.toNat_natCast, mm_kr_s, mm_kv_s, if_pos, if_neg, sq_tn, Int.toNat_zero, Int.reduceToNat, Int.reduceNeg, Nat.reduceAdd, Int.reduceAdd, Int.reduceEq, Int.reduceLT, Int.reduceLE, Int.zero_add, nb_ui_s, nb_ui_k, nb_ui_a, sp_min, sp_max, sp_bits]
        exact sq_ret (sq_cf_refl _ _)
      · by_cases h2 : 5 < x
        · simp (disch := (first | assumption | omega | exact nb_ix (by omega) (by assumption) (by omega) (by omega) | exact nb_ix (by omega) rfl (by omega) (by omega) | exact nb_ok (by omega) rfl | decide)) only [kX11_round, sq_noTown hP hs, nb_add, nb_sub, nb_mul, Int.toNat_natCast, mm_kr_s, mm_kv_s, if_pos, if_neg, sq_tn, Int.toNat_zero, Int.reduceToNat, Int.reduceNeg, Nat.reduceAdd, Int.reduceAdd, Int.reduceEq, Int.reduceLT, Int.reduceLE, Int.zero_add, nb_ui_s, nb_ui_k, nb_ui_a, sp_min, sp_max, sp_bits]
          exact sq_ret (sq_cf_refl _ _)
        · by_cases h3 : w < 0
          · simp (disch := (first | assumption | omega | exact nb_ix (by omega) (by assumption) (by omega) (by omega) | exact nb_ix (by omega) rfl (by omega) (by omega) | exact nb_ok (by omega) rfl | decide)) only [kX11_round, sq_noTown hP hs, nb_add, nb_sub, nb_mul, Int.toNat_natCast, mm_kr_s, mm_kv_s, if_pos, if_neg, sq_tn, Int.toNat_zero, Int.reduceToNat, Int.reduceNeg, Nat.reduceAdd, Int.reduceAdd, Int.reduceEq, Int.reduceLT, Int.reduceLE, Int.zero_add, nb_ui_s, nb_ui_k, nb_ui_a, sp_min, sp_max, sp_bits]
            exact sq_ret (sq_cf_refl _ _)
          · simp (disch := (first | assumption | omega | exact nb_ix (by omega) (by assumption) (by omega) (by omega) | exact nb_ix (by omega) rfl (by omega) (by omega) | exact nb_ok (by omega) rfl | decide)) only [kX11_round, sq_noTown hP hs, nb_add, nb_sub, nb_mul, Int.toNat_natCast, mm_kr_s, mm_kv_s, if_pos, if_neg, sq_tn, Int.toNat_zero, Int.reduceToNat, Int.reduceNeg, Nat.reduceAdd, Int.reduceAdd, Int.reduceEq, Int.reduceLT, Int.reduceLE, Int.zero_add, nb_ui_s, nb_ui_k, nb_ui_a, sp_min, sp_max, sp_bits]
            exact sq_ret (sq_cf_refl _ _)
/-! the model's rounds -/
theorem sq_mworth {m : Nat} (hM : sp_M n P) (hs8 : s ≤ 8) (hs : I 239 26 = (s : Int)) (hN : sq_mN I N) (hNr : ∀ p, p < s → 0 ≤ N p ∧ N p ≤ 99) (hm : m < 256) : mm_rn (d + 2) 235 [.inr (.inr (some 239)), .inl ((m : Int))] n I L P = some (some (.inl (sw_W N s m)), n, I, L, P) := by
  have ok := hM.ok
  obtain ⟨hn, hP⟩ := hM
  rw [eX12_worthOfAll]
  simp (disch := (first | assumption | omega | exact nb_ix (by omega) (by assumption) (by omega) (by omega) | exact nb_ix (by omega) rfl (by omega) (by omega) | exact nb_ok (by omega) rfl | decide)) only [kX12_worthOfAll, nb_add, nb_sub, nb_mul, Int.toNat_natCast, mm_kr_s, mm_kv_s, if_pos, if_neg, sq_tn, Int.toNat_zero, Int.reduceToNat, Int.reduceNeg, Nat.reduceAdd, Int.reduceAdd, Int.reduceEq, Int.reduceLT, Int.reduceLE, Int.zero_add, nb_ui_s, nb_ui_k, nb_ui_a, sp_min, sp_max, sp_bits]
  refine Eq.trans (nb_loop (fun k => mm_E (d + 1) 235 4 [.inr (.inr (some 239)), .inl ((m : Int)), .inl (sp_sum (fun p => if Nat.testBit m p = true then N p else 0) k), .inl ((k : Nat))] [] [] n I L P) s (fun k hk => ?_)) ?_
  · have h1 := hN k (by omega)
    have h2 := hNr k hk
    have h3 := sw_W_rg (m := m) hNr k (by omega)
    have e4 : sp_sum (fun p => if Nat.testBit m p = true then N p else 0) (k + 1) = sp_sum (fun p => if Nat.testBit m p = true then N p else 0) k + (if Nat.testBit m k = true then N k else 0) := rfl
    show mm_E _ _ _ _ _ _ _ _ _ _ = mm_E _ _ _ _ _ _ _ _ _ _
    rw [hX12_worthOfAll_4, e4]
    generalize sp_sum (fun p => if Nat.testBit m p = true then N p else 0) k = z at h3 ⊢
    cases hb2 : Nat.testBit m k with
    | true =>
      simp (disch := (first | assumption | omega | exact nb_ix (by omega) (by assumption) (by omega) (by omega) | exact nb_ix (by omega) rfl (by omega) (by omega) | exact nb_ok (by omega) rfl | decide)) only [kX12_worthOfAll, hP, hs, h1, sp_mhas, hb2, nb_add, nb_sub, nb_mul, Int.toNat_natCast, mm_kr_s, mm_kv_s, if_pos, if_neg, sq_tn, Int.toNat_zero, Int.reduceToNat, Int.reduceNeg, Nat.reduceAdd, Int.reduceAdd, Int.reduceEq, Int.reduceLT, Int.reduceLE, Int.zero_add, nb_ui_s, nb_ui_k, nb_ui_a, sp_min, sp_max, sp_bits]
      rfl
    | false =>
      simp (disch := (first | assumption | omega | exact nb_ix (by omega) (by assumption) (by omega) (by omega) | exact nb_ix (by omega) rfl (by omega) (by omega) | exact nb_ok (by omega) rfl | decide)) only [kX12_worthOfAll, hP, hs, h1, sp_mhas, hb2, Int.add_zero, nb_add, nb_sub, nb_mul, Int.toNat_natCast, mm_kr_s, mm_kv_s, if_pos, if_neg, sq_tn, Int.toNat_zero, Int.reduceToNat, Int.reduceNeg, Nat.reduceAdd, Int.reduceAdd, Int.reduceEq, Int.reduceLT, Int.reduceLE, Int.zero_add, nb_ui_s, nb_ui_k, nb_ui_a, sp_min, sp_max, sp_bits]
      rfl
  · rw [hX12_worthOfAll_4]
    simp (disch := (first | assumption | omega | exact nb_ix (by omega) (by assumption) (by omega) (by omega) | exact nb_ix (by omega) rfl (by omega) (by omega) | exact nb_ok (by omega) rfl | decide)) only [kX12_worthOfAll, hs, nb_add, nb_sub, nb_mul, Int.toNat_natCast, mm_kr_s, mm_kv_s, if_pos, if_neg, sq_tn, Int.toNat_zero, Int.reduceToNat, Int.reduceNeg, Nat.reduceAdd, Int.reduceAdd, Int.reduceEq, Int.reduceLT, Int.reduceLE, Int.zero_add, nb_ui_s, nb_ui_k, nb_ui_a, sp_min, sp_max, sp_bits]
    rfl
/-- only the model's best round changes -/
def sq_f9 (I I' : mm_I) : Prop := (∀ b, b ≠ 239 → I' b = I b) ∧ (∀ j, j ≠ 36 → j ≠ 37 → I' 239 j = I 239 j)
theorem sq_f9_refl (I : mm_I) : sq_f9 I I := ⟨fun _ _ => rfl, fun _ _ _ => rfl⟩
theorem sq_f9_trans {I I1 I2 : mm_I} (h : sq_f9 I I1) (h2 : sq_f9 I1 I2) : sq_f9 I I2 := ⟨fun b hb => by rw [h2.1 b hb, h.1 b hb], fun j a b => by rw [h2.2 j a b, h.2 j a b]⟩
theorem sq_f9_up {I I' : mm_I} {k : Nat} {z : Int} (h : sq_f9 I I') (hk : k = 36 ∨ k = 37) : sq_f9 I (mm_ui I' 239 k z) := ⟨fun b hb => by rw [nb_ui_r hb, h.1 b hb], fun j a b => by rw [nb_ui_k (by omega), h.2 j a b]⟩
theorem sq_MW_f9 {I I' : mm_I} (hW : sq_MW n c P I s D B g v ev) (h : sq_f9 I I') : sq_MW n c P I' s D B g v ev := by
  refine sq_MW_keep hW (h.2 26 (by omega) (by omega)) (h.2 29 (by omega) (by omega)) (fun b hb => h.1 b ?_)
  intro e
  subst e
  simp at hb
theorem sq_mseenV {p : Nat} (hW : sq_MW n c P I s D B g v ev) (hp : p < 8) : mm_rn (d + 2) 195 [.inr (.inr (some 239)), .inl ((p : Int))] n I L P = some (some (.inl ((sw_V D v s p : Nat))), n, I, L, P) := by
  obtain ⟨hM, hT, _⟩ := hW
  obtain ⟨hs8, hs, hD, hB, hg, hv⟩ := hT
  have : sp_mask (fun o => decide (I 256 (8 * p + o) ≤ I 253 1)) s = sw_V D v s p := by
    unfold sw_V
    exact sp_mask_ext (fun q hq => by rw [(hD (8 * p + q) (by omega)).1, hv]) s (Nat.le_refl s) (fun p h1 h2 => by omega)
  rw [sp_mseen hM hs hs8 hp, this]
theorem sw_go_inv {k q m r : Nat} {st : Int × Int} (hN : ∀ p, p < s → 0 ≤ N p ∧ N p ≤ 99) : (st.1 = -1 → st.2 = -1) → ((sw_go D v B N s k q m r st).1 = -1 → (sw_go D v B N s k q m r st).2 = -1) := by
  induction k generalizing q m r st with
  | zero =>
    intro h
    unfold sw_go
    split
    · intro h2
      have : (r : Int) = -1 := h2
      omega
    · exact h
  | succ k ih =>
    intro h
    unfold sw_go
    have : ∀ i, (sw_fold (fun p st => if Nat.testBit (B q) p = true then sw_go D v B N s k p (m ||| sw_V D v s p) (10 * r + p) st else st) i st).1 = -1 → (sw_fold (fun p st => if Nat.testBit (B q) p = true then sw_go D v B N s k p (m ||| sw_V D v s p) (10 * r + p) st else st) i st).2 = -1 := by
      intro i
      induction i with
      | zero => exact h
      | succ i ih2 =>
        unfold sw_fold
        split
        · exact ih ih2
        · exact ih2
    exact this s
set_option maxHeartbeats 1000000 in
theorem sq_mgo (hNr : ∀ p, p < s → 0 ≤ N p ∧ N p ≤ 99) : ∀ (k : Nat) (I : mm_I) (q m r : Nat) (st : Int × Int), sq_MW n c P I s D B g v ev → sq_mN I N → q < s → m < 256 → (r + 1) * 10 ^ k ≤ 100000 → I 239 36 = st.1 → I 239 37 = st.2 → (st.1 = -1 → st.2 = -1) → k ≤ 5 →
    sq_X none n L P (fun I' => I' 239 36 = (sw_go D v B N s k q m r st).1 ∧ I' 239 37 = (sw_go D v B N s k q m r st).2 ∧ sq_f9 I I') (mm_rn (d + k + 3) 236 [.inr (.inr (some 239)), .inl ((q : Int)), .inl ((k : Int)), .inl ((m : Int)), .inl ((r : Int))] n I L P) := by
  intro k
  induction k with
  | zero =>
    intro I q m r st hW hN hq hm hr h0 h1 hst hk5
    have ok := hW.1.ok
    have hs : I 239 26 = (s : Int) := hW.2.1.2.1
    have hwo := sq_mworth (d := d) (L := L) hW.1 hW.2.1.1 hs hN hNr hm
    have hk0 : ((0 : Nat) : Int) = 0 := rfl
    have hwr : 0 ≤ sw_W N s m := (sw_W_rg (m := m) hNr s (Nat.le_refl s)).1
    rw [eX12_tryRound]
    by_cases hlt : st.2 < sw_W N s m
    · by_cases h9 : st.1 = -1
      · simp (disch := (first | assumption | omega | exact nb_ix (by omega) (by assumption) (by omega) (by omega) | exact nb_ix (by omega) rfl (by omega) (by omega) | exact nb_ok (by omega) rfl | decide)) only [kX12_tryRound, hk0, hwo, h0, h1, nb_add, nb_sub, nb_mul, Int.toNat_natCast, mm_kr_s, mm_kv_s, if_pos, if_neg, sq_tn, Int.toNat_zero, Int.reduceToNat, Int.reduceNeg, Nat.reduceAdd, Int.reduceAdd, Int.reduceEq, Int.reduceLT, Int.reduceLE, Int.zero_add, nb_ui_s, nb_ui_k, nb_ui_a, sp_min, sp_max, sp_bits]
        refine sq_ret ⟨?_, ?_, sq_f9_up (sq_f9_up (sq_f9_refl _) (by omega)) (by omega)⟩
        · rw [nb_ui_k (by omega), nb_ui_s]; unfold sw_go; rw [if_pos hlt]
        · rw [nb_ui_s]; unfold sw_go; rw [if_pos hlt]
      · simp (disch := (first | assumption | omega | exact nb_ix (by omega) (by assumption) (by omega) (by omega) | exact nb_ix (by omega) rfl (by omega) (by omega) | exact nb_ok (by omega) rfl | decide)) only [kX12_tryRound, hk0, hwo, h0, h1, nb_add, nb_sub, nb_mul, Int.toNat_natCast, mm_kr_s, mm_kv_s, if_pos, if_neg, sq_tn, Int.toNat_zero, Int.reduceToNat, Int.reduceNeg, Nat.reduceAdd, Int.reduceAdd, Int.reduceEq, Int.reduceLT, Int.reduceLE, Int.zero_add, nb_ui_s, nb_ui_k, nb_ui_a, sp_min, sp_max, sp_bits]
        refine sq_ret ⟨?_, ?_, sq_f9_up (sq_f9_up (sq_f9_refl _) (by omega)) (by omega)⟩
        · rw [nb_ui_k (by omega), nb_ui_s]; unfold sw_go; rw [if_pos hlt]
        · rw [nb_ui_s]; unfold sw_go; rw [if_pos hlt]
    · have h9 : ¬ st.1 = -1 := fun e => by have := hst e; omega
      simp (disch := (first | assumption | omega | exact nb_ix (by omega) (by assumption) (by omega) (by omega) | exact nb_ix (by omega) rfl (by omega) (by omega) | exact nb_ok (by omega) rfl | decide)) only [kX12_tryRound, hk0, hwo, h0, h1, nb_add, nb_sub, nb_mul, Int.toNat_natCast, mm_kr_s, mm_kv_s, if_pos, if_neg, sq_tn, Int.toNat_zero, Int.reduceToNat, Int.reduceNeg, Nat.reduceAdd, Int.reduceAdd, Int.reduceEq, Int.reduceLT, Int.reduceLE, Int.zero_add, nb_ui_s, nb_ui_k, nb_ui_a, sp_min, sp_max, sp_bits]
      refine sq_ret ⟨?_, ?_, sq_f9_refl _⟩
      · rw [h0]; unfold sw_go; rw [if_neg hlt]
      · rw [h1]; unfold sw_go; rw [if_neg hlt]
  | succ k ih =>
    intro I q m r st hW hN hq hm hr h0 h1 hst hk5
    have hM := hW.1
    have ok := hW.1.ok
    have hs8 : s ≤ 8 := hW.2.1.1
    have hrl := sw_row_lt hr
    have e1 : ((k + 1 : Nat) : Int) - 1 = (k : Int) := by omega
    obtain ⟨hn, hP⟩ := hM
    rw [eX12_tryRound]
    have hk1 : ¬ ((k + 1 : Nat) : Int) = 0 := by omega
    simp (disch := (first | assumption | omega | exact nb_ix (by omega) (by assumption) (by omega) (by omega) | exact nb_ix (by omega) rfl (by omega) (by omega) | exact nb_ok (by omega) rfl | decide)) only [kX12_tryRound, nb_add, nb_sub, nb_mul, Int.toNat_natCast, mm_kr_s, mm_kv_s, if_pos, if_neg, sq_tn, Int.toNat_zero, Int.reduceToNat, Int.reduceNeg, Nat.reduceAdd, Int.reduceAdd, Int.reduceEq, Int.reduceLT, Int.reduceLE, Int.zero_add, nb_ui_s, nb_ui_k, nb_ui_a, sp_min, sp_max, sp_bits]
    refine sq_loop (fun i (J : mm_I) => mm_E (d + k + 3) 236 44 [.inr (.inr (some 239)), .inl ((q : Int)), .inl (((k + 1 : Nat) : Int)), .inl ((m : Int)), .inl ((r : Int)), .inl ((i : Nat))] [] [] n J L P) (fun i J => J 239 36 = (sw_fold (fun p st => if Nat.testBit (B q) p = true then sw_go D v B N s k p (m ||| sw_V D v s p) (10 * r + p) st else st) i st).1 ∧ J 239 37 = (sw_fold (fun p st => if Nat.testBit (B q) p = true then sw_go D v B N s k p (m ||| sw_V D v s p) (10 * r + p) st else st) i st).2 ∧ ((sw_fold (fun p st => if Nat.testBit (B q) p = true then sw_go D v B N s k p (m ||| sw_V D v s p) (10 * r + p) st else st) i st).1 = -1 → (sw_fold (fun p st => if Nat.testBit (B q) p = true then sw_go D v B N s k p (m ||| sw_V D v s p) (10 * r + p) st else st) i st).2 = -1) ∧ sq_f9 I J) s (s0 := I) ⟨h0, h1, hst, sq_f9_refl _⟩ ?_ ?_
    · intro i J hi ⟨j1, j2, j4, j3⟩ ih2
      have hWJ := sq_MW_f9 hW j3
      have hNJ : sq_mN J N := fun j hj => by rw [j3.1 257 (by decide)]; exact hN j hj
      have hs : J 239 26 = (s : Int) := hWJ.2.1.2.1
      have hb := hWJ.2.1.2.2.2.1 q (by omega)
      have hb1 := hb.1
      have hb2 := hb.2
      have hsv := sq_mseenV (d := d + k + 1) (L := L) hWJ (show i < 8 by omega)
      have hVl : sw_V D v s i < 256 := sw_V_lt hs8
      have hml : m ||| sw_V D v s i < 256 := Nat.or_lt_two_pow (n := 8) hm hVl
      have e2 : 10 * (r : Int) + (i : Int) = ((10 * r + i : Nat) : Int) := by omega
      have ef : sw_fold (fun p st => if Nat.testBit (B q) p = true then sw_go D v B N s k p (m ||| sw_V D v s p) (10 * r + p) st else st) (i + 1) st = if Nat.testBit (B q) i = true then sw_go D v B N s k i (m ||| sw_V D v s i) (10 * r + i) (sw_fold (fun p st => if Nat.testBit (B q) p = true then sw_go D v B N s k p (m ||| sw_V D v s p) (10 * r + p) st else st) i st) else sw_fold (fun p st => if Nat.testBit (B q) p = true then sw_go D v B N s k p (m ||| sw_V D v s p) (10 * r + p) st else st) i st := rfl
      rw [hX12_tryRound_44]
      cases hbt : Nat.testBit (B q) i with
      | true =>
        rw [if_pos hbt] at ef
        simp (disch := (first | assumption | omega | exact nb_ix (by omega) (by assumption) (by omega) (by omega) | exact nb_ix (by omega) rfl (by omega) (by omega) | exact nb_ok (by omega) rfl | decide)) only [kX12_tryRound, hP, hs, hb1, sp_mhas, hbt, hsv, nb_or, e1, e2, nb_add, nb_sub, nb_mul, Int.toNat_natCast, mm_kr_s, mm_kv_s, if_pos, if_neg, sq_tn, Int.toNat_zero, Int.reduceToNat, Int.reduceNeg, Nat.reduceAdd, Int.reduceAdd, Int.reduceEq, Int.reduceLT, Int.reduceLE, Int.zero_add, nb_ui_s, nb_ui_k, nb_ui_a, sp_min, sp_max, sp_bits]
        refine sq_kv (ih J i (m ||| sw_V D v s i) (10 * r + i) _ hWJ hNJ hi hml (sw_row_up hr (by omega)) j1 j2 j4 (by omega)) (fun K hK => ?_)
        simp (disch := (first | assumption | omega | exact nb_ix (by omega) (by assumption) (by omega) (by omega) | exact nb_ix (by omega) rfl (by omega) (by omega) | exact nb_ok (by omega) rfl | decide)) only [kX12_tryRound, nb_add, nb_sub, nb_mul, Int.toNat_natCast, mm_kr_s, mm_kv_s, if_pos, if_neg, sq_tn, Int.toNat_zero, Int.reduceToNat, Int.reduceNeg, Nat.reduceAdd, Int.reduceAdd, Int.reduceEq, Int.reduceLT, Int.reduceLE, Int.zero_add, nb_ui_s, nb_ui_k, nb_ui_a, sp_min, sp_max, sp_bits]
        refine ih2 _ ⟨?_, ?_, ?_, sq_f9_trans j3 hK.2.2⟩
        · rw [ef]; exact hK.1
        · rw [ef]; exact hK.2.1
        · rw [ef]; exact sw_go_inv hNr j4
      | false =>
        rw [if_neg (by rw [hbt]; decide)] at ef
        simp (disch := (first | assumption | omega | exact nb_ix (by omega) (by assumption) (by omega) (by omega) | exact nb_ix (by omega) rfl (by omega) (by omega) | exact nb_ok (by omega) rfl | decide)) only [kX12_tryRound, hP, hs, hb1, sp_mhas, hbt, nb_add, nb_sub, nb_mul, Int.toNat_natCast, mm_kr_s, mm_kv_s, if_pos, if_neg, sq_tn, Int.toNat_zero, Int.reduceToNat, Int.reduceNeg, Nat.reduceAdd, Int.reduceAdd, Int.reduceEq, Int.reduceLT, Int.reduceLE, Int.zero_add, nb_ui_s, nb_ui_k, nb_ui_a, sp_min, sp_max, sp_bits]
        refine ih2 _ ⟨?_, ?_, ?_, j3⟩
        · rw [ef]; exact j1
        · rw [ef]; exact j2
        · rw [ef]; exact j4
    · intro J ⟨j1, j2, j4, j3⟩
      have hs : J 239 26 = (s : Int) := (sq_MW_f9 hW j3).2.1.2.1
      rw [hX12_tryRound_44]
      simp (disch := (first | assumption | omega | exact nb_ix (by omega) (by assumption) (by omega) (by omega) | exact nb_ix (by omega) rfl (by omega) (by omega) | exact nb_ok (by omega) rfl | decide)) only [kX12_tryRound, hs, nb_add, nb_sub, nb_mul, Int.toNat_natCast, mm_kr_s, mm_kv_s, if_pos, if_neg, sq_tn, Int.toNat_zero, Int.reduceToNat, Int.reduceNeg, Nat.reduceAdd, Int.reduceAdd, Int.reduceEq, Int.reduceLT, Int.reduceLE, Int.zero_add, nb_ui_s, nb_ui_k, nb_ui_a, sp_min, sp_max, sp_bits]
      exact sq_ret ⟨j1, j2, j3⟩
theorem om_round (hC : sq_MM n c P I s D B g v ev N) (x w : Int) : sq_X (some (.inl (sa_round D v B N s x w))) n L P (fun I' => sq_mN I' N ∧ sq_f9 I I') (mm_rn (d + 10) 237 [.inr (.inr (some 239)), .inl x, .inl w] n I L P) := by
  obtain ⟨hW, hN, hok, hh⟩ := hC
  have hM := hW.1
  have ok := hW.1.ok
  have hs : I 239 26 = (s : Int) := hW.2.1.2.1
  have hs8 : s ≤ 8 := hW.2.1.1
  have hNr : ∀ p, p < s → 0 ≤ N p ∧ N p ≤ 99 := fun p hp => (hok.1 p (by omega)).1
  rw [eX12_round]
  by_cases h : 0 < s ∧ (1 ≤ x ∧ x ≤ 5) ∧ 0 ≤ w ∧ w ≤ 1
  · obtain ⟨m, rfl⟩ : ∃ k : Nat, x = (k : Int) := ⟨x.toNat, by omega⟩
    unfold sa_round
    rw [if_pos h, Int.toNat_natCast]
    have h0 : ¬ (s : Int) = 0 := by omega
    obtain ⟨q, hq⟩ : ∃ q : Nat, N 24 = (q : Int) := ⟨(N 24).toNat, by have := hok.2.1; omega⟩
    have hqs : q < s := by have := hok.2.1; omega
    have hqn : (N 24).toNat = q := by omega
    rw [hqn]
    have e24 : I 257 24 = (q : Int) := by rw [hN 24 (by omega), hq]
    have hfr : sq_f9 I (mm_ui (mm_ui I 239 36 (-1)) 239 37 (-1)) := sq_f9_up (sq_f9_up (sq_f9_refl _) (by omega)) (by omega)
    have hWJ := sq_MW_f9 hW hfr
    have hsv := sq_mseenV (d := d + 7) (L := L) hWJ (show q < 8 by omega)
    obtain ⟨hn, hP⟩ := hM
    simp (disch := (first | assumption | omega | exact nb_ix (by omega) (by assumption) (by omega) (by omega) | exact nb_ix (by omega) rfl (by omega) (by omega) | exact nb_ok (by omega) rfl | decide)) only [kX12_round, hP, hs, sp_min2, e24, hsv, nb_add, nb_sub, nb_mul, Int.toNat_natCast, mm_kr_s, mm_kv_s, if_pos, if_neg, sq_tn, Int.toNat_zero, Int.reduceToNat, Int.reduceNeg, Nat.reduceAdd, Int.reduceAdd, Int.reduceEq, Int.reduceLT, Int.reduceLE, Int.zero_add, nb_ui_s, nb_ui_k, nb_ui_a, sp_min, sp_max, sp_bits]
    obtain ⟨e, he⟩ : ∃ e, d + 9 = e + m + 3 := ⟨d + 6 - m, by omega⟩
    rw [he]
    refine sq_kv (sq_mgo (d := e) (N := N) hNr m _ q (sw_V D v s q) 0 (-1, -1) hWJ ?_ hqs (sw_V_lt hs8) ?_ ?_ ?_ (fun _ => rfl) (by omega)) (fun K hK => ?_)
    · intro j hj
      rw [hfr.1 257 (by decide)]
      exact hN j hj
    · have : m = 0 ∨ m = 1 ∨ m = 2 ∨ m = 3 ∨ m = 4 ∨ m = 5 := by omega
      rcases this with e | e | e | e | e | e <;> subst e <;> decide
    · simp [mm_ui]
    · simp [mm_ui]
    obtain ⟨k1, k2, k3⟩ := hK
    have hf := sq_f9_trans hfr k3
    have hNK : sq_mN K N := fun j hj => by rw [hf.1 257 (by decide)]; exact hN j hj
    by_cases hw : w = 0
    · simp (disch := (first | assumption | omega | exact nb_ix (by omega) (by assumption) (by omega) (by omega) | exact nb_ix (by omega) rfl (by omega) (by omega) | exact nb_ok (by omega) rfl | decide)) only [kX12_round, k1, k2, nb_add, nb_sub, nb_mul, Int.toNat_natCast, mm_kr_s, mm_kv_s, if_pos, if_neg, sq_tn, Int.toNat_zero, Int.reduceToNat, Int.reduceNeg, Nat.reduceAdd, Int.reduceAdd, Int.reduceEq, Int.reduceLT, Int.reduceLE, Int.zero_add, nb_ui_s, nb_ui_k, nb_ui_a, sp_min, sp_max, sp_bits]
      exact sq_ret ⟨hNK, hf⟩
    · simp (disch := (first | assumption | omega | exact nb_ix (by omega) (by assumption) (by omega) (by omega) | exact nb_ix (by omega) rfl (by omega) (by omega) | exact nb_ok (by omega) rfl | decide)) only [kX12_round, k1, k2, nb_add, nb_sub, nb_mul, Int.toNat_natCast, mm_kr_s, mm_kv_s, if_pos, if_neg, sq_tn, Int.toNat_zero, Int.reduceToNat, Int.reduceNeg, Nat.reduceAdd, Int.reduceAdd, Int.reduceEq, Int.reduceLT, Int.reduceLE, Int.zero_add, nb_ui_s, nb_ui_k, nb_ui_a, sp_min, sp_max, sp_bits]
      exact sq_ret ⟨hNK, hf⟩
  · have : sa_round D v B N s x w = -1 := if_neg h
    rw [this]
    by_cases h0 : s = 0
    · simp (disch := (first | assumption | omega | exact nb_ix (by omega) (by assumption) (by omega) (by omega) | exact nb_ix (by omega) rfl (by omega) (by omega) | exact nb_ok (by omega) rfl | decide)) only [kX12_round, hs, nb_add, nb_sub, nb_mul, Int.toNat_natCast, mm_kr_s, mm_kv_s, if_pos, if_neg, sq_tn, Int.toNat_zero, Int.reduceToNat, Int.reduceNeg, Nat.reduceAdd, Int.reduceAdd, Int.reduceEq, Int.reduceLT, Int.reduceLE, Int.zero_add, nb_ui_s, nb_ui_k, nb_ui_a, sp_min, sp_max, sp_bits]
      exact sq_ret ⟨hN, sq_f9_refl _⟩
    · by_cases h1 : 1 ≤ x ∧ x ≤ 5
      · simp (disch := (first | assumption | omega | exact nb_ix (by omega) (by assumption) (by omega) (by omega) | exact nb_ix (by omega) rfl (by omega) (by omega) | exact nb_ok (by omega) rfl | decide)) only [kX12_round, hs, sp_min2, nb_add, nb_sub, nb_mul, Int.toNat_natCast, mm_kr_s, mm_kv_s, if_pos, if_neg, sq_tn, Int.toNat_zero, Int.reduceToNat, Int.reduceNeg, Nat.reduceAdd, Int.reduceAdd, Int.reduceEq, Int.reduceLT, Int.reduceLE, Int.zero_add, nb_ui_s, nb_ui_k, nb_ui_a, sp_min, sp_max, sp_bits]
        exact sq_ret ⟨hN, sq_f9_refl _⟩
      · simp (disch := (first | assumption | omega | exact nb_ix (by omega) (by assumption) (by omega) (by omega) | exact nb_ix (by omega) rfl (by omega) (by omega) | exact nb_ok (by omega) rfl | decide)) only [kX12_round, hs, sp_min2, nb_add, nb_sub, nb_mul, Int.toNat_natCast, mm_kr_s, mm_kv_s, if_pos, if_neg, sq_tn, Int.toNat_zero, Int.reduceToNat, Int.reduceNeg, Nat.reduceAdd, Int.reduceAdd, Int.reduceEq, Int.reduceLT, Int.reduceLE, Int.zero_add, nb_ui_s, nb_ui_k, nb_ui_a, sp_min, sp_max, sp_bits]
        exact sq_ret ⟨hN, sq_f9_refl _⟩
end RD
