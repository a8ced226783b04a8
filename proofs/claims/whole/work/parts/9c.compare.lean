/-! sums wherever they stand; comparisons -/
section CM
variable {n a x S dp r i : Nat} {P : mm_P} {T : Nat → Int}
theorem zJ_sums (hL : sp_L n P a) (ha : 20 ≤ a) (hx : x < 5) (hS : S ≤ 240) : ∀ (m i : Nat), S - i < m → i ≤ S → ∀ dp r, dp + r = 6 → zJ n P a x T S dp (2 * r + 1) i (3 * r + 4) 37 161 ∧ zJt n P a x T S dp (2 * r + 1 + 1) i (3 * r + 4) 36 162 ∧ zJ n P a x T S dp (2 * r + 1 + 1) i (3 * r + 4 + 1) 36 162 ∧ zJt n P a x T S dp (2 * r + 2 + 1) i (3 * r + 5) 35 163 ∧ zJ n P a x T S dp (2 * r + 2 + 1) i (3 * r + 5 + 1) 35 163 := by
  intro m
  induction m with
  | zero => intro i h; omega
  | succ m ih =>
    intro i hm hi dp r hr
    have A := zJ_atom (T := T) (r := r) (dp := dp) hL ha hx hS hr hi (fun q hq i' h1 h2 => (ih i' (by omega) h2 (dp + 1) q (by omega)).2.2.2.2)
    have B := zJt_term (T := T) (r := r) (dp := dp) hL ha hx hS hr hi (fun i' h1 h2 => (ih i' (by omega) h2 dp r hr).1) (fun i' h1 h2 => (ih i' (by omega) h2 dp r hr).2.1)
    have C := zJ_term (T := T) (r := r) (dp := dp) hL ha hx hS hr hi A (fun i' h1 h2 => (ih i' (by omega) h2 dp r hr).2.1)
    have D := zJt_sum (T := T) (r := r) (dp := dp) hL ha hx hS hr hi (fun i' h1 h2 => (ih i' (by omega) h2 dp r hr).2.2.1) (fun i' h1 h2 => (ih i' (by omega) h2 dp r hr).2.2.2.1)
    have E := zJ_sum (T := T) (r := r) (dp := dp) hL ha hx hS hr hi C (fun i' h1 h2 => (ih i' (by omega) h2 dp r hr).2.2.2.1)
    exact ⟨A, B, C, D, E⟩
theorem zJ_S (hL : sp_L n P a) (ha : 20 ≤ a) (hx : x < 5) (hS : S ≤ 240) (hr : dp + r = 6) (hi : i ≤ S) : zJ n P a x T S dp (2 * r + 3) i (3 * r + 6) 35 163 := (zJ_sums hL ha hx hS (S - i + 1) i (by omega) hi dp r hr).2.2.2.2
def zq (c : Int) : Int := if c = 61 then 6 else if c = 60 then 7 else if c = 62 then 8 else -1
theorem zc_cmp {d : Nat} {I L : mm_I} (c : Int) : mm_rn (d + 1) 34 [.inl c] n I L P = some (some (.inl (zq c)), n, I, L, P) := by
  rw [eX4_comparisonOf]
  unfold zq
  by_cases h1 : c = 61
  · subst h1; simp (disch := (first | assumption | omega | exact nb_ix (by omega) (by assumption) (by omega) (by omega) | exact nb_ix (by omega) rfl (by omega) (by omega) | exact nb_ok (by omega) rfl | decide)) only [kX4_comparisonOf, ↓if_pos, ↓if_neg, nb_add, nb_sub, nb_mul, Int.toNat_natCast, mm_kr_s, mm_kv_s, if_pos, if_neg, sq_tn, Int.toNat_zero, Int.reduceToNat, Int.reduceNeg, Nat.reduceAdd, Int.reduceAdd, Int.reduceEq, Int.reduceLT, Int.reduceLE, Int.zero_add, nb_ui_s, nb_ui_k, nb_ui_a, sp_min, sp_max, sp_bits]
  · rw [if_neg h1]
    by_cases h2 : c = 60
    · subst h2; simp (disch := (first | assumption | omega | exact nb_ix (by omega) (by assumption) (by omega) (by omega) | exact nb_ix (by omega) rfl (by omega) (by omega) | exact nb_ok (by omega) rfl | decide)) only [kX4_comparisonOf, ↓if_pos, ↓if_neg, nb_add, nb_sub, nb_mul, Int.toNat_natCast, mm_kr_s, mm_kv_s, if_pos, if_neg, sq_tn, Int.toNat_zero, Int.reduceToNat, Int.reduceNeg, Nat.reduceAdd, Int.reduceAdd, Int.reduceEq, Int.reduceLT, Int.reduceLE, Int.zero_add, nb_ui_s, nb_ui_k, nb_ui_a, sp_min, sp_max, sp_bits]
    · rw [if_neg h2]
      by_cases h3 : c = 62
      · subst h3; simp (disch := (first | assumption | omega | exact nb_ix (by omega) (by assumption) (by omega) (by omega) | exact nb_ix (by omega) rfl (by omega) (by omega) | exact nb_ok (by omega) rfl | decide)) only [kX4_comparisonOf, ↓if_pos, ↓if_neg, nb_add, nb_sub, nb_mul, Int.toNat_natCast, mm_kr_s, mm_kv_s, if_pos, if_neg, sq_tn, Int.toNat_zero, Int.reduceToNat, Int.reduceNeg, Nat.reduceAdd, Int.reduceAdd, Int.reduceEq, Int.reduceLT, Int.reduceLE, Int.zero_add, nb_ui_s, nb_ui_k, nb_ui_a, sp_min, sp_max, sp_bits]
      · rw [if_neg h3]; simp (disch := (first | assumption | omega | exact nb_ix (by omega) (by assumption) (by omega) (by omega) | exact nb_ix (by omega) rfl (by omega) (by omega) | exact nb_ok (by omega) rfl | decide)) only [kX4_comparisonOf, ↓if_pos, ↓if_neg, nb_add, nb_sub, nb_mul, Int.toNat_natCast, mm_kr_s, mm_kv_s, if_pos, if_neg, sq_tn, Int.toNat_zero, Int.reduceToNat, Int.reduceNeg, Nat.reduceAdd, Int.reduceAdd, Int.reduceEq, Int.reduceLT, Int.reduceLE, Int.zero_add, nb_ui_s, nb_ui_k, nb_ui_a, sp_min, sp_max, sp_bits]
theorem zm_sgn {d : Nat} {I L : mm_I} (c : Int) : mm_rn (d + 1) 164 [.inl c] n I L P = some (some (.inl (if zq c = -1 then 0 else 1)), n, I, L, P) := by
  rw [eX12_isSign]
  unfold zq
  by_cases h1 : c = 61
  · subst h1; simp (disch := (first | assumption | omega | exact nb_ix (by omega) (by assumption) (by omega) (by omega) | exact nb_ix (by omega) rfl (by omega) (by omega) | exact nb_ok (by omega) rfl | decide)) only [kX12_isSign, ↓if_pos, ↓if_neg, nb_add, nb_sub, nb_mul, Int.toNat_natCast, mm_kr_s, mm_kv_s, if_pos, if_neg, sq_tn, Int.toNat_zero, Int.reduceToNat, Int.reduceNeg, Nat.reduceAdd, Int.reduceAdd, Int.reduceEq, Int.reduceLT, Int.reduceLE, Int.zero_add, nb_ui_s, nb_ui_k, nb_ui_a, sp_min, sp_max, sp_bits]
  · rw [if_neg h1]
    by_cases h2 : c = 60
    · subst h2; simp (disch := (first | assumption | omega | exact nb_ix (by omega) (by assumption) (by omega) (by omega) | exact nb_ix (by omega) rfl (by omega) (by omega) | exact nb_ok (by omega) rfl | decide)) only [kX12_isSign, ↓if_pos, ↓if_neg, nb_add, nb_sub, nb_mul, Int.toNat_natCast, mm_kr_s, mm_kv_s, if_pos, if_neg, sq_tn, Int.toNat_zero, Int.reduceToNat, Int.reduceNeg, Nat.reduceAdd, Int.reduceAdd, Int.reduceEq, Int.reduceLT, Int.reduceLE, Int.zero_add, nb_ui_s, nb_ui_k, nb_ui_a, sp_min, sp_max, sp_bits]
    · rw [if_neg h2]
      by_cases h3 : c = 62
      · subst h3; simp (disch := (first | assumption | omega | exact nb_ix (by omega) (by assumption) (by omega) (by omega) | exact nb_ix (by omega) rfl (by omega) (by omega) | exact nb_ok (by omega) rfl | decide)) only [kX12_isSign, ↓if_pos, ↓if_neg, nb_add, nb_sub, nb_mul, Int.toNat_natCast, mm_kr_s, mm_kv_s, if_pos, if_neg, sq_tn, Int.toNat_zero, Int.reduceToNat, Int.reduceNeg, Nat.reduceAdd, Int.reduceAdd, Int.reduceEq, Int.reduceLT, Int.reduceLE, Int.zero_add, nb_ui_s, nb_ui_k, nb_ui_a, sp_min, sp_max, sp_bits]
      · rw [if_neg h3]; simp (disch := (first | assumption | omega | exact nb_ix (by omega) (by assumption) (by omega) (by omega) | exact nb_ix (by omega) rfl (by omega) (by omega) | exact nb_ok (by omega) rfl | decide)) only [kX12_isSign, ↓if_pos, ↓if_neg, nb_add, nb_sub, nb_mul, Int.toNat_natCast, mm_kr_s, mm_kv_s, if_pos, if_neg, sq_tn, Int.toNat_zero, Int.reduceToNat, Int.reduceNeg, Nat.reduceAdd, Int.reduceAdd, Int.reduceEq, Int.reduceLT, Int.reduceLE, Int.zero_add, nb_ui_s, nb_ui_k, nb_ui_a, sp_min, sp_max, sp_bits]
theorem zq_rg {c : Int} (h : ¬ zq c = -1) : ∃ op : Nat, 6 ≤ op ∧ op ≤ 8 ∧ zq c = (op : Int) ∧ ((c = 61 ∧ op = 6) ∨ (c = 60 ∧ op = 7) ∨ (c = 62 ∧ op = 8)) := by
  by_cases h1 : c = 61
  · subst h1; exact ⟨6, by decide, by decide, by decide, by decide⟩
  · by_cases h2 : c = 60
    · subst h2; exact ⟨7, by decide, by decide, by decide, by decide⟩
    · by_cases h3 : c = 62
      · subst h3; exact ⟨8, by decide, by decide, by decide, by decide⟩
      · exact absurd (by unfold zq; rw [if_neg h1, if_neg h2, if_neg h3]) h
/-- tokens whose worth is 0 or 1 -/
def sx_C (k : Nat) (toks : List (Nat × Int)) : Prop := ∀ l, sx_okl l → ∃ x, (x = 0 ∨ x = 1) ∧ ∀ st : List Int, st.length + k ≤ 60 → sx_ev l toks st = some (x :: st)
def sx_Cc (k : Nat) (toks : List (Nat × Int)) : Prop := ∀ l, sx_okl l → ∀ x, ∃ y, (y = 0 ∨ y = 1) ∧ ∀ st : List Int, st.length + k ≤ 60 → sx_ev l toks (x :: st) = some (y :: st)
def sx_Ct (k : Nat) (toks : List (Nat × Int)) : Prop := ∀ l, sx_okl l → ∀ x, (x = 0 ∨ x = 1) → ∃ y, (y = 0 ∨ y = 1) ∧ ∀ st : List Int, st.length + k ≤ 60 → sx_ev l toks (x :: st) = some (y :: st)
def zw (p : List (Nat × Int) → Prop) : zo → Prop
  | .inl _ => True
  | .inr q => p q.2
theorem sx_Cc_cmp {k c : Nat} {t1 : List (Nat × Int)} (hc : 6 ≤ c ∧ c ≤ 8) (h1 : sx_S k t1) : sx_Cc (k + 1) (t1 ++ [(c, 0)]) := by
  intro l hl x
  obtain ⟨y1, e1⟩ := h1 l hl
  refine ⟨sx_op c x y1, ?_, fun st hst => ?_⟩
  · have : c = 6 ∨ c = 7 ∨ c = 8 := by omega
    rcases this with e | e | e <;> subst e <;> unfold sx_op <;> simp <;> omega
  · rw [sx_ev_app t1 (x :: st) (y1 :: x :: st) (e1 (x :: st) (by simp; omega))]
    refine sx_ev_1 ?_
    show sx_st l c 0 (y1 :: x :: st) = _
    unfold sx_st
    rw [if_neg (by omega), if_neg (by omega), if_neg (by omega), if_pos (by omega)]
    show (if c ≤ 8 ∨ ((x = 0 ∨ x = 1) ∧ (y1 = 0 ∨ y1 = 1)) then some (sx_op c x y1 :: st) else none) = _
    rw [if_pos (Or.inl hc.2)]
/-- both halves come to the same -/
def zB (n : Nat) (P : mm_P) (a x : Nat) (T : Nat → Int) (S dp : Nat) (gd : zo → Prop) (Rc Rm : Nat → mm_I → mm_I → Option mm_A) (m i : Nat) : Prop := ∃ o : zo, gd o ∧ (∀ d, m ≤ d → zcX n P a T S (Rc d) i o) ∧ (∀ d, m ≤ d → zmX n P x T S dp (Rm d) i o)
def zcmp (n : Nat) (P : mm_P) (a x : Nat) (T : Nat → Int) (S dp k i m : Nat) : Prop := ∃ o : zo, zg S i o ∧ zw (sx_Cc k) o ∧ (∀ (d : Nat) (b v4 v5 : mm_V), m ≤ d → zcX n P a T S (fun I L => mm_E d 32 66 [.inr (.inr (some 1)), .inr (.inr (some a)), .inl ((dp : Int)), b, v4, v5] [] [] n I L P) i o) ∧ (∀ d, m ≤ d → zmX n P x T S dp (fun I L => mm_rn d 165 [.inr (.inr (some 239))] n I L P) i o)
set_option maxHeartbeats 4000000 in
theorem zJ_cmp (hL : sp_L n P a) (ha : 20 ≤ a) (hx : x < 5) (hS : S ≤ 240) (hr : dp + r = 6) (hi : i ≤ S) : zcmp n P a x T S dp (2 * r + 4) i (3 * r + 7) := by
  have okL := hL.ok
  obtain ⟨j, hk⟩ := zk_ex (T := T) (S := S) (S - i) i rfl hi
  have hk' := hk
  obtain ⟨k1, k2, k3, k4⟩ := hk'
  generalize hc : zp T S j = c
  by_cases hq : zq c = -1
  · refine ⟨.inl j, k2, trivial, fun d b v4 v5 hd I L c0 hz h2 h3 h4 => ?_, fun d hd I L c0 hz h2 hw h5 hx14 h6 h7 => ?_⟩
    · obtain ⟨e, rfl⟩ : ∃ e, d = e + 2 := ⟨d - 2, by omega⟩
      have hn := hz.1
      have hp := zc_peek (d := e + 1) (L := L) hz hk h2
      have hcm := zc_cmp (d := e + 1) (n := n) (P := P) (L := L) (I := mm_ui I 1 2 (j : Int)) c
      rw [hq] at hcm
      show sq_X _ _ _ _ _ (mm_E (e + 2) 32 66 _ _ _ n I L P)
      simp (disch := (first | assumption | omega | exact nb_ix (by omega) (by assumption) (by omega) (by omega) | exact nb_ix (by omega) rfl (by omega) (by omega) | exact nb_ok (by omega) rfl | decide)) only [kX4_readUnit, hp, hc, hcm, ↓if_pos, ↓if_neg, nb_add, nb_sub, nb_mul, Int.toNat_natCast, mm_kr_s, mm_kv_s, if_pos, if_neg, sq_tn, Int.toNat_zero, Int.reduceToNat, Int.reduceNeg, Nat.reduceAdd, Int.reduceAdd, Int.reduceEq, Int.reduceLT, Int.reduceLE, Int.zero_add, nb_ui_s, nb_ui_k, nb_ui_a, sp_min, sp_max, sp_bits]
      exact sq_ret ⟨by rw [nb_ui_s], (zcF.refl a I).at ha⟩
    · obtain ⟨e, rfl⟩ : ∃ e, d = e + 4 := ⟨d - 4, by omega⟩
      have ok := hz.1.ok
      have hp := zm_look (d := e + 1) (L := L) hz hk h2
      have hsg := zm_sgn (d := e + 2) (n := n) (P := P) (L := L) (I := mm_ui I 239 3 (j : Int)) c
      rw [if_pos hq] at hsg
      have hb := zm_bad (d := e + 2) (n := n) (L := L) (P := P) (I := mm_ui I 239 3 (j : Int)) (p := j) hz.1 (by rw [nb_ui_k (by decide)]; exact hw) (by rw [nb_ui_s])
      show sq_X _ _ _ _ _ (mm_rn (e + 4) 165 _ n I L P)
      rw [eX12_compare]
      simp (disch := (first | assumption | omega | exact nb_ix (by omega) (by assumption) (by omega) (by omega) | exact nb_ix (by omega) rfl (by omega) (by omega) | exact nb_ok (by omega) rfl | decide)) only [kX12_compare, hw, hp, hc, hsg, hb, ↓if_pos, ↓if_neg, nb_add, nb_sub, nb_mul, Int.toNat_natCast, mm_kr_s, mm_kv_s, if_pos, if_neg, sq_tn, Int.toNat_zero, Int.reduceToNat, Int.reduceNeg, Nat.reduceAdd, Int.reduceAdd, Int.reduceEq, Int.reduceLT, Int.reduceLE, Int.zero_add, nb_ui_s, nb_ui_k, nb_ui_a, sp_min, sp_max, sp_bits]
      refine sq_ret ⟨?_, ?_, j, c0, ?_, ?_, by omega, by omega, by omega, by omega⟩
      · rw [nb_ui_s]
      · exact ((zmF.refl x c0 I).at (by omega)).at (by omega)
      · rw [nb_ui_k (by decide), nb_ui_s]
      · rw [nb_ui_a (by decide), nb_ui_a (by decide)]; exact h6
  · obtain ⟨op, o6, o8, hqo, hcs⟩ := zq_rg hq
    have hjS : j < S := zp_S hc (by omega)
    have hsgn : sx_enc (op, 0) = (op : Int) := by
      unfold sx_enc
      show (if op ≤ 1 then _ else if op ≤ 8 then _ else _) = _
      rw [if_neg (by omega), if_pos (by omega)]
    obtain ⟨o1, og, os, oc, om⟩ := zJ_S (T := T) (i := j + 1) (r := r) (dp := dp) hL ha hx hS hr (by omega)
    have hC : ∀ (d : Nat) (b v4 v5 : mm_V) (I L : mm_I), 4 ≤ d → zc n P I T S → I 1 2 = (i : Int) → mm_E d 32 66 [.inr (.inr (some 1)), .inr (.inr (some a)), .inl ((dp : Int)), b, v4, v5] [] [] n I L P = mm_kr d 32 99 [.inr (.inr (some 1)), .inr (.inr (some a)), .inl ((dp : Int)), b, v4, .inl ((op : Int))] [] [] n (mm_rn d 35 [.inr (.inr (some 1)), .inr (.inr (some a)), .inl ((dp : Int))] n (mm_ui I 1 2 ((j + 1 : Nat) : Int)) L P) := by
      intro d b v4 v5 I L hd hz h2
      obtain ⟨e, rfl⟩ : ∃ e, d = e + 2 := ⟨d - 2, by omega⟩
      have hn := hz.1
      have hp := zc_peek (d := e + 1) (L := L) hz hk h2
      have hcm := zc_cmp (d := e + 1) (n := n) (P := P) (L := L) (I := mm_ui I 1 2 (j : Int)) c
      rw [hqo] at hcm
      have e1 : (j : Int) + 1 = ((j + 1 : Nat) : Int) := by omega
      have cop : ¬ (op : Int) = -1 := by omega
      simp (disch := (first | assumption | omega | exact nb_ix (by omega) (by assumption) (by omega) (by omega) | exact nb_ix (by omega) rfl (by omega) (by omega) | exact nb_ok (by omega) rfl | decide)) only [kX4_readUnit, hp, hc, hcm, e1, nb_ui_2, ↓if_pos, ↓if_neg, nb_add, nb_sub, nb_mul, Int.toNat_natCast, mm_kr_s, mm_kv_s, if_pos, if_neg, sq_tn, Int.toNat_zero, Int.reduceToNat, Int.reduceNeg, Nat.reduceAdd, Int.reduceAdd, Int.reduceEq, Int.reduceLT, Int.reduceLE, Int.zero_add, nb_ui_s, nb_ui_k, nb_ui_a, sp_min, sp_max, sp_bits]
      done
    have hMd : ∀ (d : Nat) (I L : mm_I), 4 ≤ d → zm n P I T S → I 239 3 = (i : Int) → I 239 4 = -1 → mm_rn (d + 1) 165 [.inr (.inr (some 239))] n I L P = mm_kv d 165 43 [.inr (.inr (some 239)), .inl c] [] [] n (mm_rn d 163 [.inr (.inr (some 239))] n (mm_ui I 239 3 ((j + 1 : Nat) : Int)) L P) := by
      intro d I L hd hz h2 hw
      obtain ⟨e, rfl⟩ : ∃ e, d = e + 3 := ⟨d - 3, by omega⟩
      have ok := hz.1.ok
      have e1 : (j : Int) + 1 = ((j + 1 : Nat) : Int) := by omega
      have hp := zm_look (d := e + 1) (L := L) hz hk h2
      have hsg := zm_sgn (d := e + 2) (n := n) (P := P) (L := L) (I := mm_ui I 239 3 (j : Int)) c
      rw [if_neg hq] at hsg
      rw [eX12_compare]
      simp (disch := (first | assumption | omega | exact nb_ix (by omega) (by assumption) (by omega) (by omega) | exact nb_ix (by omega) rfl (by omega) (by omega) | exact nb_ok (by omega) rfl | decide)) only [kX12_compare, hw, hp, hc, hsg, e1, nb_ui_2, ↓if_pos, ↓if_neg, nb_add, nb_sub, nb_mul, Int.toNat_natCast, mm_kr_s, mm_kv_s, if_pos, if_neg, sq_tn, Int.toNat_zero, Int.reduceToNat, Int.reduceNeg, Nat.reduceAdd, Int.reduceAdd, Int.reduceEq, Int.reduceLT, Int.reduceLE, Int.zero_add, nb_ui_s, nb_ui_k, nb_ui_a, sp_min, sp_max, sp_bits]
      done
    have hMp : ∀ (d c1 : Nat) (I L : mm_I), 4 ≤ d → sp_M n P → I 239 14 = (x : Int) → I 243 x = (c1 : Int) → c1 < 520 → mm_E d 165 43 [.inr (.inr (some 239)), .inl c] [] [] n I L P = some (none, n, mm_ui (mm_ui (mm_ui I 241 (520 * x + c1) (op : Int)) 242 (520 * x + c1) 0) 243 x ((c1 + 1 : Nat) : Int), L, P) := by
      intro d c1 I L hd hM h14 h6 h7
      obtain ⟨e, rfl⟩ : ∃ e, d = e + 1 := ⟨d - 1, by omega⟩
      have ok := hM.ok
      have hpt := zm_put (d := e) (n := n) (L := L) (P := P) (I := I) (x := x) (c0 := c1) (s := (op : Int)) (v := 0) hM h14 hx h6 h7
      rcases hcs with ⟨e1, e2⟩ | ⟨e1, e2⟩ | ⟨e1, e2⟩
      · subst e1; subst e2
        have e3 : ((6 : Nat) : Int) = 6 := rfl
        rw [e3] at hpt ⊢
        simp (disch := (first | assumption | omega | exact nb_ix (by omega) (by assumption) (by omega) (by omega) | exact nb_ix (by omega) rfl (by omega) (by omega) | exact nb_ok (by omega) rfl | decide)) only [kX12_compare, hpt, ↓if_pos, ↓if_neg, nb_add, nb_sub, nb_mul, Int.toNat_natCast, mm_kr_s, mm_kv_s, if_pos, if_neg, sq_tn, Int.toNat_zero, Int.reduceToNat, Int.reduceNeg, Nat.reduceAdd, Int.reduceAdd, Int.reduceEq, Int.reduceLT, Int.reduceLE, Int.zero_add, nb_ui_s, nb_ui_k, nb_ui_a, sp_min, sp_max, sp_bits]
        done
      · subst e1; subst e2
        have e3 : ((7 : Nat) : Int) = 7 := rfl
        rw [e3] at hpt ⊢
        simp (disch := (first | assumption | omega | exact nb_ix (by omega) (by assumption) (by omega) (by omega) | exact nb_ix (by omega) rfl (by omega) (by omega) | exact nb_ok (by omega) rfl | decide)) only [kX12_compare, hpt, ↓if_pos, ↓if_neg, nb_add, nb_sub, nb_mul, Int.toNat_natCast, mm_kr_s, mm_kv_s, if_pos, if_neg, sq_tn, Int.toNat_zero, Int.reduceToNat, Int.reduceNeg, Nat.reduceAdd, Int.reduceAdd, Int.reduceEq, Int.reduceLT, Int.reduceLE, Int.zero_add, nb_ui_s, nb_ui_k, nb_ui_a, sp_min, sp_max, sp_bits]
        done
      · subst e1; subst e2
        have e3 : ((8 : Nat) : Int) = 8 := rfl
        rw [e3] at hpt ⊢
        simp (disch := (first | assumption | omega | exact nb_ix (by omega) (by assumption) (by omega) (by omega) | exact nb_ix (by omega) rfl (by omega) (by omega) | exact nb_ok (by omega) rfl | decide)) only [kX12_compare, hpt, ↓if_pos, ↓if_neg, nb_add, nb_sub, nb_mul, Int.toNat_natCast, mm_kr_s, mm_kv_s, if_pos, if_neg, sq_tn, Int.toNat_zero, Int.reduceToNat, Int.reduceNeg, Nat.reduceAdd, Int.reduceAdd, Int.reduceEq, Int.reduceLT, Int.reduceLE, Int.zero_add, nb_ui_s, nb_ui_k, nb_ui_a, sp_min, sp_max, sp_bits]
        done
    cases o1 with
    | inl p =>
      refine ⟨.inl p, og, trivial, fun d b v4 v5 hd I L c0 hz h2 h3 h4 => ?_, fun d hd I L c0 hz h2 hw h5 hx14 h6 h7 => ?_⟩
      · show sq_X _ _ _ _ _ (mm_E d 32 66 _ _ _ n I L P)
        rw [hC d b v4 v5 I L (by omega) hz h2]
        have t := oc d (by omega) (mm_ui I 1 2 ((j + 1 : Nat) : Int)) L c0 (hz.up (by decide) (by decide)) (by rw [nb_ui_s]) (by rw [nb_ui_a (by omega)]; exact h3) (by omega)
        refine sq_kr t (fun I' hI => ?_)
        have e0 : zr (Sum.inl p : zo) = 0 := rfl
        simp (disch := (first | assumption | omega | exact nb_ix (by omega) (by assumption) (by omega) (by omega) | exact nb_ix (by omega) rfl (by omega) (by omega) | exact nb_ok (by omega) rfl | decide)) only [kX4_readUnit, e0, ↓if_pos, ↓if_neg, nb_add, nb_sub, nb_mul, Int.toNat_natCast, mm_kr_s, mm_kv_s, if_pos, if_neg, sq_tn, Int.toNat_zero, Int.reduceToNat, Int.reduceNeg, Nat.reduceAdd, Int.reduceAdd, Int.reduceEq, Int.reduceLT, Int.reduceLE, Int.zero_add, nb_ui_s, nb_ui_k, nb_ui_a, sp_min, sp_max, sp_bits]
        exact sq_ret ⟨hI.1, ((zcF.refl a I).at ha).tr hI.2⟩
      · obtain ⟨e, rfl⟩ : ∃ e, d = e + 1 := ⟨d - 1, by omega⟩
        show sq_X _ _ _ _ _ (mm_rn (e + 1) 165 _ n I L P)
        rw [hMd e I L (by omega) hz h2 hw]
        have t := om e (by omega) (mm_ui I 239 3 ((j + 1 : Nat) : Int)) L c0 (hz.up (by decide) (by decide)) (by rw [nb_ui_s]) (by rw [nb_ui_k (by decide)]; exact hw) (by rw [nb_ui_k (by decide)]; exact h5) (by rw [nb_ui_k (by decide)]; exact hx14) (by rw [nb_ui_a (by decide)]; exact h6) (by omega)
        refine sq_kv t (fun I' hI => ?_)
        obtain ⟨i1, i2, t, c', i3, i4, i5, i6, i7, i8⟩ := hI
        have hf := ((zmF.refl x c0 I).at (k := 3) (z := ((j + 1 : Nat) : Int)) (by omega)).tr i2 (Nat.le_refl _)
        rw [hMp e c' I' L (by omega) hz.1 (hf.tx hx14) i4 (by omega)]
        refine sq_ret ⟨?_, ?_, t, c' + 1, ?_, ?_, by omega, by omega, by omega, by omega⟩
        · rw [nb_ui_a (by decide), nb_ui_a (by decide), nb_ui_a (by decide)]; exact i1
        · exact zmF.pt hf i8 (by omega)
        · rw [nb_ui_a (by decide), nb_ui_a (by decide), nb_ui_a (by decide)]; exact i3
        · rw [nb_ui_s]
    | inr w =>
      obtain ⟨j1, t1⟩ := w
      obtain ⟨g1, g2, g3⟩ := og
      have g1' : j + 1 < j1 := g1
      have g2' : j1 ≤ S := g2
      have g3' : t1.length + (j + 1) ≤ j1 := g3
      refine ⟨.inr (j1, t1 ++ [(op, 0)]), ⟨by show i < j1; omega, g2, by show (t1 ++ [(op, 0)]).length + i ≤ j1; simp; omega⟩, sx_Cc_cmp ⟨o6, o8⟩ os, fun d b v4 v5 hd I L c0 hz h2 h3 h4 => ?_, fun d hd I L c0 hz h2 hw h5 hx14 h6 h7 => ?_⟩
      · show sq_X _ _ _ _ _ (mm_E d 32 66 _ _ _ n I L P)
        rw [hC d b v4 v5 I L (by omega) hz h2]
        have t := oc d (by omega) (mm_ui I 1 2 ((j + 1 : Nat) : Int)) L c0 (hz.up (by decide) (by decide)) (by rw [nb_ui_s]) (by rw [nb_ui_a (by omega)]; exact h3) (by omega)
        refine sq_kr t (fun I' hI => ?_)
        obtain ⟨i1, i2, i3, i4, i5⟩ := hI
        have e0 : zr (Sum.inr (j1, t1) : zo) = 1 := rfl
        have hf := ((zcF.refl a I).at (z := ((j + 1 : Nat) : Int)) ha).tr i5
        obtain ⟨e, rfl⟩ : ∃ e, d = e + 1 := ⟨d - 1, by omega⟩
        have i2' : I' a 1 = ((c0 + t1.length : Nat) : Int) := i2
        have hpt := zc_put (d := e) (n := n) (L := L) (P := P) (I := I') (c0 := c0 + t1.length) (s := (op : Int)) (v := 0) hL i2' (by omega) (by omega) (by omega)
        have e5 : (op : Int) + 16 * 0 = (op : Int) := by omega
        rw [e5] at hpt
        simp (disch := (first | assumption | omega | exact nb_ix (by omega) (by assumption) (by omega) (by omega) | exact nb_ix (by omega) rfl (by omega) (by omega) | exact nb_ok (by omega) rfl | decide)) only [kX4_readUnit, e0, hpt, ↓if_pos, ↓if_neg, nb_add, nb_sub, nb_mul, Int.toNat_natCast, mm_kr_s, mm_kv_s, if_pos, if_neg, sq_tn, Int.toNat_zero, Int.reduceToNat, Int.reduceNeg, Nat.reduceAdd, Int.reduceAdd, Int.reduceEq, Int.reduceLT, Int.reduceLE, Int.zero_add, nb_ui_s, nb_ui_k, nb_ui_a, sp_min, sp_max, sp_bits]
        refine sq_ret ⟨?_, ?_, ?_, fun k hk => ?_, (hf.sg ha).ln ha⟩
        · rw [nb_ui_a (by omega), nb_ui_a (by omega)]; exact i1
        · rw [nb_ui_s]; show _ = ((c0 + (t1 ++ [(op, 0)]).length : Nat) : Int); rw [List.length_append, Nat.add_assoc]; rfl
        · rw [nb_ui_r (by omega)]
          refine sx_at_app t1 c0 (sx_at_keep t1 c0 i3 (fun k _ hk => nb_ui_k (by omega))) ⟨?_, trivial⟩
          rw [nb_ui_s, hsgn]
        · rw [nb_ui_a (by omega), nb_ui_k (by omega), i4 k hk, nb_ui_a (by omega)]
      · obtain ⟨e, rfl⟩ : ∃ e, d = e + 1 := ⟨d - 1, by omega⟩
        show sq_X _ _ _ _ _ (mm_rn (e + 1) 165 _ n I L P)
        rw [hMd e I L (by omega) hz h2 hw]
        have t := om e (by omega) (mm_ui I 239 3 ((j + 1 : Nat) : Int)) L c0 (hz.up (by decide) (by decide)) (by rw [nb_ui_s]) (by rw [nb_ui_k (by decide)]; exact hw) (by rw [nb_ui_k (by decide)]; exact h5) (by rw [nb_ui_k (by decide)]; exact hx14) (by rw [nb_ui_a (by decide)]; exact h6) (by omega)
        refine sq_kv t (fun I' hI => ?_)
        obtain ⟨i1, i2, i3, i4, i5, i6⟩ := hI
        have hf := ((zmF.refl x c0 I).at (k := 3) (z := ((j + 1 : Nat) : Int)) (by omega)).tr i6 (Nat.le_refl _)
        rw [hMp e (c0 + t1.length) I' L (by omega) hz.1 (hf.tx hx14) i4 (by omega)]
        refine sq_ret ⟨?_, ?_, ?_, ?_, ?_, ?_⟩
        · rw [nb_ui_a (by decide), nb_ui_a (by decide), nb_ui_a (by decide)]; exact i1
        · rw [nb_ui_a (by decide), nb_ui_a (by decide), nb_ui_a (by decide)]; exact i2
        · rw [nb_ui_a (by decide), nb_ui_a (by decide), nb_ui_a (by decide)]; exact i3
        · rw [nb_ui_s]; show _ = ((c0 + (t1 ++ [(op, 0)]).length : Nat) : Int); rw [List.length_append, Nat.add_assoc]; rfl
        · refine sx_mt_app t1 _ (sx_mt_kp t1 _ i5 (fun k _ hk => ⟨?_, ?_⟩)) ⟨?_, ?_, trivial⟩
          · rw [nb_ui_a (by decide), nb_ui_a (by decide), nb_ui_k (by omega)]
          · rw [nb_ui_a (by decide), nb_ui_k (by omega), nb_ui_a (by decide)]
          · rw [nb_ui_a (by decide), nb_ui_a (by decide), Nat.add_assoc, nb_ui_s]
          · rw [nb_ui_a (by decide), Nat.add_assoc, nb_ui_s]
        · exact zmF.pt hf (by omega) (by omega)
end CM
