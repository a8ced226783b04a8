/-! terms and sums: tails and wholes, both halves at once -/
section Tterm
variable {n a x S dp r i : Nat} {P : mm_P} {T : Nat → Int}
set_option maxHeartbeats 4000000 in
theorem zJt_term (hL : sp_L n P a) (ha : 20 ≤ a) (hx : x < 5) (hS : S ≤ 240) (hr : dp + r = 6) (hi : i ≤ S) (hsub : ∀ i', i < i' → i' ≤ S → zJ n P a x T S dp (2 * r + 1) i' (3 * r + 4) 37 161) (hrec : ∀ i', i < i' → i' ≤ S → zJt n P a x T S dp ((2 * r + 1) + 1) i' ((3 * r + 4)) 36 162) : zJt n P a x T S dp ((2 * r + 1) + 1) i (3 * r + 4) 36 162 := by
  have okL := hL.ok
  obtain ⟨j, hk⟩ := zk_ex (T := T) (S := S) (S - i) i rfl hi
  have hk' := hk
  obtain ⟨k1, k2, k3, k4⟩ := hk'
  generalize hc : zp T S j = c
  by_cases hcs : c = 42 ∨ c = 47
  · obtain ⟨op, hop⟩ : ∃ op : Nat, op = if c = 42 then 4 else 5 := ⟨_, rfl⟩
    have hop2 : 2 ≤ op ∧ op ≤ 8 := by rw [hop]; split <;> decide
    have hjS : j < S := zp_S hc (by omega)
    have hsgn : sx_enc (op, 0) = (op : Int) := by
      unfold sx_enc
      show (if op ≤ 1 then _ else if op ≤ 8 then _ else _) = _
      rw [if_neg (by omega), if_pos (by omega)]
    obtain ⟨o1, og, os, oc, om⟩ := hsub (j + 1) (by omega) (by omega)
    have hC : ∀ (d q : Nat) (v : mm_V) (I L : mm_I), 4 ≤ d → q < i → zc n P I T S → I 1 2 = (i : Int) → mm_E d 36 13 [.inr (.inr (some 1)), .inr (.inr (some a)), .inl ((dp : Int)), .inl ((q : Int)), v] [] [] n I L P = mm_E d 36 57 [.inr (.inr (some 1)), .inr (.inr (some a)), .inl ((dp : Int)), .inl ((q : Int)), .inl ((op : Int))] [] [] n (mm_ui I 1 2 ((j + 1 : Nat) : Int)) L P := by
      intro d q v I L hd hq hz h2
      obtain ⟨e, rfl⟩ : ∃ e, d = e + 2 := ⟨d - 2, by omega⟩
      have hn := hz.1
      have cq : ¬ (240 : Int) ≤ (q : Int) := by omega
      rw [hX4_readTerm_13]
      by_cases h1 : c = 42
      · have hp := zc_pass1 (d := e) (L := L) (c := 42) hz hk h2 (by rw [hc]; exact h1)
        have e1 : (op : Int) = 4 := by rw [hop, if_pos h1]; rfl
        simp (disch := (first | assumption | omega | exact nb_ix (by omega) (by assumption) (by omega) (by omega) | exact nb_ix (by omega) rfl (by omega) (by omega) | exact nb_ok (by omega) rfl | decide)) only [kX4_readTerm, hp, e1, ↓if_pos, ↓if_neg, nb_add, nb_sub, nb_mul, Int.toNat_natCast, mm_kr_s, mm_kv_s, if_pos, if_neg, sq_tn, Int.toNat_zero, Int.reduceToNat, Int.reduceNeg, Nat.reduceAdd, Int.reduceAdd, Int.reduceEq, Int.reduceLT, Int.reduceLE, Int.zero_add, nb_ui_s, nb_ui_k, nb_ui_a, sp_min, sp_max, sp_bits]
        done
      · have hp := zc_pass0 (d := e) (L := L) (c := 42) hz hk h2 (by rw [hc]; exact h1)
        have hp2 := zc_pass1 (d := e) (n := n) (L := L) (P := P) (I := mm_ui I 1 2 (j : Int)) (c := 47) (hz.up (by decide) (by decide)) (zk_self hk) (by rw [nb_ui_s]) (by rw [hc]; omega)
        have e1 : (op : Int) = 5 := by rw [hop, if_neg h1]; rfl
        simp (disch := (first | assumption | omega | exact nb_ix (by omega) (by assumption) (by omega) (by omega) | exact nb_ix (by omega) rfl (by omega) (by omega) | exact nb_ok (by omega) rfl | decide)) only [kX4_readTerm, hp, hp2, e1, nb_ui_2, ↓if_pos, ↓if_neg, nb_add, nb_sub, nb_mul, Int.toNat_natCast, mm_kr_s, mm_kv_s, if_pos, if_neg, sq_tn, Int.toNat_zero, Int.reduceToNat, Int.reduceNeg, Nat.reduceAdd, Int.reduceAdd, Int.reduceEq, Int.reduceLT, Int.reduceLE, Int.zero_add, nb_ui_s, nb_ui_k, nb_ui_a, sp_min, sp_max, sp_bits]
        done
    have hMd : ∀ (d : Nat) (I L : mm_I), 4 ≤ d → zm n P I T S → mm_E d 162 21 [.inr (.inr (some 239)), .inl (zp T S j)] [] [] n (mm_ui I 239 3 (j : Int)) L P = mm_kv d 162 47 [.inr (.inr (some 239)), .inl c] [] [] n (mm_rn d 161 [.inr (.inr (some 239))] n (mm_ui I 239 3 ((j + 1 : Nat) : Int)) L P) := by
      intro d I L hd hz
      have ok := hz.1.ok
      have e1 : (j : Int) + 1 = ((j + 1 : Nat) : Int) := by omega
      rw [hc, hX12_term_21]
      by_cases h1 : c = 42
      · simp (disch := (first | assumption | omega | exact nb_ix (by omega) (by assumption) (by omega) (by omega) | exact nb_ix (by omega) rfl (by omega) (by omega) | exact nb_ok (by omega) rfl | decide)) only [kX12_term, e1, nb_ui_2, ↓if_pos, ↓if_neg, nb_add, nb_sub, nb_mul, Int.toNat_natCast, mm_kr_s, mm_kv_s, if_pos, if_neg, sq_tn, Int.toNat_zero, Int.reduceToNat, Int.reduceNeg, Nat.reduceAdd, Int.reduceAdd, Int.reduceEq, Int.reduceLT, Int.reduceLE, Int.zero_add, nb_ui_s, nb_ui_k, nb_ui_a, sp_min, sp_max, sp_bits]
        done
      · have h2 : c = 47 := by omega
        simp (disch := (first | assumption | omega | exact nb_ix (by omega) (by assumption) (by omega) (by omega) | exact nb_ix (by omega) rfl (by omega) (by omega) | exact nb_ok (by omega) rfl | decide)) only [kX12_term, e1, nb_ui_2, ↓if_pos, ↓if_neg, nb_add, nb_sub, nb_mul, Int.toNat_natCast, mm_kr_s, mm_kv_s, if_pos, if_neg, sq_tn, Int.toNat_zero, Int.reduceToNat, Int.reduceNeg, Nat.reduceAdd, Int.reduceAdd, Int.reduceEq, Int.reduceLT, Int.reduceLE, Int.zero_add, nb_ui_s, nb_ui_k, nb_ui_a, sp_min, sp_max, sp_bits]
        done
    -- the sign's token, put behind the second's
    have hMp : ∀ (d c1 : Nat) (I L : mm_I), 4 ≤ d → sp_M n P → I 239 14 = (x : Int) → I 243 x = (c1 : Int) → c1 < 520 → mm_E d 162 47 [.inr (.inr (some 239)), .inl c] [] [] n I L P = mm_E d 162 63 [.inr (.inr (some 239)), .inl c] [] [] n (mm_ui (mm_ui (mm_ui I 241 (520 * x + c1) (op : Int)) 242 (520 * x + c1) 0) 243 x ((c1 + 1 : Nat) : Int)) L P := by
      intro d c1 I L hd hM h14 h6 h7
      obtain ⟨e, rfl⟩ : ∃ e, d = e + 1 := ⟨d - 1, by omega⟩
      have ok := hM.ok
      have hpt := zm_put (d := e) (n := n) (L := L) (P := P) (I := I) (x := x) (c0 := c1) (s := (op : Int)) (v := 0) hM h14 hx h6 h7
      by_cases h1 : c = 42
      · have e1 : (op : Int) = 4 := by rw [hop, if_pos h1]; rfl
        rw [e1] at hpt ⊢
        simp (disch := (first | assumption | omega | exact nb_ix (by omega) (by assumption) (by omega) (by omega) | exact nb_ix (by omega) rfl (by omega) (by omega) | exact nb_ok (by omega) rfl | decide)) only [kX12_term, hpt, ↓if_pos, ↓if_neg, nb_add, nb_sub, nb_mul, Int.toNat_natCast, mm_kr_s, mm_kv_s, if_pos, if_neg, sq_tn, Int.toNat_zero, Int.reduceToNat, Int.reduceNeg, Nat.reduceAdd, Int.reduceAdd, Int.reduceEq, Int.reduceLT, Int.reduceLE, Int.zero_add, nb_ui_s, nb_ui_k, nb_ui_a, sp_min, sp_max, sp_bits]
        done
      · have e1 : (op : Int) = 5 := by rw [hop, if_neg h1]; rfl
        rw [e1] at hpt ⊢
        simp (disch := (first | assumption | omega | exact nb_ix (by omega) (by assumption) (by omega) (by omega) | exact nb_ix (by omega) rfl (by omega) (by omega) | exact nb_ok (by omega) rfl | decide)) only [kX12_term, hpt, ↓if_pos, ↓if_neg, nb_add, nb_sub, nb_mul, Int.toNat_natCast, mm_kr_s, mm_kv_s, if_pos, if_neg, sq_tn, Int.toNat_zero, Int.reduceToNat, Int.reduceNeg, Nat.reduceAdd, Int.reduceAdd, Int.reduceEq, Int.reduceLT, Int.reduceLE, Int.zero_add, nb_ui_s, nb_ui_k, nb_ui_a, sp_min, sp_max, sp_bits]
        done
    cases o1 with
    | inl p =>
      refine ⟨.inl p, og, trivial, fun d q v hd hq I L c0 hz h2 h3 h4 => ?_, fun d j' hd hj' I L c0 hz h2 hw h5 hx14 h6 h7 => ?_⟩
      · show sq_X _ _ _ _ _ (mm_E d 36 13 _ _ _ n I L P)
        rw [hC d q v I L (by omega) hq hz h2]
        simp (disch := (first | assumption | omega | exact nb_ix (by omega) (by assumption) (by omega) (by omega) | exact nb_ix (by omega) rfl (by omega) (by omega) | exact nb_ok (by omega) rfl | decide)) only [kX4_readTerm, ↓if_pos, ↓if_neg, nb_add, nb_sub, nb_mul, Int.toNat_natCast, mm_kr_s, mm_kv_s, if_pos, if_neg, sq_tn, Int.toNat_zero, Int.reduceToNat, Int.reduceNeg, Nat.reduceAdd, Int.reduceAdd, Int.reduceEq, Int.reduceLT, Int.reduceLE, Int.zero_add, nb_ui_s, nb_ui_k, nb_ui_a, sp_min, sp_max, sp_bits]
        have t := oc d (by omega) (mm_ui I 1 2 ((j + 1 : Nat) : Int)) L c0 (hz.up (by decide) (by decide)) (by rw [nb_ui_s]) (by rw [nb_ui_a (by omega)]; exact h3) (by omega)
        refine sq_kr t (fun I' hI => ?_)
        have e0 : zr (Sum.inl p : zo) = 0 := rfl
        simp (disch := (first | assumption | omega | exact nb_ix (by omega) (by assumption) (by omega) (by omega) | exact nb_ix (by omega) rfl (by omega) (by omega) | exact nb_ok (by omega) rfl | decide)) only [kX4_readTerm, e0, ↓if_pos, ↓if_neg, nb_add, nb_sub, nb_mul, Int.toNat_natCast, mm_kr_s, mm_kv_s, if_pos, if_neg, sq_tn, Int.toNat_zero, Int.reduceToNat, Int.reduceNeg, Nat.reduceAdd, Int.reduceAdd, Int.reduceEq, Int.reduceLT, Int.reduceLE, Int.zero_add, nb_ui_s, nb_ui_k, nb_ui_a, sp_min, sp_max, sp_bits]
        exact sq_ret ⟨hI.1, ((zcF.refl a I).at ha).tr hI.2⟩
      · have ej := zk_one hj' hk
        subst ej
        show sq_X _ _ _ _ _ (mm_E d 162 21 _ _ _ n _ L P)
        rw [hMd d I L (by omega) hz]
        have t := om d (by omega) (mm_ui I 239 3 ((j' + 1 : Nat) : Int)) L c0 (hz.up (by decide) (by decide)) (by rw [nb_ui_s]) (by rw [nb_ui_k (by decide)]; exact hw) (by rw [nb_ui_k (by decide)]; exact h5) (by rw [nb_ui_k (by decide)]; exact hx14) (by rw [nb_ui_a (by decide)]; exact h6) (by omega)
        refine sq_kv t (fun I' hI => ?_)
        obtain ⟨i1, i2, t, c', i3, i4, i5, i6, i7, i8⟩ := hI
        have hf := ((zmF.refl x c0 I).at (k := 3) (z := ((j' + 1 : Nat) : Int)) (by omega)).tr i2 (Nat.le_refl _)
        have ok := hz.1.ok
        rw [hMp d c' I' L (by omega) hz.1 (hf.tx hx14) i4 (by omega)]
        have cp : ¬ (p : Int) = -1 := by omega
        simp (disch := (first | assumption | omega | exact nb_ix (by omega) (by assumption) (by omega) (by omega) | exact nb_ix (by omega) rfl (by omega) (by omega) | exact nb_ok (by omega) rfl | decide)) only [kX12_term, i1, ↓if_pos, ↓if_neg, nb_add, nb_sub, nb_mul, Int.toNat_natCast, mm_kr_s, mm_kv_s, if_pos, if_neg, sq_tn, Int.toNat_zero, Int.reduceToNat, Int.reduceNeg, Nat.reduceAdd, Int.reduceAdd, Int.reduceEq, Int.reduceLT, Int.reduceLE, Int.zero_add, nb_ui_s, nb_ui_k, nb_ui_a, sp_min, sp_max, sp_bits]
        rw [hX12_term_21]
        simp (disch := (first | assumption | omega | exact nb_ix (by omega) (by assumption) (by omega) (by omega) | exact nb_ix (by omega) rfl (by omega) (by omega) | exact nb_ok (by omega) rfl | decide)) only [kX12_term, ↓if_pos, ↓if_neg, nb_add, nb_sub, nb_mul, Int.toNat_natCast, mm_kr_s, mm_kv_s, if_pos, if_neg, sq_tn, Int.toNat_zero, Int.reduceToNat, Int.reduceNeg, Nat.reduceAdd, Int.reduceAdd, Int.reduceEq, Int.reduceLT, Int.reduceLE, Int.zero_add, nb_ui_s, nb_ui_k, nb_ui_a, sp_min, sp_max, sp_bits]
        refine sq_ret ⟨?_, ?_, t, c' + 1, ?_, ?_, by omega, by omega, by omega, by omega⟩
        · rw [nb_ui_a (by decide), nb_ui_a (by decide), nb_ui_a (by decide)]; exact i1
        · exact zmF.pt hf i8 (by omega)
        · rw [nb_ui_a (by decide), nb_ui_a (by decide), nb_ui_a (by decide)]; exact i3
        · rw [nb_ui_s]
    | inr w =>
      obtain ⟨j1, t1⟩ := w
      obtain ⟨g1, g2, g3⟩ := og
      have g1' : j + 1 < j1 := g1
      have g2' : j1 ≤ S := g2
      have g3' : t1.length + (j + 1) ≤ j1 := g3
      obtain ⟨o2, pg, ps, pc, pm⟩ := hrec j1 (by omega) (by omega)
      refine ⟨zj (t1 ++ [(op, 0)]) o2, ?_, ?_, fun d q v hd hq I L c0 hz h2 h3 h4 => ?_, fun d j' hd hj' I L c0 hz h2 hw h5 hx14 h6 h7 => ?_⟩
      · cases o2 with
        | inl p => exact pg
        | inr w =>
          obtain ⟨u1, u2, u3⟩ := pg
          refine ⟨by show i ≤ w.1; omega, u2, ?_⟩
          show (t1 ++ [(op, 0)] ++ w.2).length + i ≤ w.1
          simp
          omega
      · cases o2 with
        | inl p => trivial
        | inr w => exact sx_S_bin hop2 os ps
      · rw [zr_zj]
        show sq_X _ _ _ _ _ (mm_E d 36 13 _ _ _ n I L P)
        rw [hC d q v I L (by omega) hq hz h2]
        simp (disch := (first | assumption | omega | exact nb_ix (by omega) (by assumption) (by omega) (by omega) | exact nb_ix (by omega) rfl (by omega) (by omega) | exact nb_ok (by omega) rfl | decide)) only [kX4_readTerm, ↓if_pos, ↓if_neg, nb_add, nb_sub, nb_mul, Int.toNat_natCast, mm_kr_s, mm_kv_s, if_pos, if_neg, sq_tn, Int.toNat_zero, Int.reduceToNat, Int.reduceNeg, Nat.reduceAdd, Int.reduceAdd, Int.reduceEq, Int.reduceLT, Int.reduceLE, Int.zero_add, nb_ui_s, nb_ui_k, nb_ui_a, sp_min, sp_max, sp_bits]
        have t := oc d (by omega) (mm_ui I 1 2 ((j + 1 : Nat) : Int)) L c0 (hz.up (by decide) (by decide)) (by rw [nb_ui_s]) (by rw [nb_ui_a (by omega)]; exact h3) (by omega)
        refine sq_kr t (fun I' hI => ?_)
        obtain ⟨i1, i2, i3, i4, i5⟩ := hI
        have e0 : zr (Sum.inr (j1, t1) : zo) = 1 := rfl
        have hf := ((zcF.refl a I).at (z := ((j + 1 : Nat) : Int)) ha).tr i5
        obtain ⟨e, rfl⟩ : ∃ e, d = e + 1 := ⟨d - 1, by omega⟩
        have i2' : I' a 1 = ((c0 + t1.length : Nat) : Int) := i2
        have hpt := zc_put (d := e) (n := n) (L := L) (P := P) (I := I') (c0 := c0 + t1.length) (s := (op : Int)) (v := 0) hL i2' (by omega) (by omega) (by omega)
        have e1 : (q : Int) + 1 = ((q + 1 : Nat) : Int) := by omega
        have e5 : (op : Int) + 16 * 0 = (op : Int) := by omega
        have cop : ¬ (op : Int) = -1 := by omega
        rw [e5] at hpt
        simp (disch := (first | assumption | omega | exact nb_ix (by omega) (by assumption) (by omega) (by omega) | exact nb_ix (by omega) rfl (by omega) (by omega) | exact nb_ok (by omega) rfl | decide)) only [kX4_readTerm, e0, hpt, e1, ↓if_pos, ↓if_neg, nb_add, nb_sub, nb_mul, Int.toNat_natCast, mm_kr_s, mm_kv_s, if_pos, if_neg, sq_tn, Int.toNat_zero, Int.reduceToNat, Int.reduceNeg, Nat.reduceAdd, Int.reduceAdd, Int.reduceEq, Int.reduceLT, Int.reduceLE, Int.zero_add, nb_ui_s, nb_ui_k, nb_ui_a, sp_min, sp_max, sp_bits]
        refine sq_mono (pc (e + 1) (q + 1) _ (by omega) (by omega) _ L (c0 + t1.length + 1) ?_ ?_ ?_ (by omega)) (fun K hK => ?_)
        · exact ((hf.zc ha hz).up (by omega) (by omega)).up (by omega) (by omega)
        · rw [nb_ui_a (by omega), nb_ui_a (by omega)]; exact i1
        · rw [nb_ui_s]
        · refine zcP_then (J := mm_ui (mm_ui I' (a + 1) (c0 + t1.length) (op : Int)) a 1 ((c0 + t1.length + 1 : Nat) : Int)) ?_ ?_ ?_ ?_
          · exact (hf.sg ha).ln ha
          · intro k hk
            rw [nb_ui_a (by omega), nb_ui_k (by omega), i4 k hk, nb_ui_a (by omega)]
          · rw [nb_ui_r (by omega)]
            refine sx_at_app t1 c0 (sx_at_keep t1 c0 i3 (fun k _ hk => nb_ui_k (by omega))) ⟨?_, trivial⟩
            rw [nb_ui_s, hsgn]
          · have e9 : c0 + (t1 ++ [(op, 0)]).length = c0 + t1.length + 1 := by simp; omega
            rw [e9]
            exact hK
      · have ej := zk_one hj' hk
        subst ej
        show sq_X _ _ _ _ _ (mm_E d 162 21 _ _ _ n _ L P)
        rw [hMd d I L (by omega) hz]
        have t := om d (by omega) (mm_ui I 239 3 ((j' + 1 : Nat) : Int)) L c0 (hz.up (by decide) (by decide)) (by rw [nb_ui_s]) (by rw [nb_ui_k (by decide)]; exact hw) (by rw [nb_ui_k (by decide)]; exact h5) (by rw [nb_ui_k (by decide)]; exact hx14) (by rw [nb_ui_a (by decide)]; exact h6) (by omega)
        refine sq_kv t (fun I' hI => ?_)
        obtain ⟨i1, i2, i3, i4, i5, i6⟩ := hI
        have hf := ((zmF.refl x c0 I).at (k := 3) (z := ((j' + 1 : Nat) : Int)) (by omega)).tr i6 (Nat.le_refl _)
        have ok := hz.1.ok
        rw [hMp d (c0 + t1.length) I' L (by omega) hz.1 (hf.tx hx14) i4 (by omega)]
        have hf2 := zmF.pt (z := (op : Int)) (w := 0) (y := ((c0 + t1.length + 1 : Nat) : Int)) (c := c0 + t1.length) hf (by omega) (by omega)
        have hat : sx_mt (mm_ui (mm_ui (mm_ui I' 241 (520 * x + (c0 + t1.length)) (op : Int)) 242 (520 * x + (c0 + t1.length)) 0) 243 x ((c0 + t1.length + 1 : Nat) : Int)) (520 * x + c0) (t1 ++ [(op, 0)]) := by
          refine sx_mt_app t1 _ (sx_mt_kp t1 _ i5 (fun k _ hk => ⟨?_, ?_⟩)) ⟨?_, ?_, trivial⟩
          · rw [nb_ui_a (by decide), nb_ui_a (by decide), nb_ui_k (by omega)]
          · rw [nb_ui_a (by decide), nb_ui_k (by omega), nb_ui_a (by decide)]
          · rw [nb_ui_a (by decide), nb_ui_a (by decide), Nat.add_assoc, nb_ui_s]
          · rw [nb_ui_a (by decide), Nat.add_assoc, nb_ui_s]
        have w1 : mm_ui (mm_ui (mm_ui I' 241 (520 * x + (c0 + t1.length)) (op : Int)) 242 (520 * x + (c0 + t1.length)) 0) 243 x ((c0 + t1.length + 1 : Nat) : Int) 239 3 = (j1 : Int) := by rw [nb_ui_a (by decide), nb_ui_a (by decide), nb_ui_a (by decide)]; exact i1
        have w2 : mm_ui (mm_ui (mm_ui I' 241 (520 * x + (c0 + t1.length)) (op : Int)) 242 (520 * x + (c0 + t1.length)) 0) 243 x ((c0 + t1.length + 1 : Nat) : Int) 239 4 = -1 := by rw [nb_ui_a (by decide), nb_ui_a (by decide), nb_ui_a (by decide)]; exact i2
        have w3 : mm_ui (mm_ui (mm_ui I' 241 (520 * x + (c0 + t1.length)) (op : Int)) 242 (520 * x + (c0 + t1.length)) 0) 243 x ((c0 + t1.length + 1 : Nat) : Int) 239 5 = (dp : Int) := by rw [nb_ui_a (by decide), nb_ui_a (by decide), nb_ui_a (by decide)]; exact i3
        have w4 : mm_ui (mm_ui (mm_ui I' 241 (520 * x + (c0 + t1.length)) (op : Int)) 242 (520 * x + (c0 + t1.length)) 0) 243 x ((c0 + t1.length + 1 : Nat) : Int) 243 x = ((c0 + t1.length + 1 : Nat) : Int) := by rw [nb_ui_s]
        generalize mm_ui (mm_ui (mm_ui I' 241 (520 * x + (c0 + t1.length)) (op : Int)) 242 (520 * x + (c0 + t1.length)) 0) 243 x ((c0 + t1.length + 1 : Nat) : Int) = J at hf2 hat w1 w2 w3 w4
        obtain ⟨j2, hk2⟩ := zk_ex (T := T) (S := S) (S - j1) j1 rfl g2
        obtain ⟨e, rfl⟩ : ∃ e, d = e + 2 := ⟨d - 2, by omega⟩
        have hl := zm_look (d := e) (L := L) (hf2.zm hz) hk2 w1
        simp (disch := (first | assumption | omega | exact nb_ix (by omega) (by assumption) (by omega) (by omega) | exact nb_ix (by omega) rfl (by omega) (by omega) | exact nb_ok (by omega) rfl | decide)) only [kX12_term, w2, hl, ↓if_pos, ↓if_neg, nb_add, nb_sub, nb_mul, Int.toNat_natCast, mm_kr_s, mm_kv_s, if_pos, if_neg, sq_tn, Int.toNat_zero, Int.reduceToNat, Int.reduceNeg, Nat.reduceAdd, Int.reduceAdd, Int.reduceEq, Int.reduceLT, Int.reduceLE, Int.zero_add, nb_ui_s, nb_ui_k, nb_ui_a, sp_min, sp_max, sp_bits]
        refine sq_mono (pm (e + 2) j2 (by omega) hk2 J L (c0 + t1.length + 1) (hf2.zm hz) w1 w2 w3 (hf2.tx hx14) w4 (by omega)) (fun K hK => ?_)
        have e9 : c0 + (t1 ++ [(op, 0)]).length = c0 + t1.length + 1 := by simp; omega
        refine zmP_then (i1 := j1) (J := J) ?_ ?_ hf2 hat ?_
        · simp; omega
        · omega
        · rw [e9]
          exact hK
  · refine ⟨.inr (j, []), ⟨k1, k2, by show 0 + i ≤ j; omega⟩, sx_St_nil _, fun d q v hd hq I L c0 hz h2 h3 h4 => ?_, fun d j' hd hj' I L c0 hz h2 hw h5 hx14 h6 h7 => ?_⟩
    · obtain ⟨e, rfl⟩ : ∃ e, d = e + 2 := ⟨d - 2, by omega⟩
      have hn := hz.1
      have cq : ¬ (240 : Int) ≤ (q : Int) := by omega
      have hp := zc_pass0 (d := e) (L := L) (c := 42) hz hk h2 (by rw [hc]; omega)
      have hp2 := zc_pass0 (d := e) (n := n) (L := L) (P := P) (I := mm_ui I 1 2 (j : Int)) (c := 47) (hz.up (by decide) (by decide)) (zk_self hk) (by rw [nb_ui_s]) (by rw [hc]; omega)
      show sq_X _ _ _ _ _ (mm_E (e + 2) 36 13 _ _ _ n I L P)
      rw [hX4_readTerm_13]
      simp (disch := (first | assumption | omega | exact nb_ix (by omega) (by assumption) (by omega) (by omega) | exact nb_ix (by omega) rfl (by omega) (by omega) | exact nb_ok (by omega) rfl | decide)) only [kX4_readTerm, hp, hp2, nb_ui_2, ↓if_pos, ↓if_neg, nb_add, nb_sub, nb_mul, Int.toNat_natCast, mm_kr_s, mm_kv_s, if_pos, if_neg, sq_tn, Int.toNat_zero, Int.reduceToNat, Int.reduceNeg, Nat.reduceAdd, Int.reduceAdd, Int.reduceEq, Int.reduceLT, Int.reduceLE, Int.zero_add, nb_ui_s, nb_ui_k, nb_ui_a, sp_min, sp_max, sp_bits]
      refine sq_ret ⟨by rw [nb_ui_s], by rw [nb_ui_a (by omega)]; exact h3, trivial, fun k hk => by rw [nb_ui_a (by omega)], (zcF.refl a I).at ha⟩
    · have ej := zk_one hj' hk
      subst ej
      have n1 : ¬ c = 42 := by omega
      have n2 : ¬ c = 47 := by omega
      show sq_X _ _ _ _ _ (mm_E d 162 21 _ _ _ n _ L P)
      rw [hc, hX12_term_21]
      simp (disch := (first | assumption | omega | exact nb_ix (by omega) (by assumption) (by omega) (by omega) | exact nb_ix (by omega) rfl (by omega) (by omega) | exact nb_ok (by omega) rfl | decide)) only [kX12_term, ↓if_pos, ↓if_neg, nb_add, nb_sub, nb_mul, Int.toNat_natCast, mm_kr_s, mm_kv_s, if_pos, if_neg, sq_tn, Int.toNat_zero, Int.reduceToNat, Int.reduceNeg, Nat.reduceAdd, Int.reduceAdd, Int.reduceEq, Int.reduceLT, Int.reduceLE, Int.zero_add, nb_ui_s, nb_ui_k, nb_ui_a, sp_min, sp_max, sp_bits]
      refine sq_ret ⟨by rw [nb_ui_s], by rw [nb_ui_k (by decide)]; exact hw, by rw [nb_ui_k (by decide)]; exact h5, by rw [nb_ui_a (by decide)]; exact h6, trivial, (zmF.refl x c0 I).at (by omega)⟩
set_option maxHeartbeats 4000000 in
theorem zJ_term (hL : sp_L n P a) (ha : 20 ≤ a) (hx : x < 5) (hS : S ≤ 240) (hr : dp + r = 6) (hi : i ≤ S) (hsub : zJ n P a x T S dp (2 * r + 1) i (3 * r + 4) 37 161) (hrec : ∀ i', i < i' → i' ≤ S → zJt n P a x T S dp ((2 * r + 1) + 1) i' ((3 * r + 4)) 36 162) : zJ n P a x T S dp ((2 * r + 1) + 1) i ((3 * r + 4) + 1) 36 162 := by
  have okL := hL.ok
  obtain ⟨o1, og, os, oc, om⟩ := hsub
  cases o1 with
  | inl p =>
    refine ⟨.inl p, og, trivial, fun d hd I L c0 hz h2 h3 h4 => ?_, fun d hd I L c0 hz h2 hw h5 hx14 h6 h7 => ?_⟩
    · obtain ⟨e, rfl⟩ : ∃ e, d = e + 1 := ⟨d - 1, by omega⟩
      show sq_X _ _ _ _ _ (mm_rn (e + 1) 36 _ n I L P)
      rw [eX4_readTerm]
      simp (disch := (first | assumption | omega | exact nb_ix (by omega) (by assumption) (by omega) (by omega) | exact nb_ix (by omega) rfl (by omega) (by omega) | exact nb_ok (by omega) rfl | decide)) only [kX4_readTerm, ↓if_pos, ↓if_neg, nb_add, nb_sub, nb_mul, Int.toNat_natCast, mm_kr_s, mm_kv_s, if_pos, if_neg, sq_tn, Int.toNat_zero, Int.reduceToNat, Int.reduceNeg, Nat.reduceAdd, Int.reduceAdd, Int.reduceEq, Int.reduceLT, Int.reduceLE, Int.zero_add, nb_ui_s, nb_ui_k, nb_ui_a, sp_min, sp_max, sp_bits]
      refine sq_kr (oc e (by omega) I L c0 hz h2 h3 h4) (fun I' hI => ?_)
      have e0 : zr (Sum.inl p : zo) = 0 := rfl
      simp (disch := (first | assumption | omega | exact nb_ix (by omega) (by assumption) (by omega) (by omega) | exact nb_ix (by omega) rfl (by omega) (by omega) | exact nb_ok (by omega) rfl | decide)) only [kX4_readTerm, e0, ↓if_pos, ↓if_neg, nb_add, nb_sub, nb_mul, Int.toNat_natCast, mm_kr_s, mm_kv_s, if_pos, if_neg, sq_tn, Int.toNat_zero, Int.reduceToNat, Int.reduceNeg, Nat.reduceAdd, Int.reduceAdd, Int.reduceEq, Int.reduceLT, Int.reduceLE, Int.zero_add, nb_ui_s, nb_ui_k, nb_ui_a, sp_min, sp_max, sp_bits]
      exact sq_ret hI
    · obtain ⟨e, rfl⟩ : ∃ e, d = e + 1 := ⟨d - 1, by omega⟩
      have ok := hz.1.ok
      show sq_X _ _ _ _ _ (mm_rn (e + 1) 162 _ n I L P)
      rw [eX12_term]
      simp (disch := (first | assumption | omega | exact nb_ix (by omega) (by assumption) (by omega) (by omega) | exact nb_ix (by omega) rfl (by omega) (by omega) | exact nb_ok (by omega) rfl | decide)) only [kX12_term, ↓if_pos, ↓if_neg, nb_add, nb_sub, nb_mul, Int.toNat_natCast, mm_kr_s, mm_kv_s, if_pos, if_neg, sq_tn, Int.toNat_zero, Int.reduceToNat, Int.reduceNeg, Nat.reduceAdd, Int.reduceAdd, Int.reduceEq, Int.reduceLT, Int.reduceLE, Int.zero_add, nb_ui_s, nb_ui_k, nb_ui_a, sp_min, sp_max, sp_bits]
      refine sq_kv (om e (by omega) I L c0 hz h2 hw h5 hx14 h6 h7) (fun I' hI => ?_)
      have i1 := hI.1
      have cp : ¬ (p : Int) = -1 := by omega
      simp (disch := (first | assumption | omega | exact nb_ix (by omega) (by assumption) (by omega) (by omega) | exact nb_ix (by omega) rfl (by omega) (by omega) | exact nb_ok (by omega) rfl | decide)) only [kX12_term, i1, ↓if_pos, ↓if_neg, nb_add, nb_sub, nb_mul, Int.toNat_natCast, mm_kr_s, mm_kv_s, if_pos, if_neg, sq_tn, Int.toNat_zero, Int.reduceToNat, Int.reduceNeg, Nat.reduceAdd, Int.reduceAdd, Int.reduceEq, Int.reduceLT, Int.reduceLE, Int.zero_add, nb_ui_s, nb_ui_k, nb_ui_a, sp_min, sp_max, sp_bits]
      rw [hX12_term_21]
      simp (disch := (first | assumption | omega | exact nb_ix (by omega) (by assumption) (by omega) (by omega) | exact nb_ix (by omega) rfl (by omega) (by omega) | exact nb_ok (by omega) rfl | decide)) only [kX12_term, ↓if_pos, ↓if_neg, nb_add, nb_sub, nb_mul, Int.toNat_natCast, mm_kr_s, mm_kv_s, if_pos, if_neg, sq_tn, Int.toNat_zero, Int.reduceToNat, Int.reduceNeg, Nat.reduceAdd, Int.reduceAdd, Int.reduceEq, Int.reduceLT, Int.reduceLE, Int.zero_add, nb_ui_s, nb_ui_k, nb_ui_a, sp_min, sp_max, sp_bits]
      exact sq_ret hI
  | inr w =>
    obtain ⟨j1, t1⟩ := w
    obtain ⟨g1, g2, g3⟩ := og
    have g1' : i < j1 := g1
    have g2' : j1 ≤ S := g2
    have g3' : t1.length + i ≤ j1 := g3
    obtain ⟨o2, pg, ps, pc, pm⟩ := hrec j1 (by omega) (by omega)
    refine ⟨zj t1 o2, ?_, ?_, fun d hd I L c0 hz h2 h3 h4 => ?_, fun d hd I L c0 hz h2 hw h5 hx14 h6 h7 => ?_⟩
    · cases o2 with
      | inl p => exact pg
      | inr w =>
        obtain ⟨u1, u2, u3⟩ := pg
        refine ⟨by show i < w.1; omega, u2, ?_⟩
        show (t1 ++ w.2).length + i ≤ w.1
        simp
        omega
    · cases o2 with
      | inl p => trivial
      | inr w => exact sx_S_then os ps
    · rw [zr_zj]
      obtain ⟨e, rfl⟩ : ∃ e, d = e + 1 := ⟨d - 1, by omega⟩
      show sq_X _ _ _ _ _ (mm_rn (e + 1) 36 _ n I L P)
      rw [eX4_readTerm]
      simp (disch := (first | assumption | omega | exact nb_ix (by omega) (by assumption) (by omega) (by omega) | exact nb_ix (by omega) rfl (by omega) (by omega) | exact nb_ok (by omega) rfl | decide)) only [kX4_readTerm, ↓if_pos, ↓if_neg, nb_add, nb_sub, nb_mul, Int.toNat_natCast, mm_kr_s, mm_kv_s, if_pos, if_neg, sq_tn, Int.toNat_zero, Int.reduceToNat, Int.reduceNeg, Nat.reduceAdd, Int.reduceAdd, Int.reduceEq, Int.reduceLT, Int.reduceLE, Int.zero_add, nb_ui_s, nb_ui_k, nb_ui_a, sp_min, sp_max, sp_bits]
      refine sq_kr (oc e (by omega) I L c0 hz h2 h3 h4) (fun I' hI => ?_)
      obtain ⟨i1, i2, i3, i4, i5⟩ := hI
      have e0 : zr (Sum.inr (j1, t1) : zo) = 1 := rfl
      simp (disch := (first | assumption | omega | exact nb_ix (by omega) (by assumption) (by omega) (by omega) | exact nb_ix (by omega) rfl (by omega) (by omega) | exact nb_ok (by omega) rfl | decide)) only [kX4_readTerm, e0, ↓if_pos, ↓if_neg, nb_add, nb_sub, nb_mul, Int.toNat_natCast, mm_kr_s, mm_kv_s, if_pos, if_neg, sq_tn, Int.toNat_zero, Int.reduceToNat, Int.reduceNeg, Nat.reduceAdd, Int.reduceAdd, Int.reduceEq, Int.reduceLT, Int.reduceLE, Int.zero_add, nb_ui_s, nb_ui_k, nb_ui_a, sp_min, sp_max, sp_bits]
      refine sq_mono (pc e 0 _ (by omega) (by omega) I' L (c0 + t1.length) (i5.zc ha hz) i1 i2 (by omega)) (fun K hK => zcP_then i5 i4 i3 hK)
    · obtain ⟨e, rfl⟩ : ∃ e, d = e + 3 := ⟨d - 3, by omega⟩
      have ok := hz.1.ok
      show sq_X _ _ _ _ _ (mm_rn (e + 3) 162 _ n I L P)
      rw [eX12_term]
      simp (disch := (first | assumption | omega | exact nb_ix (by omega) (by assumption) (by omega) (by omega) | exact nb_ix (by omega) rfl (by omega) (by omega) | exact nb_ok (by omega) rfl | decide)) only [kX12_term, ↓if_pos, ↓if_neg, nb_add, nb_sub, nb_mul, Int.toNat_natCast, mm_kr_s, mm_kv_s, if_pos, if_neg, sq_tn, Int.toNat_zero, Int.reduceToNat, Int.reduceNeg, Nat.reduceAdd, Int.reduceAdd, Int.reduceEq, Int.reduceLT, Int.reduceLE, Int.zero_add, nb_ui_s, nb_ui_k, nb_ui_a, sp_min, sp_max, sp_bits]
      refine sq_kv (om (e + 2) (by omega) I L c0 hz h2 hw h5 hx14 h6 h7) (fun I' hI => ?_)
      obtain ⟨i1, i2, i3, i4, i5, i6⟩ := hI
      obtain ⟨j2, hk2⟩ := zk_ex (T := T) (S := S) (S - j1) j1 rfl g2
      have hl := zm_look (d := e) (L := L) (i6.zm hz) hk2 i1
      simp (disch := (first | assumption | omega | exact nb_ix (by omega) (by assumption) (by omega) (by omega) | exact nb_ix (by omega) rfl (by omega) (by omega) | exact nb_ok (by omega) rfl | decide)) only [kX12_term, i2, hl, ↓if_pos, ↓if_neg, nb_add, nb_sub, nb_mul, Int.toNat_natCast, mm_kr_s, mm_kv_s, if_pos, if_neg, sq_tn, Int.toNat_zero, Int.reduceToNat, Int.reduceNeg, Nat.reduceAdd, Int.reduceAdd, Int.reduceEq, Int.reduceLT, Int.reduceLE, Int.zero_add, nb_ui_s, nb_ui_k, nb_ui_a, sp_min, sp_max, sp_bits]
      refine sq_mono (pm (e + 2) j2 (by omega) hk2 I' L (c0 + t1.length) (i6.zm hz) i1 i2 i3 (i6.tx hx14) i4 (by omega)) (fun K hK => zmP_then (i1 := j1) (by omega) (by omega) i6 i5 hK)
end Tterm
section Tsum
variable {n a x S dp r i : Nat} {P : mm_P} {T : Nat → Int}
set_option maxHeartbeats 4000000 in
theorem zJt_sum (hL : sp_L n P a) (ha : 20 ≤ a) (hx : x < 5) (hS : S ≤ 240) (hr : dp + r = 6) (hi : i ≤ S) (hsub : ∀ i', i < i' → i' ≤ S → zJ n P a x T S dp (2 * r + 2) i' (3 * r + 5) 36 162) (hrec : ∀ i', i < i' → i' ≤ S → zJt n P a x T S dp ((2 * r + 2) + 1) i' ((3 * r + 5)) 35 163) : zJt n P a x T S dp ((2 * r + 2) + 1) i (3 * r + 5) 35 163 := by
  have okL := hL.ok
  obtain ⟨j, hk⟩ := zk_ex (T := T) (S := S) (S - i) i rfl hi
  have hk' := hk
  obtain ⟨k1, k2, k3, k4⟩ := hk'
  generalize hc : zp T S j = c
  by_cases hcs : c = 43 ∨ c = 45
  · obtain ⟨op, hop⟩ : ∃ op : Nat, op = if c = 43 then 2 else 3 := ⟨_, rfl⟩
    have hop2 : 2 ≤ op ∧ op ≤ 8 := by rw [hop]; split <;> decide
    have hjS : j < S := zp_S hc (by omega)
    have hsgn : sx_enc (op, 0) = (op : Int) := by
      unfold sx_enc
      show (if op ≤ 1 then _ else if op ≤ 8 then _ else _) = _
      rw [if_neg (by omega), if_pos (by omega)]
    obtain ⟨o1, og, os, oc, om⟩ := hsub (j + 1) (by omega) (by omega)
    have hC : ∀ (d q : Nat) (v : mm_V) (I L : mm_I), 4 ≤ d → q < i → zc n P I T S → I 1 2 = (i : Int) → mm_E d 35 13 [.inr (.inr (some 1)), .inr (.inr (some a)), .inl ((dp : Int)), .inl ((q : Int)), v] [] [] n I L P = mm_E d 35 57 [.inr (.inr (some 1)), .inr (.inr (some a)), .inl ((dp : Int)), .inl ((q : Int)), .inl ((op : Int))] [] [] n (mm_ui I 1 2 ((j + 1 : Nat) : Int)) L P := by
      intro d q v I L hd hq hz h2
      obtain ⟨e, rfl⟩ : ∃ e, d = e + 2 := ⟨d - 2, by omega⟩
      have hn := hz.1
      have cq : ¬ (240 : Int) ≤ (q : Int) := by omega
      rw [hX4_readSum_13]
      by_cases h1 : c = 43
      · have hp := zc_pass1 (d := e) (L := L) (c := 43) hz hk h2 (by rw [hc]; exact h1)
        have e1 : (op : Int) = 2 := by rw [hop, if_pos h1]; rfl
        simp (disch := (first | assumption | omega | exact nb_ix (by omega) (by assumption) (by omega) (by omega) | exact nb_ix (by omega) rfl (by omega) (by omega) | exact nb_ok (by omega) rfl | decide)) only [kX4_readSum, hp, e1, ↓if_pos, ↓if_neg, nb_add, nb_sub, nb_mul, Int.toNat_natCast, mm_kr_s, mm_kv_s, if_pos, if_neg, sq_tn, Int.toNat_zero, Int.reduceToNat, Int.reduceNeg, Nat.reduceAdd, Int.reduceAdd, Int.reduceEq, Int.reduceLT, Int.reduceLE, Int.zero_add, nb_ui_s, nb_ui_k, nb_ui_a, sp_min, sp_max, sp_bits]
        done
      · have hp := zc_pass0 (d := e) (L := L) (c := 43) hz hk h2 (by rw [hc]; exact h1)
        have hp2 := zc_pass1 (d := e) (n := n) (L := L) (P := P) (I := mm_ui I 1 2 (j : Int)) (c := 45) (hz.up (by decide) (by decide)) (zk_self hk) (by rw [nb_ui_s]) (by rw [hc]; omega)
        have e1 : (op : Int) = 3 := by rw [hop, if_neg h1]; rfl
        simp (disch := (first | assumption | omega | exact nb_ix (by omega) (by assumption) (by omega) (by omega) | exact nb_ix (by omega) rfl (by omega) (by omega) | exact nb_ok (by omega) rfl | decide)) only [kX4_readSum, hp, hp2, e1, nb_ui_2, ↓if_pos, ↓if_neg, nb_add, nb_sub, nb_mul, Int.toNat_natCast, mm_kr_s, mm_kv_s, if_pos, if_neg, sq_tn, Int.toNat_zero, Int.reduceToNat, Int.reduceNeg, Nat.reduceAdd, Int.reduceAdd, Int.reduceEq, Int.reduceLT, Int.reduceLE, Int.zero_add, nb_ui_s, nb_ui_k, nb_ui_a, sp_min, sp_max, sp_bits]
        done
    have hMd : ∀ (d : Nat) (I L : mm_I), 4 ≤ d → zm n P I T S → mm_E d 163 21 [.inr (.inr (some 239)), .inl (zp T S j)] [] [] n (mm_ui I 239 3 (j : Int)) L P = mm_kv d 163 47 [.inr (.inr (some 239)), .inl c] [] [] n (mm_rn d 162 [.inr (.inr (some 239))] n (mm_ui I 239 3 ((j + 1 : Nat) : Int)) L P) := by
      intro d I L hd hz
      have ok := hz.1.ok
      have e1 : (j : Int) + 1 = ((j + 1 : Nat) : Int) := by omega
      rw [hc, hX12_sum_21]
      by_cases h1 : c = 43
      · simp (disch := (first | assumption | omega | exact nb_ix (by omega) (by assumption) (by omega) (by omega) | exact nb_ix (by omega) rfl (by omega) (by omega) | exact nb_ok (by omega) rfl | decide)) only [kX12_sum, e1, nb_ui_2, ↓if_pos, ↓if_neg, nb_add, nb_sub, nb_mul, Int.toNat_natCast, mm_kr_s, mm_kv_s, if_pos, if_neg, sq_tn, Int.toNat_zero, Int.reduceToNat, Int.reduceNeg, Nat.reduceAdd, Int.reduceAdd, Int.reduceEq, Int.reduceLT, Int.reduceLE, Int.zero_add, nb_ui_s, nb_ui_k, nb_ui_a, sp_min, sp_max, sp_bits]
        done
      · have h2 : c = 45 := by omega
        simp (disch := (first | assumption | omega | exact nb_ix (by omega) (by assumption) (by omega) (by omega) | exact nb_ix (by omega) rfl (by omega) (by omega) | exact nb_ok (by omega) rfl | decide)) only [kX12_sum, e1, nb_ui_2, ↓if_pos, ↓if_neg, nb_add, nb_sub, nb_mul, Int.toNat_natCast, mm_kr_s, mm_kv_s, if_pos, if_neg, sq_tn, Int.toNat_zero, Int.reduceToNat, Int.reduceNeg, Nat.reduceAdd, Int.reduceAdd, Int.reduceEq, Int.reduceLT, Int.reduceLE, Int.zero_add, nb_ui_s, nb_ui_k, nb_ui_a, sp_min, sp_max, sp_bits]
        done
    -- the sign's token, put behind the second's
    have hMp : ∀ (d c1 : Nat) (I L : mm_I), 4 ≤ d → sp_M n P → I 239 14 = (x : Int) → I 243 x = (c1 : Int) → c1 < 520 → mm_E d 163 47 [.inr (.inr (some 239)), .inl c] [] [] n I L P = mm_E d 163 63 [.inr (.inr (some 239)), .inl c] [] [] n (mm_ui (mm_ui (mm_ui I 241 (520 * x + c1) (op : Int)) 242 (520 * x + c1) 0) 243 x ((c1 + 1 : Nat) : Int)) L P := by
      intro d c1 I L hd hM h14 h6 h7
      obtain ⟨e, rfl⟩ : ∃ e, d = e + 1 := ⟨d - 1, by omega⟩
      have ok := hM.ok
      have hpt := zm_put (d := e) (n := n) (L := L) (P := P) (I := I) (x := x) (c0 := c1) (s := (op : Int)) (v := 0) hM h14 hx h6 h7
      by_cases h1 : c = 43
      · have e1 : (op : Int) = 2 := by rw [hop, if_pos h1]; rfl
        rw [e1] at hpt ⊢
        simp (disch := (first | assumption | omega | exact nb_ix (by omega) (by assumption) (by omega) (by omega) | exact nb_ix (by omega) rfl (by omega) (by omega) | exact nb_ok (by omega) rfl | decide)) only [kX12_sum, hpt, ↓if_pos, ↓if_neg, nb_add, nb_sub, nb_mul, Int.toNat_natCast, mm_kr_s, mm_kv_s, if_pos, if_neg, sq_tn, Int.toNat_zero, Int.reduceToNat, Int.reduceNeg, Nat.reduceAdd, Int.reduceAdd, Int.reduceEq, Int.reduceLT, Int.reduceLE, Int.zero_add, nb_ui_s, nb_ui_k, nb_ui_a, sp_min, sp_max, sp_bits]
        done
      · have e1 : (op : Int) = 3 := by rw [hop, if_neg h1]; rfl
        rw [e1] at hpt ⊢
        simp (disch := (first | assumption | omega | exact nb_ix (by omega) (by assumption) (by omega) (by omega) | exact nb_ix (by omega) rfl (by omega) (by omega) | exact nb_ok (by omega) rfl | decide)) only [kX12_sum, hpt, ↓if_pos, ↓if_neg, nb_add, nb_sub, nb_mul, Int.toNat_natCast, mm_kr_s, mm_kv_s, if_pos, if_neg, sq_tn, Int.toNat_zero, Int.reduceToNat, Int.reduceNeg, Nat.reduceAdd, Int.reduceAdd, Int.reduceEq, Int.reduceLT, Int.reduceLE, Int.zero_add, nb_ui_s, nb_ui_k, nb_ui_a, sp_min, sp_max, sp_bits]
        done
    cases o1 with
    | inl p =>
      refine ⟨.inl p, og, trivial, fun d q v hd hq I L c0 hz h2 h3 h4 => ?_, fun d j' hd hj' I L c0 hz h2 hw h5 hx14 h6 h7 => ?_⟩
      · show sq_X _ _ _ _ _ (mm_E d 35 13 _ _ _ n I L P)
        rw [hC d q v I L (by omega) hq hz h2]
        simp (disch := (first | assumption | omega | exact nb_ix (by omega) (by assumption) (by omega) (by omega) | exact nb_ix (by omega) rfl (by omega) (by omega) | exact nb_ok (by omega) rfl | decide)) only [kX4_readSum, ↓if_pos, ↓if_neg, nb_add, nb_sub, nb_mul, Int.toNat_natCast, mm_kr_s, mm_kv_s, if_pos, if_neg, sq_tn, Int.toNat_zero, Int.reduceToNat, Int.reduceNeg, Nat.reduceAdd, Int.reduceAdd, Int.reduceEq, Int.reduceLT, Int.reduceLE, Int.zero_add, nb_ui_s, nb_ui_k, nb_ui_a, sp_min, sp_max, sp_bits]
        have t := oc d (by omega) (mm_ui I 1 2 ((j + 1 : Nat) : Int)) L c0 (hz.up (by decide) (by decide)) (by rw [nb_ui_s]) (by rw [nb_ui_a (by omega)]; exact h3) (by omega)
        refine sq_kr t (fun I' hI => ?_)
        have e0 : zr (Sum.inl p : zo) = 0 := rfl
        simp (disch := (first | assumption | omega | exact nb_ix (by omega) (by assumption) (by omega) (by omega) | exact nb_ix (by omega) rfl (by omega) (by omega) | exact nb_ok (by omega) rfl | decide)) only [kX4_readSum, e0, ↓if_pos, ↓if_neg, nb_add, nb_sub, nb_mul, Int.toNat_natCast, mm_kr_s, mm_kv_s, if_pos, if_neg, sq_tn, Int.toNat_zero, Int.reduceToNat, Int.reduceNeg, Nat.reduceAdd, Int.reduceAdd, Int.reduceEq, Int.reduceLT, Int.reduceLE, Int.zero_add, nb_ui_s, nb_ui_k, nb_ui_a, sp_min, sp_max, sp_bits]
        exact sq_ret ⟨hI.1, ((zcF.refl a I).at ha).tr hI.2⟩
      · have ej := zk_one hj' hk
        subst ej
        show sq_X _ _ _ _ _ (mm_E d 163 21 _ _ _ n _ L P)
        rw [hMd d I L (by omega) hz]
        have t := om d (by omega) (mm_ui I 239 3 ((j' + 1 : Nat) : Int)) L c0 (hz.up (by decide) (by decide)) (by rw [nb_ui_s]) (by rw [nb_ui_k (by decide)]; exact hw) (by rw [nb_ui_k (by decide)]; exact h5) (by rw [nb_ui_k (by decide)]; exact hx14) (by rw [nb_ui_a (by decide)]; exact h6) (by omega)
        refine sq_kv t (fun I' hI => ?_)
        obtain ⟨i1, i2, t, c', i3, i4, i5, i6, i7, i8⟩ := hI
        have hf := ((zmF.refl x c0 I).at (k := 3) (z := ((j' + 1 : Nat) : Int)) (by omega)).tr i2 (Nat.le_refl _)
        have ok := hz.1.ok
        rw [hMp d c' I' L (by omega) hz.1 (hf.tx hx14) i4 (by omega)]
        have cp : ¬ (p : Int) = -1 := by omega
        simp (disch := (first | assumption | omega | exact nb_ix (by omega) (by assumption) (by omega) (by omega) | exact nb_ix (by omega) rfl (by omega) (by omega) | exact nb_ok (by omega) rfl | decide)) only [kX12_sum, i1, ↓if_pos, ↓if_neg, nb_add, nb_sub, nb_mul, Int.toNat_natCast, mm_kr_s, mm_kv_s, if_pos, if_neg, sq_tn, Int.toNat_zero, Int.reduceToNat, Int.reduceNeg, Nat.reduceAdd, Int.reduceAdd, Int.reduceEq, Int.reduceLT, Int.reduceLE, Int.zero_add, nb_ui_s, nb_ui_k, nb_ui_a, sp_min, sp_max, sp_bits]
        rw [hX12_sum_21]
        simp (disch := (first | assumption | omega | exact nb_ix (by omega) (by assumption) (by omega) (by omega) | exact nb_ix (by omega) rfl (by omega) (by omega) | exact nb_ok (by omega) rfl | decide)) only [kX12_sum, ↓if_pos, ↓if_neg, nb_add, nb_sub, nb_mul, Int.toNat_natCast, mm_kr_s, mm_kv_s, if_pos, if_neg, sq_tn, Int.toNat_zero, Int.reduceToNat, Int.reduceNeg, Nat.reduceAdd, Int.reduceAdd, Int.reduceEq, Int.reduceLT, Int.reduceLE, Int.zero_add, nb_ui_s, nb_ui_k, nb_ui_a, sp_min, sp_max, sp_bits]
        refine sq_ret ⟨?_, ?_, t, c' + 1, ?_, ?_, by omega, by omega, by omega, by omega⟩
        · rw [nb_ui_a (by decide), nb_ui_a (by decide), nb_ui_a (by decide)]; exact i1
        · exact zmF.pt hf i8 (by omega)
        · rw [nb_ui_a (by decide), nb_ui_a (by decide), nb_ui_a (by decide)]; exact i3
        · rw [nb_ui_s]
    | inr w =>
      obtain ⟨j1, t1⟩ := w
      obtain ⟨g1, g2, g3⟩ := og
      have g1' : j + 1 < j1 := g1
      have g2' : j1 ≤ S := g2
      have g3' : t1.length + (j + 1) ≤ j1 := g3
      obtain ⟨o2, pg, ps, pc, pm⟩ := hrec j1 (by omega) (by omega)
      refine ⟨zj (t1 ++ [(op, 0)]) o2, ?_, ?_, fun d q v hd hq I L c0 hz h2 h3 h4 => ?_, fun d j' hd hj' I L c0 hz h2 hw h5 hx14 h6 h7 => ?_⟩
      · cases o2 with
        | inl p => exact pg
        | inr w =>
          obtain ⟨u1, u2, u3⟩ := pg
          refine ⟨by show i ≤ w.1; omega, u2, ?_⟩
          show (t1 ++ [(op, 0)] ++ w.2).length + i ≤ w.1
          simp
          omega
      · cases o2 with
        | inl p => trivial
        | inr w => exact sx_S_bin hop2 os ps
      · rw [zr_zj]
        show sq_X _ _ _ _ _ (mm_E d 35 13 _ _ _ n I L P)
        rw [hC d q v I L (by omega) hq hz h2]
        simp (disch := (first | assumption | omega | exact nb_ix (by omega) (by assumption) (by omega) (by omega) | exact nb_ix (by omega) rfl (by omega) (by omega) | exact nb_ok (by omega) rfl | decide)) only [kX4_readSum, ↓if_pos, ↓if_neg, nb_add, nb_sub, nb_mul, Int.toNat_natCast, mm_kr_s, mm_kv_s, if_pos, if_neg, sq_tn, Int.toNat_zero, Int.reduceToNat, Int.reduceNeg, Nat.reduceAdd, Int.reduceAdd, Int.reduceEq, Int.reduceLT, Int.reduceLE, Int.zero_add, nb_ui_s, nb_ui_k, nb_ui_a, sp_min, sp_max, sp_bits]
        have t := oc d (by omega) (mm_ui I 1 2 ((j + 1 : Nat) : Int)) L c0 (hz.up (by decide) (by decide)) (by rw [nb_ui_s]) (by rw [nb_ui_a (by omega)]; exact h3) (by omega)
        refine sq_kr t (fun I' hI => ?_)
        obtain ⟨i1, i2, i3, i4, i5⟩ := hI
        have e0 : zr (Sum.inr (j1, t1) : zo) = 1 := rfl
        have hf := ((zcF.refl a I).at (z := ((j + 1 : Nat) : Int)) ha).tr i5
        obtain ⟨e, rfl⟩ : ∃ e, d = e + 1 := ⟨d - 1, by omega⟩
        have i2' : I' a 1 = ((c0 + t1.length : Nat) : Int) := i2
        have hpt := zc_put (d := e) (n := n) (L := L) (P := P) (I := I') (c0 := c0 + t1.length) (s := (op : Int)) (v := 0) hL i2' (by omega) (by omega) (by omega)
        have e1 : (q : Int) + 1 = ((q + 1 : Nat) : Int) := by omega
        have e5 : (op : Int) + 16 * 0 = (op : Int) := by omega
        have cop : ¬ (op : Int) = -1 := by omega
        rw [e5] at hpt
        simp (disch := (first | assumption | omega | exact nb_ix (by omega) (by assumption) (by omega) (by omega) | exact nb_ix (by omega) rfl (by omega) (by omega) | exact nb_ok (by omega) rfl | decide)) only [kX4_readSum, e0, hpt, e1, ↓if_pos, ↓if_neg, nb_add, nb_sub, nb_mul, Int.toNat_natCast, mm_kr_s, mm_kv_s, if_pos, if_neg, sq_tn, Int.toNat_zero, Int.reduceToNat, Int.reduceNeg, Nat.reduceAdd, Int.reduceAdd, Int.reduceEq, Int.reduceLT, Int.reduceLE, Int.zero_add, nb_ui_s, nb_ui_k, nb_ui_a, sp_min, sp_max, sp_bits]
        refine sq_mono (pc (e + 1) (q + 1) _ (by omega) (by omega) _ L (c0 + t1.length + 1) ?_ ?_ ?_ (by omega)) (fun K hK => ?_)
        · exact ((hf.zc ha hz).up (by omega) (by omega)).up (by omega) (by omega)
        · rw [nb_ui_a (by omega), nb_ui_a (by omega)]; exact i1
        · rw [nb_ui_s]
        · refine zcP_then (J := mm_ui (mm_ui I' (a + 1) (c0 + t1.length) (op : Int)) a 1 ((c0 + t1.length + 1 : Nat) : Int)) ?_ ?_ ?_ ?_
          · exact (hf.sg ha).ln ha
          · intro k hk
            rw [nb_ui_a (by omega), nb_ui_k (by omega), i4 k hk, nb_ui_a (by omega)]
          · rw [nb_ui_r (by omega)]
            refine sx_at_app t1 c0 (sx_at_keep t1 c0 i3 (fun k _ hk => nb_ui_k (by omega))) ⟨?_, trivial⟩
            rw [nb_ui_s, hsgn]
          · have e9 : c0 + (t1 ++ [(op, 0)]).length = c0 + t1.length + 1 := by simp; omega
            rw [e9]
            exact hK
      · have ej := zk_one hj' hk
        subst ej
        show sq_X _ _ _ _ _ (mm_E d 163 21 _ _ _ n _ L P)
        rw [hMd d I L (by omega) hz]
        have t := om d (by omega) (mm_ui I 239 3 ((j' + 1 : Nat) : Int)) L c0 (hz.up (by decide) (by decide)) (by rw [nb_ui_s]) (by rw [nb_ui_k (by decide)]; exact hw) (by rw [nb_ui_k (by decide)]; exact h5) (by rw [nb_ui_k (by decide)]; exact hx14) (by rw [nb_ui_a (by decide)]; exact h6) (by omega)
        refine sq_kv t (fun I' hI => ?_)
        obtain ⟨i1, i2, i3, i4, i5, i6⟩ := hI
        have hf := ((zmF.refl x c0 I).at (k := 3) (z := ((j' + 1 : Nat) : Int)) (by omega)).tr i6 (Nat.le_refl _)
        have ok := hz.1.ok
        rw [hMp d (c0 + t1.length) I' L (by omega) hz.1 (hf.tx hx14) i4 (by omega)]
        have hf2 := zmF.pt (z := (op : Int)) (w := 0) (y := ((c0 + t1.length + 1 : Nat) : Int)) (c := c0 + t1.length) hf (by omega) (by omega)
        have hat : sx_mt (mm_ui (mm_ui (mm_ui I' 241 (520 * x + (c0 + t1.length)) (op : Int)) 242 (520 * x + (c0 + t1.length)) 0) 243 x ((c0 + t1.length + 1 : Nat) : Int)) (520 * x + c0) (t1 ++ [(op, 0)]) := by
          refine sx_mt_app t1 _ (sx_mt_kp t1 _ i5 (fun k _ hk => ⟨?_, ?_⟩)) ⟨?_, ?_, trivial⟩
          · rw [nb_ui_a (by decide), nb_ui_a (by decide), nb_ui_k (by omega)]
          · rw [nb_ui_a (by decide), nb_ui_k (by omega), nb_ui_a (by decide)]
          · rw [nb_ui_a (by decide), nb_ui_a (by decide), Nat.add_assoc, nb_ui_s]
          · rw [nb_ui_a (by decide), Nat.add_assoc, nb_ui_s]
        have w1 : mm_ui (mm_ui (mm_ui I' 241 (520 * x + (c0 + t1.length)) (op : Int)) 242 (520 * x + (c0 + t1.length)) 0) 243 x ((c0 + t1.length + 1 : Nat) : Int) 239 3 = (j1 : Int) := by rw [nb_ui_a (by decide), nb_ui_a (by decide), nb_ui_a (by decide)]; exact i1
        have w2 : mm_ui (mm_ui (mm_ui I' 241 (520 * x + (c0 + t1.length)) (op : Int)) 242 (520 * x + (c0 + t1.length)) 0) 243 x ((c0 + t1.length + 1 : Nat) : Int) 239 4 = -1 := by rw [nb_ui_a (by decide), nb_ui_a (by decide), nb_ui_a (by decide)]; exact i2
        have w3 : mm_ui (mm_ui (mm_ui I' 241 (520 * x + (c0 + t1.length)) (op : Int)) 242 (520 * x + (c0 + t1.length)) 0) 243 x ((c0 + t1.length + 1 : Nat) : Int) 239 5 = (dp : Int) := by rw [nb_ui_a (by decide), nb_ui_a (by decide), nb_ui_a (by decide)]; exact i3
        have w4 : mm_ui (mm_ui (mm_ui I' 241 (520 * x + (c0 + t1.length)) (op : Int)) 242 (520 * x + (c0 + t1.length)) 0) 243 x ((c0 + t1.length + 1 : Nat) : Int) 243 x = ((c0 + t1.length + 1 : Nat) : Int) := by rw [nb_ui_s]
        generalize mm_ui (mm_ui (mm_ui I' 241 (520 * x + (c0 + t1.length)) (op : Int)) 242 (520 * x + (c0 + t1.length)) 0) 243 x ((c0 + t1.length + 1 : Nat) : Int) = J at hf2 hat w1 w2 w3 w4
        obtain ⟨j2, hk2⟩ := zk_ex (T := T) (S := S) (S - j1) j1 rfl g2
        obtain ⟨e, rfl⟩ : ∃ e, d = e + 2 := ⟨d - 2, by omega⟩
        have hl := zm_look (d := e) (L := L) (hf2.zm hz) hk2 w1
        simp (disch := (first | assumption | omega | exact nb_ix (by omega) (by assumption) (by omega) (by omega) | exact nb_ix (by omega) rfl (by omega) (by omega) | exact nb_ok (by omega) rfl | decide)) only [kX12_sum, w2, hl, ↓if_pos, ↓if_neg, nb_add, nb_sub, nb_mul, Int.toNat_natCast, mm_kr_s, mm_kv_s, if_pos, if_neg, sq_tn, Int.toNat_zero, Int.reduceToNat, Int.reduceNeg, Nat.reduceAdd, Int.reduceAdd, Int.reduceEq, Int.reduceLT, Int.reduceLE, Int.zero_add, nb_ui_s, nb_ui_k, nb_ui_a, sp_min, sp_max, sp_bits]
        refine sq_mono (pm (e + 2) j2 (by omega) hk2 J L (c0 + t1.length + 1) (hf2.zm hz) w1 w2 w3 (hf2.tx hx14) w4 (by omega)) (fun K hK => ?_)
        have e9 : c0 + (t1 ++ [(op, 0)]).length = c0 + t1.length + 1 := by simp; omega
        refine zmP_then (i1 := j1) (J := J) ?_ ?_ hf2 hat ?_
        · simp; omega
        · omega
        · rw [e9]
          exact hK
  · refine ⟨.inr (j, []), ⟨k1, k2, by show 0 + i ≤ j; omega⟩, sx_St_nil _, fun d q v hd hq I L c0 hz h2 h3 h4 => ?_, fun d j' hd hj' I L c0 hz h2 hw h5 hx14 h6 h7 => ?_⟩
    · obtain ⟨e, rfl⟩ : ∃ e, d = e + 2 := ⟨d - 2, by omega⟩
      have hn := hz.1
      have cq : ¬ (240 : Int) ≤ (q : Int) := by omega
      have hp := zc_pass0 (d := e) (L := L) (c := 43) hz hk h2 (by rw [hc]; omega)
      have hp2 := zc_pass0 (d := e) (n := n) (L := L) (P := P) (I := mm_ui I 1 2 (j : Int)) (c := 45) (hz.up (by decide) (by decide)) (zk_self hk) (by rw [nb_ui_s]) (by rw [hc]; omega)
      show sq_X _ _ _ _ _ (mm_E (e + 2) 35 13 _ _ _ n I L P)
      rw [hX4_readSum_13]
      simp (disch := (first | assumption | omega | exact nb_ix (by omega) (by assumption) (by omega) (by omega) | exact nb_ix (by omega) rfl (by omega) (by omega) | exact nb_ok (by omega) rfl | decide)) only [kX4_readSum, hp, hp2, nb_ui_2, ↓if_pos, ↓if_neg, nb_add, nb_sub, nb_mul, Int.toNat_natCast, mm_kr_s, mm_kv_s, if_pos, if_neg, sq_tn, Int.toNat_zero, Int.reduceToNat, Int.reduceNeg, Nat.reduceAdd, Int.reduceAdd, Int.reduceEq, Int.reduceLT, Int.reduceLE, Int.zero_add, nb_ui_s, nb_ui_k, nb_ui_a, sp_min, sp_max, sp_bits]
      refine sq_ret ⟨by rw [nb_ui_s], by rw [nb_ui_a (by omega)]; exact h3, trivial, fun k hk => by rw [nb_ui_a (by omega)], (zcF.refl a I).at ha⟩
    · have ej := zk_one hj' hk
      subst ej
      have n1 : ¬ c = 43 := by omega
      have n2 : ¬ c = 45 := by omega
      show sq_X _ _ _ _ _ (mm_E d 163 21 _ _ _ n _ L P)
      rw [hc, hX12_sum_21]
      simp (disch := (first | assumption | omega | exact nb_ix (by omega) (by assumption) (by omega) (by omega) | exact nb_ix (by omega) rfl (by omega) (by omega) | exact nb_ok (by omega) rfl | decide)) only [kX12_sum, ↓if_pos, ↓if_neg, nb_add, nb_sub, nb_mul, Int.toNat_natCast, mm_kr_s, mm_kv_s, if_pos, if_neg, sq_tn, Int.toNat_zero, Int.reduceToNat, Int.reduceNeg, Nat.reduceAdd, Int.reduceAdd, Int.reduceEq, Int.reduceLT, Int.reduceLE, Int.zero_add, nb_ui_s, nb_ui_k, nb_ui_a, sp_min, sp_max, sp_bits]
      refine sq_ret ⟨by rw [nb_ui_s], by rw [nb_ui_k (by decide)]; exact hw, by rw [nb_ui_k (by decide)]; exact h5, by rw [nb_ui_a (by decide)]; exact h6, trivial, (zmF.refl x c0 I).at (by omega)⟩
set_option maxHeartbeats 4000000 in
theorem zJ_sum (hL : sp_L n P a) (ha : 20 ≤ a) (hx : x < 5) (hS : S ≤ 240) (hr : dp + r = 6) (hi : i ≤ S) (hsub : zJ n P a x T S dp (2 * r + 2) i (3 * r + 5) 36 162) (hrec : ∀ i', i < i' → i' ≤ S → zJt n P a x T S dp ((2 * r + 2) + 1) i' ((3 * r + 5)) 35 163) : zJ n P a x T S dp ((2 * r + 2) + 1) i ((3 * r + 5) + 1) 35 163 := by
  have okL := hL.ok
  obtain ⟨o1, og, os, oc, om⟩ := hsub
  cases o1 with
  | inl p =>
    refine ⟨.inl p, og, trivial, fun d hd I L c0 hz h2 h3 h4 => ?_, fun d hd I L c0 hz h2 hw h5 hx14 h6 h7 => ?_⟩
    · obtain ⟨e, rfl⟩ : ∃ e, d = e + 1 := ⟨d - 1, by omega⟩
      show sq_X _ _ _ _ _ (mm_rn (e + 1) 35 _ n I L P)
      rw [eX4_readSum]
      simp (disch := (first | assumption | omega | exact nb_ix (by omega) (by assumption) (by omega) (by omega) | exact nb_ix (by omega) rfl (by omega) (by omega) | exact nb_ok (by omega) rfl | decide)) only [kX4_readSum, ↓if_pos, ↓if_neg, nb_add, nb_sub, nb_mul, Int.toNat_natCast, mm_kr_s, mm_kv_s, if_pos, if_neg, sq_tn, Int.toNat_zero, Int.reduceToNat, Int.reduceNeg, Nat.reduceAdd, Int.reduceAdd, Int.reduceEq, Int.reduceLT, Int.reduceLE, Int.zero_add, nb_ui_s, nb_ui_k, nb_ui_a, sp_min, sp_max, sp_bits]
      refine sq_kr (oc e (by omega) I L c0 hz h2 h3 h4) (fun I' hI => ?_)
      have e0 : zr (Sum.inl p : zo) = 0 := rfl
      simp (disch := (first | assumption | omega | exact nb_ix (by omega) (by assumption) (by omega) (by omega) | exact nb_ix (by omega) rfl (by omega) (by omega) | exact nb_ok (by omega) rfl | decide)) only [kX4_readSum, e0, ↓if_pos, ↓if_neg, nb_add, nb_sub, nb_mul, Int.toNat_natCast, mm_kr_s, mm_kv_s, if_pos, if_neg, sq_tn, Int.toNat_zero, Int.reduceToNat, Int.reduceNeg, Nat.reduceAdd, Int.reduceAdd, Int.reduceEq, Int.reduceLT, Int.reduceLE, Int.zero_add, nb_ui_s, nb_ui_k, nb_ui_a, sp_min, sp_max, sp_bits]
      exact sq_ret hI
    · obtain ⟨e, rfl⟩ : ∃ e, d = e + 1 := ⟨d - 1, by omega⟩
      have ok := hz.1.ok
      show sq_X _ _ _ _ _ (mm_rn (e + 1) 163 _ n I L P)
      rw [eX12_sum]
      simp (disch := (first | assumption | omega | exact nb_ix (by omega) (by assumption) (by omega) (by omega) | exact nb_ix (by omega) rfl (by omega) (by omega) | exact nb_ok (by omega) rfl | decide)) only [kX12_sum, ↓if_pos, ↓if_neg, nb_add, nb_sub, nb_mul, Int.toNat_natCast, mm_kr_s, mm_kv_s, if_pos, if_neg, sq_tn, Int.toNat_zero, Int.reduceToNat, Int.reduceNeg, Nat.reduceAdd, Int.reduceAdd, Int.reduceEq, Int.reduceLT, Int.reduceLE, Int.zero_add, nb_ui_s, nb_ui_k, nb_ui_a, sp_min, sp_max, sp_bits]
      refine sq_kv (om e (by omega) I L c0 hz h2 hw h5 hx14 h6 h7) (fun I' hI => ?_)
      have i1 := hI.1
      have cp : ¬ (p : Int) = -1 := by omega
      simp (disch := (first | assumption | omega | exact nb_ix (by omega) (by assumption) (by omega) (by omega) | exact nb_ix (by omega) rfl (by omega) (by omega) | exact nb_ok (by omega) rfl | decide)) only [kX12_sum, i1, ↓if_pos, ↓if_neg, nb_add, nb_sub, nb_mul, Int.toNat_natCast, mm_kr_s, mm_kv_s, if_pos, if_neg, sq_tn, Int.toNat_zero, Int.reduceToNat, Int.reduceNeg, Nat.reduceAdd, Int.reduceAdd, Int.reduceEq, Int.reduceLT, Int.reduceLE, Int.zero_add, nb_ui_s, nb_ui_k, nb_ui_a, sp_min, sp_max, sp_bits]
      rw [hX12_sum_21]
      simp (disch := (first | assumption | omega | exact nb_ix (by omega) (by assumption) (by omega) (by omega) | exact nb_ix (by omega) rfl (by omega) (by omega) | exact nb_ok (by omega) rfl | decide)) only [kX12_sum, ↓if_pos, ↓if_neg, nb_add, nb_sub, nb_mul, Int.toNat_natCast, mm_kr_s, mm_kv_s, if_pos, if_neg, sq_tn, Int.toNat_zero, Int.reduceToNat, Int.reduceNeg, Nat.reduceAdd, Int.reduceAdd, Int.reduceEq, Int.reduceLT, Int.reduceLE, Int.zero_add, nb_ui_s, nb_ui_k, nb_ui_a, sp_min, sp_max, sp_bits]
      exact sq_ret hI
  | inr w =>
    obtain ⟨j1, t1⟩ := w
    obtain ⟨g1, g2, g3⟩ := og
    have g1' : i < j1 := g1
    have g2' : j1 ≤ S := g2
    have g3' : t1.length + i ≤ j1 := g3
    obtain ⟨o2, pg, ps, pc, pm⟩ := hrec j1 (by omega) (by omega)
    refine ⟨zj t1 o2, ?_, ?_, fun d hd I L c0 hz h2 h3 h4 => ?_, fun d hd I L c0 hz h2 hw h5 hx14 h6 h7 => ?_⟩
    · cases o2 with
      | inl p => exact pg
      | inr w =>
        obtain ⟨u1, u2, u3⟩ := pg
        refine ⟨by show i < w.1; omega, u2, ?_⟩
        show (t1 ++ w.2).length + i ≤ w.1
        simp
        omega
    · cases o2 with
      | inl p => trivial
      | inr w => exact sx_S_then os ps
    · rw [zr_zj]
      obtain ⟨e, rfl⟩ : ∃ e, d = e + 1 := ⟨d - 1, by omega⟩
      show sq_X _ _ _ _ _ (mm_rn (e + 1) 35 _ n I L P)
      rw [eX4_readSum]
      simp (disch := (first | assumption | omega | exact nb_ix (by omega) (by assumption) (by omega) (by omega) | exact nb_ix (by omega) rfl (by omega) (by omega) | exact nb_ok (by omega) rfl | decide)) only [kX4_readSum, ↓if_pos, ↓if_neg, nb_add, nb_sub, nb_mul, Int.toNat_natCast, mm_kr_s, mm_kv_s, if_pos, if_neg, sq_tn, Int.toNat_zero, Int.reduceToNat, Int.reduceNeg, Nat.reduceAdd, Int.reduceAdd, Int.reduceEq, Int.reduceLT, Int.reduceLE, Int.zero_add, nb_ui_s, nb_ui_k, nb_ui_a, sp_min, sp_max, sp_bits]
      refine sq_kr (oc e (by omega) I L c0 hz h2 h3 h4) (fun I' hI => ?_)
      obtain ⟨i1, i2, i3, i4, i5⟩ := hI
      have e0 : zr (Sum.inr (j1, t1) : zo) = 1 := rfl
      simp (disch := (first | assumption | omega | exact nb_ix (by omega) (by assumption) (by omega) (by omega) | exact nb_ix (by omega) rfl (by omega) (by omega) | exact nb_ok (by omega) rfl | decide)) only [kX4_readSum, e0, ↓if_pos, ↓if_neg, nb_add, nb_sub, nb_mul, Int.toNat_natCast, mm_kr_s, mm_kv_s, if_pos, if_neg, sq_tn, Int.toNat_zero, Int.reduceToNat, Int.reduceNeg, Nat.reduceAdd, Int.reduceAdd, Int.reduceEq, Int.reduceLT, Int.reduceLE, Int.zero_add, nb_ui_s, nb_ui_k, nb_ui_a, sp_min, sp_max, sp_bits]
      refine sq_mono (pc e 0 _ (by omega) (by omega) I' L (c0 + t1.length) (i5.zc ha hz) i1 i2 (by omega)) (fun K hK => zcP_then i5 i4 i3 hK)
    · obtain ⟨e, rfl⟩ : ∃ e, d = e + 3 := ⟨d - 3, by omega⟩
      have ok := hz.1.ok
      show sq_X _ _ _ _ _ (mm_rn (e + 3) 163 _ n I L P)
      rw [eX12_sum]
      simp (disch := (first | assumption | omega | exact nb_ix (by omega) (by assumption) (by omega) (by omega) | exact nb_ix (by omega) rfl (by omega) (by omega) | exact nb_ok (by omega) rfl | decide)) only [kX12_sum, ↓if_pos, ↓if_neg, nb_add, nb_sub, nb_mul, Int.toNat_natCast, mm_kr_s, mm_kv_s, if_pos, if_neg, sq_tn, Int.toNat_zero, Int.reduceToNat, Int.reduceNeg, Nat.reduceAdd, Int.reduceAdd, Int.reduceEq, Int.reduceLT, Int.reduceLE, Int.zero_add, nb_ui_s, nb_ui_k, nb_ui_a, sp_min, sp_max, sp_bits]
      refine sq_kv (om (e + 2) (by omega) I L c0 hz h2 hw h5 hx14 h6 h7) (fun I' hI => ?_)
      obtain ⟨i1, i2, i3, i4, i5, i6⟩ := hI
      obtain ⟨j2, hk2⟩ := zk_ex (T := T) (S := S) (S - j1) j1 rfl g2
      have hl := zm_look (d := e) (L := L) (i6.zm hz) hk2 i1
      simp (disch := (first | assumption | omega | exact nb_ix (by omega) (by assumption) (by omega) (by omega) | exact nb_ix (by omega) rfl (by omega) (by omega) | exact nb_ok (by omega) rfl | decide)) only [kX12_sum, i2, hl, ↓if_pos, ↓if_neg, nb_add, nb_sub, nb_mul, Int.toNat_natCast, mm_kr_s, mm_kv_s, if_pos, if_neg, sq_tn, Int.toNat_zero, Int.reduceToNat, Int.reduceNeg, Nat.reduceAdd, Int.reduceAdd, Int.reduceEq, Int.reduceLT, Int.reduceLE, Int.zero_add, nb_ui_s, nb_ui_k, nb_ui_a, sp_min, sp_max, sp_bits]
      refine sq_mono (pm (e + 2) j2 (by omega) hk2 I' L (c0 + t1.length) (i6.zm hz) i1 i2 i3 (i6.tx hx14) i4 (by omega)) (fun K hK => zmP_then (i1 := j1) (by omega) (by omega) i6 i5 hK)
end Tsum
