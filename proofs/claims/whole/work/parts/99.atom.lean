/-! an atom, both halves at once -/
theorem sx_ev_1 {l : Nat → Int} {t : Nat × Int} {st st' : List Int} (h : sx_st l t.1 t.2 st = some st') : sx_ev l [t] st = some st' := by
  unfold sx_ev
  rw [h]
  rfl
theorem sx_S_num {v : Int} {k : Nat} (hk : 1 ≤ k) (h : 0 ≤ v ∧ v ≤ 9999) : sx_S k [(0, v)] := fun l hl => ⟨v, fun st hst => sx_ev_1 (by show sx_st l 0 v st = _; unfold sx_st; rw [if_pos rfl, if_pos ⟨h, by omega⟩])⟩
theorem sx_S_let {v : Int} {k : Nat} (hk : 1 ≤ k) (h : 0 ≤ v ∧ v < 6) : sx_S k [(1, v)] := fun l hl => ⟨l v.toNat, fun st hst => sx_ev_1 (by show sx_st l 1 v st = _; unfold sx_st; rw [if_neg (by decide), if_pos rfl, if_pos ⟨h, by omega⟩])⟩
theorem sx_S_up {k k' : Nat} {toks : List (Nat × Int)} (h : sx_S k toks) (hk : k ≤ k') : sx_S k' toks := fun l hl => by
  obtain ⟨x, hx⟩ := h l hl
  exact ⟨x, fun st hst => hx st (by omega)⟩
theorem zl_rg {c : Int} (h : zl c ≠ -1) : 0 ≤ zl c ∧ zl c < 6 := by
  unfold zl at h ⊢
  repeat' split
  all_goals first | omega | (simp at h; omega) | skip
  all_goals simp_all
def zJ (n : Nat) (P : mm_P) (a x : Nat) (T : Nat → Int) (S dp k : Nat) (i : Nat) (m : Nat) (yc ym : Nat) : Prop := ∃ o : zo, zg S i o ∧ zs k o ∧ (∀ d, m ≤ d → zcX n P a T S (fun I L => mm_rn d yc [.inr (.inr (some 1)), .inr (.inr (some a)), .inl ((dp : Int))] n I L P) i o) ∧ (∀ d, m ≤ d → zmX n P x T S dp (fun I L => mm_rn d ym [.inr (.inr (some 239))] n I L P) i o)
section AT
variable {n a x S dp r i : Nat} {P : mm_P} {T : Nat → Int}
set_option maxHeartbeats 4000000 in
theorem zJ_atom (hL : sp_L n P a) (ha : 20 ≤ a) (hx : x < 5) (hS : S ≤ 240) (hr : dp + r = 6) (hi : i ≤ S) (hsum : ∀ q, r = q + 1 → ∀ i', i < i' → i' ≤ S → zJ n P a x T S (dp + 1) (2 * q + 3) i' (3 * q + 6) 35 163) : zJ n P a x T S dp (2 * r + 1) i (3 * r + 4) 37 161 := by
  have okL := hL.ok
  obtain ⟨j, hk⟩ := zk_ex (T := T) (S := S) (S - i) i rfl hi
  have hk' := hk
  obtain ⟨k1, k2, k3, k4⟩ := hk'
  generalize hc : zp T S j = c
  by_cases c91 : c = 91
  · subst c91
    have hjS := zp_S hc (by decide)
    by_cases hr0 : r = 0
    · -- too deep
      have hdp : dp = 6 := by omega
      subst hdp
      refine ⟨.inl j, k2, trivial, fun d hd I L c0 hz h2 h3 h4 => ?_, fun d hd I L c0 hz h2 hw h5 hx14 h6 h7 => ?_⟩
      · obtain ⟨e, rfl⟩ : ∃ e, d = e + 3 := ⟨d - 3, by omega⟩
        have hn := hz.1
        have hp := zc_peek (d := e + 1) (L := L) hz hk h2
        show sq_X _ _ _ _ _ (mm_rn (e + 3) 37 _ n I L P)
        rw [eX4_readAtom]
        have e6 : ((6 : Nat) : Int) = 6 := rfl
        simp (disch := (first | assumption | omega | exact nb_ix (by omega) (by assumption) (by omega) (by omega) | exact nb_ix (by omega) rfl (by omega) (by omega) | exact nb_ok (by omega) rfl | decide)) only [kX4_readAtom, hp, hc, e6, ↓if_pos, ↓if_neg, nb_add, nb_sub, nb_mul, Int.toNat_natCast, mm_kr_s, mm_kv_s, if_pos, if_neg, sq_tn, Int.toNat_zero, Int.reduceToNat, Int.reduceNeg, Nat.reduceAdd, Int.reduceAdd, Int.reduceEq, Int.reduceLT, Int.reduceLE, Int.zero_add, nb_ui_s, nb_ui_k, nb_ui_a, sp_min, sp_max, sp_bits]
        exact sq_ret ⟨by rw [nb_ui_s], (zcF.refl a I).at ha⟩
      · obtain ⟨e, rfl⟩ : ∃ e, d = e + 4 := ⟨d - 4, by omega⟩
        have ok := hz.1.ok
        have hp := zm_look (d := e + 1) (L := L) hz hk h2
        have ho := zm_opens6 (d := e + 1) (n := n) (L := L) (P := P) (I := mm_ui I 239 3 (j : Int)) (j := j) hz.1 (by rw [nb_ui_s]) (by omega) (by rw [nb_ui_k (by decide)]; exact hw) (by rw [nb_ui_k (by decide)]; exact h5)
        show sq_X _ _ _ _ _ (mm_rn (e + 4) 161 _ n I L P)
        rw [eX12_atom]
        have hd1 := zm_dig (d := e + 2) (n := n) (L := L) (P := P) (I := mm_ui I 239 3 (j : Int)) 91
        have hl1 := zm_let (d := e + 2) (n := n) (L := L) (P := P) (I := mm_ui I 239 3 (j : Int)) 91
        rw [if_neg (by decide)] at hd1
        rw [show zl 91 = -1 from rfl] at hl1
        have cj : ¬ (j : Int) = -1 := by omega
        simp (disch := (first | assumption | omega | exact nb_ix (by omega) (by assumption) (by omega) (by omega) | exact nb_ix (by omega) rfl (by omega) (by omega) | exact nb_ok (by omega) rfl | decide)) only [kX12_atom, hp, hc, hd1, hl1, ho, ↓if_pos, ↓if_neg, nb_add, nb_sub, nb_mul, Int.toNat_natCast, mm_kr_s, mm_kv_s, if_pos, if_neg, sq_tn, Int.toNat_zero, Int.reduceToNat, Int.reduceNeg, Nat.reduceAdd, Int.reduceAdd, Int.reduceEq, Int.reduceLT, Int.reduceLE, Int.zero_add, nb_ui_s, nb_ui_k, nb_ui_a, sp_min, sp_max, sp_bits]
        refine sq_ret ⟨?_, ?_, j + 1, c0, ?_, ?_, by omega, by omega, by omega, by omega⟩
        · rw [nb_ui_k (by decide), nb_ui_k (by decide), nb_ui_s]
        · exact ((((zmF.refl x c0 I).at (by omega)).at (by omega)).at (by omega)).at (by omega)
        · rw [nb_ui_s]
        · rw [nb_ui_a (by decide), nb_ui_a (by decide), nb_ui_a (by decide), nb_ui_a (by decide)]; exact h6
    · obtain ⟨q, rfl⟩ : ∃ q, r = q + 1 := ⟨r - 1, by omega⟩
      obtain ⟨o, og, os, oc, om⟩ := hsum q rfl (j + 1) (by omega) (by omega)
      -- the class: up to the inner sum
      have hC : ∀ (Q : Int) (G : mm_I → Prop) (e : Nat) (I L : mm_I) (c0 : Nat), zc n P I T S → I 1 2 = (i : Int) → I a 1 = (c0 : Int) → c0 ≤ i → (∀ I', zcP a c0 (mm_ui I 1 2 ((j + 1 : Nat) : Int)) I' o → sq_X (some (.inl Q)) n L P G (mm_E (e + 3 * q + 6) 37 37 [.inr (.inr (some 1)), .inr (.inr (some a)), .inl ((dp : Int)), .inl 91, mm_junk, mm_junk] [] [.inl (zr o)] n I' L P)) → sq_X (some (.inl Q)) n L P G (mm_rn (e + 3 * q + 7) 37 [.inr (.inr (some 1)), .inr (.inr (some a)), .inl ((dp : Int))] n I L P) := by
        intro Q G e I L c0 hz h2 h3 h4 hg
        have hn := hz.1
        have hp := zc_peek (d := e + 3 * q + 5) (L := L) hz hk h2
        rw [eX4_readAtom]
        have e1 : (j : Int) + 1 = ((j + 1 : Nat) : Int) := by omega
        have e2 : (dp : Int) + 1 = ((dp + 1 : Nat) : Int) := by omega
        have c6 : (dp : Int) < 6 := by omega
        simp (disch := (first | assumption | omega | exact nb_ix (by omega) (by assumption) (by omega) (by omega) | exact nb_ix (by omega) rfl (by omega) (by omega) | exact nb_ok (by omega) rfl | decide)) only [kX4_readAtom, hp, hc, e1, e2, nb_ui_2, ↓if_pos, ↓if_neg, nb_add, nb_sub, nb_mul, Int.toNat_natCast, mm_kr_s, mm_kv_s, if_pos, if_neg, sq_tn, Int.toNat_zero, Int.reduceToNat, Int.reduceNeg, Nat.reduceAdd, Int.reduceAdd, Int.reduceEq, Int.reduceLT, Int.reduceLE, Int.zero_add, nb_ui_s, nb_ui_k, nb_ui_a, sp_min, sp_max, sp_bits]
        have t := oc (e + 3 * q + 6) (by omega) (mm_ui I 1 2 ((j + 1 : Nat) : Int)) L c0 (hz.up (by decide) (by decide)) (by rw [nb_ui_s]) (by rw [nb_ui_a (by omega)]; exact h3) (by omega)
        exact sq_kr t hg
      have hMd : ∀ (G : mm_I → Prop) (e : Nat) (I L : mm_I) (c0 : Nat), zm n P I T S → I 239 3 = (i : Int) → I 239 4 = -1 → I 239 5 = (dp : Int) → I 239 14 = (x : Int) → I 243 x = (c0 : Int) → c0 ≤ i → (∀ I', zmP x (dp + 1) (j + 1) c0 S (mm_ui (mm_ui (mm_ui I 239 3 (j : Int)) 239 5 ((dp + 1 : Nat) : Int)) 239 3 ((j + 1 : Nat) : Int)) I' o → sq_X none n L P G (mm_E (e + 3 * q + 6) 161 76 [.inr (.inr (some 239)), .inl 91] [] [] n I' L P)) → sq_X none n L P G (mm_rn (e + 3 * q + 7) 161 [.inr (.inr (some 239))] n I L P) := by
        intro G e I L c0 hz h2 hw h5 hx14 h6 h7 hg
        have ok := hz.1.ok
        have hp := zm_look (d := e + 3 * q + 4) (L := L) hz hk h2
        have ho := zm_opens (d := e + 3 * q + 4) (n := n) (L := L) (P := P) (I := mm_ui I 239 3 (j : Int)) (j := j) (dp := dp) hz.1 (by rw [nb_ui_s]) (by omega) (by rw [nb_ui_k (by decide)]; exact h5) (by omega)
        rw [eX12_atom]
        have hd1 := zm_dig (d := e + 3 * q + 5) (n := n) (L := L) (P := P) (I := mm_ui I 239 3 (j : Int)) 91
        have hl1 := zm_let (d := e + 3 * q + 5) (n := n) (L := L) (P := P) (I := mm_ui I 239 3 (j : Int)) 91
        rw [if_neg (by decide)] at hd1
        rw [show zl 91 = -1 from rfl] at hl1
        simp (disch := (first | assumption | omega | exact nb_ix (by omega) (by assumption) (by omega) (by omega) | exact nb_ix (by omega) rfl (by omega) (by omega) | exact nb_ok (by omega) rfl | decide)) only [kX12_atom, hp, hc, hd1, hl1, ho, hw, ↓if_pos, ↓if_neg, nb_add, nb_sub, nb_mul, Int.toNat_natCast, mm_kr_s, mm_kv_s, if_pos, if_neg, sq_tn, Int.toNat_zero, Int.reduceToNat, Int.reduceNeg, Nat.reduceAdd, Int.reduceAdd, Int.reduceEq, Int.reduceLT, Int.reduceLE, Int.zero_add, nb_ui_s, nb_ui_k, nb_ui_a, sp_min, sp_max, sp_bits]
        have t := om (e + 3 * q + 6) (by omega) (mm_ui (mm_ui (mm_ui I 239 3 (j : Int)) 239 5 ((dp + 1 : Nat) : Int)) 239 3 ((j + 1 : Nat) : Int)) L c0 (((hz.up (by decide) (by decide)).up (by decide) (by decide)).up (by decide) (by decide)) (by rw [nb_ui_s]) (by rw [nb_ui_k (by decide), nb_ui_k (by decide), nb_ui_k (by decide)]; exact hw) (by rw [nb_ui_k (by decide), nb_ui_s]) (by rw [nb_ui_k (by decide), nb_ui_k (by decide), nb_ui_k (by decide)]; exact hx14) (by rw [nb_ui_a (by decide), nb_ui_a (by decide), nb_ui_a (by decide)]; exact h6) (by omega)
        exact sq_kv t hg
      have fr1 : ∀ (I : mm_I), zcF a I (mm_ui I 1 2 ((j + 1 : Nat) : Int)) := fun I => (zcF.refl a I).at ha
      have fr2 : ∀ (I : mm_I) (c0 : Nat), zmF x c0 I (mm_ui (mm_ui (mm_ui I 239 3 (j : Int)) 239 5 ((dp + 1 : Nat) : Int)) 239 3 ((j + 1 : Nat) : Int)) := fun I c0 => (((zmF.refl x c0 I).at (by omega)).at (by omega)).at (by omega)
      cases o with
      | inl p =>
        refine ⟨.inl p, og, trivial, fun d hd I L c0 hz h2 h3 h4 => ?_, fun d hd I L c0 hz h2 hw h5 hx14 h6 h7 => ?_⟩
        · obtain ⟨e, rfl⟩ : ∃ e, d = e + 3 * q + 7 := ⟨d - (3 * q + 7), by omega⟩
          refine hC 0 _ e I L c0 hz h2 h3 h4 (fun I' hI => ?_)
          have e0 : zr (Sum.inl p : zo) = 0 := rfl
          simp (disch := (first | assumption | omega | exact nb_ix (by omega) (by assumption) (by omega) (by omega) | exact nb_ix (by omega) rfl (by omega) (by omega) | exact nb_ok (by omega) rfl | decide)) only [kX4_readAtom, e0, ↓if_pos, ↓if_neg, nb_add, nb_sub, nb_mul, Int.toNat_natCast, mm_kr_s, mm_kv_s, if_pos, if_neg, sq_tn, Int.toNat_zero, Int.reduceToNat, Int.reduceNeg, Nat.reduceAdd, Int.reduceAdd, Int.reduceEq, Int.reduceLT, Int.reduceLE, Int.zero_add, nb_ui_s, nb_ui_k, nb_ui_a, sp_min, sp_max, sp_bits]
          exact sq_ret ⟨hI.1, (fr1 I).tr hI.2⟩
        · obtain ⟨e, rfl⟩ : ∃ e, d = e + 3 * q + 7 := ⟨d - (3 * q + 7), by omega⟩
          refine hMd _ e I L c0 hz h2 hw h5 hx14 h6 h7 (fun I' hI => ?_)
          obtain ⟨i1, i2, t, c, i3, i4, i5, i6, i7, i8⟩ := hI
          have ok := hz.1.ok
          have hcl := zm_closesF (d := e + 3 * q + 3) (n := n) (L := L) (P := P) (I := I') (c := 93) hz.1 i3 (by omega) i1
          simp (disch := (first | assumption | omega | exact nb_ix (by omega) (by assumption) (by omega) (by omega) | exact nb_ix (by omega) rfl (by omega) (by omega) | exact nb_ok (by omega) rfl | decide)) only [kX12_atom, hcl, ↓if_pos, ↓if_neg, nb_add, nb_sub, nb_mul, Int.toNat_natCast, mm_kr_s, mm_kv_s, if_pos, if_neg, sq_tn, Int.toNat_zero, Int.reduceToNat, Int.reduceNeg, Nat.reduceAdd, Int.reduceAdd, Int.reduceEq, Int.reduceLT, Int.reduceLE, Int.zero_add, nb_ui_s, nb_ui_k, nb_ui_a, sp_min, sp_max, sp_bits]
          refine sq_ret ⟨?_, ?_, t + 1, c, ?_, ?_, by omega, by omega, by omega, by omega⟩
          · rw [nb_ui_k (by decide), nb_ui_k (by decide)]; exact i1
          · exact (((fr2 I c0).tr i2 (Nat.le_refl _)).at (by omega)).at (by omega)
          · rw [nb_ui_k (by decide), nb_ui_s]
          · rw [nb_ui_a (by decide), nb_ui_a (by decide)]; exact i4
      | inr w =>
        obtain ⟨j2, toks⟩ := w
        obtain ⟨g1, g2, g3⟩ := og
        have g1' : j + 1 < j2 := g1
        have g2' : j2 ≤ S := g2
        have g3' : toks.length + (j + 1) ≤ j2 := g3
        obtain ⟨j3, hk3⟩ := zk_ex (T := T) (S := S) (S - j2) j2 rfl g2
        have hk3' := hk3
        obtain ⟨m1, m2, m3, m4⟩ := hk3'
        by_cases c93 : zp T S j3 = 93
        · have hj3S := zp_S c93 (by decide)
          refine ⟨.inr (j3 + 1, toks), ⟨by show i < j3 + 1; omega, by show j3 + 1 ≤ S; omega, by show toks.length + i ≤ j3 + 1; omega⟩, sx_S_up os (by omega), fun d hd I L c0 hz h2 h3 h4 => ?_, fun d hd I L c0 hz h2 hw h5 hx14 h6 h7 => ?_⟩
          · obtain ⟨e, rfl⟩ : ∃ e, d = e + 3 * q + 7 := ⟨d - (3 * q + 7), by omega⟩
            refine hC 1 _ e I L c0 hz h2 h3 h4 (fun I' hI => ?_)
            obtain ⟨i1, i2, i3, i4, i5⟩ := hI
            have e0 : zr (Sum.inr (j2, toks) : zo) = 1 := rfl
            have hf := (fr1 I).tr i5
            have hn := hz.1
            have hps := zc_pass1 (d := e + 3 * q + 4) (n := n) (L := L) (P := P) (I := I') (c := 93) (hf.zc ha hz) hk3 i1 c93
            simp (disch := (first | assumption | omega | exact nb_ix (by omega) (by assumption) (by omega) (by omega) | exact nb_ix (by omega) rfl (by omega) (by omega) | exact nb_ok (by omega) rfl | decide)) only [kX4_readAtom, e0, hps, ↓if_pos, ↓if_neg, nb_add, nb_sub, nb_mul, Int.toNat_natCast, mm_kr_s, mm_kv_s, if_pos, if_neg, sq_tn, Int.toNat_zero, Int.reduceToNat, Int.reduceNeg, Nat.reduceAdd, Int.reduceAdd, Int.reduceEq, Int.reduceLT, Int.reduceLE, Int.zero_add, nb_ui_s, nb_ui_k, nb_ui_a, sp_min, sp_max, sp_bits]
            refine sq_ret ⟨by rw [nb_ui_s], by rw [nb_ui_a (by omega)]; exact i2, by rw [nb_ui_r (by omega)]; exact i3, fun k hk => ?_, hf.at ha⟩
            rw [nb_ui_a (by omega), i4 k hk, nb_ui_a (by omega)]
          · obtain ⟨e, rfl⟩ : ∃ e, d = e + 3 * q + 7 := ⟨d - (3 * q + 7), by omega⟩
            refine hMd _ e I L c0 hz h2 hw h5 hx14 h6 h7 (fun I' hI => ?_)
            obtain ⟨i1, i2, i3, i4, i5, i6⟩ := hI
            have ok := hz.1.ok
            have hf := (fr2 I c0).tr i6 (Nat.le_refl _)
            have hcl := zm_closes (d := e + 3 * q + 3) (n := n) (L := L) (P := P) (I := I') (c := 93) (dp := dp) (hf.zm hz) hk3 i1 i2 i3 (by omega) c93
            simp (disch := (first | assumption | omega | exact nb_ix (by omega) (by assumption) (by omega) (by omega) | exact nb_ix (by omega) rfl (by omega) (by omega) | exact nb_ok (by omega) rfl | decide)) only [kX12_atom, hcl, ↓if_pos, ↓if_neg, nb_add, nb_sub, nb_mul, Int.toNat_natCast, mm_kr_s, mm_kv_s, if_pos, if_neg, sq_tn, Int.toNat_zero, Int.reduceToNat, Int.reduceNeg, Nat.reduceAdd, Int.reduceAdd, Int.reduceEq, Int.reduceLT, Int.reduceLE, Int.zero_add, nb_ui_s, nb_ui_k, nb_ui_a, sp_min, sp_max, sp_bits]
            refine sq_ret ⟨by rw [nb_ui_k (by decide), nb_ui_s], by rw [nb_ui_k (by decide), nb_ui_k (by decide)]; exact i2, by rw [nb_ui_s], by rw [nb_ui_a (by decide), nb_ui_a (by decide)]; exact i4, ?_, (hf.at (by omega)).at (by omega)⟩
            exact sx_mt_keep (by rw [nb_ui_r (by decide), nb_ui_r (by decide)]) (by rw [nb_ui_r (by decide), nb_ui_r (by decide)]) _ _ i5
        · refine ⟨.inl j3, m2, trivial, fun d hd I L c0 hz h2 h3 h4 => ?_, fun d hd I L c0 hz h2 hw h5 hx14 h6 h7 => ?_⟩
          · obtain ⟨e, rfl⟩ : ∃ e, d = e + 3 * q + 7 := ⟨d - (3 * q + 7), by omega⟩
            refine hC 0 _ e I L c0 hz h2 h3 h4 (fun I' hI => ?_)
            obtain ⟨i1, i2, i3, i4, i5⟩ := hI
            have e0 : zr (Sum.inr (j2, toks) : zo) = 1 := rfl
            have hf := (fr1 I).tr i5
            have hn := hz.1
            have hps := zc_pass0 (d := e + 3 * q + 4) (n := n) (L := L) (P := P) (I := I') (c := 93) (hf.zc ha hz) hk3 i1 c93
            simp (disch := (first | assumption | omega | exact nb_ix (by omega) (by assumption) (by omega) (by omega) | exact nb_ix (by omega) rfl (by omega) (by omega) | exact nb_ok (by omega) rfl | decide)) only [kX4_readAtom, e0, hps, ↓if_pos, ↓if_neg, nb_add, nb_sub, nb_mul, Int.toNat_natCast, mm_kr_s, mm_kv_s, if_pos, if_neg, sq_tn, Int.toNat_zero, Int.reduceToNat, Int.reduceNeg, Nat.reduceAdd, Int.reduceAdd, Int.reduceEq, Int.reduceLT, Int.reduceLE, Int.zero_add, nb_ui_s, nb_ui_k, nb_ui_a, sp_min, sp_max, sp_bits]
            exact sq_ret ⟨by rw [nb_ui_s], hf.at ha⟩
          · obtain ⟨e, rfl⟩ : ∃ e, d = e + 3 * q + 7 := ⟨d - (3 * q + 7), by omega⟩
            refine hMd _ e I L c0 hz h2 hw h5 hx14 h6 h7 (fun I' hI => ?_)
            obtain ⟨i1, i2, i3, i4, i5, i6⟩ := hI
            have ok := hz.1.ok
            have hf := (fr2 I c0).tr i6 (Nat.le_refl _)
            have hcl := zm_closes0 (d := e + 3 * q + 3) (n := n) (L := L) (P := P) (I := I') (c := 93) (dp := dp) (hf.zm hz) hk3 i1 i2 i3 (by omega) c93
            have i4' : I' 243 x = ((c0 + toks.length : Nat) : Int) := i4
            simp (disch := (first | assumption | omega | exact nb_ix (by omega) (by assumption) (by omega) (by omega) | exact nb_ix (by omega) rfl (by omega) (by omega) | exact nb_ok (by omega) rfl | decide)) only [kX12_atom, hcl, ↓if_pos, ↓if_neg, nb_add, nb_sub, nb_mul, Int.toNat_natCast, mm_kr_s, mm_kv_s, if_pos, if_neg, sq_tn, Int.toNat_zero, Int.reduceToNat, Int.reduceNeg, Nat.reduceAdd, Int.reduceAdd, Int.reduceEq, Int.reduceLT, Int.reduceLE, Int.zero_add, nb_ui_s, nb_ui_k, nb_ui_a, sp_min, sp_max, sp_bits]
            refine sq_ret ⟨?_, ?_, j3 + 1, c0 + toks.length, ?_, ?_, by omega, by omega, by omega, by omega⟩
            · rw [nb_ui_k (by decide), nb_ui_k (by decide), nb_ui_s]
            · exact (((hf.at (by omega)).at (by omega)).at (by omega)).at (by omega)
            · rw [nb_ui_k (by decide), nb_ui_s]
            · rw [nb_ui_a (by decide), nb_ui_a (by decide), nb_ui_a (by decide), nb_ui_a (by decide)]; exact i4'
  · by_cases cl : zl c = -1
    · obtain ⟨m, hm, hd, hd2⟩ := zd_ex T S j 4
      by_cases hdg : zdg c
      · have hm1 : m ≠ 0 := by
          intro e
          subst e
          exact hd2 (by decide) (by rw [Nat.add_zero, hc]; exact hdg)
        have hjm := zd_S k2 hd
        have hb := zv_b (D := 4) (by decide) hm hd
        by_cases hf5 : zdg (zp T S (j + m))
        · refine ⟨.inl (j + m), hjm, trivial, fun d hd' I L c0 hz h2 h3 h4 => ?_, fun d hd' I L c0 hz h2 hw h5 hx14 h6 h7 => ?_⟩
          · obtain ⟨e, rfl⟩ : ∃ e, d = e + 4 := ⟨d - 4, by omega⟩
            have hn := hz.1
            have hp := zc_peek (d := e + 2) (L := L) hz hk h2
            have hnu := zc_number (d := e + 1) (n := n) (L := L) (P := P) (I := mm_ui I 1 2 (j : Int)) (D := 4) (m := m) (hz.up (by decide) (by decide)) (zk_self hk) (by rw [nb_ui_s]) (by decide) (by decide) hm hd hd2
            rw [if_pos (Or.inr hf5)] at hnu
            have hlt := zc_let (d := e + 2) (n := n) (L := L) (P := P) (I := mm_ui I 1 2 (j : Int)) c
            rw [cl] at hlt
            have e4 : ((4 : Nat) : Int) = 4 := rfl
            rw [e4] at hnu
            show sq_X _ _ _ _ _ (mm_rn (e + 4) 37 _ n I L P)
            rw [eX4_readAtom]
            simp (disch := (first | assumption | omega | exact nb_ix (by omega) (by assumption) (by omega) (by omega) | exact nb_ix (by omega) rfl (by omega) (by omega) | exact nb_ok (by omega) rfl | decide)) only [kX4_readAtom, hp, hc, hlt, hnu, nb_ui_2, ↓if_pos, ↓if_neg, nb_add, nb_sub, nb_mul, Int.toNat_natCast, mm_kr_s, mm_kv_s, if_pos, if_neg, sq_tn, Int.toNat_zero, Int.reduceToNat, Int.reduceNeg, Nat.reduceAdd, Int.reduceAdd, Int.reduceEq, Int.reduceLT, Int.reduceLE, Int.zero_add, nb_ui_s, nb_ui_k, nb_ui_a, sp_min, sp_max, sp_bits]
            exact sq_ret ⟨by rw [nb_ui_s], (zcF.refl a I).at ha⟩
          · obtain ⟨e, rfl⟩ : ∃ e, d = e + 4 := ⟨d - 4, by omega⟩
            have ok := hz.1.ok
            have hp := zm_look (d := e + 1) (L := L) hz hk h2
            have hd1 := zm_dig (d := e + 2) (n := n) (L := L) (P := P) (I := mm_ui I 239 3 (j : Int)) c
            rw [if_pos hdg] at hd1
            have hpl := zm_plain (d := e + 1) (n := n) (L := L) (P := P) (I := mm_ui I 239 3 (j : Int)) (m := m) (hz.up (by decide) (by decide)) (by rw [nb_ui_s]) k2 (by rw [nb_ui_k (by decide)]; exact hw) hm hd hd2
            rw [if_pos hf5] at hpl
            have hpt := zm_put (d := e + 2) (n := n) (L := L) (P := P) (I := mm_ui (mm_ui (mm_ui I 239 3 (j : Int)) 239 3 ((j + m : Nat) : Int)) 239 4 ((j + m : Nat) : Int)) (x := x) (c0 := c0) (s := 0) (v := zv T j m) hz.1 (by rw [nb_ui_k (by decide), nb_ui_k (by decide), nb_ui_k (by decide)]; exact hx14) hx (by rw [nb_ui_a (by decide), nb_ui_a (by decide), nb_ui_a (by decide)]; exact h6) (by omega)
            show sq_X _ _ _ _ _ (mm_rn (e + 4) 161 _ n I L P)
            rw [eX12_atom]
            simp (disch := (first | assumption | omega | exact nb_ix (by omega) (by assumption) (by omega) (by omega) | exact nb_ix (by omega) rfl (by omega) (by omega) | exact nb_ok (by omega) rfl | decide)) only [kX12_atom, hp, hc, hd1, hpl, hpt, ↓if_pos, ↓if_neg, nb_add, nb_sub, nb_mul, Int.toNat_natCast, mm_kr_s, mm_kv_s, if_pos, if_neg, sq_tn, Int.toNat_zero, Int.reduceToNat, Int.reduceNeg, Nat.reduceAdd, Int.reduceAdd, Int.reduceEq, Int.reduceLT, Int.reduceLE, Int.zero_add, nb_ui_s, nb_ui_k, nb_ui_a, sp_min, sp_max, sp_bits]
            refine sq_ret ⟨?_, ?_, j + m, c0 + 1, ?_, ?_, by omega, by omega, by omega, by omega⟩
            · rw [nb_ui_a (by decide), nb_ui_a (by decide), nb_ui_a (by decide), nb_ui_s]
            · exact zmF.pt ((((zmF.refl x c0 I).at (by omega)).at (by omega)).at (by omega)) (Nat.le_refl _) (by omega)
            · rw [nb_ui_a (by decide), nb_ui_a (by decide), nb_ui_a (by decide), nb_ui_k (by decide), nb_ui_s]
            · rw [nb_ui_s]
        · refine ⟨.inr (j + m, [(0, zv T j m)]), ⟨by show i < j + m; omega, hjm, by show 1 + i ≤ j + m; omega⟩, sx_S_num (by omega) hb, fun d hd' I L c0 hz h2 h3 h4 => ?_, fun d hd' I L c0 hz h2 hw h5 hx14 h6 h7 => ?_⟩
          · obtain ⟨e, rfl⟩ : ∃ e, d = e + 4 := ⟨d - 4, by omega⟩
            have hn := hz.1
            have hp := zc_peek (d := e + 2) (L := L) hz hk h2
            have hnu := zc_number (d := e + 1) (n := n) (L := L) (P := P) (I := mm_ui I 1 2 (j : Int)) (D := 4) (m := m) (hz.up (by decide) (by decide)) (zk_self hk) (by rw [nb_ui_s]) (by decide) (by decide) hm hd hd2
            rw [if_neg (by rintro (w | w); exact hm1 w; exact hf5 w), nb_ui_2] at hnu
            have hlt := zc_let (d := e + 2) (n := n) (L := L) (P := P) (I := mm_ui I 1 2 (j : Int)) c
            rw [cl] at hlt
            have e4 : ((4 : Nat) : Int) = 4 := rfl
            rw [e4] at hnu
            have cv : ¬ zv T j m = -1 := by omega
            have hpt := zc_put (d := e + 2) (n := n) (L := L) (P := P) (I := mm_ui I 1 2 ((j + m : Nat) : Int)) (c0 := c0) (s := 0) (v := zv T j m) hL (by rw [nb_ui_a (by omega)]; exact h3) (by omega) (by omega) hb
            show sq_X _ _ _ _ _ (mm_rn (e + 4) 37 _ n I L P)
            rw [eX4_readAtom]
            simp (disch := (first | assumption | omega | exact nb_ix (by omega) (by assumption) (by omega) (by omega) | exact nb_ix (by omega) rfl (by omega) (by omega) | exact nb_ok (by omega) rfl | decide)) only [kX4_readAtom, hp, hc, hlt, hnu, hpt, ↓if_pos, ↓if_neg, nb_add, nb_sub, nb_mul, Int.toNat_natCast, mm_kr_s, mm_kv_s, if_pos, if_neg, sq_tn, Int.toNat_zero, Int.reduceToNat, Int.reduceNeg, Nat.reduceAdd, Int.reduceAdd, Int.reduceEq, Int.reduceLT, Int.reduceLE, Int.zero_add, nb_ui_s, nb_ui_k, nb_ui_a, sp_min, sp_max, sp_bits]
            refine sq_ret ⟨?_, ?_, ⟨?_, trivial⟩, fun k hk => ?_, (((zcF.refl a I).at ha).sg ha).ln ha⟩
            · rw [nb_ui_a (by omega), nb_ui_a (by omega), nb_ui_s]
            · rw [nb_ui_s]; rfl
            · rw [nb_ui_a (by omega), nb_ui_s]; unfold sx_enc; simp
            · rw [nb_ui_a (by omega), nb_ui_k (by omega), nb_ui_a (by omega)]
          · obtain ⟨e, rfl⟩ : ∃ e, d = e + 4 := ⟨d - 4, by omega⟩
            have ok := hz.1.ok
            have hp := zm_look (d := e + 1) (L := L) hz hk h2
            have hd1 := zm_dig (d := e + 2) (n := n) (L := L) (P := P) (I := mm_ui I 239 3 (j : Int)) c
            rw [if_pos hdg] at hd1
            have hpl := zm_plain (d := e + 1) (n := n) (L := L) (P := P) (I := mm_ui I 239 3 (j : Int)) (m := m) (hz.up (by decide) (by decide)) (by rw [nb_ui_s]) k2 (by rw [nb_ui_k (by decide)]; exact hw) hm hd hd2
            rw [if_neg hf5] at hpl
            have hpt := zm_put (d := e + 2) (n := n) (L := L) (P := P) (I := mm_ui (mm_ui (mm_ui I 239 3 (j : Int)) 239 3 ((j + m : Nat) : Int)) 239 4 (-1)) (x := x) (c0 := c0) (s := 0) (v := zv T j m) hz.1 (by rw [nb_ui_k (by decide), nb_ui_k (by decide), nb_ui_k (by decide)]; exact hx14) hx (by rw [nb_ui_a (by decide), nb_ui_a (by decide), nb_ui_a (by decide)]; exact h6) (by omega)
            show sq_X _ _ _ _ _ (mm_rn (e + 4) 161 _ n I L P)
            rw [eX12_atom]
            simp (disch := (first | assumption | omega | exact nb_ix (by omega) (by assumption) (by omega) (by omega) | exact nb_ix (by omega) rfl (by omega) (by omega) | exact nb_ok (by omega) rfl | decide)) only [kX12_atom, hp, hc, hd1, hpl, hpt, ↓if_pos, ↓if_neg, nb_add, nb_sub, nb_mul, Int.toNat_natCast, mm_kr_s, mm_kv_s, if_pos, if_neg, sq_tn, Int.toNat_zero, Int.reduceToNat, Int.reduceNeg, Nat.reduceAdd, Int.reduceAdd, Int.reduceEq, Int.reduceLT, Int.reduceLE, Int.zero_add, nb_ui_s, nb_ui_k, nb_ui_a, sp_min, sp_max, sp_bits]
            refine sq_ret ⟨?_, ?_, ?_, ?_, ⟨?_, ?_, trivial⟩, ?_⟩
            · rw [nb_ui_a (by decide), nb_ui_a (by decide), nb_ui_a (by decide), nb_ui_k (by decide), nb_ui_s]
            · rw [nb_ui_a (by decide), nb_ui_a (by decide), nb_ui_a (by decide), nb_ui_s]
            · rw [nb_ui_a (by decide), nb_ui_a (by decide), nb_ui_a (by decide), nb_ui_k (by decide), nb_ui_k (by decide), nb_ui_k (by decide)]; exact h5
            · rw [nb_ui_s]; rfl
            · rw [nb_ui_a (by decide), nb_ui_a (by decide), nb_ui_s]; rfl
            · rw [nb_ui_a (by decide), nb_ui_s]
            · exact zmF.pt ((((zmF.refl x c0 I).at (by omega)).at (by omega)).at (by omega)) (Nat.le_refl _) (by omega)
      · -- nothing that begins an atom
        have hm0 : m = 0 := by
          by_cases e : m = 0
          · exact e
          · have := hd 0 (by omega)
            rw [Nat.add_zero, hc] at this
            exact absurd this hdg
        subst hm0
        refine ⟨.inl j, k2, trivial, fun d hd' I L c0 hz h2 h3 h4 => ?_, fun d hd' I L c0 hz h2 hw h5 hx14 h6 h7 => ?_⟩
        · obtain ⟨e, rfl⟩ : ∃ e, d = e + 4 := ⟨d - 4, by omega⟩
          have hn := hz.1
          have hp := zc_peek (d := e + 2) (L := L) hz hk h2
          have hnu := zc_number (d := e + 1) (n := n) (L := L) (P := P) (I := mm_ui I 1 2 (j : Int)) (D := 4) (m := 0) (hz.up (by decide) (by decide)) (zk_self hk) (by rw [nb_ui_s]) (by decide) (by decide) hm hd hd2
          rw [if_pos (Or.inl rfl), nb_ui_2] at hnu
          have hlt := zc_let (d := e + 2) (n := n) (L := L) (P := P) (I := mm_ui I 1 2 (j : Int)) c
          rw [cl] at hlt
          have e4 : ((4 : Nat) : Int) = 4 := rfl
          rw [e4] at hnu
          show sq_X _ _ _ _ _ (mm_rn (e + 4) 37 _ n I L P)
          rw [eX4_readAtom]
          simp (disch := (first | assumption | omega | exact nb_ix (by omega) (by assumption) (by omega) (by omega) | exact nb_ix (by omega) rfl (by omega) (by omega) | exact nb_ok (by omega) rfl | decide)) only [kX4_readAtom, hp, hc, hlt, hnu, ↓if_pos, ↓if_neg, nb_add, nb_sub, nb_mul, Int.toNat_natCast, mm_kr_s, mm_kv_s, if_pos, if_neg, sq_tn, Int.toNat_zero, Int.reduceToNat, Int.reduceNeg, Nat.reduceAdd, Int.reduceAdd, Int.reduceEq, Int.reduceLT, Int.reduceLE, Int.zero_add, nb_ui_s, nb_ui_k, nb_ui_a, sp_min, sp_max, sp_bits]
          exact sq_ret ⟨by rw [nb_ui_s]; rfl, (zcF.refl a I).at ha⟩
        · obtain ⟨e, rfl⟩ : ∃ e, d = e + 4 := ⟨d - 4, by omega⟩
          have ok := hz.1.ok
          have hp := zm_look (d := e + 1) (L := L) hz hk h2
          have hd1 := zm_dig (d := e + 2) (n := n) (L := L) (P := P) (I := mm_ui I 239 3 (j : Int)) c
          rw [if_neg hdg] at hd1
          have hl1 := zm_let (d := e + 2) (n := n) (L := L) (P := P) (I := mm_ui I 239 3 (j : Int)) c
          rw [cl] at hl1
          have hb := zm_bad (d := e + 2) (n := n) (L := L) (P := P) (I := mm_ui I 239 3 (j : Int)) (p := j) hz.1 (by rw [nb_ui_k (by decide)]; exact hw) (by rw [nb_ui_s])
          show sq_X _ _ _ _ _ (mm_rn (e + 4) 161 _ n I L P)
          rw [eX12_atom]
          simp (disch := (first | assumption | omega | exact nb_ix (by omega) (by assumption) (by omega) (by omega) | exact nb_ix (by omega) rfl (by omega) (by omega) | exact nb_ok (by omega) rfl | decide)) only [kX12_atom, hp, hc, hd1, hl1, hb, ↓if_pos, ↓if_neg, nb_add, nb_sub, nb_mul, Int.toNat_natCast, mm_kr_s, mm_kv_s, if_pos, if_neg, sq_tn, Int.toNat_zero, Int.reduceToNat, Int.reduceNeg, Nat.reduceAdd, Int.reduceAdd, Int.reduceEq, Int.reduceLT, Int.reduceLE, Int.zero_add, nb_ui_s, nb_ui_k, nb_ui_a, sp_min, sp_max, sp_bits]
          refine sq_ret ⟨?_, ?_, j, c0, ?_, ?_, by omega, by omega, by omega, by omega⟩
          · rw [nb_ui_s]
          · exact ((zmF.refl x c0 I).at (by omega)).at (by omega)
          · rw [nb_ui_k (by decide), nb_ui_s]
          · rw [nb_ui_a (by decide), nb_ui_a (by decide)]; exact h6
    · -- a letter
      have hzr := zl_rg cl
      have hjS : j < S := zp_S hc (by intro e; rw [e] at cl; exact cl (by decide))
      have hndg : ¬ (48 ≤ c ∧ c ≤ 57) := by
        intro h
        apply cl
        unfold zl
        rw [if_neg (by omega), if_neg (by omega), if_neg (by omega), if_neg (by omega), if_neg (by omega), if_neg (by omega)]
      refine ⟨.inr (j + 1, [(1, zl c)]), ⟨by show i < j + 1; omega, by show j + 1 ≤ S; omega, by show 1 + i ≤ j + 1; omega⟩, sx_S_let (by omega) hzr, fun d hd' I L c0 hz h2 h3 h4 => ?_, fun d hd' I L c0 hz h2 hw h5 hx14 h6 h7 => ?_⟩
      · obtain ⟨e, rfl⟩ : ∃ e, d = e + 4 := ⟨d - 4, by omega⟩
        have hn := hz.1
        have hp := zc_peek (d := e + 2) (L := L) hz hk h2
        have hlt := zc_let (d := e + 2) (n := n) (L := L) (P := P) (I := mm_ui I 1 2 (j : Int)) c
        have hpt := zc_put (d := e + 2) (n := n) (L := L) (P := P) (I := mm_ui I 1 2 ((j + 1 : Nat) : Int)) (c0 := c0) (s := 1) (v := zl c) hL (by rw [nb_ui_a (by omega)]; exact h3) (by omega) (by omega) (by omega)
        have e1 : (j : Int) + 1 = ((j + 1 : Nat) : Int) := by omega
        show sq_X _ _ _ _ _ (mm_rn (e + 4) 37 _ n I L P)
        rw [eX4_readAtom]
        simp (disch := (first | assumption | omega | exact nb_ix (by omega) (by assumption) (by omega) (by omega) | exact nb_ix (by omega) rfl (by omega) (by omega) | exact nb_ok (by omega) rfl | decide)) only [kX4_readAtom, hp, hc, hlt, e1, nb_ui_2, hpt, ↓if_pos, ↓if_neg, nb_add, nb_sub, nb_mul, Int.toNat_natCast, mm_kr_s, mm_kv_s, if_pos, if_neg, sq_tn, Int.toNat_zero, Int.reduceToNat, Int.reduceNeg, Nat.reduceAdd, Int.reduceAdd, Int.reduceEq, Int.reduceLT, Int.reduceLE, Int.zero_add, nb_ui_s, nb_ui_k, nb_ui_a, sp_min, sp_max, sp_bits]
        refine sq_ret ⟨?_, ?_, ⟨?_, trivial⟩, fun k hk => ?_, (((zcF.refl a I).at ha).sg ha).ln ha⟩
        · rw [nb_ui_a (by omega), nb_ui_a (by omega), nb_ui_s]
        · rw [nb_ui_s]; rfl
        · rw [nb_ui_a (by omega), nb_ui_s]; rfl
        · rw [nb_ui_a (by omega), nb_ui_k (by omega), nb_ui_a (by omega)]
      · obtain ⟨e, rfl⟩ : ∃ e, d = e + 4 := ⟨d - 4, by omega⟩
        have ok := hz.1.ok
        have hS2 := hz.2.2.1
        have hp := zm_look (d := e + 1) (L := L) hz hk h2
        have hd1 := zm_dig (d := e + 2) (n := n) (L := L) (P := P) (I := mm_ui I 239 3 (j : Int)) c
        rw [if_neg hndg] at hd1
        have hl1 := fun I => zm_let (d := e + 2) (n := n) (L := L) (P := P) (I := I) c
        have e1 : (j : Int) + 1 = ((j + 1 : Nat) : Int) := by omega
        have hpt := zm_put (d := e + 2) (n := n) (L := L) (P := P) (I := mm_ui I 239 3 ((j + 1 : Nat) : Int)) (x := x) (c0 := c0) (s := 1) (v := zl c) hz.1 (by rw [nb_ui_k (by decide)]; exact hx14) hx (by rw [nb_ui_a (by decide)]; exact h6) (by omega)
        show sq_X _ _ _ _ _ (mm_rn (e + 4) 161 _ n I L P)
        rw [eX12_atom]
        simp (disch := (first | assumption | omega | exact nb_ix (by omega) (by assumption) (by omega) (by omega) | exact nb_ix (by omega) rfl (by omega) (by omega) | exact nb_ok (by omega) rfl | decide)) only [kX12_atom, hp, hc, hd1, hl1, e1, nb_ui_2, hpt, ↓if_pos, ↓if_neg, nb_add, nb_sub, nb_mul, Int.toNat_natCast, mm_kr_s, mm_kv_s, if_pos, if_neg, sq_tn, Int.toNat_zero, Int.reduceToNat, Int.reduceNeg, Nat.reduceAdd, Int.reduceAdd, Int.reduceEq, Int.reduceLT, Int.reduceLE, Int.zero_add, nb_ui_s, nb_ui_k, nb_ui_a, sp_min, sp_max, sp_bits]
        refine sq_ret ⟨?_, ?_, ?_, ?_, ⟨?_, ?_, trivial⟩, ?_⟩
        · rw [nb_ui_a (by decide), nb_ui_a (by decide), nb_ui_a (by decide), nb_ui_s]
        · rw [nb_ui_a (by decide), nb_ui_a (by decide), nb_ui_a (by decide), nb_ui_k (by decide)]; exact hw
        · rw [nb_ui_a (by decide), nb_ui_a (by decide), nb_ui_a (by decide), nb_ui_k (by decide)]; exact h5
        · rw [nb_ui_s]; rfl
        · rw [nb_ui_a (by decide), nb_ui_a (by decide), nb_ui_s]; rfl
        · rw [nb_ui_a (by decide), nb_ui_s]
        · exact zmF.pt ((zmF.refl x c0 I).at (by omega)) (Nat.le_refl _) (by omega)
end AT
