/-! units, both halves at once -/
def zun (n : Nat) (P : mm_P) (a x : Nat) (T : Nat → Int) (S dp k i m yc ym : Nat) : Prop := ∃ o : zo, zg S i o ∧ zw (sx_C k) o ∧ (∀ d, m ≤ d → zcX n P a T S (fun I L => mm_rn d yc [.inr (.inr (some 1)), .inr (.inr (some a)), .inl ((dp : Int)), .inl 0] n I L P) i o) ∧ (∀ d, m ≤ d → zmX n P x T S dp (fun I L => mm_rn d ym [.inr (.inr (some 239))] n I L P) i o)
theorem sx_C_up {k k' : Nat} {toks : List (Nat × Int)} (h : sx_C k toks) (hk : k ≤ k') : sx_C k' toks := fun l hl => by
  obtain ⟨x, h01, hx⟩ := h l hl
  exact ⟨x, h01, fun st hst => hx st (by omega)⟩
theorem sx_C_not {k : Nat} {t1 : List (Nat × Int)} (h1 : sx_C k t1) : sx_C k (t1 ++ [(9, 0)]) := by
  intro l hl
  obtain ⟨x, h01, e1⟩ := h1 l hl
  refine ⟨1 - x, by omega, fun st hst => ?_⟩
  rw [sx_ev_app t1 st (x :: st) (e1 st hst)]
  refine sx_ev_1 ?_
  show (if x = 0 ∨ x = 1 then some ((1 - x) :: st) else none) = _
  rw [if_pos h01]
theorem sx_C_cmp {k : Nat} {t1 t2 : List (Nat × Int)} (h1 : sx_S k t1) (h2 : sx_Cc (k + 1) t2) : sx_C (k + 1) (t1 ++ t2) := by
  intro l hl
  obtain ⟨x, e1⟩ := h1 l hl
  obtain ⟨y, h01, e2⟩ := h2 l hl x
  refine ⟨y, h01, fun st hst => ?_⟩
  rw [sx_ev_app t1 st (x :: st) (e1 st (by omega))]
  exact e2 st hst
section UN
variable {n a x S dp r i : Nat} {P : mm_P} {T : Nat → Int}
set_option maxHeartbeats 8000000 in
theorem zJ_unit (hL : sp_L n P a) (ha : 20 ≤ a) (hx : x < 5) (hS : S ≤ 240) (hr : dp + r = 6) (hi : i ≤ S) (hun : ∀ q, r = q + 1 → ∀ i', i < i' → i' ≤ S → zun n P a x T S (dp + 1) (2 * q + 4) i' (5 * q + 9) 32 166) (hcd : ∀ q, r = q + 1 → ∀ i', i < i' → i' ≤ S → zun n P a x T S (dp + 1) (2 * q + 6) i' (5 * q + 12) 30 169) : zun n P a x T S dp (2 * r + 4) i (5 * r + 9) 32 166 := by
  have okL := hL.ok
  obtain ⟨j, hk⟩ := zk_ex (T := T) (S := S) (S - i) i rfl hi
  have hk' := hk
  obtain ⟨k1, k2, k3, k4⟩ := hk'
  generalize hc : zp T S j = c
  by_cases hcs : c = 33 ∨ c = 40
  · have hjS : j < S := zp_S hc (by omega)
    by_cases hr0 : r = 0
    · have hdp : dp = 6 := by omega
      subst hdp
      refine ⟨.inl j, k2, trivial, fun d hd I L c0 hz h2 h3 h4 => ?_, fun d hd I L c0 hz h2 hw h5 hx14 h6 h7 => ?_⟩
      · obtain ⟨e, rfl⟩ : ∃ e, d = e + 3 := ⟨d - 3, by omega⟩
        have hn := hz.1
        have hp := zc_peek (d := e + 1) (L := L) hz hk h2
        show sq_X _ _ _ _ _ (mm_rn (e + 3) 32 _ n I L P)
        rw [eX4_readUnit]
        have e6 : ((6 : Nat) : Int) = 6 := rfl
        rcases hcs with hcs | hcs
        · simp (disch := (first | assumption | omega | exact nb_ix (by omega) (by assumption) (by omega) (by omega) | exact nb_ix (by omega) rfl (by omega) (by omega) | exact nb_ok (by omega) rfl | decide)) only [kX4_readUnit, hp, hc, e6, ↓if_pos, ↓if_neg, nb_add, nb_sub, nb_mul, Int.toNat_natCast, mm_kr_s, mm_kv_s, if_pos, if_neg, sq_tn, Int.toNat_zero, Int.reduceToNat, Int.reduceNeg, Nat.reduceAdd, Int.reduceAdd, Int.reduceEq, Int.reduceLT, Int.reduceLE, Int.zero_add, nb_ui_s, nb_ui_k, nb_ui_a, sp_min, sp_max, sp_bits]
          exact sq_ret ⟨by rw [nb_ui_s], (zcF.refl a I).at ha⟩
        · have n33 : ¬ c = 33 := by omega
          simp (disch := (first | assumption | omega | exact nb_ix (by omega) (by assumption) (by omega) (by omega) | exact nb_ix (by omega) rfl (by omega) (by omega) | exact nb_ok (by omega) rfl | decide)) only [kX4_readUnit, hp, hc, e6, ↓if_pos, ↓if_neg, nb_add, nb_sub, nb_mul, Int.toNat_natCast, mm_kr_s, mm_kv_s, if_pos, if_neg, sq_tn, Int.toNat_zero, Int.reduceToNat, Int.reduceNeg, Nat.reduceAdd, Int.reduceAdd, Int.reduceEq, Int.reduceLT, Int.reduceLE, Int.zero_add, nb_ui_s, nb_ui_k, nb_ui_a, sp_min, sp_max, sp_bits]
          exact sq_ret ⟨by rw [nb_ui_s], (zcF.refl a I).at ha⟩
      · obtain ⟨e, rfl⟩ : ∃ e, d = e + 4 := ⟨d - 4, by omega⟩
        have ok := hz.1.ok
        have hp := zm_look (d := e + 1) (L := L) hz hk h2
        have ho := zm_opens6 (d := e + 1) (n := n) (L := L) (P := P) (I := mm_ui I 239 3 (j : Int)) (j := j) hz.1 (by rw [nb_ui_s]) (by omega) (by rw [nb_ui_k (by decide)]; exact hw) (by rw [nb_ui_k (by decide)]; exact h5)
        have fin : sq_X none n L P (fun I' => zmP x 6 i c0 S I I' (.inl j)) (some (none, n, mm_ui (mm_ui (mm_ui (mm_ui I 239 3 (j : Int)) 239 4 (j : Int)) 239 5 7) 239 3 ((j + 1 : Nat) : Int), L, P)) := by
          refine sq_ret ⟨?_, ?_, j + 1, c0, ?_, ?_, by omega, by omega, by omega, by omega⟩
          · rw [nb_ui_k (by decide), nb_ui_k (by decide), nb_ui_s]
          · exact ((((zmF.refl x c0 I).at (by omega)).at (by omega)).at (by omega)).at (by omega)
          · rw [nb_ui_s]
          · rw [nb_ui_a (by decide), nb_ui_a (by decide), nb_ui_a (by decide), nb_ui_a (by decide)]; exact h6
        show sq_X _ _ _ _ _ (mm_rn (e + 4) 166 _ n I L P)
        rw [eX12_unit]
        have cj : ¬ (j : Int) = -1 := by omega
        rcases hcs with hcs | hcs
        · simp (disch := (first | assumption | omega | exact nb_ix (by omega) (by assumption) (by omega) (by omega) | exact nb_ix (by omega) rfl (by omega) (by omega) | exact nb_ok (by omega) rfl | decide)) only [kX12_unit, hp, hc, ho, ↓if_pos, ↓if_neg, nb_add, nb_sub, nb_mul, Int.toNat_natCast, mm_kr_s, mm_kv_s, if_pos, if_neg, sq_tn, Int.toNat_zero, Int.reduceToNat, Int.reduceNeg, Nat.reduceAdd, Int.reduceAdd, Int.reduceEq, Int.reduceLT, Int.reduceLE, Int.zero_add, nb_ui_s, nb_ui_k, nb_ui_a, sp_min, sp_max, sp_bits]
          exact fin
        · have n33 : ¬ c = 33 := by omega
          simp (disch := (first | assumption | omega | exact nb_ix (by omega) (by assumption) (by omega) (by omega) | exact nb_ix (by omega) rfl (by omega) (by omega) | exact nb_ok (by omega) rfl | decide)) only [kX12_unit, hp, hc, ho, ↓if_pos, ↓if_neg, nb_add, nb_sub, nb_mul, Int.toNat_natCast, mm_kr_s, mm_kv_s, if_pos, if_neg, sq_tn, Int.toNat_zero, Int.reduceToNat, Int.reduceNeg, Nat.reduceAdd, Int.reduceAdd, Int.reduceEq, Int.reduceLT, Int.reduceLE, Int.zero_add, nb_ui_s, nb_ui_k, nb_ui_a, sp_min, sp_max, sp_bits]
          exact fin
    · obtain ⟨q, rfl⟩ : ∃ q, r = q + 1 := ⟨r - 1, by omega⟩
      -- the class: up to readInner
      have hC : ∀ (e : Nat) (o : zo) (I L : mm_I) (c0 : Nat), zc n P I T S → I 1 2 = (i : Int) → sq_X (some (.inl (zr o))) n L P (fun I' => zcP a c0 I I' o) (mm_rn (e + 1) 33 [.inr (.inr (some 1)), .inr (.inr (some a)), .inl (((dp + 1 : Nat) : Int))] n (mm_ui I 1 2 (j : Int)) L P) → sq_X (some (.inl (zr o))) n L P (fun I' => zcP a c0 I I' o) (mm_rn (e + 2) 32 [.inr (.inr (some 1)), .inr (.inr (some a)), .inl ((dp : Int)), .inl 0] n I L P) := by
        intro e o I L c0 hz h2 hin
        have hn := hz.1
        have hp := zc_peek (d := e) (L := L) hz hk h2
        have e2 : (dp : Int) + 1 = ((dp + 1 : Nat) : Int) := by omega
        have c6 : ¬ (6 : Int) ≤ (dp : Int) := by omega
        have fin : sq_X (some (.inl (zr o))) n L P (fun I' => zcP a c0 I I' o) (mm_kr (e + 1) 32 42 [.inr (.inr (some 1)), .inr (.inr (some a)), .inl ((dp : Int)), .inl 0, .inl c, mm_junk] [] [] n (mm_rn (e + 1) 33 [.inr (.inr (some 1)), .inr (.inr (some a)), .inl (((dp + 1 : Nat) : Int))] n (mm_ui I 1 2 (j : Int)) L P)) := by
          refine sq_kr hin (fun I' hI => ?_)
          cases o with
          | inl p =>
            have e0 : zr (Sum.inl p : zo) = 0 := rfl
            simp (disch := (first | assumption | omega | exact nb_ix (by omega) (by assumption) (by omega) (by omega) | exact nb_ix (by omega) rfl (by omega) (by omega) | exact nb_ok (by omega) rfl | decide)) only [kX4_readUnit, e0, ↓if_pos, ↓if_neg, nb_add, nb_sub, nb_mul, Int.toNat_natCast, mm_kr_s, mm_kv_s, if_pos, if_neg, sq_tn, Int.toNat_zero, Int.reduceToNat, Int.reduceNeg, Nat.reduceAdd, Int.reduceAdd, Int.reduceEq, Int.reduceLT, Int.reduceLE, Int.zero_add, nb_ui_s, nb_ui_k, nb_ui_a, sp_min, sp_max, sp_bits]
            exact sq_ret hI
          | inr w =>
            have e0 : zr (Sum.inr w : zo) = 1 := rfl
            simp (disch := (first | assumption | omega | exact nb_ix (by omega) (by assumption) (by omega) (by omega) | exact nb_ix (by omega) rfl (by omega) (by omega) | exact nb_ok (by omega) rfl | decide)) only [kX4_readUnit, e0, ↓if_pos, ↓if_neg, nb_add, nb_sub, nb_mul, Int.toNat_natCast, mm_kr_s, mm_kv_s, if_pos, if_neg, sq_tn, Int.toNat_zero, Int.reduceToNat, Int.reduceNeg, Nat.reduceAdd, Int.reduceAdd, Int.reduceEq, Int.reduceLT, Int.reduceLE, Int.zero_add, nb_ui_s, nb_ui_k, nb_ui_a, sp_min, sp_max, sp_bits]
            exact sq_ret hI
        rw [eX4_readUnit]
        rcases hcs with hcs | hcs
        · simp (disch := (first | assumption | omega | exact nb_ix (by omega) (by assumption) (by omega) (by omega) | exact nb_ix (by omega) rfl (by omega) (by omega) | exact nb_ok (by omega) rfl | decide)) only [kX4_readUnit, hp, hc, e2, ↓if_pos, ↓if_neg, nb_add, nb_sub, nb_mul, Int.toNat_natCast, mm_kr_s, mm_kv_s, if_pos, if_neg, sq_tn, Int.toNat_zero, Int.reduceToNat, Int.reduceNeg, Nat.reduceAdd, Int.reduceAdd, Int.reduceEq, Int.reduceLT, Int.reduceLE, Int.zero_add, nb_ui_s, nb_ui_k, nb_ui_a, sp_min, sp_max, sp_bits]
          exact fin
        · have n33 : ¬ c = 33 := by omega
          simp (disch := (first | assumption | omega | exact nb_ix (by omega) (by assumption) (by omega) (by omega) | exact nb_ix (by omega) rfl (by omega) (by omega) | exact nb_ok (by omega) rfl | decide)) only [kX4_readUnit, hp, hc, e2, ↓if_pos, ↓if_neg, nb_add, nb_sub, nb_mul, Int.toNat_natCast, mm_kr_s, mm_kv_s, if_pos, if_neg, sq_tn, Int.toNat_zero, Int.reduceToNat, Int.reduceNeg, Nat.reduceAdd, Int.reduceAdd, Int.reduceEq, Int.reduceLT, Int.reduceLE, Int.zero_add, nb_ui_s, nb_ui_k, nb_ui_a, sp_min, sp_max, sp_bits]
          exact fin
      have fr1 : ∀ (I : mm_I), zcF a I (mm_ui I 1 2 ((j + 1 : Nat) : Int)) := fun I => (zcF.refl a I).at ha
      have fr2 : ∀ (I : mm_I) (c0 : Nat), zmF x c0 I (mm_ui (mm_ui (mm_ui I 239 3 (j : Int)) 239 5 ((dp + 1 : Nat) : Int)) 239 3 ((j + 1 : Nat) : Int)) := fun I c0 => (((zmF.refl x c0 I).at (by omega)).at (by omega)).at (by omega)
      by_cases h33 : c = 33
      · obtain ⟨o1, og, os, oc, om⟩ := hun q rfl (j + 1) (by omega) (by omega)
        have hCi : ∀ (e : Nat) (I L : mm_I), zc n P I T S → mm_rn (e + 3) 33 [.inr (.inr (some 1)), .inr (.inr (some a)), .inl (((dp + 1 : Nat) : Int))] n (mm_ui I 1 2 (j : Int)) L P = mm_kr (e + 2) 33 16 [.inr (.inr (some 1)), .inr (.inr (some a)), .inl (((dp + 1 : Nat) : Int))] [] [] n (mm_rn (e + 2) 32 [.inr (.inr (some 1)), .inr (.inr (some a)), .inl (((dp + 1 : Nat) : Int)), .inl 0] n (mm_ui I 1 2 ((j + 1 : Nat) : Int)) L P) := by
          intro e I L hz
          have hn := hz.1
          have hp := zc_pass1 (d := e) (n := n) (L := L) (P := P) (I := mm_ui I 1 2 (j : Int)) (c := 33) (hz.up (by decide) (by decide)) (zk_self hk) (by rw [nb_ui_s]) (by rw [hc]; exact h33)
          rw [eX4_readInner]
          simp (disch := (first | assumption | omega | exact nb_ix (by omega) (by assumption) (by omega) (by omega) | exact nb_ix (by omega) rfl (by omega) (by omega) | exact nb_ok (by omega) rfl | decide)) only [kX4_readInner, hp, nb_ui_2, ↓if_pos, ↓if_neg, nb_add, nb_sub, nb_mul, Int.toNat_natCast, mm_kr_s, mm_kv_s, if_pos, if_neg, sq_tn, Int.toNat_zero, Int.reduceToNat, Int.reduceNeg, Nat.reduceAdd, Int.reduceAdd, Int.reduceEq, Int.reduceLT, Int.reduceLE, Int.zero_add, nb_ui_s, nb_ui_k, nb_ui_a, sp_min, sp_max, sp_bits]
          done
        have hMd : ∀ (G : mm_I → Prop) (e : Nat) (I L : mm_I) (c0 : Nat), zm n P I T S → I 239 3 = (i : Int) → I 239 4 = -1 → I 239 5 = (dp : Int) → I 239 14 = (x : Int) → I 243 x = (c0 : Int) → c0 ≤ i → (∀ I', zmP x (dp + 1) (j + 1) c0 S (mm_ui (mm_ui (mm_ui I 239 3 (j : Int)) 239 5 ((dp + 1 : Nat) : Int)) 239 3 ((j + 1 : Nat) : Int)) I' o1 → sq_X none n L P G (mm_E (e + 5 * q + 9) 166 27 [.inr (.inr (some 239)), .inl 33] [] [] n I' L P)) → sq_X none n L P G (mm_rn (e + 5 * q + 10) 166 [.inr (.inr (some 239))] n I L P) := by
          intro G e I L c0 hz h2 hw h5 hx14 h6 h7 hg
          have ok := hz.1.ok
          have hp := zm_look (d := e + 5 * q + 7) (L := L) hz hk h2
          have ho := zm_opens (d := e + 5 * q + 7) (n := n) (L := L) (P := P) (I := mm_ui I 239 3 (j : Int)) (j := j) (dp := dp) hz.1 (by rw [nb_ui_s]) (by omega) (by rw [nb_ui_k (by decide)]; exact h5) (by omega)
          rw [eX12_unit]
          simp (disch := (first | assumption | omega | exact nb_ix (by omega) (by assumption) (by omega) (by omega) | exact nb_ix (by omega) rfl (by omega) (by omega) | exact nb_ok (by omega) rfl | decide)) only [kX12_unit, hp, hc, h33, ho, hw, ↓if_pos, ↓if_neg, nb_add, nb_sub, nb_mul, Int.toNat_natCast, mm_kr_s, mm_kv_s, if_pos, if_neg, sq_tn, Int.toNat_zero, Int.reduceToNat, Int.reduceNeg, Nat.reduceAdd, Int.reduceAdd, Int.reduceEq, Int.reduceLT, Int.reduceLE, Int.zero_add, nb_ui_s, nb_ui_k, nb_ui_a, sp_min, sp_max, sp_bits]
          have t := om (e + 5 * q + 9) (by omega) (mm_ui (mm_ui (mm_ui I 239 3 (j : Int)) 239 5 ((dp + 1 : Nat) : Int)) 239 3 ((j + 1 : Nat) : Int)) L c0 (((hz.up (by decide) (by decide)).up (by decide) (by decide)).up (by decide) (by decide)) (by rw [nb_ui_s]) (by rw [nb_ui_k (by decide), nb_ui_k (by decide), nb_ui_k (by decide)]; exact hw) (by rw [nb_ui_k (by decide), nb_ui_s]) (by rw [nb_ui_k (by decide), nb_ui_k (by decide), nb_ui_k (by decide)]; exact hx14) (by rw [nb_ui_a (by decide), nb_ui_a (by decide), nb_ui_a (by decide)]; exact h6) (by omega)
          exact sq_kv t hg
        cases o1 with
        | inl p =>
          refine ⟨.inl p, og, trivial, fun d hd I L c0 hz h2 h3 h4 => ?_, fun d hd I L c0 hz h2 hw h5 hx14 h6 h7 => ?_⟩
          · obtain ⟨e, rfl⟩ : ∃ e, d = e + 5 * q + 14 := ⟨d - (5 * q + 14), by omega⟩
            refine hC (e + 5 * q + 12) (.inl p) I L c0 hz h2 ?_
            rw [hCi (e + 5 * q + 10) I L hz]
            refine sq_kr (oc (e + 5 * q + 10 + 2) (by omega) (mm_ui I 1 2 ((j + 1 : Nat) : Int)) L c0 (hz.up (by decide) (by decide)) (by rw [nb_ui_s]) (by rw [nb_ui_a (by omega)]; exact h3) (by omega)) (fun I' hI => ?_)
            have e0 : zr (Sum.inl p : zo) = 0 := rfl
            simp (disch := (first | assumption | omega | exact nb_ix (by omega) (by assumption) (by omega) (by omega) | exact nb_ix (by omega) rfl (by omega) (by omega) | exact nb_ok (by omega) rfl | decide)) only [kX4_readInner, e0, ↓if_pos, ↓if_neg, nb_add, nb_sub, nb_mul, Int.toNat_natCast, mm_kr_s, mm_kv_s, if_pos, if_neg, sq_tn, Int.toNat_zero, Int.reduceToNat, Int.reduceNeg, Nat.reduceAdd, Int.reduceAdd, Int.reduceEq, Int.reduceLT, Int.reduceLE, Int.zero_add, nb_ui_s, nb_ui_k, nb_ui_a, sp_min, sp_max, sp_bits]
            exact sq_ret ⟨hI.1, (fr1 I).tr hI.2⟩
          · obtain ⟨e, rfl⟩ : ∃ e, d = e + 5 * q + 10 := ⟨d - (5 * q + 10), by omega⟩
            refine hMd _ e I L c0 hz h2 hw h5 hx14 h6 h7 (fun I' hI => ?_)
            obtain ⟨i1, i2, t, c', i3, i4, i5, i6, i7, i8⟩ := hI
            have ok := hz.1.ok
            have hf := (fr2 I c0).tr i2 (Nat.le_refl _)
            have hpt := zm_put (d := e + 5 * q + 8) (n := n) (L := L) (P := P) (I := I') (x := x) (c0 := c') (s := 9) (v := 0) hz.1 (hf.tx hx14) hx i4 (by omega)
            simp (disch := (first | assumption | omega | exact nb_ix (by omega) (by assumption) (by omega) (by omega) | exact nb_ix (by omega) rfl (by omega) (by omega) | exact nb_ok (by omega) rfl | decide)) only [kX12_unit, hpt, mm_kv_s]
            refine sq_ret ⟨?_, ?_, t, c' + 1, ?_, ?_, by omega, by omega, by omega, by omega⟩
            · rw [nb_ui_k (by decide), nb_ui_a (by decide), nb_ui_a (by decide), nb_ui_a (by decide)]; exact i1
            · exact (zmF.pt hf i8 (by omega)).at (by omega)
            · rw [nb_ui_k (by decide), nb_ui_a (by decide), nb_ui_a (by decide), nb_ui_a (by decide)]; exact i3
            · rw [nb_ui_a (by decide), nb_ui_s]
        | inr w =>
          obtain ⟨j1, t1⟩ := w
          obtain ⟨g1, g2, g3⟩ := og
          have g1' : j + 1 < j1 := g1
          have g2' : j1 ≤ S := g2
          have g3' : t1.length + (j + 1) ≤ j1 := g3
          refine ⟨.inr (j1, t1 ++ [(9, 0)]), ⟨by show i < j1; omega, g2, by show (t1 ++ [(9, 0)]).length + i ≤ j1; simp; omega⟩, sx_C_up (sx_C_not os) (by omega), fun d hd I L c0 hz h2 h3 h4 => ?_, fun d hd I L c0 hz h2 hw h5 hx14 h6 h7 => ?_⟩
          · obtain ⟨e, rfl⟩ : ∃ e, d = e + 5 * q + 14 := ⟨d - (5 * q + 14), by omega⟩
            refine hC (e + 5 * q + 12) (.inr (j1, t1 ++ [(9, 0)])) I L c0 hz h2 ?_
            rw [hCi (e + 5 * q + 10) I L hz]
            refine sq_kr (oc (e + 5 * q + 10 + 2) (by omega) (mm_ui I 1 2 ((j + 1 : Nat) : Int)) L c0 (hz.up (by decide) (by decide)) (by rw [nb_ui_s]) (by rw [nb_ui_a (by omega)]; exact h3) (by omega)) (fun I' hI => ?_)
            obtain ⟨i1, i2, i3, i4, i5⟩ := hI
            have e0 : zr (Sum.inr (j1, t1) : zo) = 1 := rfl
            have hf := (fr1 I).tr i5
            have i2' : I' a 1 = ((c0 + t1.length : Nat) : Int) := i2
            have hpt := zc_put (d := e + 5 * q + 10 + 1) (n := n) (L := L) (P := P) (I := I') (c0 := c0 + t1.length) (s := 11) (v := 0) hL i2' (by omega) (by omega) (by omega)
            have e5 : (11 : Int) + 16 * 0 = 11 := by decide
            rw [e5] at hpt
            simp (disch := (first | assumption | omega | exact nb_ix (by omega) (by assumption) (by omega) (by omega) | exact nb_ix (by omega) rfl (by omega) (by omega) | exact nb_ok (by omega) rfl | decide)) only [kX4_readInner, e0, hpt, ↓if_pos, ↓if_neg, nb_add, nb_sub, nb_mul, Int.toNat_natCast, mm_kr_s, mm_kv_s, if_pos, if_neg, sq_tn, Int.toNat_zero, Int.reduceToNat, Int.reduceNeg, Nat.reduceAdd, Int.reduceAdd, Int.reduceEq, Int.reduceLT, Int.reduceLE, Int.zero_add, nb_ui_s, nb_ui_k, nb_ui_a, sp_min, sp_max, sp_bits]
            refine sq_ret ⟨?_, ?_, ?_, fun k hk => ?_, (hf.sg ha).ln ha⟩
            · rw [nb_ui_a (by omega), nb_ui_a (by omega)]; exact i1
            · rw [nb_ui_s]; show _ = ((c0 + (t1 ++ [(9, 0)]).length : Nat) : Int); rw [List.length_append, Nat.add_assoc]; rfl
            · rw [nb_ui_r (by omega)]
              refine sx_at_app t1 c0 (sx_at_keep t1 c0 i3 (fun k _ hk => nb_ui_k (by omega))) ⟨?_, trivial⟩
              rw [nb_ui_s]; rfl
            · rw [nb_ui_a (by omega), nb_ui_k (by omega), i4 k hk, nb_ui_a (by omega)]
          · obtain ⟨e, rfl⟩ : ∃ e, d = e + 5 * q + 10 := ⟨d - (5 * q + 10), by omega⟩
            refine hMd _ e I L c0 hz h2 hw h5 hx14 h6 h7 (fun I' hI => ?_)
            obtain ⟨i1, i2, i3, i4, i5, i6⟩ := hI
            have ok := hz.1.ok
            have hf := (fr2 I c0).tr i6 (Nat.le_refl _)
            have hpt := zm_put (d := e + 5 * q + 8) (n := n) (L := L) (P := P) (I := I') (x := x) (c0 := c0 + t1.length) (s := 9) (v := 0) hz.1 (hf.tx hx14) hx i4 (by omega)
            have e2 : ((dp + 1 : Nat) : Int) - 1 = (dp : Int) := by omega
            simp (disch := (first | assumption | omega | exact nb_ix (by omega) (by assumption) (by omega) (by omega) | exact nb_ix (by omega) rfl (by omega) (by omega) | exact nb_ok (by omega) rfl | decide)) only [kX12_unit, hpt, i3, e2, ↓if_pos, ↓if_neg, nb_add, nb_sub, nb_mul, Int.toNat_natCast, mm_kr_s, mm_kv_s, if_pos, if_neg, sq_tn, Int.toNat_zero, Int.reduceToNat, Int.reduceNeg, Nat.reduceAdd, Int.reduceAdd, Int.reduceEq, Int.reduceLT, Int.reduceLE, Int.zero_add, nb_ui_s, nb_ui_k, nb_ui_a, sp_min, sp_max, sp_bits]
            refine sq_ret ⟨?_, ?_, ?_, ?_, ?_, ?_⟩
            · rw [nb_ui_k (by decide), nb_ui_a (by decide), nb_ui_a (by decide), nb_ui_a (by decide)]; exact i1
            · rw [nb_ui_k (by decide), nb_ui_a (by decide), nb_ui_a (by decide), nb_ui_a (by decide)]; exact i2
            · rw [nb_ui_s]
            · rw [nb_ui_a (by decide), nb_ui_s]; show _ = ((c0 + (t1 ++ [(9, 0)]).length : Nat) : Int); rw [List.length_append, Nat.add_assoc]; rfl
            · refine sx_mt_app t1 _ (sx_mt_kp t1 _ i5 (fun k _ hk => ⟨?_, ?_⟩)) ⟨?_, ?_, trivial⟩
              · rw [nb_ui_a (by decide), nb_ui_a (by decide), nb_ui_a (by decide), nb_ui_k (by omega)]
              · rw [nb_ui_a (by decide), nb_ui_a (by decide), nb_ui_k (by omega), nb_ui_a (by decide)]
              · rw [nb_ui_a (by decide), nb_ui_a (by decide), nb_ui_a (by decide), Nat.add_assoc, nb_ui_s]; rfl
              · rw [nb_ui_a (by decide), nb_ui_a (by decide), Nat.add_assoc, nb_ui_s]
            · exact (zmF.pt hf (by omega) (by omega)).at (by omega)
      · have h40 : c = 40 := by omega
        obtain ⟨o1, og, os, oc, om⟩ := hcd q rfl (j + 1) (by omega) (by omega)
        have hCi : ∀ (e : Nat) (I L : mm_I), zc n P I T S → mm_rn (e + 3) 33 [.inr (.inr (some 1)), .inr (.inr (some a)), .inl (((dp + 1 : Nat) : Int))] n (mm_ui I 1 2 (j : Int)) L P = mm_kr (e + 2) 33 46 [.inr (.inr (some 1)), .inr (.inr (some a)), .inl (((dp + 1 : Nat) : Int))] [] [] n (mm_rn (e + 2) 30 [.inr (.inr (some 1)), .inr (.inr (some a)), .inl (((dp + 1 : Nat) : Int)), .inl 0] n (mm_ui I 1 2 ((j + 1 : Nat) : Int)) L P) := by
          intro e I L hz
          have hn := hz.1
          have hp0 := zc_pass0 (d := e) (n := n) (L := L) (P := P) (I := mm_ui I 1 2 (j : Int)) (c := 33) (hz.up (by decide) (by decide)) (zk_self hk) (by rw [nb_ui_s]) (by rw [hc]; exact h33)
          have hp := zc_pass1 (d := e) (n := n) (L := L) (P := P) (I := mm_ui I 1 2 (j : Int)) (c := 40) (hz.up (by decide) (by decide)) (zk_self hk) (by rw [nb_ui_s]) (by rw [hc]; exact h40)
          rw [nb_ui_2] at hp0
          rw [eX4_readInner]
          simp (disch := (first | assumption | omega | exact nb_ix (by omega) (by assumption) (by omega) (by omega) | exact nb_ix (by omega) rfl (by omega) (by omega) | exact nb_ok (by omega) rfl | decide)) only [kX4_readInner, hp0, hp, nb_ui_2, ↓if_pos, ↓if_neg, nb_add, nb_sub, nb_mul, Int.toNat_natCast, mm_kr_s, mm_kv_s, if_pos, if_neg, sq_tn, Int.toNat_zero, Int.reduceToNat, Int.reduceNeg, Nat.reduceAdd, Int.reduceAdd, Int.reduceEq, Int.reduceLT, Int.reduceLE, Int.zero_add, nb_ui_s, nb_ui_k, nb_ui_a, sp_min, sp_max, sp_bits]
          done
        have hMd : ∀ (G : mm_I → Prop) (e : Nat) (I L : mm_I) (c0 : Nat), zm n P I T S → I 239 3 = (i : Int) → I 239 4 = -1 → I 239 5 = (dp : Int) → I 239 14 = (x : Int) → I 243 x = (c0 : Int) → c0 ≤ i → (∀ I', zmP x (dp + 1) (j + 1) c0 S (mm_ui (mm_ui (mm_ui I 239 3 (j : Int)) 239 5 ((dp + 1 : Nat) : Int)) 239 3 ((j + 1 : Nat) : Int)) I' o1 → sq_X none n L P G (mm_E (e + 5 * q + 12) 166 69 [.inr (.inr (some 239)), .inl 40] [] [] n I' L P)) → sq_X none n L P G (mm_rn (e + 5 * q + 13) 166 [.inr (.inr (some 239))] n I L P) := by
          intro G e I L c0 hz h2 hw h5 hx14 h6 h7 hg
          have ok := hz.1.ok
          have hp := zm_look (d := e + 5 * q + 10) (L := L) hz hk h2
          have ho := zm_opens (d := e + 5 * q + 10) (n := n) (L := L) (P := P) (I := mm_ui I 239 3 (j : Int)) (j := j) (dp := dp) hz.1 (by rw [nb_ui_s]) (by omega) (by rw [nb_ui_k (by decide)]; exact h5) (by omega)
          rw [eX12_unit]
          simp (disch := (first | assumption | omega | exact nb_ix (by omega) (by assumption) (by omega) (by omega) | exact nb_ix (by omega) rfl (by omega) (by omega) | exact nb_ok (by omega) rfl | decide)) only [kX12_unit, hp, hc, h40, ho, hw, ↓if_pos, ↓if_neg, nb_add, nb_sub, nb_mul, Int.toNat_natCast, mm_kr_s, mm_kv_s, if_pos, if_neg, sq_tn, Int.toNat_zero, Int.reduceToNat, Int.reduceNeg, Nat.reduceAdd, Int.reduceAdd, Int.reduceEq, Int.reduceLT, Int.reduceLE, Int.zero_add, nb_ui_s, nb_ui_k, nb_ui_a, sp_min, sp_max, sp_bits]
          have t := om (e + 5 * q + 12) (by omega) (mm_ui (mm_ui (mm_ui I 239 3 (j : Int)) 239 5 ((dp + 1 : Nat) : Int)) 239 3 ((j + 1 : Nat) : Int)) L c0 (((hz.up (by decide) (by decide)).up (by decide) (by decide)).up (by decide) (by decide)) (by rw [nb_ui_s]) (by rw [nb_ui_k (by decide), nb_ui_k (by decide), nb_ui_k (by decide)]; exact hw) (by rw [nb_ui_k (by decide), nb_ui_s]) (by rw [nb_ui_k (by decide), nb_ui_k (by decide), nb_ui_k (by decide)]; exact hx14) (by rw [nb_ui_a (by decide), nb_ui_a (by decide), nb_ui_a (by decide)]; exact h6) (by omega)
          exact sq_kv t hg
        cases o1 with
        | inl p =>
          refine ⟨.inl p, og, trivial, fun d hd I L c0 hz h2 h3 h4 => ?_, fun d hd I L c0 hz h2 hw h5 hx14 h6 h7 => ?_⟩
          · obtain ⟨e, rfl⟩ : ∃ e, d = e + 5 * q + 14 := ⟨d - (5 * q + 14), by omega⟩
            refine hC (e + 5 * q + 12) (.inl p) I L c0 hz h2 ?_
            rw [hCi (e + 5 * q + 10) I L hz]
            refine sq_kr (oc (e + 5 * q + 10 + 2) (by omega) (mm_ui I 1 2 ((j + 1 : Nat) : Int)) L c0 (hz.up (by decide) (by decide)) (by rw [nb_ui_s]) (by rw [nb_ui_a (by omega)]; exact h3) (by omega)) (fun I' hI => ?_)
            have e0 : zr (Sum.inl p : zo) = 0 := rfl
            simp (disch := (first | assumption | omega | exact nb_ix (by omega) (by assumption) (by omega) (by omega) | exact nb_ix (by omega) rfl (by omega) (by omega) | exact nb_ok (by omega) rfl | decide)) only [kX4_readInner, e0, ↓if_pos, ↓if_neg, nb_add, nb_sub, nb_mul, Int.toNat_natCast, mm_kr_s, mm_kv_s, if_pos, if_neg, sq_tn, Int.toNat_zero, Int.reduceToNat, Int.reduceNeg, Nat.reduceAdd, Int.reduceAdd, Int.reduceEq, Int.reduceLT, Int.reduceLE, Int.zero_add, nb_ui_s, nb_ui_k, nb_ui_a, sp_min, sp_max, sp_bits]
            exact sq_ret ⟨hI.1, (fr1 I).tr hI.2⟩
          · obtain ⟨e, rfl⟩ : ∃ e, d = e + 5 * q + 13 := ⟨d - (5 * q + 13), by omega⟩
            refine hMd _ e I L c0 hz h2 hw h5 hx14 h6 h7 (fun I' hI => ?_)
            obtain ⟨i1, i2, t, c', i3, i4, i5, i6, i7, i8⟩ := hI
            have ok := hz.1.ok
            have hf := (fr2 I c0).tr i2 (Nat.le_refl _)
            have hcl := zm_closesF (d := e + 5 * q + 9) (n := n) (L := L) (P := P) (I := I') (c := 41) hz.1 i3 (by omega) i1
            simp (disch := (first | assumption | omega | exact nb_ix (by omega) (by assumption) (by omega) (by omega) | exact nb_ix (by omega) rfl (by omega) (by omega) | exact nb_ok (by omega) rfl | decide)) only [kX12_unit, hcl, ↓if_pos, ↓if_neg, nb_add, nb_sub, nb_mul, Int.toNat_natCast, mm_kr_s, mm_kv_s, if_pos, if_neg, sq_tn, Int.toNat_zero, Int.reduceToNat, Int.reduceNeg, Nat.reduceAdd, Int.reduceAdd, Int.reduceEq, Int.reduceLT, Int.reduceLE, Int.zero_add, nb_ui_s, nb_ui_k, nb_ui_a, sp_min, sp_max, sp_bits]
            refine sq_ret ⟨?_, ?_, t + 1, c', ?_, ?_, by omega, by omega, by omega, by omega⟩
            · rw [nb_ui_k (by decide), nb_ui_k (by decide)]; exact i1
            · exact (hf.at (by omega)).at (by omega)
            · rw [nb_ui_k (by decide), nb_ui_s]
            · rw [nb_ui_a (by decide), nb_ui_a (by decide)]; exact i4
        | inr w =>
          obtain ⟨j2, toks⟩ := w
          obtain ⟨g1, g2, g3⟩ := og
          have g1' : j + 1 < j2 := g1
          have g2' : j2 ≤ S := g2
          have g3' : toks.length + (j + 1) ≤ j2 := g3
          obtain ⟨j3, hk3⟩ := zk_ex (T := T) (S := S) (S - j2) j2 rfl g2
          have hk3' := hk3
          obtain ⟨m1, m2, m3, m4⟩ := hk3'
          by_cases c41 : zp T S j3 = 41
          · have hj3S := zp_S c41 (by decide)
            refine ⟨.inr (j3 + 1, toks), ⟨by show i < j3 + 1; omega, by show j3 + 1 ≤ S; omega, by show toks.length + i ≤ j3 + 1; omega⟩, sx_C_up os (by omega), fun d hd I L c0 hz h2 h3 h4 => ?_, fun d hd I L c0 hz h2 hw h5 hx14 h6 h7 => ?_⟩
            · obtain ⟨e, rfl⟩ : ∃ e, d = e + 5 * q + 14 := ⟨d - (5 * q + 14), by omega⟩
              refine hC (e + 5 * q + 12) (.inr (j3 + 1, toks)) I L c0 hz h2 ?_
              rw [hCi (e + 5 * q + 10) I L hz]
              refine sq_kr (oc (e + 5 * q + 10 + 2) (by omega) (mm_ui I 1 2 ((j + 1 : Nat) : Int)) L c0 (hz.up (by decide) (by decide)) (by rw [nb_ui_s]) (by rw [nb_ui_a (by omega)]; exact h3) (by omega)) (fun I' hI => ?_)
              obtain ⟨i1, i2, i3, i4, i5⟩ := hI
              have e0 : zr (Sum.inr (j2, toks) : zo) = 1 := rfl
              have hf := (fr1 I).tr i5
              have hn := hz.1
              have hps := zc_pass1 (d := e + 5 * q + 10) (n := n) (L := L) (P := P) (I := I') (c := 41) (hf.zc ha hz) hk3 i1 c41
              simp (disch := (first | assumption | omega | exact nb_ix (by omega) (by assumption) (by omega) (by omega) | exact nb_ix (by omega) rfl (by omega) (by omega) | exact nb_ok (by omega) rfl | decide)) only [kX4_readInner, e0, hps, ↓if_pos, ↓if_neg, nb_add, nb_sub, nb_mul, Int.toNat_natCast, mm_kr_s, mm_kv_s, if_pos, if_neg, sq_tn, Int.toNat_zero, Int.reduceToNat, Int.reduceNeg, Nat.reduceAdd, Int.reduceAdd, Int.reduceEq, Int.reduceLT, Int.reduceLE, Int.zero_add, nb_ui_s, nb_ui_k, nb_ui_a, sp_min, sp_max, sp_bits]
              refine sq_ret ⟨by rw [nb_ui_s], by rw [nb_ui_a (by omega)]; exact i2, by rw [nb_ui_r (by omega)]; exact i3, fun k hk => ?_, hf.at ha⟩
              rw [nb_ui_a (by omega), i4 k hk, nb_ui_a (by omega)]
            · obtain ⟨e, rfl⟩ : ∃ e, d = e + 5 * q + 13 := ⟨d - (5 * q + 13), by omega⟩
              refine hMd _ e I L c0 hz h2 hw h5 hx14 h6 h7 (fun I' hI => ?_)
              obtain ⟨i1, i2, i3, i4, i5, i6⟩ := hI
              have ok := hz.1.ok
              have hf := (fr2 I c0).tr i6 (Nat.le_refl _)
              have hcl := zm_closes (d := e + 5 * q + 9) (n := n) (L := L) (P := P) (I := I') (c := 41) (dp := dp) (hf.zm hz) hk3 i1 i2 i3 (by omega) c41
              simp (disch := (first | assumption | omega | exact nb_ix (by omega) (by assumption) (by omega) (by omega) | exact nb_ix (by omega) rfl (by omega) (by omega) | exact nb_ok (by omega) rfl | decide)) only [kX12_unit, hcl, ↓if_pos, ↓if_neg, nb_add, nb_sub, nb_mul, Int.toNat_natCast, mm_kr_s, mm_kv_s, if_pos, if_neg, sq_tn, Int.toNat_zero, Int.reduceToNat, Int.reduceNeg, Nat.reduceAdd, Int.reduceAdd, Int.reduceEq, Int.reduceLT, Int.reduceLE, Int.zero_add, nb_ui_s, nb_ui_k, nb_ui_a, sp_min, sp_max, sp_bits]
              refine sq_ret ⟨by rw [nb_ui_k (by decide), nb_ui_s], by rw [nb_ui_k (by decide), nb_ui_k (by decide)]; exact i2, by rw [nb_ui_s], by rw [nb_ui_a (by decide), nb_ui_a (by decide)]; exact i4, ?_, (hf.at (by omega)).at (by omega)⟩
              exact sx_mt_keep (by rw [nb_ui_r (by decide), nb_ui_r (by decide)]) (by rw [nb_ui_r (by decide), nb_ui_r (by decide)]) _ _ i5
          · refine ⟨.inl j3, m2, trivial, fun d hd I L c0 hz h2 h3 h4 => ?_, fun d hd I L c0 hz h2 hw h5 hx14 h6 h7 => ?_⟩
            · obtain ⟨e, rfl⟩ : ∃ e, d = e + 5 * q + 14 := ⟨d - (5 * q + 14), by omega⟩
              refine hC (e + 5 * q + 12) (.inl j3) I L c0 hz h2 ?_
              rw [hCi (e + 5 * q + 10) I L hz]
              refine sq_kr (oc (e + 5 * q + 10 + 2) (by omega) (mm_ui I 1 2 ((j + 1 : Nat) : Int)) L c0 (hz.up (by decide) (by decide)) (by rw [nb_ui_s]) (by rw [nb_ui_a (by omega)]; exact h3) (by omega)) (fun I' hI => ?_)
              obtain ⟨i1, i2, i3, i4, i5⟩ := hI
              have e0 : zr (Sum.inr (j2, toks) : zo) = 1 := rfl
              have hf := (fr1 I).tr i5
              have hn := hz.1
              have hps := zc_pass0 (d := e + 5 * q + 10) (n := n) (L := L) (P := P) (I := I') (c := 41) (hf.zc ha hz) hk3 i1 c41
              simp (disch := (first | assumption | omega | exact nb_ix (by omega) (by assumption) (by omega) (by omega) | exact nb_ix (by omega) rfl (by omega) (by omega) | exact nb_ok (by omega) rfl | decide)) only [kX4_readInner, e0, hps, ↓if_pos, ↓if_neg, nb_add, nb_sub, nb_mul, Int.toNat_natCast, mm_kr_s, mm_kv_s, if_pos, if_neg, sq_tn, Int.toNat_zero, Int.reduceToNat, Int.reduceNeg, Nat.reduceAdd, Int.reduceAdd, Int.reduceEq, Int.reduceLT, Int.reduceLE, Int.zero_add, nb_ui_s, nb_ui_k, nb_ui_a, sp_min, sp_max, sp_bits]
              exact sq_ret ⟨by rw [nb_ui_s], hf.at ha⟩
            · obtain ⟨e, rfl⟩ : ∃ e, d = e + 5 * q + 13 := ⟨d - (5 * q + 13), by omega⟩
              refine hMd _ e I L c0 hz h2 hw h5 hx14 h6 h7 (fun I' hI => ?_)
              obtain ⟨i1, i2, i3, i4, i5, i6⟩ := hI
              have ok := hz.1.ok
              have hf := (fr2 I c0).tr i6 (Nat.le_refl _)
              have hcl := zm_closes0 (d := e + 5 * q + 9) (n := n) (L := L) (P := P) (I := I') (c := 41) (dp := dp) (hf.zm hz) hk3 i1 i2 i3 (by omega) c41
              have i4' : I' 243 x = ((c0 + toks.length : Nat) : Int) := i4
              simp (disch := (first | assumption | omega | exact nb_ix (by omega) (by assumption) (by omega) (by omega) | exact nb_ix (by omega) rfl (by omega) (by omega) | exact nb_ok (by omega) rfl | decide)) only [kX12_unit, hcl, ↓if_pos, ↓if_neg, nb_add, nb_sub, nb_mul, Int.toNat_natCast, mm_kr_s, mm_kv_s, if_pos, if_neg, sq_tn, Int.toNat_zero, Int.reduceToNat, Int.reduceNeg, Nat.reduceAdd, Int.reduceAdd, Int.reduceEq, Int.reduceLT, Int.reduceLE, Int.zero_add, nb_ui_s, nb_ui_k, nb_ui_a, sp_min, sp_max, sp_bits]
              refine sq_ret ⟨?_, ?_, j3 + 1, c0 + toks.length, ?_, ?_, by omega, by omega, by omega, by omega⟩
              · rw [nb_ui_k (by decide), nb_ui_k (by decide), nb_ui_s]
              · exact (((hf.at (by omega)).at (by omega)).at (by omega)).at (by omega)
              · rw [nb_ui_k (by decide), nb_ui_s]
              · rw [nb_ui_a (by decide), nb_ui_a (by decide), nb_ui_a (by decide), nb_ui_a (by decide)]; exact i4'
  · -- a comparison
    have n33 : ¬ c = 33 := by omega
    have n40 : ¬ c = 40 := by omega
    obtain ⟨o1, og, os, oc, om⟩ := zJ_S (T := T) (i := j) (r := r) (dp := dp) hL ha hx hS hr k2
    have hC : ∀ (d : Nat) (I L : mm_I), 4 ≤ d → zc n P I T S → I 1 2 = (i : Int) → mm_rn (d + 1) 32 [.inr (.inr (some 1)), .inr (.inr (some a)), .inl ((dp : Int)), .inl 0] n I L P = mm_kr d 32 61 [.inr (.inr (some 1)), .inr (.inr (some a)), .inl ((dp : Int)), .inl 0, .inl c, mm_junk] [] [] n (mm_rn d 35 [.inr (.inr (some 1)), .inr (.inr (some a)), .inl ((dp : Int))] n (mm_ui I 1 2 (j : Int)) L P) := by
      intro d I L hd hz h2
      obtain ⟨e, rfl⟩ : ∃ e, d = e + 1 := ⟨d - 1, by omega⟩
      have hn := hz.1
      have hp := zc_peek (d := e) (L := L) hz hk h2
      rw [eX4_readUnit]
      simp (disch := (first | assumption | omega | exact nb_ix (by omega) (by assumption) (by omega) (by omega) | exact nb_ix (by omega) rfl (by omega) (by omega) | exact nb_ok (by omega) rfl | decide)) only [kX4_readUnit, hp, hc, ↓if_pos, ↓if_neg, nb_add, nb_sub, nb_mul, Int.toNat_natCast, mm_kr_s, mm_kv_s, if_pos, if_neg, sq_tn, Int.toNat_zero, Int.reduceToNat, Int.reduceNeg, Nat.reduceAdd, Int.reduceAdd, Int.reduceEq, Int.reduceLT, Int.reduceLE, Int.zero_add, nb_ui_s, nb_ui_k, nb_ui_a, sp_min, sp_max, sp_bits]
      done
    have hMd : ∀ (d : Nat) (I L : mm_I), 4 ≤ d → zm n P I T S → I 239 3 = (i : Int) → mm_rn (d + 1) 166 [.inr (.inr (some 239))] n I L P = mm_kv d 166 82 [.inr (.inr (some 239)), .inl c] [] [] n (mm_rn d 163 [.inr (.inr (some 239))] n (mm_ui I 239 3 (j : Int)) L P) := by
      intro d I L hd hz h2
      obtain ⟨e, rfl⟩ : ∃ e, d = e + 2 := ⟨d - 2, by omega⟩
      have ok := hz.1.ok
      have hp := zm_look (d := e) (L := L) hz hk h2
      rw [eX12_unit]
      simp (disch := (first | assumption | omega | exact nb_ix (by omega) (by assumption) (by omega) (by omega) | exact nb_ix (by omega) rfl (by omega) (by omega) | exact nb_ok (by omega) rfl | decide)) only [kX12_unit, hp, hc, ↓if_pos, ↓if_neg, nb_add, nb_sub, nb_mul, Int.toNat_natCast, mm_kr_s, mm_kv_s, if_pos, if_neg, sq_tn, Int.toNat_zero, Int.reduceToNat, Int.reduceNeg, Nat.reduceAdd, Int.reduceAdd, Int.reduceEq, Int.reduceLT, Int.reduceLE, Int.zero_add, nb_ui_s, nb_ui_k, nb_ui_a, sp_min, sp_max, sp_bits]
      done
    cases o1 with
    | inl p =>
      refine ⟨.inl p, og, trivial, fun d hd I L c0 hz h2 h3 h4 => ?_, fun d hd I L c0 hz h2 hw h5 hx14 h6 h7 => ?_⟩
      · obtain ⟨e, rfl⟩ : ∃ e, d = e + 1 := ⟨d - 1, by omega⟩
        show sq_X _ _ _ _ _ (mm_rn (e + 1) 32 _ n I L P)
        rw [hC e I L (by omega) hz h2]
        refine sq_kr (oc e (by omega) (mm_ui I 1 2 (j : Int)) L c0 (hz.up (by decide) (by decide)) (by rw [nb_ui_s]) (by rw [nb_ui_a (by omega)]; exact h3) (by omega)) (fun I' hI => ?_)
        have e0 : zr (Sum.inl p : zo) = 0 := rfl
        simp (disch := (first | assumption | omega | exact nb_ix (by omega) (by assumption) (by omega) (by omega) | exact nb_ix (by omega) rfl (by omega) (by omega) | exact nb_ok (by omega) rfl | decide)) only [kX4_readUnit, e0, ↓if_pos, ↓if_neg, nb_add, nb_sub, nb_mul, Int.toNat_natCast, mm_kr_s, mm_kv_s, if_pos, if_neg, sq_tn, Int.toNat_zero, Int.reduceToNat, Int.reduceNeg, Nat.reduceAdd, Int.reduceAdd, Int.reduceEq, Int.reduceLT, Int.reduceLE, Int.zero_add, nb_ui_s, nb_ui_k, nb_ui_a, sp_min, sp_max, sp_bits]
        exact sq_ret ⟨hI.1, ((zcF.refl a I).at ha).tr hI.2⟩
      · obtain ⟨e, rfl⟩ : ∃ e, d = e + 1 := ⟨d - 1, by omega⟩
        show sq_X _ _ _ _ _ (mm_rn (e + 1) 166 _ n I L P)
        rw [hMd e I L (by omega) hz h2]
        refine sq_kv (om e (by omega) (mm_ui I 239 3 (j : Int)) L c0 (hz.up (by decide) (by decide)) (by rw [nb_ui_s]) (by rw [nb_ui_k (by decide)]; exact hw) (by rw [nb_ui_k (by decide)]; exact h5) (by rw [nb_ui_k (by decide)]; exact hx14) (by rw [nb_ui_a (by decide)]; exact h6) (by omega)) (fun I' hI => ?_)
        obtain ⟨i1, i2, t, c', i3, i4, i5, i6, i7, i8⟩ := hI
        have ok := hz.1.ok
        have cp : ¬ (p : Int) = -1 := by omega
        simp (disch := (first | assumption | omega | exact nb_ix (by omega) (by assumption) (by omega) (by omega) | exact nb_ix (by omega) rfl (by omega) (by omega) | exact nb_ok (by omega) rfl | decide)) only [kX12_unit, i1, ↓if_pos, ↓if_neg, nb_add, nb_sub, nb_mul, Int.toNat_natCast, mm_kr_s, mm_kv_s, if_pos, if_neg, sq_tn, Int.toNat_zero, Int.reduceToNat, Int.reduceNeg, Nat.reduceAdd, Int.reduceAdd, Int.reduceEq, Int.reduceLT, Int.reduceLE, Int.zero_add, nb_ui_s, nb_ui_k, nb_ui_a, sp_min, sp_max, sp_bits]
        exact sq_ret ⟨i1, ((zmF.refl x c0 I).at (by omega)).tr i2 (Nat.le_refl _), t, c', i3, i4, by omega, by omega, by omega, by omega⟩
    | inr w =>
      obtain ⟨j1, t1⟩ := w
      obtain ⟨g1, g2, g3⟩ := og
      have g1' : j < j1 := g1
      have g2' : j1 ≤ S := g2
      have g3' : t1.length + j ≤ j1 := g3
      obtain ⟨o2, pg, ps, pc, pm⟩ := zJ_cmp (T := T) (i := j1) (r := r) (dp := dp) hL ha hx hS hr g2
      refine ⟨zj t1 o2, ?_, ?_, fun d hd I L c0 hz h2 h3 h4 => ?_, fun d hd I L c0 hz h2 hw h5 hx14 h6 h7 => ?_⟩
      · cases o2 with
        | inl p => exact pg
        | inr w =>
          obtain ⟨u1, u2, u3⟩ := pg
          refine ⟨by show i < w.1; omega, u2, ?_⟩
          show (t1 ++ w.2).length + i ≤ w.1
          simp
          omega
      · cases o2 with
        | inl p => trivial
        | inr w => exact sx_C_cmp os ps
      · rw [zr_zj]
        obtain ⟨e, rfl⟩ : ∃ e, d = e + 1 := ⟨d - 1, by omega⟩
        show sq_X _ _ _ _ _ (mm_rn (e + 1) 32 _ n I L P)
        rw [hC e I L (by omega) hz h2]
        refine sq_kr (oc e (by omega) (mm_ui I 1 2 (j : Int)) L c0 (hz.up (by decide) (by decide)) (by rw [nb_ui_s]) (by rw [nb_ui_a (by omega)]; exact h3) (by omega)) (fun I' hI => ?_)
        obtain ⟨i1, i2, i3, i4, i5⟩ := hI
        have hf := ((zcF.refl a I).at (z := (j : Int)) ha).tr i5
        have e0 : zr (Sum.inr (j1, t1) : zo) = 1 := rfl
        have hn := hz.1
        have e61 : mm_E e 32 61 [.inr (.inr (some 1)), .inr (.inr (some a)), .inl ((dp : Int)), .inl 0, .inl c, mm_junk] [] [.inl 1] n I' L P = mm_E e 32 66 [.inr (.inr (some 1)), .inr (.inr (some a)), .inl ((dp : Int)), .inl 0, .inl c, mm_junk] [] [] n I' L P := by
          simp (disch := (first | assumption | omega | exact nb_ix (by omega) (by assumption) (by omega) (by omega) | exact nb_ix (by omega) rfl (by omega) (by omega) | exact nb_ok (by omega) rfl | decide)) only [kX4_readUnit, ↓if_pos, ↓if_neg, nb_add, nb_sub, nb_mul, Int.toNat_natCast, mm_kr_s, mm_kv_s, if_pos, if_neg, sq_tn, Int.toNat_zero, Int.reduceToNat, Int.reduceNeg, Nat.reduceAdd, Int.reduceAdd, Int.reduceEq, Int.reduceLT, Int.reduceLE, Int.zero_add, nb_ui_s, nb_ui_k, nb_ui_a, sp_min, sp_max, sp_bits]
        rw [e0, e61]
        refine sq_mono (pc e _ _ _ (by omega) I' L (c0 + t1.length) (hf.zc ha hz) i1 i2 (by omega)) (fun K hK => zcP_then hf (fun k hk => ?_) i3 hK)
        rw [i4 k hk, nb_ui_a (by omega)]
      · obtain ⟨e, rfl⟩ : ∃ e, d = e + 1 := ⟨d - 1, by omega⟩
        show sq_X _ _ _ _ _ (mm_rn (e + 1) 166 _ n I L P)
        rw [hMd e I L (by omega) hz h2]
        refine sq_kv (om e (by omega) (mm_ui I 239 3 (j : Int)) L c0 (hz.up (by decide) (by decide)) (by rw [nb_ui_s]) (by rw [nb_ui_k (by decide)]; exact hw) (by rw [nb_ui_k (by decide)]; exact h5) (by rw [nb_ui_k (by decide)]; exact hx14) (by rw [nb_ui_a (by decide)]; exact h6) (by omega)) (fun I' hI => ?_)
        obtain ⟨i1, i2, i3, i4, i5, i6⟩ := hI
        have ok := hz.1.ok
        have hf := ((zmF.refl x c0 I).at (k := 3) (z := (j : Int)) (by omega)).tr i6 (Nat.le_refl _)
        simp (disch := (first | assumption | omega | exact nb_ix (by omega) (by assumption) (by omega) (by omega) | exact nb_ix (by omega) rfl (by omega) (by omega) | exact nb_ok (by omega) rfl | decide)) only [kX12_unit, i2, ↓if_pos, ↓if_neg, nb_add, nb_sub, nb_mul, Int.toNat_natCast, mm_kr_s, mm_kv_s, if_pos, if_neg, sq_tn, Int.toNat_zero, Int.reduceToNat, Int.reduceNeg, Nat.reduceAdd, Int.reduceAdd, Int.reduceEq, Int.reduceLT, Int.reduceLE, Int.zero_add, nb_ui_s, nb_ui_k, nb_ui_a, sp_min, sp_max, sp_bits]
        refine sq_kv (pm e (by omega) I' L (c0 + t1.length) (hf.zm hz) i1 i2 i3 (hf.tx hx14) i4 (by omega)) (fun K hK => ?_)
        simp (disch := (first | assumption | omega | exact nb_ix (by omega) (by assumption) (by omega) (by omega) | exact nb_ix (by omega) rfl (by omega) (by omega) | exact nb_ok (by omega) rfl | decide)) only [kX12_unit, ↓if_pos, ↓if_neg, nb_add, nb_sub, nb_mul, Int.toNat_natCast, mm_kr_s, mm_kv_s, if_pos, if_neg, sq_tn, Int.toNat_zero, Int.reduceToNat, Int.reduceNeg, Nat.reduceAdd, Int.reduceAdd, Int.reduceEq, Int.reduceLT, Int.reduceLE, Int.zero_add, nb_ui_s, nb_ui_k, nb_ui_a, sp_min, sp_max, sp_bits]
        exact sq_ret (zmP_then (i1 := j1) (by omega) (by omega) hf i5 hK)
end UN
