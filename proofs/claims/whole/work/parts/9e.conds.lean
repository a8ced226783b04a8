/-! conditions: what stands behind & and |, both halves at once -/
theorem sx_Ct_nil (k : Nat) : sx_Ct k [] := fun _ _ x hx => ⟨x, hx, fun _ _ => rfl⟩
theorem sx_Ct_up {k k' : Nat} {toks : List (Nat × Int)} (h : sx_Ct k toks) (hk : k ≤ k') : sx_Ct k' toks := fun l hl x hx => by
  obtain ⟨y, h01, hy⟩ := h l hl x hx
  exact ⟨y, h01, fun st hst => hy st (by omega)⟩
theorem sx_Ct_bin {k c : Nat} {t1 t2 : List (Nat × Int)} (hc : c = 10 ∨ c = 11) (h1 : sx_C k t1) (h2 : sx_Ct (k + 1) t2) : sx_Ct (k + 1) (t1 ++ [(c, 0)] ++ t2) := by
  intro l hl x hx
  obtain ⟨y1, y01, e1⟩ := h1 l hl
  have h01 : sx_op c x y1 = 0 ∨ sx_op c x y1 = 1 := by
    rcases hc with e | e <;> subst e <;> unfold sx_op <;> simp <;> omega
  obtain ⟨y, z01, e2⟩ := h2 l hl (sx_op c x y1) h01
  refine ⟨y, z01, fun st hst => ?_⟩
  have e3 : sx_ev l (t1 ++ [(c, 0)]) (x :: st) = some (sx_op c x y1 :: st) := by
    rw [sx_ev_app t1 (x :: st) (y1 :: x :: st) (e1 (x :: st) (by simp; omega))]
    refine sx_ev_1 ?_
    show sx_st l c 0 (y1 :: x :: st) = _
    unfold sx_st
    rw [if_neg (by omega), if_neg (by omega), if_neg (by omega), if_pos (by omega)]
    show (if c ≤ 8 ∨ ((x = 0 ∨ x = 1) ∧ (y1 = 0 ∨ y1 = 1)) then some (sx_op c x y1 :: st) else none) = _
    rw [if_pos (Or.inr ⟨hx, y01⟩)]
  rw [sx_ev_app _ _ _ e3]
  exact e2 st hst
theorem sx_C_then {k : Nat} {t1 t2 : List (Nat × Int)} (h1 : sx_C k t1) (h2 : sx_Ct (k + 1) t2) : sx_C (k + 1) (t1 ++ t2) := by
  intro l hl
  obtain ⟨y1, y01, e1⟩ := h1 l hl
  obtain ⟨y, z01, e2⟩ := h2 l hl y1 y01
  refine ⟨y, z01, fun st hst => ?_⟩
  rw [sx_ev_app t1 st (y1 :: st) (e1 st (by omega))]
  exact e2 st hst
def zct (n : Nat) (P : mm_P) (a x : Nat) (T : Nat → Int) (S dp k i m yc ym : Nat) : Prop := ∃ o : zo, zgt S i o ∧ zw (sx_Ct k) o ∧ (∀ (d q : Nat) (b : mm_V), m ≤ d → q < i → zcX n P a T S (fun I L => mm_E d yc 15 [.inr (.inr (some 1)), .inr (.inr (some a)), .inl ((dp : Int)), b, .inl ((q : Int))] [] [] n I L P) i o) ∧ (∀ d, m ≤ d → zmX n P x T S dp (fun I L => mm_E d ym 0 [.inr (.inr (some 239))] [] [] n I L P) i o)
/-- a unit and its tail: the model calls them one behind the other -/
def zmX2 (n : Nat) (P : mm_P) (x : Nat) (T : Nat → Int) (S dp d i : Nat) (o : zo) : Prop := ∀ (I L : mm_I) (c0 : Nat), zm n P I T S → I 239 3 = (i : Int) → I 239 4 = -1 → I 239 5 = (dp : Int) → I 239 14 = (x : Int) → I 243 x = (c0 : Int) → c0 ≤ i → ∃ I1, mm_rn d 166 [.inr (.inr (some 239))] n I L P = some (none, n, I1, L, P) ∧ sq_X none n L P (fun I' => zmP x dp i c0 S I I' o) (mm_rn d 167 [.inr (.inr (some 239))] n I1 L P)
def ztr (n : Nat) (P : mm_P) (a x : Nat) (T : Nat → Int) (S dp k i m : Nat) : Prop := ∃ o : zo, zg S i o ∧ zw (sx_C k) o ∧ (∀ d, m ≤ d → zcX n P a T S (fun I L => mm_rn d 31 [.inr (.inr (some 1)), .inr (.inr (some a)), .inl ((dp : Int)), .inl 0] n I L P) i o) ∧ (∀ d, m ≤ d → zmX2 n P x T S dp d i o)
section Cand
variable {n a x S dp r i : Nat} {P : mm_P} {T : Nat → Int}
set_option maxHeartbeats 4000000 in
theorem zct_and (hL : sp_L n P a) (ha : 20 ≤ a) (hx : x < 5) (hS : S ≤ 240) (hr : dp + r = 6) (hi : i ≤ S) (hsub : ∀ i', i < i' → i' ≤ S → zun n P a x T S dp (2 * r + 4) i' (5 * r + 9) 32 166) (hrec : ∀ i', i < i' → i' ≤ S → zct n P a x T S dp ((2 * r + 4) + 1) i' (5 * r + 9) 31 167) : zct n P a x T S dp ((2 * r + 4) + 1) i (5 * r + 9) 31 167 := by
  have okL := hL.ok
  obtain ⟨j, hk⟩ := zk_ex (T := T) (S := S) (S - i) i rfl hi
  have hk' := hk
  obtain ⟨k1, k2, k3, k4⟩ := hk'
  by_cases hc : zp T S j = 38
  · have hjS : j < S := zp_S hc (by decide)
    obtain ⟨o1, og, os, oc, om⟩ := hsub (j + 1) (by omega) (by omega)
    have hC : ∀ (d q : Nat) (b : mm_V) (I L : mm_I), 4 ≤ d → q < i → zc n P I T S → I 1 2 = (i : Int) → mm_E d 31 15 [.inr (.inr (some 1)), .inr (.inr (some a)), .inl ((dp : Int)), b, .inl ((q : Int))] [] [] n I L P = mm_kr d 31 39 [.inr (.inr (some 1)), .inr (.inr (some a)), .inl ((dp : Int)), b, .inl ((q : Int))] [] [] n (mm_rn d 32 [.inr (.inr (some 1)), .inr (.inr (some a)), .inl ((dp : Int)), .inl 0] n (mm_ui I 1 2 ((j + 1 : Nat) : Int)) L P) := by
      intro d q b I L hd hq hz h2
      obtain ⟨e, rfl⟩ : ∃ e, d = e + 2 := ⟨d - 2, by omega⟩
      have hn := hz.1
      have cq : ¬ (240 : Int) ≤ (q : Int) := by omega
      have hp := zc_pass1 (d := e) (L := L) (c := 38) hz hk h2 hc
      rw [hX4_readTruth_15]
      simp (disch := (first | assumption | omega | exact nb_ix (by omega) (by assumption) (by omega) (by omega) | exact nb_ix (by omega) rfl (by omega) (by omega) | exact nb_ok (by omega) rfl | decide)) only [kX4_readTruth, hp, ↓if_pos, ↓if_neg, nb_add, nb_sub, nb_mul, Int.toNat_natCast, mm_kr_s, mm_kv_s, if_pos, if_neg, sq_tn, Int.toNat_zero, Int.reduceToNat, Int.reduceNeg, Nat.reduceAdd, Int.reduceAdd, Int.reduceEq, Int.reduceLT, Int.reduceLE, Int.zero_add, nb_ui_s, nb_ui_k, nb_ui_a, sp_min, sp_max, sp_bits]
      done
    have hMd : ∀ (d : Nat) (I L : mm_I), 4 ≤ d → zm n P I T S → I 239 3 = (i : Int) → I 239 4 = -1 → mm_E d 167 0 [.inr (.inr (some 239))] [] [] n I L P = mm_kv d 167 31 [.inr (.inr (some 239))] [] [] n (mm_rn d 166 [.inr (.inr (some 239))] n (mm_ui I 239 3 ((j + 1 : Nat) : Int)) L P) := by
      intro d I L hd hz h2 hw
      obtain ⟨e, rfl⟩ : ∃ e, d = e + 2 := ⟨d - 2, by omega⟩
      have ok := hz.1.ok
      have e1 : (j : Int) + 1 = ((j + 1 : Nat) : Int) := by omega
      have hp := zm_look (d := e) (L := L) hz hk h2
      rw [hX12_goOnAnd_0]
      simp (disch := (first | assumption | omega | exact nb_ix (by omega) (by assumption) (by omega) (by omega) | exact nb_ix (by omega) rfl (by omega) (by omega) | exact nb_ok (by omega) rfl | decide)) only [kX12_goOnAnd, hw, hp, hc, e1, nb_ui_2, ↓if_pos, ↓if_neg, nb_add, nb_sub, nb_mul, Int.toNat_natCast, mm_kr_s, mm_kv_s, if_pos, if_neg, sq_tn, Int.toNat_zero, Int.reduceToNat, Int.reduceNeg, Nat.reduceAdd, Int.reduceAdd, Int.reduceEq, Int.reduceLT, Int.reduceLE, Int.zero_add, nb_ui_s, nb_ui_k, nb_ui_a, sp_min, sp_max, sp_bits]
      done
    have hMp : ∀ (d c1 : Nat) (I L : mm_I), 4 ≤ d → sp_M n P → I 239 14 = (x : Int) → I 243 x = (c1 : Int) → c1 < 520 → mm_E d 167 31 [.inr (.inr (some 239))] [] [] n I L P = mm_E d 167 0 [.inr (.inr (some 239))] [] [] n (mm_ui (mm_ui (mm_ui I 241 (520 * x + c1) 10) 242 (520 * x + c1) 0) 243 x ((c1 + 1 : Nat) : Int)) L P := by
      intro d c1 I L hd hM h14 h6 h7
      obtain ⟨e, rfl⟩ : ∃ e, d = e + 1 := ⟨d - 1, by omega⟩
      have ok := hM.ok
      have hpt := zm_put (d := e) (n := n) (L := L) (P := P) (I := I) (x := x) (c0 := c1) (s := 10) (v := 0) hM h14 hx h6 h7
      simp (disch := (first | assumption | omega | exact nb_ix (by omega) (by assumption) (by omega) (by omega) | exact nb_ix (by omega) rfl (by omega) (by omega) | exact nb_ok (by omega) rfl | decide)) only [kX12_goOnAnd, hpt, ↓if_pos, ↓if_neg, nb_add, nb_sub, nb_mul, Int.toNat_natCast, mm_kr_s, mm_kv_s, if_pos, if_neg, sq_tn, Int.toNat_zero, Int.reduceToNat, Int.reduceNeg, Nat.reduceAdd, Int.reduceAdd, Int.reduceEq, Int.reduceLT, Int.reduceLE, Int.zero_add, nb_ui_s, nb_ui_k, nb_ui_a, sp_min, sp_max, sp_bits]
      done
    cases o1 with
    | inl p =>
      refine ⟨.inl p, og, trivial, fun d q b hd hq I L c0 hz h2 h3 h4 => ?_, fun d hd I L c0 hz h2 hw h5 hx14 h6 h7 => ?_⟩
      · show sq_X _ _ _ _ _ (mm_E d 31 15 _ _ _ n I L P)
        rw [hC d q b I L (by omega) hq hz h2]
        refine sq_kr (oc d (by omega) (mm_ui I 1 2 ((j + 1 : Nat) : Int)) L c0 (hz.up (by decide) (by decide)) (by rw [nb_ui_s]) (by rw [nb_ui_a (by omega)]; exact h3) (by omega)) (fun I' hI => ?_)
        have e0 : zr (Sum.inl p : zo) = 0 := rfl
        simp (disch := (first | assumption | omega | exact nb_ix (by omega) (by assumption) (by omega) (by omega) | exact nb_ix (by omega) rfl (by omega) (by omega) | exact nb_ok (by omega) rfl | decide)) only [kX4_readTruth, e0, ↓if_pos, ↓if_neg, nb_add, nb_sub, nb_mul, Int.toNat_natCast, mm_kr_s, mm_kv_s, if_pos, if_neg, sq_tn, Int.toNat_zero, Int.reduceToNat, Int.reduceNeg, Nat.reduceAdd, Int.reduceAdd, Int.reduceEq, Int.reduceLT, Int.reduceLE, Int.zero_add, nb_ui_s, nb_ui_k, nb_ui_a, sp_min, sp_max, sp_bits]
        exact sq_ret ⟨hI.1, ((zcF.refl a I).at ha).tr hI.2⟩
      · show sq_X _ _ _ _ _ (mm_E d 167 0 _ _ _ n _ L P)
        have ok := hz.1.ok
        rw [hMd d I L (by omega) hz h2 hw]
        refine sq_kv (om d (by omega) (mm_ui I 239 3 ((j + 1 : Nat) : Int)) L c0 (hz.up (by decide) (by decide)) (by rw [nb_ui_s]) (by rw [nb_ui_k (by decide)]; exact hw) (by rw [nb_ui_k (by decide)]; exact h5) (by rw [nb_ui_k (by decide)]; exact hx14) (by rw [nb_ui_a (by decide)]; exact h6) (by omega)) (fun I' hI => ?_)
        obtain ⟨i1, i2, t, c', i3, i4, i5, i6, i7, i8⟩ := hI
        have hf := ((zmF.refl x c0 I).at (k := 3) (z := ((j + 1 : Nat) : Int)) (by omega)).tr i2 (Nat.le_refl _)
        rw [hMp d c' I' L (by omega) hz.1 (hf.tx hx14) i4 (by omega), hX12_goOnAnd_0]
        have cp : ¬ (p : Int) = -1 := by omega
        simp (disch := (first | assumption | omega | exact nb_ix (by omega) (by assumption) (by omega) (by omega) | exact nb_ix (by omega) rfl (by omega) (by omega) | exact nb_ok (by omega) rfl | decide)) only [kX12_goOnAnd, i1, ↓if_pos, ↓if_neg, nb_add, nb_sub, nb_mul, Int.toNat_natCast, mm_kr_s, mm_kv_s, if_pos, if_neg, sq_tn, Int.toNat_zero, Int.reduceToNat, Int.reduceNeg, Nat.reduceAdd, Int.reduceAdd, Int.reduceEq, Int.reduceLT, Int.reduceLE, Int.zero_add, nb_ui_s, nb_ui_k, nb_ui_a, sp_min, sp_max, sp_bits]
        refine sq_ret ⟨?_, ?_, t, c' + 1, ?_, ?_, by omega, by omega, by omega, by omega⟩
        · rw [nb_ui_a (by decide), nb_ui_a (by decide), nb_ui_a (by decide)]; exact i1
        · exact zmF.pt hf i8 (by omega)
        · rw [nb_ui_a (by decide), nb_ui_a (by decide), nb_ui_a (by decide)]; exact i3
        · rw [nb_ui_s]
    | inr w =>
      obtain ⟨j1, t1⟩ := w
      obtain ⟨g1, g2, g3⟩ := og
      have g1' : j + 1 < j1 := g1
      have g2' : j1 ≤ S := g2
      have g3' : t1.length + (j + 1) ≤ j1 := g3
      obtain ⟨o2, pg, ps, pc, pm⟩ := hrec j1 (by omega) (by omega)
      refine ⟨zj (t1 ++ [(10, 0)]) o2, ?_, ?_, fun d q b hd hq I L c0 hz h2 h3 h4 => ?_, fun d hd I L c0 hz h2 hw h5 hx14 h6 h7 => ?_⟩
      · cases o2 with
        | inl p => exact pg
        | inr w =>
          obtain ⟨u1, u2, u3⟩ := pg
          refine ⟨by show i ≤ w.1; omega, u2, ?_⟩
          show (t1 ++ [(10, 0)] ++ w.2).length + i ≤ w.1
          simp
          omega
      · cases o2 with
        | inl p => trivial
        | inr w => exact sx_Ct_bin (by decide) os ps
      · rw [zr_zj]
        show sq_X _ _ _ _ _ (mm_E d 31 15 _ _ _ n I L P)
        rw [hC d q b I L (by omega) hq hz h2]
        refine sq_kr (oc d (by omega) (mm_ui I 1 2 ((j + 1 : Nat) : Int)) L c0 (hz.up (by decide) (by decide)) (by rw [nb_ui_s]) (by rw [nb_ui_a (by omega)]; exact h3) (by omega)) (fun I' hI => ?_)
        obtain ⟨i1, i2, i3, i4, i5⟩ := hI
        have e0 : zr (Sum.inr (j1, t1) : zo) = 1 := rfl
        have hf := ((zcF.refl a I).at (z := ((j + 1 : Nat) : Int)) ha).tr i5
        obtain ⟨e, rfl⟩ : ∃ e, d = e + 1 := ⟨d - 1, by omega⟩
        have i2' : I' a 1 = ((c0 + t1.length : Nat) : Int) := i2
        have hpt := zc_put (d := e) (n := n) (L := L) (P := P) (I := I') (c0 := c0 + t1.length) (s := 9) (v := 0) hL i2' (by omega) (by omega) (by omega)
        have e1 : (q : Int) + 1 = ((q + 1 : Nat) : Int) := by omega
        have e5 : (9 : Int) + 16 * 0 = 9 := by decide
        rw [e5] at hpt
        simp (disch := (first | assumption | omega | exact nb_ix (by omega) (by assumption) (by omega) (by omega) | exact nb_ix (by omega) rfl (by omega) (by omega) | exact nb_ok (by omega) rfl | decide)) only [kX4_readTruth, e0, hpt, e1, ↓if_pos, ↓if_neg, nb_add, nb_sub, nb_mul, Int.toNat_natCast, mm_kr_s, mm_kv_s, if_pos, if_neg, sq_tn, Int.toNat_zero, Int.reduceToNat, Int.reduceNeg, Nat.reduceAdd, Int.reduceAdd, Int.reduceEq, Int.reduceLT, Int.reduceLE, Int.zero_add, nb_ui_s, nb_ui_k, nb_ui_a, sp_min, sp_max, sp_bits]
        refine sq_mono (pc (e + 1) (q + 1) _ (by omega) (by omega) _ L (c0 + t1.length + 1) ?_ ?_ ?_ (by omega)) (fun K hK => ?_)
        · exact ((hf.zc ha hz).up (by omega) (by omega)).up (by omega) (by omega)
        · rw [nb_ui_a (by omega), nb_ui_a (by omega)]; exact i1
        · rw [nb_ui_s]
        · refine zcP_then (J := mm_ui (mm_ui I' (a + 1) (c0 + t1.length) 9) a 1 ((c0 + t1.length + 1 : Nat) : Int)) ?_ ?_ ?_ ?_
          · exact (hf.sg ha).ln ha
          · intro k hk
            rw [nb_ui_a (by omega), nb_ui_k (by omega), i4 k hk, nb_ui_a (by omega)]
          · rw [nb_ui_r (by omega)]
            refine sx_at_app t1 c0 (sx_at_keep t1 c0 i3 (fun k _ hk => nb_ui_k (by omega))) ⟨?_, trivial⟩
            rw [nb_ui_s]; rfl
          · have e9 : c0 + (t1 ++ [((10 : Nat), (0 : Int))]).length = c0 + t1.length + 1 := by simp; omega
            rw [e9]
            exact hK
      · show sq_X _ _ _ _ _ (mm_E d 167 0 _ _ _ n _ L P)
        have ok := hz.1.ok
        rw [hMd d I L (by omega) hz h2 hw]
        refine sq_kv (om d (by omega) (mm_ui I 239 3 ((j + 1 : Nat) : Int)) L c0 (hz.up (by decide) (by decide)) (by rw [nb_ui_s]) (by rw [nb_ui_k (by decide)]; exact hw) (by rw [nb_ui_k (by decide)]; exact h5) (by rw [nb_ui_k (by decide)]; exact hx14) (by rw [nb_ui_a (by decide)]; exact h6) (by omega)) (fun I' hI => ?_)
        obtain ⟨i1, i2, i3, i4, i5, i6⟩ := hI
        have hf := ((zmF.refl x c0 I).at (k := 3) (z := ((j + 1 : Nat) : Int)) (by omega)).tr i6 (Nat.le_refl _)
        rw [hMp d (c0 + t1.length) I' L (by omega) hz.1 (hf.tx hx14) i4 (by omega)]
        have hf2 := zmF.pt (z := 10) (w := 0) (y := ((c0 + t1.length + 1 : Nat) : Int)) (c := c0 + t1.length) hf (by omega) (by omega)
        have e9 : c0 + (t1 ++ [((10 : Nat), (0 : Int))]).length = c0 + t1.length + 1 := by simp; omega
        refine sq_mono (pm d (by omega) _ L (c0 + t1.length + 1) (hf2.zm hz) ?_ ?_ ?_ (hf2.tx hx14) ?_ (by omega)) (fun K hK => zmP_then (i1 := j1) ?_ ?_ hf2 ?_ ?_)
        · rw [nb_ui_a (by decide), nb_ui_a (by decide), nb_ui_a (by decide)]; exact i1
        · rw [nb_ui_a (by decide), nb_ui_a (by decide), nb_ui_a (by decide)]; exact i2
        · rw [nb_ui_a (by decide), nb_ui_a (by decide), nb_ui_a (by decide)]; exact i3
        · rw [nb_ui_s]
        · simp; omega
        · omega
        · refine sx_mt_app t1 _ (sx_mt_kp t1 _ i5 (fun k _ hk => ⟨?_, ?_⟩)) ⟨?_, ?_, trivial⟩
          · rw [nb_ui_a (by decide), nb_ui_a (by decide), nb_ui_k (by omega)]
          · rw [nb_ui_a (by decide), nb_ui_k (by omega), nb_ui_a (by decide)]
          · rw [nb_ui_a (by decide), nb_ui_a (by decide), Nat.add_assoc, nb_ui_s]; rfl
          · rw [nb_ui_a (by decide), Nat.add_assoc, nb_ui_s]
        · rw [e9]
          exact hK
  · refine ⟨.inr (j, []), ⟨k1, k2, by show 0 + i ≤ j; omega⟩, sx_Ct_nil _, fun d q b hd hq I L c0 hz h2 h3 h4 => ?_, fun d hd I L c0 hz h2 hw h5 hx14 h6 h7 => ?_⟩
    · obtain ⟨e, rfl⟩ : ∃ e, d = e + 2 := ⟨d - 2, by omega⟩
      have hn := hz.1
      have cq : ¬ (240 : Int) ≤ (q : Int) := by omega
      have hp := zc_pass0 (d := e) (L := L) (c := 38) hz hk h2 hc
      show sq_X _ _ _ _ _ (mm_E (e + 2) 31 15 _ _ _ n I L P)
      rw [hX4_readTruth_15]
      simp (disch := (first | assumption | omega | exact nb_ix (by omega) (by assumption) (by omega) (by omega) | exact nb_ix (by omega) rfl (by omega) (by omega) | exact nb_ok (by omega) rfl | decide)) only [kX4_readTruth, hp, ↓if_pos, ↓if_neg, nb_add, nb_sub, nb_mul, Int.toNat_natCast, mm_kr_s, mm_kv_s, if_pos, if_neg, sq_tn, Int.toNat_zero, Int.reduceToNat, Int.reduceNeg, Nat.reduceAdd, Int.reduceAdd, Int.reduceEq, Int.reduceLT, Int.reduceLE, Int.zero_add, nb_ui_s, nb_ui_k, nb_ui_a, sp_min, sp_max, sp_bits]
      refine sq_ret ⟨by rw [nb_ui_s], by rw [nb_ui_a (by omega)]; exact h3, trivial, fun k hk => by rw [nb_ui_a (by omega)], (zcF.refl a I).at ha⟩
    · obtain ⟨e, rfl⟩ : ∃ e, d = e + 2 := ⟨d - 2, by omega⟩
      have ok := hz.1.ok
      have hp := zm_look (d := e) (L := L) hz hk h2
      show sq_X _ _ _ _ _ (mm_E (e + 2) 167 0 _ _ _ n _ L P)
      rw [hX12_goOnAnd_0]
      simp (disch := (first | assumption | omega | exact nb_ix (by omega) (by assumption) (by omega) (by omega) | exact nb_ix (by omega) rfl (by omega) (by omega) | exact nb_ok (by omega) rfl | decide)) only [kX12_goOnAnd, hw, hp, ↓if_pos, ↓if_neg, nb_add, nb_sub, nb_mul, Int.toNat_natCast, mm_kr_s, mm_kv_s, if_pos, if_neg, sq_tn, Int.toNat_zero, Int.reduceToNat, Int.reduceNeg, Nat.reduceAdd, Int.reduceAdd, Int.reduceEq, Int.reduceLT, Int.reduceLE, Int.zero_add, nb_ui_s, nb_ui_k, nb_ui_a, sp_min, sp_max, sp_bits]
      refine sq_ret ⟨by rw [nb_ui_s], by rw [nb_ui_k (by decide)]; exact hw, by rw [nb_ui_k (by decide)]; exact h5, by rw [nb_ui_a (by decide)]; exact h6, trivial, (zmF.refl x c0 I).at (by omega)⟩
end Cand
section Cor
variable {n a x S dp r i : Nat} {P : mm_P} {T : Nat → Int}
set_option maxHeartbeats 4000000 in
theorem zct_or (hL : sp_L n P a) (ha : 20 ≤ a) (hx : x < 5) (hS : S ≤ 240) (hr : dp + r = 6) (hi : i ≤ S) (hsub : ∀ i', i < i' → i' ≤ S → ztr n P a x T S dp (2 * r + 5) i' (5 * r + 10)) (hrec : ∀ i', i < i' → i' ≤ S → zct n P a x T S dp ((2 * r + 5) + 1) i' (5 * r + 10) 30 168) : zct n P a x T S dp ((2 * r + 5) + 1) i (5 * r + 10) 30 168 := by
  have okL := hL.ok
  obtain ⟨j, hk⟩ := zk_ex (T := T) (S := S) (S - i) i rfl hi
  have hk' := hk
  obtain ⟨k1, k2, k3, k4⟩ := hk'
  by_cases hc : zp T S j = 124
  · have hjS : j < S := zp_S hc (by decide)
    obtain ⟨o1, og, os, oc, om⟩ := hsub (j + 1) (by omega) (by omega)
    have hC : ∀ (d q : Nat) (b : mm_V) (I L : mm_I), 4 ≤ d → q < i → zc n P I T S → I 1 2 = (i : Int) → mm_E d 30 15 [.inr (.inr (some 1)), .inr (.inr (some a)), .inl ((dp : Int)), b, .inl ((q : Int))] [] [] n I L P = mm_kr d 30 39 [.inr (.inr (some 1)), .inr (.inr (some a)), .inl ((dp : Int)), b, .inl ((q : Int))] [] [] n (mm_rn d 31 [.inr (.inr (some 1)), .inr (.inr (some a)), .inl ((dp : Int)), .inl 0] n (mm_ui I 1 2 ((j + 1 : Nat) : Int)) L P) := by
      intro d q b I L hd hq hz h2
      obtain ⟨e, rfl⟩ : ∃ e, d = e + 2 := ⟨d - 2, by omega⟩
      have hn := hz.1
      have cq : ¬ (240 : Int) ≤ (q : Int) := by omega
      have hp := zc_pass1 (d := e) (L := L) (c := 124) hz hk h2 hc
      rw [hX4_readCondition_15]
      simp (disch := (first | assumption | omega | exact nb_ix (by omega) (by assumption) (by omega) (by omega) | exact nb_ix (by omega) rfl (by omega) (by omega) | exact nb_ok (by omega) rfl | decide)) only [kX4_readCondition, hp, ↓if_pos, ↓if_neg, nb_add, nb_sub, nb_mul, Int.toNat_natCast, mm_kr_s, mm_kv_s, if_pos, if_neg, sq_tn, Int.toNat_zero, Int.reduceToNat, Int.reduceNeg, Nat.reduceAdd, Int.reduceAdd, Int.reduceEq, Int.reduceLT, Int.reduceLE, Int.zero_add, nb_ui_s, nb_ui_k, nb_ui_a, sp_min, sp_max, sp_bits]
      done
    have hMd : ∀ (d : Nat) (I L : mm_I), 4 ≤ d → zm n P I T S → I 239 3 = (i : Int) → I 239 4 = -1 → mm_E d 168 0 [.inr (.inr (some 239))] [] [] n I L P = mm_kv d 168 31 [.inr (.inr (some 239))] [] [] n (mm_rn d 166 [.inr (.inr (some 239))] n (mm_ui I 239 3 ((j + 1 : Nat) : Int)) L P) := by
      intro d I L hd hz h2 hw
      obtain ⟨e, rfl⟩ : ∃ e, d = e + 2 := ⟨d - 2, by omega⟩
      have ok := hz.1.ok
      have e1 : (j : Int) + 1 = ((j + 1 : Nat) : Int) := by omega
      have hp := zm_look (d := e) (L := L) hz hk h2
      rw [hX12_goOnOr_0]
      simp (disch := (first | assumption | omega | exact nb_ix (by omega) (by assumption) (by omega) (by omega) | exact nb_ix (by omega) rfl (by omega) (by omega) | exact nb_ok (by omega) rfl | decide)) only [kX12_goOnOr, hw, hp, hc, e1, nb_ui_2, ↓if_pos, ↓if_neg, nb_add, nb_sub, nb_mul, Int.toNat_natCast, mm_kr_s, mm_kv_s, if_pos, if_neg, sq_tn, Int.toNat_zero, Int.reduceToNat, Int.reduceNeg, Nat.reduceAdd, Int.reduceAdd, Int.reduceEq, Int.reduceLT, Int.reduceLE, Int.zero_add, nb_ui_s, nb_ui_k, nb_ui_a, sp_min, sp_max, sp_bits]
      done
    have hMp : ∀ (d c1 : Nat) (I L : mm_I), 4 ≤ d → sp_M n P → I 239 14 = (x : Int) → I 243 x = (c1 : Int) → c1 < 520 → mm_E d 168 35 [.inr (.inr (some 239))] [] [] n I L P = mm_E d 168 0 [.inr (.inr (some 239))] [] [] n (mm_ui (mm_ui (mm_ui I 241 (520 * x + c1) 11) 242 (520 * x + c1) 0) 243 x ((c1 + 1 : Nat) : Int)) L P := by
      intro d c1 I L hd hM h14 h6 h7
      obtain ⟨e, rfl⟩ : ∃ e, d = e + 1 := ⟨d - 1, by omega⟩
      have ok := hM.ok
      have hpt := zm_put (d := e) (n := n) (L := L) (P := P) (I := I) (x := x) (c0 := c1) (s := 11) (v := 0) hM h14 hx h6 h7
      simp (disch := (first | assumption | omega | exact nb_ix (by omega) (by assumption) (by omega) (by omega) | exact nb_ix (by omega) rfl (by omega) (by omega) | exact nb_ok (by omega) rfl | decide)) only [kX12_goOnOr, hpt, ↓if_pos, ↓if_neg, nb_add, nb_sub, nb_mul, Int.toNat_natCast, mm_kr_s, mm_kv_s, if_pos, if_neg, sq_tn, Int.toNat_zero, Int.reduceToNat, Int.reduceNeg, Nat.reduceAdd, Int.reduceAdd, Int.reduceEq, Int.reduceLT, Int.reduceLE, Int.zero_add, nb_ui_s, nb_ui_k, nb_ui_a, sp_min, sp_max, sp_bits]
      done
    cases o1 with
    | inl p =>
      refine ⟨.inl p, og, trivial, fun d q b hd hq I L c0 hz h2 h3 h4 => ?_, fun d hd I L c0 hz h2 hw h5 hx14 h6 h7 => ?_⟩
      · show sq_X _ _ _ _ _ (mm_E d 30 15 _ _ _ n I L P)
        rw [hC d q b I L (by omega) hq hz h2]
        refine sq_kr (oc d (by omega) (mm_ui I 1 2 ((j + 1 : Nat) : Int)) L c0 (hz.up (by decide) (by decide)) (by rw [nb_ui_s]) (by rw [nb_ui_a (by omega)]; exact h3) (by omega)) (fun I' hI => ?_)
        have e0 : zr (Sum.inl p : zo) = 0 := rfl
        simp (disch := (first | assumption | omega | exact nb_ix (by omega) (by assumption) (by omega) (by omega) | exact nb_ix (by omega) rfl (by omega) (by omega) | exact nb_ok (by omega) rfl | decide)) only [kX4_readCondition, e0, ↓if_pos, ↓if_neg, nb_add, nb_sub, nb_mul, Int.toNat_natCast, mm_kr_s, mm_kv_s, if_pos, if_neg, sq_tn, Int.toNat_zero, Int.reduceToNat, Int.reduceNeg, Nat.reduceAdd, Int.reduceAdd, Int.reduceEq, Int.reduceLT, Int.reduceLE, Int.zero_add, nb_ui_s, nb_ui_k, nb_ui_a, sp_min, sp_max, sp_bits]
        exact sq_ret ⟨hI.1, ((zcF.refl a I).at ha).tr hI.2⟩
      · show sq_X _ _ _ _ _ (mm_E d 168 0 _ _ _ n _ L P)
        have ok := hz.1.ok
        rw [hMd d I L (by omega) hz h2 hw]
        obtain ⟨I1, hI1, hX1⟩ := om d (by omega) (mm_ui I 239 3 ((j + 1 : Nat) : Int)) L c0 (hz.up (by decide) (by decide)) (by rw [nb_ui_s]) (by rw [nb_ui_k (by decide)]; exact hw) (by rw [nb_ui_k (by decide)]; exact h5) (by rw [nb_ui_k (by decide)]; exact hx14) (by rw [nb_ui_a (by decide)]; exact h6) (by omega)
        rw [hI1, mm_kv_s]
        simp (disch := (first | assumption | omega | exact nb_ix (by omega) (by assumption) (by omega) (by omega) | exact nb_ix (by omega) rfl (by omega) (by omega) | exact nb_ok (by omega) rfl | decide)) only [kX12_goOnOr, ↓if_pos, ↓if_neg, nb_add, nb_sub, nb_mul, Int.toNat_natCast, mm_kr_s, mm_kv_s, if_pos, if_neg, sq_tn, Int.toNat_zero, Int.reduceToNat, Int.reduceNeg, Nat.reduceAdd, Int.reduceAdd, Int.reduceEq, Int.reduceLT, Int.reduceLE, Int.zero_add, nb_ui_s, nb_ui_k, nb_ui_a, sp_min, sp_max, sp_bits]
        refine sq_kv hX1 (fun I' hI => ?_)
        obtain ⟨i1, i2, t, c', i3, i4, i5, i6, i7, i8⟩ := hI
        have hf := ((zmF.refl x c0 I).at (k := 3) (z := ((j + 1 : Nat) : Int)) (by omega)).tr i2 (Nat.le_refl _)
        rw [hMp d c' I' L (by omega) hz.1 (hf.tx hx14) i4 (by omega), hX12_goOnOr_0]
        have cp : ¬ (p : Int) = -1 := by omega
        simp (disch := (first | assumption | omega | exact nb_ix (by omega) (by assumption) (by omega) (by omega) | exact nb_ix (by omega) rfl (by omega) (by omega) | exact nb_ok (by omega) rfl | decide)) only [kX12_goOnOr, i1, ↓if_pos, ↓if_neg, nb_add, nb_sub, nb_mul, Int.toNat_natCast, mm_kr_s, mm_kv_s, if_pos, if_neg, sq_tn, Int.toNat_zero, Int.reduceToNat, Int.reduceNeg, Nat.reduceAdd, Int.reduceAdd, Int.reduceEq, Int.reduceLT, Int.reduceLE, Int.zero_add, nb_ui_s, nb_ui_k, nb_ui_a, sp_min, sp_max, sp_bits]
        refine sq_ret ⟨?_, ?_, t, c' + 1, ?_, ?_, by omega, by omega, by omega, by omega⟩
        · rw [nb_ui_a (by decide), nb_ui_a (by decide), nb_ui_a (by decide)]; exact i1
        · exact zmF.pt hf i8 (by omega)
        · rw [nb_ui_a (by decide), nb_ui_a (by decide), nb_ui_a (by decide)]; exact i3
        · rw [nb_ui_s]
    | inr w =>
      obtain ⟨j1, t1⟩ := w
      obtain ⟨g1, g2, g3⟩ := og
      have g1' : j + 1 < j1 := g1
      have g2' : j1 ≤ S := g2
      have g3' : t1.length + (j + 1) ≤ j1 := g3
      obtain ⟨o2, pg, ps, pc, pm⟩ := hrec j1 (by omega) (by omega)
      refine ⟨zj (t1 ++ [(11, 0)]) o2, ?_, ?_, fun d q b hd hq I L c0 hz h2 h3 h4 => ?_, fun d hd I L c0 hz h2 hw h5 hx14 h6 h7 => ?_⟩
      · cases o2 with
        | inl p => exact pg
        | inr w =>
          obtain ⟨u1, u2, u3⟩ := pg
          refine ⟨by show i ≤ w.1; omega, u2, ?_⟩
          show (t1 ++ [(11, 0)] ++ w.2).length + i ≤ w.1
          simp
          omega
      · cases o2 with
        | inl p => trivial
        | inr w => exact sx_Ct_bin (by decide) os ps
      · rw [zr_zj]
        show sq_X _ _ _ _ _ (mm_E d 30 15 _ _ _ n I L P)
        rw [hC d q b I L (by omega) hq hz h2]
        refine sq_kr (oc d (by omega) (mm_ui I 1 2 ((j + 1 : Nat) : Int)) L c0 (hz.up (by decide) (by decide)) (by rw [nb_ui_s]) (by rw [nb_ui_a (by omega)]; exact h3) (by omega)) (fun I' hI => ?_)
        obtain ⟨i1, i2, i3, i4, i5⟩ := hI
        have e0 : zr (Sum.inr (j1, t1) : zo) = 1 := rfl
        have hf := ((zcF.refl a I).at (z := ((j + 1 : Nat) : Int)) ha).tr i5
        obtain ⟨e, rfl⟩ : ∃ e, d = e + 1 := ⟨d - 1, by omega⟩
        have i2' : I' a 1 = ((c0 + t1.length : Nat) : Int) := i2
        have hpt := zc_put (d := e) (n := n) (L := L) (P := P) (I := I') (c0 := c0 + t1.length) (s := 10) (v := 0) hL i2' (by omega) (by omega) (by omega)
        have e1 : (q : Int) + 1 = ((q + 1 : Nat) : Int) := by omega
        have e5 : (10 : Int) + 16 * 0 = 10 := by decide
        rw [e5] at hpt
        simp (disch := (first | assumption | omega | exact nb_ix (by omega) (by assumption) (by omega) (by omega) | exact nb_ix (by omega) rfl (by omega) (by omega) | exact nb_ok (by omega) rfl | decide)) only [kX4_readCondition, e0, hpt, e1, ↓if_pos, ↓if_neg, nb_add, nb_sub, nb_mul, Int.toNat_natCast, mm_kr_s, mm_kv_s, if_pos, if_neg, sq_tn, Int.toNat_zero, Int.reduceToNat, Int.reduceNeg, Nat.reduceAdd, Int.reduceAdd, Int.reduceEq, Int.reduceLT, Int.reduceLE, Int.zero_add, nb_ui_s, nb_ui_k, nb_ui_a, sp_min, sp_max, sp_bits]
        refine sq_mono (pc (e + 1) (q + 1) _ (by omega) (by omega) _ L (c0 + t1.length + 1) ?_ ?_ ?_ (by omega)) (fun K hK => ?_)
        · exact ((hf.zc ha hz).up (by omega) (by omega)).up (by omega) (by omega)
        · rw [nb_ui_a (by omega), nb_ui_a (by omega)]; exact i1
        · rw [nb_ui_s]
        · refine zcP_then (J := mm_ui (mm_ui I' (a + 1) (c0 + t1.length) 10) a 1 ((c0 + t1.length + 1 : Nat) : Int)) ?_ ?_ ?_ ?_
          · exact (hf.sg ha).ln ha
          · intro k hk
            rw [nb_ui_a (by omega), nb_ui_k (by omega), i4 k hk, nb_ui_a (by omega)]
          · rw [nb_ui_r (by omega)]
            refine sx_at_app t1 c0 (sx_at_keep t1 c0 i3 (fun k _ hk => nb_ui_k (by omega))) ⟨?_, trivial⟩
            rw [nb_ui_s]; rfl
          · have e9 : c0 + (t1 ++ [((11 : Nat), (0 : Int))]).length = c0 + t1.length + 1 := by simp; omega
            rw [e9]
            exact hK
      · show sq_X _ _ _ _ _ (mm_E d 168 0 _ _ _ n _ L P)
        have ok := hz.1.ok
        rw [hMd d I L (by omega) hz h2 hw]
        obtain ⟨I1, hI1, hX1⟩ := om d (by omega) (mm_ui I 239 3 ((j + 1 : Nat) : Int)) L c0 (hz.up (by decide) (by decide)) (by rw [nb_ui_s]) (by rw [nb_ui_k (by decide)]; exact hw) (by rw [nb_ui_k (by decide)]; exact h5) (by rw [nb_ui_k (by decide)]; exact hx14) (by rw [nb_ui_a (by decide)]; exact h6) (by omega)
        rw [hI1, mm_kv_s]
        simp (disch := (first | assumption | omega | exact nb_ix (by omega) (by assumption) (by omega) (by omega) | exact nb_ix (by omega) rfl (by omega) (by omega) | exact nb_ok (by omega) rfl | decide)) only [kX12_goOnOr, ↓if_pos, ↓if_neg, nb_add, nb_sub, nb_mul, Int.toNat_natCast, mm_kr_s, mm_kv_s, if_pos, if_neg, sq_tn, Int.toNat_zero, Int.reduceToNat, Int.reduceNeg, Nat.reduceAdd, Int.reduceAdd, Int.reduceEq, Int.reduceLT, Int.reduceLE, Int.zero_add, nb_ui_s, nb_ui_k, nb_ui_a, sp_min, sp_max, sp_bits]
        refine sq_kv hX1 (fun I' hI => ?_)
        obtain ⟨i1, i2, i3, i4, i5, i6⟩ := hI
        have hf := ((zmF.refl x c0 I).at (k := 3) (z := ((j + 1 : Nat) : Int)) (by omega)).tr i6 (Nat.le_refl _)
        rw [hMp d (c0 + t1.length) I' L (by omega) hz.1 (hf.tx hx14) i4 (by omega)]
        have hf2 := zmF.pt (z := 11) (w := 0) (y := ((c0 + t1.length + 1 : Nat) : Int)) (c := c0 + t1.length) hf (by omega) (by omega)
        have e9 : c0 + (t1 ++ [((11 : Nat), (0 : Int))]).length = c0 + t1.length + 1 := by simp; omega
        refine sq_mono (pm d (by omega) _ L (c0 + t1.length + 1) (hf2.zm hz) ?_ ?_ ?_ (hf2.tx hx14) ?_ (by omega)) (fun K hK => zmP_then (i1 := j1) ?_ ?_ hf2 ?_ ?_)
        · rw [nb_ui_a (by decide), nb_ui_a (by decide), nb_ui_a (by decide)]; exact i1
        · rw [nb_ui_a (by decide), nb_ui_a (by decide), nb_ui_a (by decide)]; exact i2
        · rw [nb_ui_a (by decide), nb_ui_a (by decide), nb_ui_a (by decide)]; exact i3
        · rw [nb_ui_s]
        · simp; omega
        · omega
        · refine sx_mt_app t1 _ (sx_mt_kp t1 _ i5 (fun k _ hk => ⟨?_, ?_⟩)) ⟨?_, ?_, trivial⟩
          · rw [nb_ui_a (by decide), nb_ui_a (by decide), nb_ui_k (by omega)]
          · rw [nb_ui_a (by decide), nb_ui_k (by omega), nb_ui_a (by decide)]
          · rw [nb_ui_a (by decide), nb_ui_a (by decide), Nat.add_assoc, nb_ui_s]; rfl
          · rw [nb_ui_a (by decide), Nat.add_assoc, nb_ui_s]
        · rw [e9]
          exact hK
  · refine ⟨.inr (j, []), ⟨k1, k2, by show 0 + i ≤ j; omega⟩, sx_Ct_nil _, fun d q b hd hq I L c0 hz h2 h3 h4 => ?_, fun d hd I L c0 hz h2 hw h5 hx14 h6 h7 => ?_⟩
    · obtain ⟨e, rfl⟩ : ∃ e, d = e + 2 := ⟨d - 2, by omega⟩
      have hn := hz.1
      have cq : ¬ (240 : Int) ≤ (q : Int) := by omega
      have hp := zc_pass0 (d := e) (L := L) (c := 124) hz hk h2 hc
      show sq_X _ _ _ _ _ (mm_E (e + 2) 30 15 _ _ _ n I L P)
      rw [hX4_readCondition_15]
      simp (disch := (first | assumption | omega | exact nb_ix (by omega) (by assumption) (by omega) (by omega) | exact nb_ix (by omega) rfl (by omega) (by omega) | exact nb_ok (by omega) rfl | decide)) only [kX4_readCondition, hp, ↓if_pos, ↓if_neg, nb_add, nb_sub, nb_mul, Int.toNat_natCast, mm_kr_s, mm_kv_s, if_pos, if_neg, sq_tn, Int.toNat_zero, Int.reduceToNat, Int.reduceNeg, Nat.reduceAdd, Int.reduceAdd, Int.reduceEq, Int.reduceLT, Int.reduceLE, Int.zero_add, nb_ui_s, nb_ui_k, nb_ui_a, sp_min, sp_max, sp_bits]
      refine sq_ret ⟨by rw [nb_ui_s], by rw [nb_ui_a (by omega)]; exact h3, trivial, fun k hk => by rw [nb_ui_a (by omega)], (zcF.refl a I).at ha⟩
    · obtain ⟨e, rfl⟩ : ∃ e, d = e + 2 := ⟨d - 2, by omega⟩
      have ok := hz.1.ok
      have hp := zm_look (d := e) (L := L) hz hk h2
      show sq_X _ _ _ _ _ (mm_E (e + 2) 168 0 _ _ _ n _ L P)
      rw [hX12_goOnOr_0]
      simp (disch := (first | assumption | omega | exact nb_ix (by omega) (by assumption) (by omega) (by omega) | exact nb_ix (by omega) rfl (by omega) (by omega) | exact nb_ok (by omega) rfl | decide)) only [kX12_goOnOr, hw, hp, ↓if_pos, ↓if_neg, nb_add, nb_sub, nb_mul, Int.toNat_natCast, mm_kr_s, mm_kv_s, if_pos, if_neg, sq_tn, Int.toNat_zero, Int.reduceToNat, Int.reduceNeg, Nat.reduceAdd, Int.reduceAdd, Int.reduceEq, Int.reduceLT, Int.reduceLE, Int.zero_add, nb_ui_s, nb_ui_k, nb_ui_a, sp_min, sp_max, sp_bits]
      refine sq_ret ⟨by rw [nb_ui_s], by rw [nb_ui_k (by decide)]; exact hw, by rw [nb_ui_k (by decide)]; exact h5, by rw [nb_ui_a (by decide)]; exact h6, trivial, (zmF.refl x c0 I).at (by omega)⟩
end Cor
