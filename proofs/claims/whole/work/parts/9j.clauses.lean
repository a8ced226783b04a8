/-! a clause, wherever it stands -/
def zcl (n : Nat) (P : mm_P) (a x : Nat) (T : Nat → Int) (S i m : Nat) : Prop := ∃ o : zco, zgC S i o ∧
  (∀ (d : Nat) (I L : mm_I) (c0 : Nat), m ≤ d → zc n P I T S → I 1 2 = (i : Int) → I a 1 = (c0 : Int) → c0 ≤ i → sq_X (some (.inl (zrC o))) n L P (fun I' => zpC a c0 I I' o) (mm_rn d 29 [.inr (.inr (some 1)), .inr (.inr (some a))] n I L P)) ∧
  (∀ (d : Nat) (I L : mm_I) (c0 k0 : Nat), m ≤ d → zmh n P x T S 0 i c0 I → I 244 x = (k0 : Int) → k0 < 140 → sq_X none n L P (fun I' => zpM x S c0 k0 I I' o) (mm_rn d 170 [.inr (.inr (some 239))] n I L P))
section CLJ
variable {n a x S i : Nat} {P : mm_P} {T : Nat → Int}
theorem zm_preJ {I : mm_I} {c0 k0 j2 j3 : Nat} (hm : zmh n P x T S 0 i c0 I) (h44 : I 244 x = (k0 : Int)) (hk0 : k0 < 140) (hj : i ≤ j3) : zmh n P x T S 0 j3 c0 (mm_ui (mm_ui (mm_ui I 239 3 ((j2 + 1 : Nat) : Int)) 245 (140 * x + k0) (c0 : Int)) 239 3 (j3 : Int)) ∧ mm_ui (mm_ui (mm_ui I 239 3 ((j2 + 1 : Nat) : Int)) 245 (140 * x + k0) (c0 : Int)) 239 3 (j3 : Int) 244 x = (k0 : Int) ∧ mm_ui (mm_ui (mm_ui I 239 3 ((j2 + 1 : Nat) : Int)) 245 (140 * x + k0) (c0 : Int)) 239 3 (j3 : Int) 245 (140 * x + k0) = (c0 : Int) ∧ zlF x c0 k0 I (mm_ui (mm_ui (mm_ui I 239 3 ((j2 + 1 : Nat) : Int)) 245 (140 * x + k0) (c0 : Int)) 239 3 (j3 : Int)) := by
  obtain ⟨hz, h2, hw, h5, hx14, h6, h7⟩ := hm
  refine ⟨⟨((hz.up (by decide) (by decide)).up (by decide) (by omega)).up (by decide) (by decide), by rw [nb_ui_s], ?_, ?_, ?_, ?_, by omega⟩, ?_, ?_, ?_⟩
  · rw [nb_ui_k (by decide), nb_ui_a (by decide), nb_ui_k (by decide)]; exact hw
  · rw [nb_ui_k (by decide), nb_ui_a (by decide), nb_ui_k (by decide)]; exact h5
  · rw [nb_ui_k (by decide), nb_ui_a (by decide), nb_ui_k (by decide)]; exact hx14
  · rw [nb_ui_a (by decide), nb_ui_a (by decide), nb_ui_a (by decide)]; exact h6
  · rw [nb_ui_a (by decide), nb_ui_a (by decide), nb_ui_a (by decide)]; exact h44
  · rw [nb_ui_a (by decide), nb_ui_s]
  · have f1 : zlF x c0 k0 I (mm_ui I 239 3 ((j2 + 1 : Nat) : Int)) := ((zmF.refl x c0 I).at (by omega)).zl k0
    exact (f1.up (b := 245) (by omega) (by omega) (by omega)).tr (((zmF.refl x c0 _).at (by omega)).zl k0) (Nat.le_refl _) (Nat.le_refl _)
/-- the model ends a clause at pc 184 without a guarded sum -/
theorem zm_end {d : Nat} {I J L : mm_I} {c k0 c0 p : Nat} {b : Int} (hM : sp_M n P) (hx : x < 5) (hf : zlF x c0 k0 I J) (hx14 : I 239 14 = (x : Int)) (h4 : J 239 4 = (p : Int)) (h6 : J 243 x = (c : Int)) (h44 : J 244 x = (k0 : Int)) (hk0 : k0 < 140) {t : Nat} (h3 : J 239 3 = (t : Int)) (ht : t ≤ S + 10) (hc : c ≤ 500) : sq_X none n L P (fun I' => zpM x S c0 k0 I I' (.inl p)) (mm_E d 170 184 [.inr (.inr (some 239)), .inl (((140 * x + k0 : Nat) : Int)), .inl b] [] [] n J L P) := by
  rw [zm_fin hM hx (by rw [hf.2.1 14 (by decide) (by decide) (by decide)]; exact hx14) h6 h44 hk0 (Or.inr (by omega))]
  refine sq_ret ⟨?_, ((hf.up (b := 246) (by omega) (by omega) (by omega)).up (b := 247) (by omega) (by omega) (by omega)).cn, t, c, k0 + 1, ?_, ?_, ?_, ht, hc, Nat.le_refl _⟩
  · rw [nb_ui_a (by decide), nb_ui_a (by decide), nb_ui_a (by decide)]; exact h4
  · rw [nb_ui_a (by decide), nb_ui_a (by decide), nb_ui_a (by decide)]; exact h3
  · rw [nb_ui_a (by decide), nb_ui_a (by decide), nb_ui_a (by decide)]; exact h6
  · rw [nb_ui_s]
set_option maxHeartbeats 8000000 in
theorem zJ_clause (hL : sp_L n P a) (ha : 20 ≤ a) (hx : x < 5) (hS : S ≤ 240) (hi : i ≤ S) : zcl n P a x T S i 46 := by
  have okL := hL.ok
  obtain ⟨j1, hk1⟩ := zk_ex (T := T) (S := S) (S - i) i rfl hi
  have b1 := hk1.1
  have b1' := hk1.2.1
  by_cases hc1 : zp T S j1 = 121
  · have hj1 := zp_S hc1 (by decide)
    obtain ⟨j2, hk2⟩ := zk_ex (T := T) (S := S) (S - (j1 + 1)) (j1 + 1) rfl (by omega)
    have b2 := hk2.1
    have b2' := hk2.2.1
    by_cases hc2 : zp T S j2 = 58
    · have hj2 := zp_S hc2 (by decide)
      obtain ⟨j3, hk3⟩ := zk_ex (T := T) (S := S) (S - (j2 + 1)) (j2 + 1) rfl (by omega)
      have b3 := hk3.1
      have b3' := hk3.2.1
      have hCp := fun (e : Nat) (I L : mm_I) (hz : zc n P I T S) (h2 : I 1 2 = (i : Int)) => zc_pre (a := a) (e := e) (L := L) hz h2 hk1 hc1 hk2 hc2 hk3
      have hMp := fun (e : Nat) (I L : mm_I) (c0 k0 : Nat) (hm : zmh n P x T S 0 i c0 I) (h44 : I 244 x = (k0 : Int)) (hk0 : k0 < 140) => zm_pre (e := e) (L := L) hx hS hm h44 hk0 hk1 hc1 hk2 hc2 hk3
      by_cases ht : zp T S j3 = 33 ∨ zp T S j3 = 40
      · obtain ⟨o1, og, os, oc, om⟩ := zJ_C (T := T) (i := j3) (r := 6) (dp := 0) hL ha hx hS (by decide) b3'
        cases o1 with
        | inl p =>
          refine ⟨.inl p, og, fun d I L c0 hd hz h2 h3 h4 => ?_, fun d I L c0 k0 hd hm h44 hk0 => ?_⟩
          · obtain ⟨e, rfl⟩ : ∃ e, d = e + 4 := ⟨d - 4, by omega⟩
            rw [hCp e I L hz h2, if_pos ht]
            refine sq_kr (oc (e + 3) (by omega) (mm_ui I 1 2 (j3 : Int)) L c0 (hz.up (by decide) (by decide)) (by rw [nb_ui_s]) (by rw [nb_ui_a (by omega)]; exact h3) (by omega)) (fun I' hI => ?_)
            have e0 : zr (Sum.inl p : zo) = 0 := rfl
            simp (disch := (first | assumption | omega | exact nb_ix (by omega) (by assumption) (by omega) (by omega) | exact nb_ix (by omega) rfl (by omega) (by omega) | exact nb_ok (by omega) rfl | decide)) only [kX4_readClause, e0, ↓if_pos, ↓if_neg, nb_add, nb_sub, nb_mul, Int.toNat_natCast, mm_kr_s, mm_kv_s, if_pos, if_neg, sq_tn, Int.toNat_zero, Int.reduceToNat, Int.reduceNeg, Nat.reduceAdd, Int.reduceAdd, Int.reduceEq, Int.reduceLT, Int.reduceLE, Int.zero_add, nb_ui_s, nb_ui_k, nb_ui_a, sp_min, sp_max, sp_bits]
            exact sq_ret ⟨hI.1, ((zcF.refl a I).at ha).tr hI.2⟩
          · obtain ⟨e, rfl⟩ : ∃ e, d = e + 4 := ⟨d - 4, by omega⟩
            rw [hMp e I L c0 k0 hm h44 hk0, if_pos ht]
            obtain ⟨q1, q2, q3, q4⟩ := zm_preJ (j2 := j2) (j3 := j3) hm h44 hk0 (by omega)
            generalize mm_ui (mm_ui (mm_ui I 239 3 ((j2 + 1 : Nat) : Int)) 245 (140 * x + k0) (c0 : Int)) 239 3 (j3 : Int) = J at q1 q2 q3 q4 ⊢
            obtain ⟨r1, r2, r3, r4, r5, r6, r7⟩ := q1
            refine sq_kv (om (e + 3) (by omega) J L c0 r1 r2 r3 r4 r5 r6 r7) (fun I' hI => ?_)
            obtain ⟨i1, i2, t, c', i3, i4, i5, i6, i7, i8⟩ := hI
            have ok := r1.1.ok
            have hM := r1.1
            have e137 : mm_E (e + 3) 170 137 [.inr (.inr (some 239)), .inl (((140 * x + k0 : Nat) : Int)), .inl 1] [] [] n I' L P = mm_E (e + 3) 170 184 [.inr (.inr (some 239)), .inl (((140 * x + k0 : Nat) : Int)), .inl 1] [] [] n I' L P := by
              simp only [kX12_clause]
            rw [e137]
            exact zm_end (c := c') (t := t) hM hx (q4.tr (i2.zl k0) (Nat.le_refl _) (Nat.le_refl _)) hm.2.2.2.2.1 i1 i4 (by rw [i2.1 244 (by decide) (by decide) (by decide) (by decide)]; exact q2) hk0 i3 (by omega) (by omega)
        | inr w =>
          obtain ⟨j4, t1⟩ := w
          obtain ⟨g1, g2, g3⟩ := og
          have g1' : j3 < j4 := g1
          have g2' : j4 ≤ S := g2
          have g3' : t1.length + j3 ≤ j4 := g3
          obtain ⟨o2, pg, ps, pc, pm⟩ := zJ_after (T := T) (i := j4) hL ha hx hS g2
          refine ⟨zjc t1 o2, ?_, fun d I L c0 hd hz h2 h3 h4 => ?_, fun d I L c0 k0 hd hm h44 hk0 => ?_⟩
          · cases o2 with
            | inl p => exact pg
            | inr w =>
              obtain ⟨j6, t2⟩ := w
              obtain ⟨u1, u2, u3⟩ := pg
              have u1' : j4 < j6 := u1
              have u3' : t2.length + j4 ≤ j6 := u3
              refine ⟨by show i + 2 < j6; omega, u2, sx_okc_of (Or.inr (fun l hl => ?_)) ps, by show t1.length + t2.length + i ≤ j6; omega⟩
              obtain ⟨y, _, hy⟩ := os l hl
              exact ⟨y, hy [] (by simp)⟩
          · obtain ⟨e, rfl⟩ : ∃ e, d = e + 4 := ⟨d - 4, by omega⟩
            rw [hCp e I L hz h2, if_pos ht]
            refine sq_kr (oc (e + 3) (by omega) (mm_ui I 1 2 (j3 : Int)) L c0 (hz.up (by decide) (by decide)) (by rw [nb_ui_s]) (by rw [nb_ui_a (by omega)]; exact h3) (by omega)) (fun I' hI => ?_)
            obtain ⟨i1, i2, i3, i4, i5⟩ := hI
            have e0 : zr (Sum.inr (j4, t1) : zo) = 1 := rfl
            have hf := ((zcF.refl a I).at (z := (j3 : Int)) ha).tr i5
            have hn := hz.1
            have e85 : mm_E (e + 3) 29 85 [.inr (.inr (some 1)), .inr (.inr (some a)), .inl (zp T S j3), .inl 0, mm_junk] [] [.inl 1] n I' L P = mm_E (e + 3) 29 88 [.inr (.inr (some 1)), .inr (.inr (some a)), .inl (zp T S j3), .inl 0, mm_junk] [] [] n I' L P := by
              simp (disch := (first | assumption | omega | exact nb_ix (by omega) (by assumption) (by omega) (by omega) | exact nb_ix (by omega) rfl (by omega) (by omega) | exact nb_ok (by omega) rfl | decide)) only [kX4_readClause, ↓if_pos, ↓if_neg, nb_add, nb_sub, nb_mul, Int.toNat_natCast, mm_kr_s, mm_kv_s, if_pos, if_neg, sq_tn, Int.toNat_zero, Int.reduceToNat, Int.reduceNeg, Nat.reduceAdd, Int.reduceAdd, Int.reduceEq, Int.reduceLT, Int.reduceLE, Int.zero_add, nb_ui_s, nb_ui_k, nb_ui_a, sp_min, sp_max, sp_bits]
            rw [zrC_zjc, e0, e85]
            refine sq_mono (pc (e + 3) _ _ _ I' L (c0 + t1.length) (by omega) (hf.zc ha hz) i1 i2 (by omega)) (fun K hK => zpC_then (S := S) (j := j4) (sx_C_ne os (by decide)) (by omega) pg hf (fun k hk => ?_) i3 hK)
            rw [i4 k hk, nb_ui_a (by omega)]
          · obtain ⟨e, rfl⟩ : ∃ e, d = e + 4 := ⟨d - 4, by omega⟩
            rw [hMp e I L c0 k0 hm h44 hk0, if_pos ht]
            obtain ⟨q1, q2, q3, q4⟩ := zm_preJ (j2 := j2) (j3 := j3) hm h44 hk0 (by omega)
            generalize mm_ui (mm_ui (mm_ui I 239 3 ((j2 + 1 : Nat) : Int)) 245 (140 * x + k0) (c0 : Int)) 239 3 (j3 : Int) = J at q1 q2 q3 q4 ⊢
            obtain ⟨r1, r2, r3, r4, r5, r6, r7⟩ := q1
            refine sq_kv (om (e + 3) (by omega) J L c0 r1 r2 r3 r4 r5 r6 r7) (fun I' hI => ?_)
            obtain ⟨i1, i2, i3, i4, i5, i6⟩ := hI
            have e137 : mm_E (e + 3) 170 137 [.inr (.inr (some 239)), .inl (((140 * x + k0 : Nat) : Int)), .inl 1] [] [] n I' L P = mm_E (e + 3) 170 184 [.inr (.inr (some 239)), .inl (((140 * x + k0 : Nat) : Int)), .inl 1] [] [] n I' L P := by
              simp only [kX12_clause]
            rw [e137]
            have hf := q4.tr (i6.zl k0) (Nat.le_refl _) (Nat.le_refl _)
            refine sq_mono (pm (e + 3) I' L (c0 + t1.length) k0 (by omega) ⟨i6.zm r1, i1, i2, i3, i6.tx r5, i4, by omega⟩ (by rw [i6.1 244 (by decide) (by decide) (by decide) (by decide)]; exact q2) hk0) (fun K hK => zpM_then (by omega) hf (by rw [i6.1 245 (by decide) (by decide) (by decide) (by decide)]; exact q3) i5 hK)
      · obtain ⟨o1, og, os, oc, om⟩ := zJ_S (T := T) (i := j3) (r := 6) (dp := 0) hL ha hx hS (by decide) b3'
        have m144 : ∀ (e k0 p : Nat) (I L : mm_I), sp_M n P → I 239 4 = (p : Int) → mm_E e 170 144 [.inr (.inr (some 239)), .inl (((140 * x + k0 : Nat) : Int)), .inl 0] [] [] n I L P = mm_E e 170 184 [.inr (.inr (some 239)), .inl (((140 * x + k0 : Nat) : Int)), .inl 0] [] [] n I L P := by
          intro e k0 p I L hM hw
          have ok := hM.ok
          have cp : ¬ (p : Int) = -1 := by omega
          simp (disch := (first | assumption | omega | exact nb_ix (by omega) (by assumption) (by omega) (by omega) | exact nb_ix (by omega) rfl (by omega) (by omega) | exact nb_ok (by omega) rfl | decide)) only [kX12_clause, hw, ↓if_pos, ↓if_neg]
        cases o1 with
        | inl p =>
          refine ⟨.inl p, og, fun d I L c0 hd hz h2 h3 h4 => ?_, fun d I L c0 k0 hd hm h44 hk0 => ?_⟩
          · obtain ⟨e, rfl⟩ : ∃ e, d = e + 4 := ⟨d - 4, by omega⟩
            rw [hCp e I L hz h2, if_neg ht]
            refine sq_kr (oc (e + 3) (by omega) (mm_ui I 1 2 (j3 : Int)) L c0 (hz.up (by decide) (by decide)) (by rw [nb_ui_s]) (by rw [nb_ui_a (by omega)]; exact h3) (by omega)) (fun I' hI => ?_)
            have e0 : zr (Sum.inl p : zo) = 0 := rfl
            simp (disch := (first | assumption | omega | exact nb_ix (by omega) (by assumption) (by omega) (by omega) | exact nb_ix (by omega) rfl (by omega) (by omega) | exact nb_ok (by omega) rfl | decide)) only [kX4_readClause, e0, ↓if_pos, ↓if_neg, nb_add, nb_sub, nb_mul, Int.toNat_natCast, mm_kr_s, mm_kv_s, if_pos, if_neg, sq_tn, Int.toNat_zero, Int.reduceToNat, Int.reduceNeg, Nat.reduceAdd, Int.reduceAdd, Int.reduceEq, Int.reduceLT, Int.reduceLE, Int.zero_add, nb_ui_s, nb_ui_k, nb_ui_a, sp_min, sp_max, sp_bits]
            exact sq_ret ⟨hI.1, ((zcF.refl a I).at ha).tr hI.2⟩
          · obtain ⟨e, rfl⟩ : ∃ e, d = e + 4 := ⟨d - 4, by omega⟩
            rw [hMp e I L c0 k0 hm h44 hk0, if_neg ht]
            obtain ⟨q1, q2, q3, q4⟩ := zm_preJ (j2 := j2) (j3 := j3) hm h44 hk0 (by omega)
            generalize mm_ui (mm_ui (mm_ui I 239 3 ((j2 + 1 : Nat) : Int)) 245 (140 * x + k0) (c0 : Int)) 239 3 (j3 : Int) = J at q1 q2 q3 q4 ⊢
            obtain ⟨r1, r2, r3, r4, r5, r6, r7⟩ := q1
            refine sq_kv (om (e + 3) (by omega) J L c0 r1 r2 r3 r4 r5 r6 r7) (fun I' hI => ?_)
            obtain ⟨i1, i2, t, c', i3, i4, i5, i6, i7, i8⟩ := hI
            have hM := r1.1
            rw [m144 (e + 3) k0 p I' L hM i1]
            exact zm_end (c := c') (t := t) hM hx (q4.tr (i2.zl k0) (Nat.le_refl _) (Nat.le_refl _)) hm.2.2.2.2.1 i1 i4 (by rw [i2.1 244 (by decide) (by decide) (by decide) (by decide)]; exact q2) hk0 i3 (by omega) (by omega)
        | inr w =>
          obtain ⟨j4, t1⟩ := w
          obtain ⟨g1, g2, g3⟩ := og
          have g1' : j3 < j4 := g1
          have g2' : j4 ≤ S := g2
          have g3' : t1.length + j3 ≤ j4 := g3
          obtain ⟨j5, hk5⟩ := zk_ex (T := T) (S := S) (S - j4) j4 rfl g2
          have b5 := hk5.1
          have b5' := hk5.2.1
          by_cases hq : zq (zp T S j5) = -1
          · refine ⟨.inr (j5, ([], t1)), ⟨by show i + 2 < j5; omega, b5', sx_okc_of (Or.inl rfl) os, by show 0 + t1.length + i ≤ j5; omega⟩, fun d I L c0 hd hz h2 h3 h4 => ?_, fun d I L c0 k0 hd hm h44 hk0 => ?_⟩
            · obtain ⟨e, rfl⟩ : ∃ e, d = e + 4 := ⟨d - 4, by omega⟩
              rw [hCp e I L hz h2, if_neg ht]
              refine sq_kr (oc (e + 3) (by omega) (mm_ui I 1 2 (j3 : Int)) L c0 (hz.up (by decide) (by decide)) (by rw [nb_ui_s]) (by rw [nb_ui_a (by omega)]; exact h3) (by omega)) (fun I' hI => ?_)
              obtain ⟨i1, i2, i3, i4, i5⟩ := hI
              have e0 : zr (Sum.inr (j4, t1) : zo) = 1 := rfl
              have hf := ((zcF.refl a I).at (z := (j3 : Int)) ha).tr i5
              have hn := hz.1
              have i2' : I' a 1 = ((c0 + t1.length : Nat) : Int) := i2
              have p5 := zc_peek (d := e + 2) (L := L) (hf.zc ha hz) hk5 i1
              have hcm := zc_cmp (d := e + 2) (n := n) (P := P) (L := L) (I := mm_ui I' 1 2 (j5 : Int)) (zp T S j5)
              rw [hq] at hcm
              have hpt := zc_put (d := e + 2) (n := n) (L := L) (P := P) (I := mm_ui I' 1 2 (j5 : Int)) (c0 := c0 + t1.length) (s := 13) (v := 0) hL (by rw [nb_ui_a (by omega)]; exact i2') (by omega) (by omega) (by omega)
              have e5 : (13 : Int) + 16 * 0 = 13 := by decide
              rw [e5] at hpt
              simp (disch := (first | assumption | omega | exact nb_ix (by omega) (by assumption) (by omega) (by omega) | exact nb_ix (by omega) rfl (by omega) (by omega) | exact nb_ok (by omega) rfl | decide)) only [kX4_readClause, e0, p5, hcm, hpt, ↓if_pos, ↓if_neg, nb_add, nb_sub, nb_mul, Int.toNat_natCast, mm_kr_s, mm_kv_s, if_pos, if_neg, sq_tn, Int.toNat_zero, Int.reduceToNat, Int.reduceNeg, Nat.reduceAdd, Int.reduceAdd, Int.reduceEq, Int.reduceLT, Int.reduceLE, Int.zero_add, nb_ui_s, nb_ui_k, nb_ui_a, sp_min, sp_max, sp_bits]
              refine sq_ret ⟨?_, ⟨c0 + t1.length + 1, ?_, ?_, ?_⟩, fun k hk => ?_, ((hf.at ha).sg ha).ln ha⟩
              · rw [nb_ui_a (by omega), nb_ui_a (by omega), nb_ui_s]
              · rw [nb_ui_s]
              · unfold zpc
                rw [if_pos rfl]
                refine ⟨sx_at_keep t1 c0 i3 (fun k _ hk => ?_), ?_, rfl⟩
                · have hk' : k < c0 + t1.length := hk
                  rw [nb_ui_a (by omega), nb_ui_k (by omega), nb_ui_a (by omega)]
                · show mm_ui (mm_ui (mm_ui I' 1 2 (j5 : Int)) (a + 1) (c0 + t1.length) 13) a 1 ((c0 + t1.length + 1 : Nat) : Int) (a + 1) (c0 + t1.length) = 13
                  rw [nb_ui_a (by omega), nb_ui_s]
              · show c0 + t1.length + 1 ≤ j5
                omega
              · rw [nb_ui_a (by omega), nb_ui_k (by omega), nb_ui_a (by omega), i4 k hk, nb_ui_a (by omega)]
            · obtain ⟨e, rfl⟩ : ∃ e, d = e + 4 := ⟨d - 4, by omega⟩
              rw [hMp e I L c0 k0 hm h44 hk0, if_neg ht]
              obtain ⟨q1, q2, q3, q4⟩ := zm_preJ (j2 := j2) (j3 := j3) hm h44 hk0 (by omega)
              generalize mm_ui (mm_ui (mm_ui I 239 3 ((j2 + 1 : Nat) : Int)) 245 (140 * x + k0) (c0 : Int)) 239 3 (j3 : Int) = J at q1 q2 q3 q4 ⊢
              obtain ⟨r1, r2, r3, r4, r5, r6, r7⟩ := q1
              refine sq_kv (om (e + 3) (by omega) J L c0 r1 r2 r3 r4 r5 r6 r7) (fun I' hI => ?_)
              obtain ⟨i1, i2, i3, i4, i5, i6⟩ := hI
              have ok := r1.1.ok
              have hM := r1.1
              have l5 := zm_look (d := e + 1) (L := L) (i6.zm r1) hk5 i1
              have hsg := zm_sgn (d := e + 2) (n := n) (P := P) (L := L) (I := mm_ui I' 239 3 (j5 : Int)) (zp T S j5)
              rw [if_pos hq] at hsg
              have hf := q4.tr (i6.zl k0) (Nat.le_refl _) (Nat.le_refl _)
              have hf2 := hf.tr (((zmF.refl x c0 I').at (k := 3) (z := (j5 : Int)) (by omega)).zl k0) (Nat.le_refl _) (Nat.le_refl _)
              have e144 : mm_E (e + 3) 170 144 [.inr (.inr (some 239)), .inl (((140 * x + k0 : Nat) : Int)), .inl 0] [] [] n I' L P = mm_E (e + 3) 170 184 [.inr (.inr (some 239)), .inl (((140 * x + k0 : Nat) : Int)), .inl 0] [] [] n (mm_ui I' 239 3 (j5 : Int)) L P := by
                simp (disch := (first | assumption | omega | exact nb_ix (by omega) (by assumption) (by omega) (by omega) | exact nb_ix (by omega) rfl (by omega) (by omega) | exact nb_ok (by omega) rfl | decide)) only [kX12_clause, i2, l5, hsg, mm_kr_s, ↓if_pos, ↓if_neg]
              have i4' : I' 243 x = ((c0 + t1.length : Nat) : Int) := i4
              have k44 : I' 244 x = (k0 : Int) := by rw [i6.1 244 (by decide) (by decide) (by decide) (by decide)]; exact q2
              have k45 : I' 245 (140 * x + k0) = (c0 : Int) := by rw [i6.1 245 (by decide) (by decide) (by decide) (by decide)]; exact q3
              rw [e144, zm_fin (c := c0 + t1.length) hM hx (by rw [nb_ui_k (by decide)]; exact i6.tx r5) (by rw [nb_ui_a (by decide)]; exact i4') (by rw [nb_ui_a (by decide)]; exact k44) hk0 (Or.inl rfl)]
              refine sq_ret ⟨?_, ?_, ?_, ?_, ?_, ?_, ?_, ?_, trivial, ?_, ((hf2.up (b := 246) (by omega) (by omega) (by omega)).up (b := 247) (by omega) (by omega) (by omega)).cn⟩
              · rw [nb_ui_a (by decide), nb_ui_a (by decide), nb_ui_a (by decide), nb_ui_s]
              · rw [nb_ui_a (by decide), nb_ui_a (by decide), nb_ui_a (by decide), nb_ui_k (by decide)]; exact i2
              · rw [nb_ui_a (by decide), nb_ui_a (by decide), nb_ui_a (by decide), nb_ui_k (by decide)]; exact i3
              · rw [nb_ui_a (by decide), nb_ui_a (by decide), nb_ui_a (by decide), nb_ui_a (by decide)]; exact i4'
              · rw [nb_ui_s]
              · rw [nb_ui_a (by decide), nb_ui_a (by decide), nb_ui_a (by decide), nb_ui_a (by decide)]; exact k45
              · rw [nb_ui_a (by decide), nb_ui_a (by decide), nb_ui_s, nb_ui_a (by decide)]; exact k45
              · rw [nb_ui_a (by decide), nb_ui_s]; rfl
              · exact sx_mt_keep (by rw [nb_ui_r (by decide), nb_ui_r (by decide), nb_ui_r (by decide), nb_ui_r (by decide)]) (by rw [nb_ui_r (by decide), nb_ui_r (by decide), nb_ui_r (by decide), nb_ui_r (by decide)]) _ _ i5
          · obtain ⟨o2, pg, ps, pc, pm⟩ := zJ_B (T := T) (i := j5) (r := 6) (dp := 0) hL ha hx hS (by decide) b5'
            have hC2 : ∀ (e : Nat) (I' L : mm_I), zc n P I' T S → I' 1 2 = (j4 : Int) → mm_E (e + 3) 29 53 [.inr (.inr (some 1)), .inr (.inr (some a)), .inl (zp T S j3), .inl 1, mm_junk] [] [.inl 1] n I' L P = mm_kr (e + 3) 29 85 [.inr (.inr (some 1)), .inr (.inr (some a)), .inl (zp T S j3), .inl 1, mm_junk] [] [] n (mm_rn (e + 3) 30 [.inr (.inr (some 1)), .inr (.inr (some a)), .inl (((0 : Nat) : Int)), .inl 1] n (mm_ui I' 1 2 (j5 : Int)) L P) := by
              intro e I' L hz h2
              have hn := hz.1
              have p5 := zc_peek (d := e + 2) (L := L) hz hk5 h2
              have hcm := zc_cmp (d := e + 2) (n := n) (P := P) (L := L) (I := mm_ui I' 1 2 (j5 : Int)) (zp T S j5)
              have e6 : ((0 : Nat) : Int) = 0 := rfl
              simp (disch := (first | assumption | omega | exact nb_ix (by omega) (by assumption) (by omega) (by omega) | exact nb_ix (by omega) rfl (by omega) (by omega) | exact nb_ok (by omega) rfl | decide)) only [kX4_readClause, p5, hcm, e6, ↓if_pos, ↓if_neg, nb_add, nb_sub, nb_mul, Int.toNat_natCast, mm_kr_s, mm_kv_s, if_pos, if_neg, sq_tn, Int.toNat_zero, Int.reduceToNat, Int.reduceNeg, Nat.reduceAdd, Int.reduceAdd, Int.reduceEq, Int.reduceLT, Int.reduceLE, Int.zero_add, nb_ui_s, nb_ui_k, nb_ui_a, sp_min, sp_max, sp_bits]
              done
            have hM2 : ∀ (e k0 c : Nat) (I' L : mm_I) (G : mm_I → Prop), 42 ≤ e + 3 → zmh n P x T S 0 j4 c I' → (∀ K, zmP x 0 j5 c S (mm_ui I' 239 3 (j5 : Int)) K o2 → sq_X none n L P G (mm_E (e + 3) 170 184 [.inr (.inr (some 239)), .inl (((140 * x + k0 : Nat) : Int)), .inl 1] [] [] n K L P)) → sq_X none n L P G (mm_E (e + 3) 170 144 [.inr (.inr (some 239)), .inl (((140 * x + k0 : Nat) : Int)), .inl 0] [] [] n I' L P) := by
              intro e k0 c I' L G he hm hg
              obtain ⟨r1, r2, r3, r4, r5, r6, r7⟩ := hm
              have ok := r1.1.ok
              have l5 := zm_look (d := e + 1) (L := L) r1 hk5 r2
              have hsg := zm_sgn (d := e + 2) (n := n) (P := P) (L := L) (I := mm_ui I' 239 3 (j5 : Int)) (zp T S j5)
              rw [if_neg hq] at hsg
              obtain ⟨I1, I2, f1, f2, f3⟩ := pm (e + 3) (by omega) (mm_ui I' 239 3 (j5 : Int)) L c ⟨r1.up (by decide) (by decide), by rw [nb_ui_s], by rw [nb_ui_k (by decide)]; exact r3, by rw [nb_ui_k (by decide)]; exact r4, by rw [nb_ui_k (by decide)]; exact r5, by rw [nb_ui_a (by decide)]; exact r6, by omega⟩
              simp (disch := (first | assumption | omega | exact nb_ix (by omega) (by assumption) (by omega) (by omega) | exact nb_ix (by omega) rfl (by omega) (by omega) | exact nb_ok (by omega) rfl | decide)) only [kX12_clause, r3, l5, hsg, f1, f2, ↓if_pos, ↓if_neg, nb_add, nb_sub, nb_mul, Int.toNat_natCast, mm_kr_s, mm_kv_s, if_pos, if_neg, sq_tn, Int.toNat_zero, Int.reduceToNat, Int.reduceNeg, Nat.reduceAdd, Int.reduceAdd, Int.reduceEq, Int.reduceLT, Int.reduceLE, Int.zero_add, nb_ui_s, nb_ui_k, nb_ui_a, sp_min, sp_max, sp_bits]
              exact sq_kv f3 hg
            cases o2 with
            | inl p =>
              refine ⟨.inl p, pg, fun d I L c0 hd hz h2 h3 h4 => ?_, fun d I L c0 k0 hd hm h44 hk0 => ?_⟩
              · obtain ⟨e, rfl⟩ : ∃ e, d = e + 4 := ⟨d - 4, by omega⟩
                rw [hCp e I L hz h2, if_neg ht]
                refine sq_kr (oc (e + 3) (by omega) (mm_ui I 1 2 (j3 : Int)) L c0 (hz.up (by decide) (by decide)) (by rw [nb_ui_s]) (by rw [nb_ui_a (by omega)]; exact h3) (by omega)) (fun I' hI => ?_)
                obtain ⟨i1, i2, i3, i4, i5⟩ := hI
                have e0 : zr (Sum.inr (j4, t1) : zo) = 1 := rfl
                have hf := ((zcF.refl a I).at (z := (j3 : Int)) ha).tr i5
                rw [e0, hC2 e I' L (hf.zc ha hz) i1]
                refine sq_kr (pc (e + 3) (by omega) (mm_ui I' 1 2 (j5 : Int)) L (c0 + t1.length) ((hf.zc ha hz).up (by decide) (by decide)) (by rw [nb_ui_s]) (by rw [nb_ui_a (by omega)]; exact i2) (by omega)) (fun K hK => ?_)
                have e7 : zr (Sum.inl p : zo) = 0 := rfl
                simp (disch := (first | assumption | omega | exact nb_ix (by omega) (by assumption) (by omega) (by omega) | exact nb_ix (by omega) rfl (by omega) (by omega) | exact nb_ok (by omega) rfl | decide)) only [kX4_readClause, e7, ↓if_pos, ↓if_neg, nb_add, nb_sub, nb_mul, Int.toNat_natCast, mm_kr_s, mm_kv_s, if_pos, if_neg, sq_tn, Int.toNat_zero, Int.reduceToNat, Int.reduceNeg, Nat.reduceAdd, Int.reduceAdd, Int.reduceEq, Int.reduceLT, Int.reduceLE, Int.zero_add, nb_ui_s, nb_ui_k, nb_ui_a, sp_min, sp_max, sp_bits]
                exact sq_ret ⟨hK.1, (hf.at ha).tr hK.2⟩
              · obtain ⟨e, rfl⟩ : ∃ e, d = e + 4 := ⟨d - 4, by omega⟩
                rw [hMp e I L c0 k0 hm h44 hk0, if_neg ht]
                obtain ⟨q1, q2, q3, q4⟩ := zm_preJ (j2 := j2) (j3 := j3) hm h44 hk0 (by omega)
                generalize mm_ui (mm_ui (mm_ui I 239 3 ((j2 + 1 : Nat) : Int)) 245 (140 * x + k0) (c0 : Int)) 239 3 (j3 : Int) = J at q1 q2 q3 q4 ⊢
                obtain ⟨r1, r2, r3, r4, r5, r6, r7⟩ := q1
                refine sq_kv (om (e + 3) (by omega) J L c0 r1 r2 r3 r4 r5 r6 r7) (fun I' hI => ?_)
                obtain ⟨i1, i2, i3, i4, i5, i6⟩ := hI
                have hM := r1.1
                refine hM2 e k0 (c0 + t1.length) I' L _ (by omega) ⟨i6.zm r1, i1, i2, i3, i6.tx r5, i4, by omega⟩ (fun K hK => ?_)
                obtain ⟨s1, s2, t, c', s3, s4, s5, s6, s7, s8⟩ := hK
                have hf := q4.tr (i6.zl k0) (Nat.le_refl _) (Nat.le_refl _)
                have hf2 := (hf.tr (((zmF.refl x c0 I').at (k := 3) (z := (j5 : Int)) (by omega)).zl k0) (Nat.le_refl _) (Nat.le_refl _)).tr (s2.zl k0) (by omega) (Nat.le_refl _)
                exact zm_end (c := c') (t := t) hM hx hf2 hm.2.2.2.2.1 s1 s4 (by rw [s2.1 244 (by decide) (by decide) (by decide) (by decide), nb_ui_a (by decide), i6.1 244 (by decide) (by decide) (by decide) (by decide)]; exact q2) hk0 s3 (by omega) (by omega)
            | inr w =>
              obtain ⟨j6, t2⟩ := w
              obtain ⟨u1, u2, u3⟩ := pg
              have u1' : j5 < j6 := u1
              have u2' : j6 ≤ S := u2
              have u3' : t2.length + j5 ≤ j6 := u3
              obtain ⟨o3, vg, vs, vc, vm⟩ := zJ_after (T := T) (i := j6) hL ha hx hS u2
              refine ⟨zjc (t1 ++ t2) o3, ?_, fun d I L c0 hd hz h2 h3 h4 => ?_, fun d I L c0 k0 hd hm h44 hk0 => ?_⟩
              · cases o3 with
                | inl p => exact vg
                | inr w =>
                  obtain ⟨j7, t3⟩ := w
                  obtain ⟨w1, w2, w3⟩ := vg
                  have w1' : j6 < j7 := w1
                  have w3' : t3.length + j6 ≤ j7 := w3
                  refine ⟨by show i + 2 < j7; omega, w2, sx_okc_of (Or.inr (fun l hl => ?_)) vs, by show (t1 ++ t2).length + t3.length + i ≤ j7; simp; omega⟩
                  obtain ⟨y1, hy1⟩ := os l hl
                  obtain ⟨y, _, hy⟩ := ps l hl y1
                  exact ⟨y, by rw [sx_ev_app t1 [] [y1] (hy1 [] (by simp))]; exact hy [] (by simp)⟩
              · obtain ⟨e, rfl⟩ : ∃ e, d = e + 4 := ⟨d - 4, by omega⟩
                rw [hCp e I L hz h2, if_neg ht]
                refine sq_kr (oc (e + 3) (by omega) (mm_ui I 1 2 (j3 : Int)) L c0 (hz.up (by decide) (by decide)) (by rw [nb_ui_s]) (by rw [nb_ui_a (by omega)]; exact h3) (by omega)) (fun I' hI => ?_)
                obtain ⟨i1, i2, i3, i4, i5⟩ := hI
                have e0 : zr (Sum.inr (j4, t1) : zo) = 1 := rfl
                have hf := ((zcF.refl a I).at (z := (j3 : Int)) ha).tr i5
                rw [e0, hC2 e I' L (hf.zc ha hz) i1]
                refine sq_kr (pc (e + 3) (by omega) (mm_ui I' 1 2 (j5 : Int)) L (c0 + t1.length) ((hf.zc ha hz).up (by decide) (by decide)) (by rw [nb_ui_s]) (by rw [nb_ui_a (by omega)]; exact i2) (by omega)) (fun K hK => ?_)
                obtain ⟨s1, s2, s3, s4, s5⟩ := hK
                have e7 : zr (Sum.inr (j6, t2) : zo) = 1 := rfl
                have hf2 := (hf.at (z := (j5 : Int)) ha).tr s5
                have hn := hz.1
                have e85 : mm_E (e + 3) 29 85 [.inr (.inr (some 1)), .inr (.inr (some a)), .inl (zp T S j3), .inl 1, mm_junk] [] [.inl 1] n K L P = mm_E (e + 3) 29 88 [.inr (.inr (some 1)), .inr (.inr (some a)), .inl (zp T S j3), .inl 1, mm_junk] [] [] n K L P := by
                  simp (disch := (first | assumption | omega | exact nb_ix (by omega) (by assumption) (by omega) (by omega) | exact nb_ix (by omega) rfl (by omega) (by omega) | exact nb_ok (by omega) rfl | decide)) only [kX4_readClause, ↓if_pos, ↓if_neg, nb_add, nb_sub, nb_mul, Int.toNat_natCast, mm_kr_s, mm_kv_s, if_pos, if_neg, sq_tn, Int.toNat_zero, Int.reduceToNat, Int.reduceNeg, Nat.reduceAdd, Int.reduceAdd, Int.reduceEq, Int.reduceLT, Int.reduceLE, Int.zero_add, nb_ui_s, nb_ui_k, nb_ui_a, sp_min, sp_max, sp_bits]
                have e9 : c0 + (t1 ++ t2).length = c0 + t1.length + t2.length := by simp; omega
                rw [zrC_zjc, e7, e85]
                refine sq_mono (vc (e + 3) _ _ _ K L (c0 + t1.length + t2.length) (by omega) (hf2.zc ha hz) s1 s2 (by omega)) (fun K2 hK2 => zpC_then (S := S) (j := j6) ?_ (by omega) vg hf2 (fun k hk => ?_) ?_ (by rw [e9]; exact hK2))
                · have := sx_S_ne os (by decide)
                  intro e8
                  exact this (List.append_eq_nil_iff.mp e8).1
                · rw [s4 k (by omega), nb_ui_a (by omega), i4 k hk, nb_ui_a (by omega)]
                · refine sx_at_app t1 c0 (sx_at_keep t1 c0 i3 (fun k _ hk => ?_)) s3
                  rw [s4 k hk, nb_ui_a (by omega)]
              · obtain ⟨e, rfl⟩ : ∃ e, d = e + 4 := ⟨d - 4, by omega⟩
                rw [hMp e I L c0 k0 hm h44 hk0, if_neg ht]
                obtain ⟨q1, q2, q3, q4⟩ := zm_preJ (j2 := j2) (j3 := j3) hm h44 hk0 (by omega)
                generalize mm_ui (mm_ui (mm_ui I 239 3 ((j2 + 1 : Nat) : Int)) 245 (140 * x + k0) (c0 : Int)) 239 3 (j3 : Int) = J at q1 q2 q3 q4 ⊢
                obtain ⟨r1, r2, r3, r4, r5, r6, r7⟩ := q1
                refine sq_kv (om (e + 3) (by omega) J L c0 r1 r2 r3 r4 r5 r6 r7) (fun I' hI => ?_)
                obtain ⟨i1, i2, i3, i4, i5, i6⟩ := hI
                refine hM2 e k0 (c0 + t1.length) I' L _ (by omega) ⟨i6.zm r1, i1, i2, i3, i6.tx r5, i4, by omega⟩ (fun K hK => ?_)
                obtain ⟨s1, s2, s3, s4, s5, s6⟩ := hK
                have hf := q4.tr (i6.zl k0) (Nat.le_refl _) (Nat.le_refl _)
                have hf1 := hf.tr (((zmF.refl x c0 I').at (k := 3) (z := (j5 : Int)) (by omega)).zl k0) (Nat.le_refl _) (Nat.le_refl _)
                have hf2 := hf1.tr (s6.zl k0) (by omega) (Nat.le_refl _)
                have e9 : c0 + (t1 ++ t2).length = c0 + t1.length + t2.length := by simp; omega
                refine sq_mono (vm (e + 3) K L (c0 + t1.length + t2.length) k0 (by omega) ⟨s6.zm ((i6.zm r1).up (by decide) (by decide)), s1, s2, s3, s6.tx (by rw [nb_ui_k (by decide)]; exact i6.tx r5), s4, by omega⟩ (by rw [s6.1 244 (by decide) (by decide) (by decide) (by decide), nb_ui_a (by decide), i6.1 244 (by decide) (by decide) (by decide) (by decide)]; exact q2) hk0) (fun K2 hK2 => zpM_then ?_ hf2 ?_ ?_ (by rw [e9]; exact hK2))
                · rw [e9]; omega
                · rw [s6.1 245 (by decide) (by decide) (by decide) (by decide), nb_ui_a (by decide), i6.1 245 (by decide) (by decide) (by decide) (by decide)]; exact q3
                · refine sx_mt_app t1 _ (sx_mt_kp t1 _ i5 (fun k _ hk => ?_)) ?_
                  · have hk' : k < 520 * x + c0 + t1.length := hk
                    have := s6.2.2.2 k (by omega)
                    rw [this.1, this.2, nb_ui_a (by decide), nb_ui_a (by decide)]
                    exact ⟨rfl, rfl⟩
                  · rw [Nat.add_assoc]; exact s5
    · refine ⟨.inl j2, b2', fun d I L c0 hd hz h2 h3 h4 => ?_, fun d I L c0 k0 hd hm h44 hk0 => ?_⟩
      · obtain ⟨e, rfl⟩ : ∃ e, d = e + 4 := ⟨d - 4, by omega⟩
        have hn := hz.1
        have p1 := zc_pass1 (d := e + 1) (L := L) (c := 121) hz hk1 h2 hc1
        have p2 := zc_pass0 (d := e + 1) (n := n) (L := L) (P := P) (I := mm_ui I 1 2 ((j1 + 1 : Nat) : Int)) (c := 58) (hz.up (by decide) (by decide)) hk2 (by rw [nb_ui_s]) hc2
        rw [nb_ui_2] at p2
        rw [eX4_readClause]
        simp (disch := (first | assumption | omega | exact nb_ix (by omega) (by assumption) (by omega) (by omega) | exact nb_ix (by omega) rfl (by omega) (by omega) | exact nb_ok (by omega) rfl | decide)) only [kX4_readClause, p1, p2, ↓if_pos, ↓if_neg, nb_add, nb_sub, nb_mul, Int.toNat_natCast, mm_kr_s, mm_kv_s, if_pos, if_neg, sq_tn, Int.toNat_zero, Int.reduceToNat, Int.reduceNeg, Nat.reduceAdd, Int.reduceAdd, Int.reduceEq, Int.reduceLT, Int.reduceLE, Int.zero_add, nb_ui_s, nb_ui_k, nb_ui_a, sp_min, sp_max, sp_bits]
        exact sq_ret ⟨by rw [nb_ui_s], (zcF.refl a I).at ha⟩
      · obtain ⟨e, rfl⟩ : ∃ e, d = e + 4 := ⟨d - 4, by omega⟩
        obtain ⟨hz, h2, hw, h5, hx14, h6, h7⟩ := hm
        have ok := hz.1.ok
        have l1 := zm_look (d := e + 1) (L := L) hz hk1 h2
        have l2 := zm_look (d := e + 1) (n := n) (L := L) (P := P) (I := mm_ui I 239 3 ((j1 + 1 : Nat) : Int)) (hz.up (by decide) (by decide)) hk2 (by rw [nb_ui_s])
        rw [nb_ui_2] at l2
        have hb := zm_bad (d := e + 2) (n := n) (L := L) (P := P) (I := mm_ui I 239 3 (j2 : Int)) (p := j2) hz.1 (by rw [nb_ui_k (by decide)]; exact hw) (by rw [nb_ui_s])
        obtain ⟨hn, g1, g6, g7, g8, g9, g10, g11, g12, g15, g16, g17⟩ := hz.1
        have e1 : (j1 : Int) + 1 = ((j1 + 1 : Nat) : Int) := by omega
        have e2 : (j2 : Int) + 1 = ((j2 + 1 : Nat) : Int) := by omega
        have e3 : 140 * (x : Int) + (k0 : Int) = ((140 * x + k0 : Nat) : Int) := by omega
        have cp : ¬ (j2 : Int) = -1 := by omega
        rw [eX12_clause]
        simp (disch := (first | assumption | omega | exact nb_ix (by omega) (by assumption) (by omega) (by omega) | exact nb_ix (by omega) rfl (by omega) (by omega) | exact nb_ok (by omega) rfl | decide)) only [kX12_clause, g8, g9, g10, hx14, h44, e3, hw, l1, hc1, e1, nb_ui_2, l2, e2, hb, ↓if_pos, ↓if_neg, nb_add, nb_sub, nb_mul, Int.toNat_natCast, mm_kr_s, mm_kv_s, if_pos, if_neg, sq_tn, Int.toNat_zero, Int.reduceToNat, Int.reduceNeg, Nat.reduceAdd, Int.reduceAdd, Int.reduceEq, Int.reduceLT, Int.reduceLE, Int.zero_add, nb_ui_s, nb_ui_k, nb_ui_a, sp_min, sp_max, sp_bits]
        refine sq_ret ⟨?_, ?_, j2 + 1, c0, k0, ?_, ?_, ?_, by omega, by omega, by omega⟩
        · rw [nb_ui_k (by decide), nb_ui_s]
        · exact ((((zmF.refl x c0 I).at (by omega)).at (by omega)).at (by omega)).zl k0
        · rw [nb_ui_s]
        · rw [nb_ui_a (by decide), nb_ui_a (by decide), nb_ui_a (by decide)]; exact h6
        · rw [nb_ui_a (by decide), nb_ui_a (by decide), nb_ui_a (by decide)]; exact h44
  · refine ⟨.inl j1, b1', fun d I L c0 hd hz h2 h3 h4 => ?_, fun d I L c0 k0 hd hm h44 hk0 => ?_⟩
    · obtain ⟨e, rfl⟩ : ∃ e, d = e + 4 := ⟨d - 4, by omega⟩
      have hn := hz.1
      have p1 := zc_pass0 (d := e + 1) (L := L) (c := 121) hz hk1 h2 hc1
      rw [eX4_readClause]
      simp (disch := (first | assumption | omega | exact nb_ix (by omega) (by assumption) (by omega) (by omega) | exact nb_ix (by omega) rfl (by omega) (by omega) | exact nb_ok (by omega) rfl | decide)) only [kX4_readClause, p1, ↓if_pos, ↓if_neg, nb_add, nb_sub, nb_mul, Int.toNat_natCast, mm_kr_s, mm_kv_s, if_pos, if_neg, sq_tn, Int.toNat_zero, Int.reduceToNat, Int.reduceNeg, Nat.reduceAdd, Int.reduceAdd, Int.reduceEq, Int.reduceLT, Int.reduceLE, Int.zero_add, nb_ui_s, nb_ui_k, nb_ui_a, sp_min, sp_max, sp_bits]
      exact sq_ret ⟨by rw [nb_ui_s], (zcF.refl a I).at ha⟩
    · obtain ⟨e, rfl⟩ : ∃ e, d = e + 4 := ⟨d - 4, by omega⟩
      obtain ⟨hz, h2, hw, h5, hx14, h6, h7⟩ := hm
      have ok := hz.1.ok
      have l1 := zm_look (d := e + 1) (L := L) hz hk1 h2
      have hb := zm_bad (d := e + 2) (n := n) (L := L) (P := P) (I := mm_ui I 239 3 (j1 : Int)) (p := j1) hz.1 (by rw [nb_ui_k (by decide)]; exact hw) (by rw [nb_ui_s])
      obtain ⟨hn, g1, g6, g7, g8, g9, g10, g11, g12, g15, g16, g17⟩ := hz.1
      have e1 : (j1 : Int) + 1 = ((j1 + 1 : Nat) : Int) := by omega
      have e2 : ((j1 + 1 : Nat) : Int) + 1 = ((j1 + 2 : Nat) : Int) := by omega
      have e3 : 140 * (x : Int) + (k0 : Int) = ((140 * x + k0 : Nat) : Int) := by omega
      have cp : ¬ (j1 : Int) = -1 := by omega
      rw [eX12_clause]
      simp (disch := (first | assumption | omega | exact nb_ix (by omega) (by assumption) (by omega) (by omega) | exact nb_ix (by omega) rfl (by omega) (by omega) | exact nb_ok (by omega) rfl | decide)) only [kX12_clause, g8, g9, g10, hx14, h44, e3, hw, l1, e1, e2, hb, nb_ui_2, ↓if_pos, ↓if_neg, nb_add, nb_sub, nb_mul, Int.toNat_natCast, mm_kr_s, mm_kv_s, if_pos, if_neg, sq_tn, Int.toNat_zero, Int.reduceToNat, Int.reduceNeg, Nat.reduceAdd, Int.reduceAdd, Int.reduceEq, Int.reduceLT, Int.reduceLE, Int.zero_add, nb_ui_s, nb_ui_k, nb_ui_a, sp_min, sp_max, sp_bits]
      refine sq_ret ⟨?_, ?_, j1 + 2, c0, k0, ?_, ?_, ?_, by omega, by omega, by omega⟩
      · rw [nb_ui_k (by decide), nb_ui_s]
      · exact (((zmF.refl x c0 I).at (by omega)).at (by omega) |>.at (by omega)).zl k0
      · rw [nb_ui_s]
      · rw [nb_ui_a (by decide), nb_ui_a (by decide), nb_ui_a (by decide)]; exact h6
      · rw [nb_ui_a (by decide), nb_ui_a (by decide), nb_ui_a (by decide)]; exact h44
end CLJ
