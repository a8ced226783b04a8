/-! a law's text, both halves at once -/
abbrev zlo : Type := Sum Nat (List (List (Nat × Int) × List (Nat × Int)))
def zgL (S : Nat) : zlo → Prop
  | .inl p => p ≤ S
  | .inr q => q.length ≤ 130 ∧ ∀ t, t ∈ q → sx_okc t
def zjl (t : List (Nat × Int) × List (Nat × Int)) : zlo → zlo
  | .inl p => .inl p
  | .inr q => .inr (t :: q)
def zrL : zlo → Int
  | .inl _ => 0
  | .inr _ => 1
def zrM : zlo → Int
  | .inl p => (p : Int)
  | .inr _ => -1
def zpL (a c0 : Nat) (I I' : mm_I) : zlo → Prop
  | .inl p => I' 1 2 = (p : Int) ∧ zcF a I I'
  | .inr q => (∃ m : Nat, I' a 1 = (m : Int) ∧ m ≤ 256 ∧ sx_cl (I' (a + 1)) m c0 q) ∧ (∀ k, k < c0 → I' (a + 1) k = I (a + 1) k) ∧ zcF a I I'
def zpN (x c0 k0 : Nat) (I I' : mm_I) : zlo → Prop
  | .inl _ => zlF x c0 k0 I I'
  | .inr q => I' 244 x = ((k0 + q.length : Nat) : Int) ∧ sx_ml I' x k0 c0 q ∧ zlF x c0 k0 I I'
def zla (n : Nat) (P : mm_P) (a x : Nat) (T : Nat → Int) (S i m : Nat) : Prop := ∃ o : zlo, (match o with | .inl p => p ≤ S | .inr q => 2 * q.length + i ≤ S ∧ ∀ t, t ∈ q → sx_okc t) ∧
  (∀ (d q : Nat) (I L : mm_I) (c0 : Nat), m ≤ d → q ≤ i → zc n P I T S → I 1 2 = (i : Int) → I a 1 = (c0 : Int) → c0 ≤ i → sq_X (some (.inl (zrL o))) n L P (fun I' => zpL a c0 I I' o) (mm_E d 28 12 [.inr (.inr (some 1)), .inr (.inr (some a)), .inl ((q : Int))] [] [] n I L P)) ∧
  (∀ (d : Nat) (v : mm_V) (I L : mm_I) (c0 k0 : Nat), m ≤ d → zmh n P x T S 0 i c0 I → I 244 x = (k0 : Int) → 2 * k0 ≤ i → ∃ I1, mm_rn d 170 [.inr (.inr (some 239))] n I L P = some (none, n, I1, L, P) ∧ sq_X (some (.inl (zrM o))) n L P (fun I' => zpN x c0 k0 I I' o) (mm_E d 173 9 [.inr (.inr (some 239)), v] [] [] n I1 L P))
section LW
variable {n a x S i : Nat} {P : mm_P} {T : Nat → Int}
theorem zm_atEnd1 {d : Nat} {I L : mm_I} {p : Nat} (hM : sp_M n P) (hw : I 239 4 = (p : Int)) : mm_rn (d + 1) 172 [.inr (.inr (some 239))] n I L P = some (some (.inl (p : Int)), n, I, L, P) := by
  have ok := hM.ok
  have cp : ¬ (p : Int) = -1 := by omega
  rw [eX12_atEnd]
  simp (disch := (first | assumption | omega | exact nb_ix (by omega) (by assumption) (by omega) (by omega) | exact nb_ix (by omega) rfl (by omega) (by omega) | exact nb_ok (by omega) rfl | decide)) only [kX12_atEnd, hw, ↓if_pos, ↓if_neg, nb_add, nb_sub, nb_mul, Int.toNat_natCast, mm_kr_s, mm_kv_s, if_pos, if_neg, sq_tn, Int.toNat_zero, Int.reduceToNat, Int.reduceNeg, Nat.reduceAdd, Int.reduceAdd, Int.reduceEq, Int.reduceLT, Int.reduceLE, Int.zero_add, nb_ui_s, nb_ui_k, nb_ui_a, sp_min, sp_max, sp_bits]
  done
set_option maxHeartbeats 4000000 in
theorem zJ_law (hL : sp_L n P a) (ha : 20 ≤ a) (hx : x < 5) (hS : S ≤ 240) : ∀ (m i : Nat), S - i < m → i ≤ S → zla n P a x T S i 46 := by
  have okL := hL.ok
  intro m
  induction m with
  | zero => intro i h; omega
  | succ m ih =>
    intro i hm hi
    obtain ⟨o1, og, oc, om⟩ := zJ_clause (T := T) (i := i) hL ha hx hS hi
    have hC : ∀ (d q : Nat) (I L : mm_I), q ≤ i → zc n P I T S → mm_E d 28 12 [.inr (.inr (some 1)), .inr (.inr (some a)), .inl ((q : Int))] [] [] n I L P = mm_kr d 28 24 [.inr (.inr (some 1)), .inr (.inr (some a)), .inl ((q : Int))] [] [] n (mm_rn d 29 [.inr (.inr (some 1)), .inr (.inr (some a))] n I L P) := by
      intro d q I L hq hz
      have cq : ¬ (240 : Int) < (q : Int) := by omega
      rw [hX4_readLaw_12]
      simp (disch := (first | assumption | omega | exact nb_ix (by omega) (by assumption) (by omega) (by omega) | exact nb_ix (by omega) rfl (by omega) (by omega) | exact nb_ok (by omega) rfl | decide)) only [kX4_readLaw, ↓if_pos, ↓if_neg, nb_add, nb_sub, nb_mul, Int.toNat_natCast, mm_kr_s, mm_kv_s, if_pos, if_neg, sq_tn, Int.toNat_zero, Int.reduceToNat, Int.reduceNeg, Nat.reduceAdd, Int.reduceAdd, Int.reduceEq, Int.reduceLT, Int.reduceLE, Int.zero_add, nb_ui_s, nb_ui_k, nb_ui_a, sp_min, sp_max, sp_bits]
      done
    cases o1 with
    | inl p =>
      refine ⟨.inl p, og, fun d q I L c0 hd hq hz h2 h3 h4 => ?_, fun d v I L c0 k0 hd hm2 h44 hk0 => ?_⟩
      · rw [hC d q I L hq hz]
        refine sq_kr (oc d I L c0 hd hz h2 h3 h4) (fun I' hI => ?_)
        have e0 : zrC (Sum.inl p : zco) = 0 := rfl
        simp (disch := (first | assumption | omega | exact nb_ix (by omega) (by assumption) (by omega) (by omega) | exact nb_ix (by omega) rfl (by omega) (by omega) | exact nb_ok (by omega) rfl | decide)) only [kX4_readLaw, e0, ↓if_pos, ↓if_neg, nb_add, nb_sub, nb_mul, Int.toNat_natCast, mm_kr_s, mm_kv_s, if_pos, if_neg, sq_tn, Int.toNat_zero, Int.reduceToNat, Int.reduceNeg, Nat.reduceAdd, Int.reduceAdd, Int.reduceEq, Int.reduceLT, Int.reduceLE, Int.zero_add, nb_ui_s, nb_ui_k, nb_ui_a, sp_min, sp_max, sp_bits]
        exact sq_ret hI
      · obtain ⟨I1, e1, hI⟩ := om d I L c0 k0 hd hm2 h44 (by omega)
        refine ⟨I1, e1, ?_⟩
        obtain ⟨i1, i2, i3⟩ := hI
        have ok := hm2.1.1.ok
        have hM := hm2.1.1
        obtain ⟨e, rfl⟩ : ∃ e, d = e + 1 := ⟨d - 1, by omega⟩
        have he := zm_atEnd1 (d := e) (L := L) hM i1
        have cp : ¬ (p : Int) = -1 := by omega
        rw [hX12_readLaw_9]
        simp (disch := (first | assumption | omega | exact nb_ix (by omega) (by assumption) (by omega) (by omega) | exact nb_ix (by omega) rfl (by omega) (by omega) | exact nb_ok (by omega) rfl | decide)) only [kX12_readLaw, i1, he, ↓if_pos, ↓if_neg, nb_add, nb_sub, nb_mul, Int.toNat_natCast, mm_kr_s, mm_kv_s, if_pos, if_neg, sq_tn, Int.toNat_zero, Int.reduceToNat, Int.reduceNeg, Nat.reduceAdd, Int.reduceAdd, Int.reduceEq, Int.reduceLT, Int.reduceLE, Int.zero_add, nb_ui_s, nb_ui_k, nb_ui_a, sp_min, sp_max, sp_bits]
        exact sq_ret i2
    | inr w =>
      obtain ⟨j, t⟩ := w
      obtain ⟨g1, g2, g3, g4⟩ := og
      have g1' : i + 2 < j := g1
      have g2' : j ≤ S := g2
      have g4' : t.1.length + t.2.length + i ≤ j := g4
      obtain ⟨j2, hk⟩ := zk_ex (T := T) (S := S) (S - j) j rfl g2
      have b1 := hk.1
      have b2 := hk.2.1
      -- the class at the clause's end
      by_cases hc : zp T S j2 = 59
      · have hj2 := zp_S hc (by decide)
        obtain ⟨o2, pg, pc, pm⟩ := ih (j2 + 1) (by omega) (by omega)
        refine ⟨zjl t o2, ?_, fun d q I L c0 hd hq hz h2 h3 h4 => ?_, fun d v I L c0 k0 hd hm2 h44 hk0 => ?_⟩
        · cases o2 with
          | inl p => exact pg
          | inr q =>
            obtain ⟨u1, u2⟩ := pg
            refine ⟨by show 2 * (q.length + 1) + i ≤ S; omega, fun s hs => ?_⟩
            simp at hs
            rcases hs with e | e
            · rw [e]; exact g3
            · exact u2 s e
        · rw [hC d q I L hq hz]
          refine sq_kr (oc d I L c0 hd hz h2 h3 h4) (fun I' hI => ?_)
          obtain ⟨i1, ⟨m1, i2, i3, i4⟩, i5, i6⟩ := hI
          have i4' : m1 ≤ j := i4
          have e0 : zrC (Sum.inr (j, t) : zco) = 1 := rfl
          have hn := hz.1
          obtain ⟨e, rfl⟩ : ∃ e, d = e + 2 := ⟨d - 2, by omega⟩
          have p1 := zc_peek (d := e + 1) (L := L) (i6.zc ha hz) hk i1
          have p2 := zc_pass1 (d := e) (n := n) (L := L) (P := P) (I := mm_ui I' 1 2 (j2 : Int)) (c := 59) ((i6.zc ha hz).up (by decide) (by decide)) (zk_self hk) (by rw [nb_ui_s]) hc
          rw [nb_ui_2] at p2
          have e1 : (q : Int) + 1 = ((q + 1 : Nat) : Int) := by omega
          simp (disch := (first | assumption | omega | exact nb_ix (by omega) (by assumption) (by omega) (by omega) | exact nb_ix (by omega) rfl (by omega) (by omega) | exact nb_ok (by omega) rfl | decide)) only [kX4_readLaw, e0, p1, hc, p2, e1, ↓if_pos, ↓if_neg, nb_add, nb_sub, nb_mul, Int.toNat_natCast, mm_kr_s, mm_kv_s, if_pos, if_neg, sq_tn, Int.toNat_zero, Int.reduceToNat, Int.reduceNeg, Nat.reduceAdd, Int.reduceAdd, Int.reduceEq, Int.reduceLT, Int.reduceLE, Int.zero_add, nb_ui_s, nb_ui_k, nb_ui_a, sp_min, sp_max, sp_bits]
          have er : zrL (zjl t o2) = zrL o2 := by cases o2 <;> rfl
          rw [er]
          refine sq_mono (pc (e + 2) (q + 1) (mm_ui I' 1 2 ((j2 + 1 : Nat) : Int)) L m1 hd (by omega) ((i6.zc ha hz).up (by decide) (by decide)) (by rw [nb_ui_s]) (by rw [nb_ui_a (by omega)]; exact i2) (by omega)) (fun K hK => ?_)
          cases o2 with
          | inl p => exact ⟨hK.1, (i6.at ha).tr hK.2⟩
          | inr q =>
            obtain ⟨⟨m2, k1, k2, k3⟩, k4, k5⟩ := hK
            have kk : ∀ k, k < m1 → K (a + 1) k = I' (a + 1) k := fun k hk => by rw [k4 k hk, nb_ui_a (by omega)]
            have hcm : c0 ≤ m1 := by
              have h9 := i3
              unfold zpc at h9
              split at h9 <;> omega
            refine ⟨⟨m2, k1, k2, ?_⟩, fun k hk => by rw [kk k (by omega), i5 k hk], (i6.at ha).tr k5⟩
            have i3' : zpc (I' (a + 1)) c0 t m1 := i3
            unfold zpc at i3'
            unfold sx_cl
            split at i3'
            · rename_i ht
              rw [if_pos ht]
              obtain ⟨w1, w2, w3⟩ := i3'
              refine ⟨sx_at_keep _ _ w1 (fun k _ hk => kk k (by omega)), by rw [kk _ (by omega)]; exact w2, ?_⟩
              rw [← w3]; exact k3
            · rename_i ht
              rw [if_neg ht]
              obtain ⟨w1, w2, w3, w4, w5⟩ := i3'
              refine ⟨sx_at_keep _ _ w1 (fun k _ hk => kk k (by omega)), by rw [kk _ (by omega)]; exact w2, sx_at_keep _ _ w3 (fun k _ hk => kk k (by omega)), by rw [kk _ (by omega)]; exact w4, ?_⟩
              rw [← w5]; exact k3
        · obtain ⟨I1, e1, hI⟩ := om d I L c0 k0 hd hm2 h44 (by omega)
          refine ⟨I1, e1, ?_⟩
          obtain ⟨i1, i2, i3, i4, i5, i6, i7, i8, i9, i10, i11⟩ := hI
          obtain ⟨hz, h2, hw, h5, hx14, h6, h7⟩ := hm2
          have ok := hz.1.ok
          obtain ⟨e, rfl⟩ : ∃ e, d = e + 2 := ⟨d - 2, by omega⟩
          have l1 := zm_look (d := e) (L := L) (i11.zm hz) hk i1
          have ej : (j2 : Int) + 1 = ((j2 + 1 : Nat) : Int) := by omega
          obtain ⟨I2, e2, hX⟩ := pm (e + 2) v (mm_ui I1 239 3 ((j2 + 1 : Nat) : Int)) L (c0 + t.1.length + t.2.length) (k0 + 1) hd ⟨(i11.zm hz).up (by decide) (by decide), by rw [nb_ui_s], by rw [nb_ui_k (by decide)]; exact i2, by rw [nb_ui_k (by decide)]; exact i3, by rw [nb_ui_k (by decide), i11.2.1 14 (by decide) (by decide) (by decide)]; exact hx14, by rw [nb_ui_a (by decide)]; exact i4, by omega⟩ (by rw [nb_ui_a (by decide)]; exact i5) (by omega)
          rw [hX12_readLaw_9]
          simp (disch := (first | assumption | omega | exact nb_ix (by omega) (by assumption) (by omega) (by omega) | exact nb_ix (by omega) rfl (by omega) (by omega) | exact nb_ok (by omega) rfl | decide)) only [kX12_readLaw, i2, l1, hc, ej, nb_ui_2, e2, ↓if_pos, ↓if_neg, nb_add, nb_sub, nb_mul, Int.toNat_natCast, mm_kr_s, mm_kv_s, if_pos, if_neg, sq_tn, Int.toNat_zero, Int.reduceToNat, Int.reduceNeg, Nat.reduceAdd, Int.reduceAdd, Int.reduceEq, Int.reduceLT, Int.reduceLE, Int.zero_add, nb_ui_s, nb_ui_k, nb_ui_a, sp_min, sp_max, sp_bits]
          have er : zrM (zjl t o2) = zrM o2 := by cases o2 <;> rfl
          rw [er]
          have hf : zlF x c0 k0 I (mm_ui I1 239 3 ((j2 + 1 : Nat) : Int)) := i11.tr (((zmF.refl x c0 I1).at (by omega)).zl k0) (Nat.le_refl _) (Nat.le_refl _)
          refine sq_mono hX (fun K hK => ?_)
          cases o2 with
          | inl p => exact hf.tr hK (by omega) (by omega)
          | inr q =>
            obtain ⟨k1, k2, k3⟩ := hK
            refine ⟨?_, ⟨?_, ?_, ?_, ?_, ?_, by omega, k2⟩, hf.tr k3 (by omega) (by omega)⟩
            · rw [k1]; show ((k0 + 1 + q.length : Nat) : Int) = ((k0 + (q.length + 1) : Nat) : Int); omega
            · rw [(k3.2.2.2.2 _ (by omega)).1, nb_ui_a (by decide)]; exact i6
            · rw [(k3.2.2.2.2 _ (by omega)).2.1, nb_ui_a (by decide)]; exact i7
            · rw [(k3.2.2.2.2 _ (by omega)).2.2, nb_ui_a (by decide)]; exact i8
            · refine sx_mt_kp _ _ i9 (fun k _ hk => ?_)
              have hk' : k < 520 * x + c0 + t.1.length := hk
              have := k3.2.2.2.1 k (by omega)
              rw [this.1, this.2, nb_ui_a (by decide), nb_ui_a (by decide)]
              exact ⟨rfl, rfl⟩
            · refine sx_mt_kp _ _ i10 (fun k _ hk => ?_)
              have hk' : k < 520 * x + (c0 + t.1.length) + t.2.length := hk
              have := k3.2.2.2.1 k (by omega)
              rw [this.1, this.2, nb_ui_a (by decide), nb_ui_a (by decide)]
              exact ⟨rfl, rfl⟩
      · by_cases hout : zp T S j2 = -1
        · refine ⟨.inr [t], ⟨by show 2 * 1 + i ≤ S; omega, fun s hs => by simp at hs; rw [hs]; exact g3⟩, fun d q I L c0 hd hq hz h2 h3 h4 => ?_, fun d v I L c0 k0 hd hm2 h44 hk0 => ?_⟩
          · rw [hC d q I L hq hz]
            refine sq_kr (oc d I L c0 hd hz h2 h3 h4) (fun I' hI => ?_)
            obtain ⟨i1, ⟨m1, i2, i3, i4⟩, i5, i6⟩ := hI
            have i4' : m1 ≤ j := i4
            have e0 : zrC (Sum.inr (j, t) : zco) = 1 := rfl
            have hn := hz.1
            obtain ⟨e, rfl⟩ : ∃ e, d = e + 2 := ⟨d - 2, by omega⟩
            have p1 := zc_peek (d := e + 1) (L := L) (i6.zc ha hz) hk i1
            simp (disch := (first | assumption | omega | exact nb_ix (by omega) (by assumption) (by omega) (by omega) | exact nb_ix (by omega) rfl (by omega) (by omega) | exact nb_ok (by omega) rfl | decide)) only [kX4_readLaw, e0, p1, hout, ↓if_pos, ↓if_neg, nb_add, nb_sub, nb_mul, Int.toNat_natCast, mm_kr_s, mm_kv_s, if_pos, if_neg, sq_tn, Int.toNat_zero, Int.reduceToNat, Int.reduceNeg, Nat.reduceAdd, Int.reduceAdd, Int.reduceEq, Int.reduceLT, Int.reduceLE, Int.zero_add, nb_ui_s, nb_ui_k, nb_ui_a, sp_min, sp_max, sp_bits]
            refine sq_ret ⟨⟨m1, by rw [nb_ui_a (by omega)]; exact i2, by omega, ?_⟩, fun k hk => by rw [nb_ui_a (by omega)]; exact i5 k hk, i6.at ha⟩
            rw [nb_ui_r (by omega)]
            have i3' : zpc (I' (a + 1)) c0 t m1 := i3
            unfold zpc at i3'
            unfold sx_cl
            split at i3'
            · rename_i ht
              rw [if_pos ht]
              exact ⟨i3'.1, i3'.2.1, i3'.2.2.symm⟩
            · rename_i ht
              rw [if_neg ht]
              exact ⟨i3'.1, i3'.2.1, i3'.2.2.1, i3'.2.2.2.1, i3'.2.2.2.2.symm⟩
          · obtain ⟨I1, e1, hI⟩ := om d I L c0 k0 hd hm2 h44 (by omega)
            refine ⟨I1, e1, ?_⟩
            obtain ⟨i1, i2, i3, i4, i5, i6, i7, i8, i9, i10, i11⟩ := hI
            obtain ⟨hz, h2, hw, h5, hx14, h6, h7⟩ := hm2
            have ok := hz.1.ok
            obtain ⟨e, rfl⟩ : ∃ e, d = e + 3 := ⟨d - 3, by omega⟩
            have l1 := zm_look (d := e + 1) (L := L) (i11.zm hz) hk i1
            have l2 := zm_look (d := e) (n := n) (L := L) (P := P) (I := mm_ui I1 239 3 (j2 : Int)) ((i11.zm hz).up (by decide) (by decide)) (zk_self hk) (by rw [nb_ui_s])
            rw [nb_ui_2] at l2
            have w1 : mm_ui I1 239 3 (j2 : Int) 239 4 = -1 := by rw [nb_ui_k (by decide)]; exact i2
            have he : mm_rn (e + 3) 172 [.inr (.inr (some 239))] n (mm_ui I1 239 3 (j2 : Int)) L P = some (some (.inl (-1)), n, mm_ui I1 239 3 (j2 : Int), L, P) := by
              rw [eX12_atEnd]
              simp (disch := (first | assumption | omega | exact nb_ix (by omega) (by assumption) (by omega) (by omega) | exact nb_ix (by omega) rfl (by omega) (by omega) | exact nb_ok (by omega) rfl | decide)) only [kX12_atEnd, w1, l2, hout, i2, ↓if_pos, ↓if_neg, nb_add, nb_sub, nb_mul, Int.toNat_natCast, mm_kr_s, mm_kv_s, if_pos, if_neg, sq_tn, Int.toNat_zero, Int.reduceToNat, Int.reduceNeg, Nat.reduceAdd, Int.reduceAdd, Int.reduceEq, Int.reduceLT, Int.reduceLE, Int.zero_add, nb_ui_s, nb_ui_k, nb_ui_a, sp_min, sp_max, sp_bits]
              done
            rw [hX12_readLaw_9]
            simp (disch := (first | assumption | omega | exact nb_ix (by omega) (by assumption) (by omega) (by omega) | exact nb_ix (by omega) rfl (by omega) (by omega) | exact nb_ok (by omega) rfl | decide)) only [kX12_readLaw, i2, l1, he, ↓if_pos, ↓if_neg, nb_add, nb_sub, nb_mul, Int.toNat_natCast, mm_kr_s, mm_kv_s, if_pos, if_neg, sq_tn, Int.toNat_zero, Int.reduceToNat, Int.reduceNeg, Nat.reduceAdd, Int.reduceAdd, Int.reduceEq, Int.reduceLT, Int.reduceLE, Int.zero_add, nb_ui_s, nb_ui_k, nb_ui_a, sp_min, sp_max, sp_bits]
            refine sq_ret ⟨by rw [nb_ui_a (by decide)]; exact i5, ⟨?_, ?_, ?_, ?_, ?_, by omega, trivial⟩, i11.tr (((zmF.refl x c0 I1).at (by omega)).zl k0) (Nat.le_refl _) (Nat.le_refl _)⟩
            · rw [nb_ui_a (by decide)]; exact i6
            · rw [nb_ui_a (by decide)]; exact i7
            · rw [nb_ui_a (by decide)]; exact i8
            · exact sx_mt_keep (by rw [nb_ui_r (by decide)]) (by rw [nb_ui_r (by decide)]) _ _ i9
            · exact sx_mt_keep (by rw [nb_ui_r (by decide)]) (by rw [nb_ui_r (by decide)]) _ _ i10
        · refine ⟨.inl j2, b2, fun d q I L c0 hd hq hz h2 h3 h4 => ?_, fun d v I L c0 k0 hd hm2 h44 hk0 => ?_⟩
          · rw [hC d q I L hq hz]
            refine sq_kr (oc d I L c0 hd hz h2 h3 h4) (fun I' hI => ?_)
            obtain ⟨i1, ⟨m1, i2, i3, i4⟩, i5, i6⟩ := hI
            have e0 : zrC (Sum.inr (j, t) : zco) = 1 := rfl
            have hn := hz.1
            obtain ⟨e, rfl⟩ : ∃ e, d = e + 2 := ⟨d - 2, by omega⟩
            have p1 := zc_peek (d := e + 1) (L := L) (i6.zc ha hz) hk i1
            have p2 := zc_pass0 (d := e) (n := n) (L := L) (P := P) (I := mm_ui I' 1 2 (j2 : Int)) (c := 59) ((i6.zc ha hz).up (by decide) (by decide)) (zk_self hk) (by rw [nb_ui_s]) hc
            rw [nb_ui_2] at p2
            simp (disch := (first | assumption | omega | exact nb_ix (by omega) (by assumption) (by omega) (by omega) | exact nb_ix (by omega) rfl (by omega) (by omega) | exact nb_ok (by omega) rfl | decide)) only [kX4_readLaw, e0, p1, p2, ↓if_pos, ↓if_neg, nb_add, nb_sub, nb_mul, Int.toNat_natCast, mm_kr_s, mm_kv_s, if_pos, if_neg, sq_tn, Int.toNat_zero, Int.reduceToNat, Int.reduceNeg, Nat.reduceAdd, Int.reduceAdd, Int.reduceEq, Int.reduceLT, Int.reduceLE, Int.zero_add, nb_ui_s, nb_ui_k, nb_ui_a, sp_min, sp_max, sp_bits]
            exact sq_ret ⟨by rw [nb_ui_s], i6.at ha⟩
          · obtain ⟨I1, e1, hI⟩ := om d I L c0 k0 hd hm2 h44 (by omega)
            refine ⟨I1, e1, ?_⟩
            obtain ⟨i1, i2, i3, i4, i5, i6, i7, i8, i9, i10, i11⟩ := hI
            obtain ⟨hz, h2, hw, h5, hx14, h6, h7⟩ := hm2
            have ok := hz.1.ok
            obtain ⟨e, rfl⟩ : ∃ e, d = e + 3 := ⟨d - 3, by omega⟩
            have l1 := zm_look (d := e + 1) (L := L) (i11.zm hz) hk i1
            have l2 := zm_look (d := e) (n := n) (L := L) (P := P) (I := mm_ui I1 239 3 (j2 : Int)) ((i11.zm hz).up (by decide) (by decide)) (zk_self hk) (by rw [nb_ui_s])
            rw [nb_ui_2] at l2
            have w1 : mm_ui I1 239 3 (j2 : Int) 239 4 = -1 := by rw [nb_ui_k (by decide)]; exact i2
            have hb := zm_bad (d := e + 1) (n := n) (L := L) (P := P) (I := mm_ui I1 239 3 (j2 : Int)) (p := j2) hz.1 w1 (by rw [nb_ui_s])
            have he : mm_rn (e + 3) 172 [.inr (.inr (some 239))] n (mm_ui I1 239 3 (j2 : Int)) L P = some (some (.inl (j2 : Int)), n, mm_ui (mm_ui I1 239 3 (j2 : Int)) 239 4 (j2 : Int), L, P) := by
              rw [eX12_atEnd]
              simp (disch := (first | assumption | omega | exact nb_ix (by omega) (by assumption) (by omega) (by omega) | exact nb_ix (by omega) rfl (by omega) (by omega) | exact nb_ok (by omega) rfl | decide)) only [kX12_atEnd, w1, l2, i2, hb, ↓if_pos, ↓if_neg, nb_add, nb_sub, nb_mul, Int.toNat_natCast, mm_kr_s, mm_kv_s, if_pos, if_neg, sq_tn, Int.toNat_zero, Int.reduceToNat, Int.reduceNeg, Nat.reduceAdd, Int.reduceAdd, Int.reduceEq, Int.reduceLT, Int.reduceLE, Int.zero_add, nb_ui_s, nb_ui_k, nb_ui_a, sp_min, sp_max, sp_bits]
              done
            rw [hX12_readLaw_9]
            simp (disch := (first | assumption | omega | exact nb_ix (by omega) (by assumption) (by omega) (by omega) | exact nb_ix (by omega) rfl (by omega) (by omega) | exact nb_ok (by omega) rfl | decide)) only [kX12_readLaw, i2, l1, he, ↓if_pos, ↓if_neg, nb_add, nb_sub, nb_mul, Int.toNat_natCast, mm_kr_s, mm_kv_s, if_pos, if_neg, sq_tn, Int.toNat_zero, Int.reduceToNat, Int.reduceNeg, Nat.reduceAdd, Int.reduceAdd, Int.reduceEq, Int.reduceLT, Int.reduceLE, Int.zero_add, nb_ui_s, nb_ui_k, nb_ui_a, sp_min, sp_max, sp_bits]
            exact sq_ret (i11.tr ((((zmF.refl x c0 I1).at (by omega)).at (by omega)).zl k0) (Nat.le_refl _) (Nat.le_refl _))
end LW
