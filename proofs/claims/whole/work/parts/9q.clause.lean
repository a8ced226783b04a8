/-! towns: a clause, both readers at once -/
def zts (ru : Nat → Int) (rd np : Nat) (pl : Nat → Int) (nl : Nat) (la : Nat → Int) : Prop := rd ≤ 1 ∧ np ≤ 8 ∧ nl ≤ 12 ∧ (∀ k, k < 3 → zql 0 k ≤ ru k ∧ ru k ≤ zqh 0 k) ∧ (∀ p, p < np → ∀ k, k < 2 → zql 1 k ≤ pl (2 * p + k) ∧ pl (2 * p + k) ≤ zqh 1 k) ∧ (∀ l, l < nl → ∀ k, k < 2 → zql 2 k ≤ la (2 * l + k) ∧ la (2 * l + k) ≤ zqh 2 k)
def zTc (t : Nat) (I : mm_I) (ru : Nat → Int) (rd np : Nat) (pl : Nat → Int) (nl : Nat) (la : Nat → Int) : Prop := I 3 3 = (nl : Int) ∧ I 3 4 = (rd : Int) ∧ I t 0 = (np : Int) ∧ I t 1 = ru 0 ∧ I t 2 = ru 1 ∧ I t 3 = ru 2 ∧ (∀ p, p < np → I (t + 1) p = pl (2 * p) ∧ I (t + 2) p = pl (2 * p + 1) ∧ I (t + 3) p = 0) ∧ (∀ l, l < nl → I 5 l = la (2 * l) ∧ I 6 l = la (2 * l + 1))
def zTm (I : mm_I) (ru : Nat → Int) (np : Nat) (pl : Nat → Int) (nl : Nat) (la : Nat → Int) : Prop := I 239 20 = (np : Int) ∧ I 239 21 = (nl : Int) ∧ (∀ k, k < 3 → I 250 k = ru k) ∧ (∀ k, k < 2 * np → I 251 k = pl k) ∧ (∀ k, k < 2 * nl → I 252 k = la k)
def zUl (t : Nat) : List Nat := [1, 3, 4, 5, 6, t, t + 1, t + 2, t + 3, t + 4, t + 5]
def zFc (t : Nat) (I I' : mm_I) : Prop := (∀ b, b ∉ zUl t → I' b = I b) ∧ (∀ k, k ≠ 2 → I' 1 k = I 1 k)
theorem zFc.refl (t : Nat) (I : mm_I) : zFc t I I := ⟨fun _ _ => rfl, fun _ _ => rfl⟩
theorem zFc.tr {t : Nat} {I J K : mm_I} (h : zFc t I J) (h2 : zFc t J K) : zFc t I K := ⟨fun b h3 => by rw [h2.1 b h3, h.1 b h3], fun k hk => by rw [h2.2 k hk, h.2 k hk]⟩
theorem zFc.up {t a k : Nat} {I J : mm_I} {z : Int} (h : zFc t I J) (ha : a ∈ zUl t) (ha1 : a ≠ 1) : zFc t I (mm_ui J a k z) := by
  refine ⟨fun b hb => ?_, fun k hk => ?_⟩
  · have hne : b ≠ a := fun e => hb (by rw [e]; exact ha)
    rw [nb_ui_r hne]
    exact h.1 b hb
  · rw [nb_ui_a (fun e => ha1 e.symm)]
    exact h.2 k hk
theorem zFc.at {t : Nat} {I J : mm_I} {z : Int} (h : zFc t I J) : zFc t I (mm_ui J 1 2 z) := by
  refine ⟨fun b hb => ?_, fun k hk => ?_⟩
  · have hne : b ≠ 1 := fun e => hb (by rw [e]; unfold zUl; simp)
    rw [nb_ui_r hne]
    exact h.1 b hb
  · rw [nb_ui_k hk]
    exact h.2 k hk
theorem ziF.fc {t : Nat} {I J : mm_I} (h : ziF I J) : zFc t I J := ⟨fun b hb => h.1 b (fun e => hb (by rw [e]; unfold zUl; simp)) (fun e => hb (by rw [e]; unfold zUl; simp)), h.2⟩
theorem zFc.zc {n : Nat} {P : mm_P} {t S : Nat} {T : Nat → Int} {I J : mm_I} (ht : 7 ≤ t) (h : zFc t I J) (hz : zc n P I T S) : zc n P J T S := by
  obtain ⟨a1, a2, a3, a4, a5, a6⟩ := hz
  exact ⟨a1, a2, by rw [h.2 1 (by decide)]; exact a3, a4, fun i hi => by rw [h.1 2 (by unfold zUl; simp; omega)]; exact a5 i hi, a6⟩
theorem zFc.zS {t : Nat} {I J : mm_I} (ht : t ≤ 13) (h : zFc t I J) (hz : zS I) : zS J := hz.fr (fun b h1 h2 => h.1 b (by unfold zUl; simp; omega))
def zFm (I I' : mm_I) : Prop := (∀ b, b ≠ 239 → b ≠ 250 → b ≠ 251 → b ≠ 252 → I' b = I b) ∧ (∀ k, k ≠ 3 → k ≠ 4 → k ≠ 20 → k ≠ 21 → I' 239 k = I 239 k)
theorem zFm.refl (I : mm_I) : zFm I I := ⟨fun _ _ _ _ _ => rfl, fun _ _ _ _ _ => rfl⟩
theorem zFm.tr {I J K : mm_I} (h : zFm I J) (h2 : zFm J K) : zFm I K := ⟨fun b b1 b2 b3 b4 => by rw [h2.1 b b1 b2 b3 b4, h.1 b b1 b2 b3 b4], fun k b1 b2 b3 b4 => by rw [h2.2 k b1 b2 b3 b4, h.2 k b1 b2 b3 b4]⟩
theorem zFm.up {k : Nat} {I J : mm_I} {z : Int} (h : zFm I J) (hk : k = 3 ∨ k = 4 ∨ k = 20 ∨ k = 21) : zFm I (mm_ui J 239 k z) := ⟨fun b b1 b2 b3 b4 => by rw [nb_ui_r b1]; exact h.1 b b1 b2 b3 b4, fun k b1 b2 b3 b4 => by rw [nb_ui_k (by omega)]; exact h.2 k b1 b2 b3 b4⟩
theorem zFm.row {a k : Nat} {I J : mm_I} {z : Int} (h : zFm I J) (ha : a = 250 ∨ a = 251 ∨ a = 252) : zFm I (mm_ui J a k z) := ⟨fun b b1 b2 b3 b4 => by rw [nb_ui_r (by omega)]; exact h.1 b b1 b2 b3 b4, fun k b1 b2 b3 b4 => by rw [nb_ui_a (by omega)]; exact h.2 k b1 b2 b3 b4⟩
theorem zjF.fm {ρ f m : Nat} {I J : mm_I} (hr : ρ = 250 ∨ ρ = 251 ∨ ρ = 252) (h : zjF ρ f m I J) : zFm I J := ⟨fun b b1 b2 b3 b4 => h.1 b b1 (by omega), fun k b1 b2 b3 b4 => h.2.1 k b1 b2⟩
theorem zFm.zm {n : Nat} {P : mm_P} {S : Nat} {T : Nat → Int} {I J : mm_I} (h : zFm I J) (hz : zm n P I T S) : zm n P J T S := by
  obtain ⟨a1, a3, a4, a5, a6⟩ := hz
  exact ⟨a1, by rw [h.2 2 (by decide) (by decide) (by decide) (by decide)]; exact a3, a4, fun i hi => by rw [h.1 240 (by decide) (by decide) (by decide) (by decide)]; exact a5 i hi, a6⟩
section CL
variable {n S : Nat} {P : mm_P} {T : Nat → Int}
set_option maxHeartbeats 4000000 in
theorem zU_items {q i : Nat} (hq : q < 3) (hS : S ≤ 240) (hi0 : i ≤ S) (p3 : P 3 0 = some 4) : ∃ o : zio, zig T S q i o ∧
    (∀ (d : Nat) (I L : mm_I), 6 ≤ d → zS I → zc n P I T S → I 1 2 = (i : Int) → (∀ k, k < zM q → I 4 (zF q + k) = zqu q k) → sq_X (some (.inl (zir o))) n L P (fun I' => ziF I I' ∧ zic q I' o) (mm_rn d 77 [.inr (.inr (some 3)), .inr (.inr (some 1)), .inl ((zF q : Int)), .inl (((zF q + zM q : Nat) : Int))] n I L P)) ∧
    (∀ (d : Nat) (P : mm_P) (I L : mm_I) (ρ f N : Nat), 6 ≤ d → zm n P I T S → I 239 3 = (i : Int) → I 239 4 = -1 → 250 ≤ ρ → ρ < n → mm_ty ρ = (20, N) → f + zM q ≤ N → N ≤ 24 → sq_X none n L P (fun I' => zjF ρ f (zM q) I I' ∧ zim T S q ρ f I' o) (mm_rn d 183 [.inr (.inr (some 239)), .inl (zqc q), .inr (.inr (some ρ)), .inl ((f : Int)), .inl ((zM q : Int))] n I L P)) := by
  obtain ⟨j, hk⟩ := zk_ex (T := T) (S := S) (S - i) i rfl hi0
  have hu : ∀ k, k < zM q → zql q k ≤ zqu q k ∧ zqu q k ≤ zqh q k := by
    have : ∀ q, q < 3 → ∀ k, k < zM q → zql q k ≤ zqu q k ∧ zqu q k ≤ zqh q k := by decide +kernel
    exact this q hq
  obtain ⟨o, og, oc, om⟩ := zJ_itl (n := n) (P := P) (T := T) hq hS p3 (S - i + 1) i j 0 (zqu q) (by omega) hk (Nat.two_pow_pos _) hu
  have hFM := zFM hq
  refine ⟨o, og, fun d I L hd hs hc hi h4 => ?_, fun d P I L ρ f N hd hzm hi hw r1 r2 r3 r4 r5 => ?_⟩
  · obtain ⟨e, rfl⟩ : ∃ e, d = e + 1 := ⟨d - 1, by omega⟩
    have h := oc e I L mm_junk (by omega) hs hc hi h4
    have e0 : ((0 * 2 ^ zF q : Nat) : Int) = 0 := by rw [Nat.zero_mul]; rfl
    have e1 : zF q + zcn 0 = zF q := rfl
    rw [e0, e1] at h
    rw [eX10_readItems]
    simp (disch := (first | assumption | omega | exact nb_ix (by omega) (by assumption) (by omega) (by omega) | exact nb_ix (by omega) rfl (by omega) (by omega) | exact nb_ok (by omega) rfl | decide)) only [kX10_readItems, ↓if_pos, ↓if_neg, nb_add, nb_sub, nb_mul, Int.toNat_natCast, mm_kr_s, mm_kv_s, if_pos, if_neg, sq_tn, Int.toNat_zero, Int.reduceToNat, Int.reduceNeg, Nat.reduceAdd, Int.reduceAdd, Int.reduceEq, Int.reduceLT, Int.reduceLE, Int.zero_add, nb_ui_s, nb_ui_k, nb_ui_a, sp_min, sp_max, sp_bits]
    exact h
  · obtain ⟨e, rfl⟩ : ∃ e, d = e + 6 := ⟨d - 6, by omega⟩
    have ok := hzm.1.ok
    rw [eX12_items]
    simp (disch := (first | assumption | omega | exact nb_ix (by omega) (by assumption) (by omega) (by omega) | exact nb_ix (by omega) rfl (by omega) (by omega) | exact nb_ok (by omega) rfl | decide)) only [kX12_items, ↓if_pos, ↓if_neg, nb_add, nb_sub, nb_mul, Int.toNat_natCast, mm_kr_s, mm_kv_s, if_pos, if_neg, sq_tn, Int.toNat_zero, Int.reduceToNat, Int.reduceNeg, Nat.reduceAdd, Int.reduceAdd, Int.reduceEq, Int.reduceLT, Int.reduceLE, Int.zero_add, nb_ui_s, nb_ui_k, nb_ui_a, sp_min, sp_max, sp_bits]
    refine sq_loop (fun k (J : mm_I) => mm_E (e + 5) 183 3 [.inr (.inr (some 239)), .inl (zqc q), .inr (.inr (some ρ)), .inl ((f : Int)), .inl ((zM q : Int)), .inl ((k : Int)), mm_junk] [] [] n J L P) (fun k J => zjF ρ f (zM q) I J ∧ J 239 3 = (i : Int) ∧ J 239 4 = -1 ∧ ∀ a, a < k → J ρ (f + a) = zqu q a) (zM q) ⟨zjF.refl _ _ _ I, hi, hw, fun a ha => by omega⟩ (fun k J hk hJ nx => ?_) (fun J hJ => ?_)
    · obtain ⟨j1, j2, j3, j4⟩ := hJ
      have c1 : ¬ (zM q : Int) ≤ (k : Int) := by omega
      have hus : mm_rn (e + 5) 182 [.inl (zqc q), .inl ((k : Int))] n J L P = _ := zt_usual hq hk
      have e1 : (f : Int) + (k : Int) = ((f + k : Nat) : Int) := by omega
      have e2 : (k : Int) + 1 = ((k + 1 : Nat) : Int) := by omega
      have hix : mm_ix n ρ 20 ((f + k : Nat) : Int) := nb_ix r2 r3 (by omega) (by omega)
      rw [hX12_items_3]
      simp (disch := (first | assumption | omega | exact nb_ix (by omega) (by assumption) (by omega) (by omega) | exact nb_ix (by omega) rfl (by omega) (by omega) | exact nb_ok (by omega) rfl | decide)) only [kX12_items, hus, e1, e2, ↓if_pos, ↓if_neg, nb_add, nb_sub, nb_mul, Int.toNat_natCast, mm_kr_s, mm_kv_s, if_pos, if_neg, sq_tn, Int.toNat_zero, Int.reduceToNat, Int.reduceNeg, Nat.reduceAdd, Int.reduceAdd, Int.reduceEq, Int.reduceLT, Int.reduceLE, Int.zero_add, nb_ui_s, nb_ui_k, nb_ui_a, sp_min, sp_max, sp_bits]
      refine nx _ ⟨j1.it r1 hk, by rw [nb_ui_a (by omega)]; exact j2, by rw [nb_ui_a (by omega)]; exact j3, fun a ha => ?_⟩
      by_cases ea : a = k
      · subst ea; rw [nb_ui_s]
      · rw [nb_ui_k (by omega)]; exact j4 a (by omega)
    · obtain ⟨j1, j2, j3, j4⟩ := hJ
      have c1 : (zM q : Int) ≤ (zM q : Int) := Int.le_refl _
      have hl := zm_look (d := e + 3) (L := L) (j1.zm r1 hzm) hk j2
      have ht : mm_rn (e + 5) 179 [.inl (zqc q), .inl (zp T S j)] n (mm_ui J 239 3 (j : Int)) L P = _ := zt_itemOf hq _
      rw [hX12_items_3]
      simp (disch := (first | assumption | omega | exact nb_ix (by omega) (by assumption) (by omega) (by omega) | exact nb_ix (by omega) rfl (by omega) (by omega) | exact nb_ok (by omega) rfl | decide)) only [kX12_items, hl, ht, ↓if_pos, ↓if_neg, nb_add, nb_sub, nb_mul, Int.toNat_natCast, mm_kr_s, mm_kv_s, if_pos, if_neg, sq_tn, Int.toNat_zero, Int.reduceToNat, Int.reduceNeg, Nat.reduceAdd, Int.reduceAdd, Int.reduceEq, Int.reduceLT, Int.reduceLE, Int.zero_add, nb_ui_s, nb_ui_k, nb_ui_a, sp_min, sp_max, sp_bits]
      have fr := j1.at (k := 3) (z := (j : Int)) r1 (Or.inl rfl)
      exact sq_mono (om (e + 5) P _ L ρ f N (by omega) (fr.zm r1 hzm) (by rw [nb_ui_s]) (by rw [nb_ui_k (by decide)]; exact j3) r1 r2 r3 r4 r5 (fun a ha => by rw [nb_ui_a (by omega)]; exact j4 a ha)) (fun I' hI => ⟨fr.tr hI.1, hI.2⟩)
theorem zU_forget {q d : Nat} {I L : mm_I} (hq : q < 3) (hs : zS I) (hn : 270 ≤ n) (p3 : P 3 0 = some 4) : sq_X none n L P (fun I' => ziF I I' ∧ I' 1 = I 1 ∧ ∀ k, k < zM q → I' 4 (zF q + k) = zqu q k) (mm_rn (d + 1) 74 [.inr (.inr (some 3)), .inl ((q : Int))] n I L P) := by
  have hFM := zFM hq
  obtain ⟨s1, s2⟩ := hs.f hq
  have sx1 : 1000000 ≤ 1000000 ∧ (mm_ty 1000000).1 = 30 ∧ 0 ≤ (q : Int) ∧ (q : Int) < ((mm_ty 1000000).2 : Int) := ⟨by decide, by decide +kernel, by omega, by rw [show mm_ty 1000000 = (30, 4) by decide +kernel]; show (q : Int) < 4; omega⟩
  have sx2 : 1000000 ≤ 1000000 ∧ (mm_ty 1000000).1 = 30 ∧ 0 ≤ ((q + 1 : Nat) : Int) ∧ ((q + 1 : Nat) : Int) < ((mm_ty 1000000).2 : Int) := ⟨by decide, by decide +kernel, by omega, by rw [show mm_ty 1000000 = (30, 4) by decide +kernel]; show ((q + 1 : Nat) : Int) < 4; omega⟩
  have e1 : (q : Int) + 1 = ((q + 1 : Nat) : Int) := by omega
  rw [eX10_forgetItems]
  simp (disch := (first | assumption | omega | exact nb_ix (by omega) (by assumption) (by omega) (by omega) | exact nb_ix (by omega) rfl (by omega) (by omega) | exact nb_ok (by omega) rfl | decide)) only [kX10_forgetItems, sx1, s1, ↓if_pos, ↓if_neg, nb_add, nb_sub, nb_mul, Int.toNat_natCast, mm_kr_s, mm_kv_s, if_pos, if_neg, sq_tn, Int.toNat_zero, Int.reduceToNat, Int.reduceNeg, Nat.reduceAdd, Int.reduceAdd, Int.reduceEq, Int.reduceLT, Int.reduceLE, Int.zero_add, nb_ui_s, nb_ui_k, nb_ui_a, sp_min, sp_max, sp_bits]
  refine sq_loop (fun k (J : mm_I) => mm_E d 74 6 [.inr (.inr (some 3)), .inl ((q : Int)), .inl (((zF q + k : Nat) : Int))] [] [] n J L P) (fun k J => ziF I J ∧ J 1 = I 1 ∧ ∀ a, a < k → J 4 (zF q + a) = zqu q a) (zM q) ⟨ziF.refl I, rfl, fun a ha => by omega⟩ (fun k J hk hJ nx => ?_) (fun J hJ => ?_)
  · obtain ⟨j1, j2, j3⟩ := hJ
    have t2 : J 1000000 (q + 1) = _ := ((j1.zS hs).f hq).2
    obtain ⟨-, -, t3⟩ := (j1.zS hs).i hq hk
    have sx3 : 1000000 ≤ 1000003 ∧ (mm_ty 1000003).1 = 30 ∧ 0 ≤ ((zF q + k : Nat) : Int) ∧ ((zF q + k : Nat) : Int) < ((mm_ty 1000003).2 : Int) := ⟨by decide, by decide +kernel, by omega, by rw [show mm_ty 1000003 = (30, 7) by decide +kernel]; show ((zF q + k : Nat) : Int) < 7; omega⟩
    have c1 : ¬ ((zF q + zM q : Nat) : Int) ≤ ((zF q + k : Nat) : Int) := by omega
    have e2 : ((zF q + k : Nat) : Int) + 1 = ((zF q + (k + 1) : Nat) : Int) := by omega
    rw [hX10_forgetItems_6]
    simp (disch := (first | assumption | omega | exact nb_ix (by omega) (by assumption) (by omega) (by omega) | exact nb_ix (by omega) rfl (by omega) (by omega) | exact nb_ok (by omega) rfl | decide)) only [kX10_forgetItems, e1, sx2, t2, sx3, t3, p3, e2, ↓if_pos, ↓if_neg, nb_add, nb_sub, nb_mul, Int.toNat_natCast, mm_kr_s, mm_kv_s, if_pos, if_neg, sq_tn, Int.toNat_zero, Int.reduceToNat, Int.reduceNeg, Nat.reduceAdd, Int.reduceAdd, Int.reduceEq, Int.reduceLT, Int.reduceLE, Int.zero_add, nb_ui_s, nb_ui_k, nb_ui_a, sp_min, sp_max, sp_bits]
    refine nx _ ⟨j1.it, by rw [nb_ui_r (by decide)]; exact j2, fun a ha => ?_⟩
    by_cases ea : a = k
    · subst ea; rw [nb_ui_s]
    · rw [nb_ui_k (by omega)]; exact j3 a (by omega)
  · obtain ⟨j1, j2, j3⟩ := hJ
    have t2 : J 1000000 (q + 1) = _ := ((j1.zS hs).f hq).2
    have c1 : ((zF q + zM q : Nat) : Int) ≤ ((zF q + zM q : Nat) : Int) := Int.le_refl _
    rw [hX10_forgetItems_6]
    simp (disch := (first | assumption | omega | exact nb_ix (by omega) (by assumption) (by omega) (by omega) | exact nb_ix (by omega) rfl (by omega) (by omega) | exact nb_ok (by omega) rfl | decide)) only [kX10_forgetItems, e1, sx2, t2, ↓if_pos, ↓if_neg, nb_add, nb_sub, nb_mul, Int.toNat_natCast, mm_kr_s, mm_kv_s, if_pos, if_neg, sq_tn, Int.toNat_zero, Int.reduceToNat, Int.reduceNeg, Nat.reduceAdd, Int.reduceAdd, Int.reduceEq, Int.reduceLT, Int.reduceLE, Int.zero_add, nb_ui_s, nb_ui_k, nb_ui_a, sp_min, sp_max, sp_bits]
    exact sq_ret ⟨j1, j2, j3⟩
end CL
