/-! towns: the model takes what was read -/
section MK
variable {n s nl ck : Nat} {P : mm_P} {I L : mm_I} {D W K NI cm co rf : Nat → Int} {B cp ch : Nat → Nat} {g v cn hl kf pe : Int} {es : Nat → rL} {x : sT} {LgI : Nat → Nat → Int} {tp : (Nat → Int) × Nat} {ru pl la : Nat → Int} {np nn : Nat}
set_option maxHeartbeats 16000000 in
theorem zK_model {d : Nat} {tp' : (Nat → Int) × Nat} (hM : RM n P I (s, D, B, g, v, W, K, cn, nl, hl, es, x, kf, NI, LgI, ck, cp, ch, cm, co, tp', pe, rf)) (h : zts ru 0 np pl nn la) (hw : zwh np nn la) (hT : zTm I ru np pl nn la) (hsz : I 239 2 = 0) : sq_X (some (.inl ((np : Int)))) n L P (fun I' => RM n P I' (zσ ru np pl nn la (s, D, B, g, v, W, K, cn, nl, hl, es, x, kf, NI, LgI, ck, cp, ch, cm, co, tp, pe, rf)) ∧ ∀ b, (b < 239 ∨ 270 ≤ b) → I' b = I b) (mm_rn (d + 3) 189 [.inr (.inr (some 239))] n I L P) := by
  have hMp := hM.1
  have ok := hMp.ok
  have hn := hMp.1
  have hnp := h.2.1
  have hnn := h.2.2.1
  obtain ⟨m17, m18, m19, m22, m23, m24, m25, m27⟩ : P 239 17 = some 250 ∧ P 239 18 = some 251 ∧ P 239 19 = some 252 ∧ P 239 22 = some 253 ∧ P 239 23 = some 254 ∧ P 239 24 = some 255 ∧ P 239 25 = some 256 ∧ P 239 27 = some 257 := by
    obtain ⟨g0, g1, g2, g3, g4, g5, g6, g7, g8, g9, g10, g11, g12, g13, g14, g15, g16, g17, g18, -⟩ := hMp
    exact ⟨g11, g12, g13, g14, g15, g16, g17, g18⟩
  obtain ⟨t1, t2, t3, t4, t5⟩ := hT
  have hB := zBs_lt hnp nn hw.2
  rw [eX12_takeTown]
  simp (disch := (first | assumption | omega | exact nb_ix (by omega) (by assumption) (by omega) (by omega) | exact nb_ix (by omega) rfl (by omega) (by omega) | exact nb_ok (by omega) rfl | decide)) only [kX12_takeTown, t1, ↓if_pos, ↓if_neg, nb_add, nb_sub, nb_mul, Int.toNat_natCast, mm_kr_s, mm_kv_s, if_pos, if_neg, sq_tn, Int.toNat_zero, Int.reduceToNat, Int.reduceNeg, Nat.reduceAdd, Int.reduceAdd, Int.reduceEq, Int.reduceLT, Int.reduceLE, Int.zero_add, nb_ui_s, nb_ui_k, nb_ui_a, sp_min, sp_max, sp_bits]
  refine sq_loop (fun k (J : mm_I) => mm_E (d + 2) 189 10 [.inr (.inr (some 239)), .inl ((k : Int))] [] [] n J L P) (fun k J => sq_fr [253, 254, 255, 256, 257] (mm_ui I 239 26 (np : Int)) J ∧ ∀ a, a < k → J 253 a = ru a) 3 ⟨sq_fr_refl _ _, fun a ha => by omega⟩ (fun k J hk hJ nx => ?_) (fun J hJ => ?_)
  · have c1 : ¬ (3 : Int) ≤ (k : Int) := by omega
    have e1 : (k : Int) + 1 = ((k + 1 : Nat) : Int) := by omega
    have v1 : J 250 k = ru k := by rw [hJ.1 250 (by decide), nb_ui_a (by decide)]; exact t3 k hk
    rw [hX12_takeTown_10]
    simp (disch := (first | assumption | omega | exact nb_ix (by omega) (by assumption) (by omega) (by omega) | exact nb_ix (by omega) rfl (by omega) (by omega) | exact nb_ok (by omega) rfl | decide)) only [kX12_takeTown, m17, m22, v1, e1, ↓if_pos, ↓if_neg, nb_add, nb_sub, nb_mul, Int.toNat_natCast, mm_kr_s, mm_kv_s, if_pos, if_neg, sq_tn, Int.toNat_zero, Int.reduceToNat, Int.reduceNeg, Nat.reduceAdd, Int.reduceAdd, Int.reduceEq, Int.reduceLT, Int.reduceLE, Int.zero_add, nb_ui_s, nb_ui_k, nb_ui_a, sp_min, sp_max, sp_bits]
    refine nx _ ⟨sq_fr_up hJ.1 (by decide), fun a ha => ?_⟩
    by_cases c : a = k
    · subst c; rw [nb_ui_s]
    · rw [nb_ui_k c]; exact hJ.2 a (by omega)
  obtain ⟨f1, r1⟩ := hJ
  have c1 : (3 : Int) ≤ ((3 : Nat) : Int) := by decide
  rw [hX12_takeTown_10]
  simp (disch := (first | assumption | omega | exact nb_ix (by omega) (by assumption) (by omega) (by omega) | exact nb_ix (by omega) rfl (by omega) (by omega) | exact nb_ok (by omega) rfl | decide)) only [kX12_takeTown, ↓if_pos, ↓if_neg, nb_add, nb_sub, nb_mul, Int.toNat_natCast, mm_kr_s, mm_kv_s, if_pos, if_neg, sq_tn, Int.toNat_zero, Int.reduceToNat, Int.reduceNeg, Nat.reduceAdd, Int.reduceAdd, Int.reduceEq, Int.reduceLT, Int.reduceLE, Int.zero_add, nb_ui_s, nb_ui_k, nb_ui_a, sp_min, sp_max, sp_bits]
  clear c1
  refine sq_loop (fun k (J : mm_I) => mm_E (d + 2) 189 35 [.inr (.inr (some 239)), .inl ((k : Int))] [] [] n J L P) (fun k J => sq_fr [253, 254, 255, 256, 257] (mm_ui I 239 26 (np : Int)) J ∧ (∀ a, a < 3 → J 253 a = ru a) ∧ ∀ a, a < k → J 254 a = I 251 a) 16 ⟨f1, r1, fun a ha => by omega⟩ (fun k J hk hJ nx => ?_) (fun J hJ => ?_)
  · have c1 : ¬ (16 : Int) ≤ (k : Int) := by omega
    have e1 : (k : Int) + 1 = ((k + 1 : Nat) : Int) := by omega
    have v1 : J 251 k = I 251 k := by rw [hJ.1 251 (by decide), nb_ui_a (by decide)]
    rw [hX12_takeTown_35]
    simp (disch := (first | assumption | omega | exact nb_ix (by omega) (by assumption) (by omega) (by omega) | exact nb_ix (by omega) rfl (by omega) (by omega) | exact nb_ok (by omega) rfl | decide)) only [kX12_takeTown, m18, m23, v1, e1, ↓if_pos, ↓if_neg, nb_add, nb_sub, nb_mul, Int.toNat_natCast, mm_kr_s, mm_kv_s, if_pos, if_neg, sq_tn, Int.toNat_zero, Int.reduceToNat, Int.reduceNeg, Nat.reduceAdd, Int.reduceAdd, Int.reduceEq, Int.reduceLT, Int.reduceLE, Int.zero_add, nb_ui_s, nb_ui_k, nb_ui_a, sp_min, sp_max, sp_bits]
    refine nx _ ⟨sq_fr_up hJ.1 (by decide), fun a ha => by rw [nb_ui_a (by decide)]; exact hJ.2.1 a ha, fun a ha => ?_⟩
    by_cases c : a = k
    · subst c; rw [nb_ui_s]
    · rw [nb_ui_k c]; exact hJ.2.2 a (by omega)
  obtain ⟨f2, r2, w2⟩ := hJ
  have c1 : (16 : Int) ≤ ((16 : Nat) : Int) := by decide
  rw [hX12_takeTown_35]
  simp (disch := (first | assumption | omega | exact nb_ix (by omega) (by assumption) (by omega) (by omega) | exact nb_ix (by omega) rfl (by omega) (by omega) | exact nb_ok (by omega) rfl | decide)) only [kX12_takeTown, ↓if_pos, ↓if_neg, nb_add, nb_sub, nb_mul, Int.toNat_natCast, mm_kr_s, mm_kv_s, if_pos, if_neg, sq_tn, Int.toNat_zero, Int.reduceToNat, Int.reduceNeg, Nat.reduceAdd, Int.reduceAdd, Int.reduceEq, Int.reduceLT, Int.reduceLE, Int.zero_add, nb_ui_s, nb_ui_k, nb_ui_a, sp_min, sp_max, sp_bits]
  clear c1
  refine sq_loop (fun k (J : mm_I) => mm_E (d + 2) 189 61 [.inr (.inr (some 239)), .inl ((k : Int))] [] [] n J L P) (fun k J => sq_fr [253, 254, 255, 256, 257] (mm_ui I 239 26 (np : Int)) J ∧ (∀ a, a < 3 → J 253 a = ru a) ∧ (∀ a, a < 16 → J 254 a = I 251 a) ∧ ∀ a, a < k → J 255 a = 0) 8 ⟨f2, r2, w2, fun a ha => by omega⟩ (fun k J hk hJ nx => ?_) (fun J hJ => ?_)
  · have c1 : ¬ (8 : Int) ≤ (k : Int) := by omega
    have e1 : (k : Int) + 1 = ((k + 1 : Nat) : Int) := by omega
    rw [hX12_takeTown_61]
    simp (disch := (first | assumption | omega | exact nb_ix (by omega) (by assumption) (by omega) (by omega) | exact nb_ix (by omega) rfl (by omega) (by omega) | exact nb_ok (by omega) rfl | decide)) only [kX12_takeTown, m24, e1, ↓if_pos, ↓if_neg, nb_add, nb_sub, nb_mul, Int.toNat_natCast, mm_kr_s, mm_kv_s, if_pos, if_neg, sq_tn, Int.toNat_zero, Int.reduceToNat, Int.reduceNeg, Nat.reduceAdd, Int.reduceAdd, Int.reduceEq, Int.reduceLT, Int.reduceLE, Int.zero_add, nb_ui_s, nb_ui_k, nb_ui_a, sp_min, sp_max, sp_bits]
    refine nx _ ⟨sq_fr_up hJ.1 (by decide), fun a ha => by rw [nb_ui_a (by decide)]; exact hJ.2.1 a ha, fun a ha => by rw [nb_ui_a (by decide)]; exact hJ.2.2.1 a ha, fun a ha => ?_⟩
    by_cases c : a = k
    · subst c; rw [nb_ui_s]
    · rw [nb_ui_k c]; exact hJ.2.2.2 a (by omega)
  obtain ⟨f3, r3, w3, b3⟩ := hJ
  have c1 : (8 : Int) ≤ ((8 : Nat) : Int) := by decide
  rw [hX12_takeTown_61]
  simp (disch := (first | assumption | omega | exact nb_ix (by omega) (by assumption) (by omega) (by omega) | exact nb_ix (by omega) rfl (by omega) (by omega) | exact nb_ok (by omega) rfl | decide)) only [kX12_takeTown, ↓if_pos, ↓if_neg, nb_add, nb_sub, nb_mul, Int.toNat_natCast, mm_kr_s, mm_kv_s, if_pos, if_neg, sq_tn, Int.toNat_zero, Int.reduceToNat, Int.reduceNeg, Nat.reduceAdd, Int.reduceAdd, Int.reduceEq, Int.reduceLT, Int.reduceLE, Int.zero_add, nb_ui_s, nb_ui_k, nb_ui_a, sp_min, sp_max, sp_bits]
  clear c1
  refine sq_loop (fun k (J : mm_I) => mm_E (d + 2) 189 82 [.inr (.inr (some 239)), .inl ((k : Int))] [] [] n J L P) (fun k J => sq_fr [253, 254, 255, 256, 257] (mm_ui I 239 26 (np : Int)) J ∧ (∀ a, a < 3 → J 253 a = ru a) ∧ (∀ a, a < 16 → J 254 a = I 251 a) ∧ ∀ a, a < 8 → J 255 a = (zBs la k a : Int)) nn ⟨f3, r3, w3, b3⟩ (fun k J hk hJ nx => ?_) (fun J hJ => ?_)
  · obtain ⟨f4, r4, w4, b4⟩ := hJ
    have j21 : J 239 21 = (nn : Int) := by rw [f4 239 (by decide), nb_ui_k (by decide)]; exact t2
    have c1 : ¬ (nn : Int) ≤ (k : Int) := by omega
    have e1 : (k : Int) + 1 = ((k + 1 : Nat) : Int) := by omega
    have e2 : 2 * (k : Int) = ((2 * k : Nat) : Int) := by omega
    have e3 : ((2 * k : Nat) : Int) + 1 = ((2 * k + 1 : Nat) : Int) := by omega
    obtain ⟨z1, z2, z3, z4, z5⟩ := hw.2 k hk
    obtain ⟨a, ha⟩ : ∃ a : Nat, la (2 * k) = (a : Int) := ⟨(la (2 * k)).toNat, by omega⟩
    obtain ⟨b, hb⟩ : ∃ b : Nat, la (2 * k + 1) = (b : Int) := ⟨(la (2 * k + 1)).toNat, by omega⟩
    have l1 : J 252 (2 * k) = (a : Int) := by rw [f4 252 (by decide), nb_ui_a (by decide), t5 _ (by omega)]; exact ha
    have l2 : J 252 (2 * k + 1) = (b : Int) := by rw [f4 252 (by decide), nb_ui_a (by decide), t5 _ (by omega)]; exact hb
    have a8 : a < 8 := by omega
    have b8 : b < 8 := by omega
    have hab : a ≠ b := by omega
    have hBk := zBs_lt hnp k (fun l hl => hw.2 l (by omega))
    have o1 := nb_set0 (zBs la k a) (hBk a) b b8
    have o2 := nb_set0 (zBs la k b) (hBk b) a a8
    have g1 := b4 a a8
    have g2 := b4 b b8
    have x1 : mm_ix n 255 20 (a : Int) := nb_ix (by omega) rfl (by omega) (by omega)
    have x2 : mm_ix n 255 20 (b : Int) := nb_ix (by omega) rfl (by omega) (by omega)
    have x3 : mm_ix n 252 20 ((2 * k : Nat) : Int) := nb_ix (by omega) rfl (by omega) (by omega)
    have x4 : mm_ix n 252 20 ((2 * k + 1 : Nat) : Int) := nb_ix (by omega) rfl (by omega) (by omega)
    rw [hX12_takeTown_82]
    simp (disch := (first | assumption | omega | exact nb_ix (by omega) (by assumption) (by omega) (by omega) | exact nb_ix (by omega) rfl (by omega) (by omega) | exact nb_ok (by omega) rfl | decide)) only [kX12_takeTown, j21, m24, m19, e2, e3, l1, l2, g1, g2, o1, o2, e1, ↓if_pos, ↓if_neg, nb_add, nb_sub, nb_mul, Int.toNat_natCast, mm_kr_s, mm_kv_s, if_pos, if_neg, sq_tn, Int.toNat_zero, Int.reduceToNat, Int.reduceNeg, Nat.reduceAdd, Int.reduceAdd, Int.reduceEq, Int.reduceLT, Int.reduceLE, Int.zero_add, nb_ui_s, nb_ui_k, nb_ui_a, sp_min, sp_max, sp_bits]
    refine nx _ ⟨sq_fr_up (sq_fr_up f4 (by decide)) (by decide), fun c hc => by rw [nb_ui_a (by decide), nb_ui_a (by decide)]; exact r4 c hc, fun c hc => by rw [nb_ui_a (by decide), nb_ui_a (by decide)]; exact w4 c hc, fun p hp => ?_⟩
    have ez : zBs la (k + 1) p = if p = (la (2 * k + 1)).toNat then zsb (zBs la k p) (la (2 * k)).toNat else if p = (la (2 * k)).toNat then zsb (zBs la k p) (la (2 * k + 1)).toNat else zBs la k p := rfl
    rw [ez, ha, hb, Int.toNat_natCast, Int.toNat_natCast]
    by_cases e4 : p = b
    · subst e4; rw [nb_ui_s, if_pos rfl]; rfl
    · rw [nb_ui_k e4, if_neg e4]
      by_cases e5 : p = a
      · subst e5; rw [nb_ui_s, if_pos rfl]; rfl
      · rw [nb_ui_k e5, if_neg e5]; exact b4 p hp
  obtain ⟨f4, r4, w4, b4⟩ := hJ
  have j21 : J 239 21 = (nn : Int) := by rw [f4 239 (by decide), nb_ui_k (by decide)]; exact t2
  have c1 : (nn : Int) ≤ (nn : Int) := Int.le_refl _
  rw [hX12_takeTown_82]
  simp (disch := (first | assumption | omega | exact nb_ix (by omega) (by assumption) (by omega) (by omega) | exact nb_ix (by omega) rfl (by omega) (by omega) | exact nb_ok (by omega) rfl | decide)) only [kX12_takeTown, j21, ↓if_pos, ↓if_neg, nb_add, nb_sub, nb_mul, Int.toNat_natCast, mm_kr_s, mm_kv_s, if_pos, if_neg, sq_tn, Int.toNat_zero, Int.reduceToNat, Int.reduceNeg, Nat.reduceAdd, Int.reduceAdd, Int.reduceEq, Int.reduceLT, Int.reduceLE, Int.zero_add, nb_ui_s, nb_ui_k, nb_ui_a, sp_min, sp_max, sp_bits]
  clear c1
  refine sq_kv (zU_steps (d := d) (L := L) (B := zBs la nn) hMp (fun p hp => ⟨b4 p hp, hB p⟩)) (fun G hG => ?_)
  obtain ⟨gf, gD⟩ := hG
  have f5 : sq_fr [253, 254, 255, 256, 257] (mm_ui I 239 26 (np : Int)) G := sq_fr_trans f4 gf (fun b hb => hb) (by decide)
  simp (disch := (first | assumption | omega | exact nb_ix (by omega) (by assumption) (by omega) (by omega) | exact nb_ix (by omega) rfl (by omega) (by omega) | exact nb_ok (by omega) rfl | decide)) only [kX12_takeTown, ↓if_pos, ↓if_neg, nb_add, nb_sub, nb_mul, Int.toNat_natCast, mm_kr_s, mm_kv_s, if_pos, if_neg, sq_tn, Int.toNat_zero, Int.reduceToNat, Int.reduceNeg, Nat.reduceAdd, Int.reduceAdd, Int.reduceEq, Int.reduceLT, Int.reduceLE, Int.zero_add, nb_ui_s, nb_ui_k, nb_ui_a, sp_min, sp_max, sp_bits]
  refine sq_loop (fun k (J : mm_I) => mm_E (d + 2) 189 158 [.inr (.inr (some 239)), .inl ((k : Int))] [] [] n J L P) (fun k J => sq_fr [257] G J ∧ ∀ a, a < k → J 257 a = 0) 211 ⟨sq_fr_refl _ _, fun a ha => by omega⟩ (fun k J hk hJ nx => ?_) (fun J hJ => ?_)
  · have c1 : ¬ (211 : Int) ≤ (k : Int) := by omega
    have e1 : (k : Int) + 1 = ((k + 1 : Nat) : Int) := by omega
    rw [hX12_takeTown_158]
    simp (disch := (first | assumption | omega | exact nb_ix (by omega) (by assumption) (by omega) (by omega) | exact nb_ix (by omega) rfl (by omega) (by omega) | exact nb_ok (by omega) rfl | decide)) only [kX12_takeTown, m27, e1, ↓if_pos, ↓if_neg, nb_add, nb_sub, nb_mul, Int.toNat_natCast, mm_kr_s, mm_kv_s, if_pos, if_neg, sq_tn, Int.toNat_zero, Int.reduceToNat, Int.reduceNeg, Nat.reduceAdd, Int.reduceAdd, Int.reduceEq, Int.reduceLT, Int.reduceLE, Int.zero_add, nb_ui_s, nb_ui_k, nb_ui_a, sp_min, sp_max, sp_bits]
    refine nx _ ⟨sq_fr_up hJ.1 (by decide), fun a ha => ?_⟩
    by_cases c : a = k
    · subst c; rw [nb_ui_s]
    · rw [nb_ui_k c]; exact hJ.2 a (by omega)
  obtain ⟨f6, z6⟩ := hJ
  have c1 : (211 : Int) ≤ ((211 : Nat) : Int) := by decide
  rw [hX12_takeTown_158]
  simp (disch := (first | assumption | omega | exact nb_ix (by omega) (by assumption) (by omega) (by omega) | exact nb_ix (by omega) rfl (by omega) (by omega) | exact nb_ok (by omega) rfl | decide)) only [kX12_takeTown, ↓if_pos, ↓if_neg, nb_add, nb_sub, nb_mul, Int.toNat_natCast, mm_kr_s, mm_kv_s, if_pos, if_neg, sq_tn, Int.toNat_zero, Int.reduceToNat, Int.reduceNeg, Nat.reduceAdd, Int.reduceAdd, Int.reduceEq, Int.reduceLT, Int.reduceLE, Int.zero_add, nb_ui_s, nb_ui_k, nb_ui_a, sp_min, sp_max, sp_bits]
  clear c1
  have hr : ∀ a, a < 3 → J 253 a = ru a := fun a ha => by rw [f6 253 (by decide), gf 253 (by decide)]; exact r4 a ha
  have hsp : ∀ a, a < 2 * np → J 254 a = pl a := fun a ha => by rw [f6 254 (by decide), gf 254 (by decide), w4 a (by omega)]; exact t4 a ha
  have j26 : J 239 26 = (np : Int) := by rw [f6 239 (by decide), f5 239 (by decide), nb_ui_s]
  refine sq_kv (sq_mtold (d := d + 1) (L := L) (s := np) (W := fun p => pl (2 * p)) (g := ru 0) (N := fun _ => 0) hMp hnp j26 (hr 0 (by decide)) (fun p hp => hsp _ (by omega)) (fun j h1 h2 => z6 j h2)) (fun E hE => ?_)
  obtain ⟨eN, eF⟩ := hE
  have er2 : E 253 2 = ru 2 := by rw [eF 253 (by decide)]; exact hr 2 (by decide)
  have e26 : E 239 26 = (np : Int) := by rw [eF 239 (by decide)]; exact j26
  simp (disch := (first | assumption | omega | exact nb_ix (by omega) (by assumption) (by omega) (by omega) | exact nb_ix (by omega) rfl (by omega) (by omega) | exact nb_ok (by omega) rfl | decide)) only [kX12_takeTown, m27, m22, er2, e26, ↓if_pos, ↓if_neg, nb_add, nb_sub, nb_mul, Int.toNat_natCast, mm_kr_s, mm_kv_s, if_pos, if_neg, sq_tn, Int.toNat_zero, Int.reduceToNat, Int.reduceNeg, Nat.reduceAdd, Int.reduceAdd, Int.reduceEq, Int.reduceLT, Int.reduceLE, Int.zero_add, nb_ui_s, nb_ui_k, nb_ui_a, sp_min, sp_max, sp_bits]
  have base : ∀ b, b ≠ 239 → b ≠ 253 → b ≠ 254 → b ≠ 255 → b ≠ 256 → b ≠ 257 → E b = I b := fun b a1 a2 a3 a4 a5 a6 => by rw [eF b (by simp only [List.mem_cons, List.not_mem_nil, or_false]; omega), f6 b (by simp only [List.mem_cons, List.not_mem_nil, or_false]; omega), f5 b (by simp only [List.mem_cons, List.not_mem_nil, or_false]; omega), nb_ui_r a1]
  have b239 : ∀ j, j ≠ 26 → E 239 j = I 239 j := fun j hj => by rw [eF 239 (by decide), f6 239 (by decide), f5 239 (by decide), nb_ui_k hj]
  have q : ∀ b, b ≠ 239 → b ≠ 257 → mm_ui (mm_ui (mm_ui (mm_ui E 257 27 (ru 2)) 239 42 0) 239 33 0) 239 46 0 b = E b := fun b a1 a2 => by rw [nb_ui_r a1, nb_ui_r a1, nb_ui_r a1, nb_ui_r a2]
  have q9 : ∀ j, j ≠ 42 → j ≠ 33 → j ≠ 46 → mm_ui (mm_ui (mm_ui (mm_ui E 257 27 (ru 2)) 239 42 0) 239 33 0) 239 46 0 239 j = E 239 j := fun j a1 a2 a3 => by rw [nb_ui_k a3, nb_ui_k a2, nb_ui_k a1, nb_ui_a (by decide)]
  have q57 : ∀ j, mm_ui (mm_ui (mm_ui (mm_ui E 257 27 (ru 2)) 239 42 0) 239 33 0) 239 46 0 257 j = mm_ui E 257 27 (ru 2) 257 j := fun j => by rw [nb_ui_a (by decide), nb_ui_a (by decide), nb_ui_a (by decide)]
  obtain ⟨c1, c2, c3, c4, c5, c6, c7, c8, c9⟩ := hM
  refine sq_ret ⟨⟨c1, ⟨⟨hnp, ?_, fun k hk => ⟨?_, zDi_rg _ 8 k⟩, fun p hp => ⟨?_, hB p⟩, ?_, ?_⟩, fun p hp => ⟨?_, ?_⟩, ?_⟩, rm_laws_k c3 ?_ ?_ (fun b a1 a2 => ?_), ⟨fun j hj => ?_, ?_, Nat.zero_le _, fun i hi => absurd hi (Nat.not_lt_zero i)⟩, ⟨nb_ui_s, fun w => absurd w (by decide)⟩, ⟨?_, fun i hi => absurd hi (Nat.not_lt_zero i)⟩, ⟨?_, fun i hi => absurd hi (Nat.not_lt_zero i)⟩, ?_, fun k hk => ?_⟩, fun b hb => ?_⟩
  · rw [q9 26 (by decide) (by decide) (by decide)]; exact e26
  · rw [q 256 (by decide) (by decide), eF 256 (by decide), f6 256 (by decide)]; exact gD k hk
  · rw [q 255 (by decide) (by decide), eF 255 (by decide), f6 255 (by decide), gf 255 (by decide)]; exact b4 p hp
  · rw [q 253 (by decide) (by decide), eF 253 (by decide)]; exact hr 0 (by decide)
  · rw [q 253 (by decide) (by decide), eF 253 (by decide)]; exact hr 1 (by decide)
  · rw [q 254 (by decide) (by decide), eF 254 (by decide)]; exact hsp _ (by omega)
  · rw [q 254 (by decide) (by decide), eF 254 (by decide)]; exact hsp _ (by omega)
  · rw [q 253 (by decide) (by decide)]; exact er2
  · rw [q9 13 (by decide) (by decide) (by decide), b239 13 (by decide)]
  · rw [q9 29 (by decide) (by decide) (by decide), b239 29 (by decide)]
  · rw [q b (by omega) (by omega), base b (by omega) (by omega) (by omega) (by omega) (by omega) (by omega)]
  · rw [q57 j]
    show _ = zN0 np pl ru j
    by_cases e : j = 27
    · subst e; rw [nb_ui_s]; rfl
    · rw [nb_ui_k e, eN j hj]
      unfold zN0 sw_told
      simp only [e, if_false]
  · rw [nb_ui_k (by decide), nb_ui_s]; rfl
  · rw [nb_ui_k (by decide), nb_ui_k (by decide), nb_ui_s]; rfl
  · rw [q9 2 (by decide) (by decide) (by decide), b239 2 (by decide)]; exact hsz
  · rw [q9 30 (by decide) (by decide) (by decide), b239 30 (by decide)]; exact c8
  · rw [q 258 (by decide) (by decide), base 258 (by decide) (by decide) (by decide) (by decide) (by decide) (by decide)]; exact c9 k hk
  · rw [q b (by omega) (by omega), base b (by omega) (by omega) (by omega) (by omega) (by omega) (by omega)]
end MK
