/-! fault 1 and text 1, both halves at once -/
section LO
variable {n t u S nl : Nat} {P : mm_P} {T : Nat → Int}
theorem zc_of {I : mm_I} {tp : (Nat → Int) × Nat} (hP : sq_P n P t u) (h : rc_tape I tp) (hs : rs_tape tp) : zc n P I tp.1 tp.2 := ⟨hP.1, by have := hP.2.2.2.2.2.2.2.1; exact this.2.2.2.2.2.2.2.2.2.2.2.2.1, h.1, hs.1, h.2, hs.2⟩
theorem zm_of {I : mm_I} {tp : (Nat → Int) × Nat} (hP : sq_P n P t u) (h : rm_tape I tp) (hs : rs_tape tp) : zm n P I tp.1 tp.2 := ⟨hP.2.2.1, h.1, hs.1, h.2, hs.2⟩
theorem zc_next {d : Nat} {I L : mm_I} (hP : sq_P n P t u) (hnl : nl ≤ 4) (h5 : I 0 5 = (nl : Int)) : mm_rn (d + 2) 289 [.inr (.inr (some 0))] n I L P = some (some (.inr (.inr (some (20 + 4 * nl)))), n, I, L, P) := by
  have ok0 := sq_ok0 hP
  have hn := hP.1
  have q4 := hP.2.2.2.2.2.2.2.1.2.2.1
  have ql := (hP.2.2.2.2.2.2.2.2.1 nl (by omega)).1
  have em : min (nl : Int) 4 = (nl : Int) := by omega
  have hix : mm_ix n 19 24 (nl : Int) := nb_ix (by omega) rfl (by omega) (by omega)
  rw [eX11_nextLaw]
  simp (disch := (first | assumption | omega | exact nb_ix (by omega) (by assumption) (by omega) (by omega) | exact nb_ix (by omega) rfl (by omega) (by omega) | exact nb_ok (by omega) rfl | decide)) only [kX11_nextLaw, q4, h5, em, ql, ↓if_pos, ↓if_neg, nb_add, nb_sub, nb_mul, Int.toNat_natCast, mm_kr_s, mm_kv_s, if_pos, if_neg, sq_tn, Int.toNat_zero, Int.reduceToNat, Int.reduceNeg, Nat.reduceAdd, Int.reduceAdd, Int.reduceEq, Int.reduceLT, Int.reduceLE, Int.zero_add, nb_ui_s, nb_ui_k, nb_ui_a, sp_min, sp_max, sp_bits]
set_option maxHeartbeats 4000000 in
theorem oz_fault (hP : sq_P n P t u) (hnl : nl ≤ 4) (hS : S ≤ 240) : ∃ z : Int,
    (∀ (d : Nat) (I L : mm_I), 48 ≤ d → zc n P I T S → I 0 5 = (nl : Int) → sq_X (some (.inl z)) n L P (fun I' => zcF (20 + 4 * nl) I I') (mm_rn d 87 [.inr (.inr (some 0)), .inl 1] n I L P)) ∧
    (∀ (d : Nat) (I L : mm_I), 48 ≤ d → zm n P I T S → sq_X (some (.inl z)) n L P (fun I' => zkF 4 I I') (mm_rn d 186 [.inr (.inr (some 239)), .inl 1] n I L P)) := by
  have hL := sq_P_L hP (show nl < 5 by omega)
  obtain ⟨o, oc, om⟩ := zJ_read (T := T) (S := S) (x := 4) hL (by omega) (by decide) hS
  refine ⟨zrM o, fun d I L hd hz h5 => ?_, fun d I L hd hz => ?_⟩
  · obtain ⟨e, rfl⟩ : ∃ e, d = e + 3 := ⟨d - 3, by omega⟩
    have ok0 := sq_ok0 hP
    have hnx := zc_next (d := e) (L := L) hP hnl h5
    have hn := hP.1
    have pp := hP.2.2.2.2.2.2.2.1
    have q0 := pp.1
    have q4 := pp.2.2.1
    have ql := (hP.2.2.2.2.2.2.2.2.1 nl (by omega)).1
    rw [eX11_fault]
    simp (disch := (first | assumption | omega | exact nb_ix (by omega) (by assumption) (by omega) (by omega) | exact nb_ix (by omega) rfl (by omega) (by omega) | exact nb_ok (by omega) rfl | decide)) only [kX11_fault, q0, hnx, ↓if_pos, ↓if_neg, nb_add, nb_sub, nb_mul, Int.toNat_natCast, mm_kr_s, mm_kv_s, if_pos, if_neg, sq_tn, Int.toNat_zero, Int.reduceToNat, Int.reduceNeg, Nat.reduceAdd, Int.reduceAdd, Int.reduceEq, Int.reduceLT, Int.reduceLE, Int.zero_add, nb_ui_s, nb_ui_k, nb_ui_a, sp_min, sp_max, sp_bits]
    refine sq_kr (oc (e + 2) I L (by omega) hz) (fun I' hI => ?_)
    cases o with
    | inl p =>
      have e0 : zrL (Sum.inl p : zlo) = 0 := rfl
      have e1 : I' 1 2 = (p : Int) := hI.2
      simp (disch := (first | assumption | omega | exact nb_ix (by omega) (by assumption) (by omega) (by omega) | exact nb_ix (by omega) rfl (by omega) (by omega) | exact nb_ok (by omega) rfl | decide)) only [kX11_fault, e0, q0, e1, ↓if_pos, ↓if_neg, nb_add, nb_sub, nb_mul, Int.toNat_natCast, mm_kr_s, mm_kv_s, if_pos, if_neg, sq_tn, Int.toNat_zero, Int.reduceToNat, Int.reduceNeg, Nat.reduceAdd, Int.reduceAdd, Int.reduceEq, Int.reduceLT, Int.reduceLE, Int.zero_add, nb_ui_s, nb_ui_k, nb_ui_a, sp_min, sp_max, sp_bits]
      exact sq_ret hI.1
    | inr q =>
      have e0 : zrL (Sum.inr q : zlo) = 1 := rfl
      simp (disch := (first | assumption | omega | exact nb_ix (by omega) (by assumption) (by omega) (by omega) | exact nb_ix (by omega) rfl (by omega) (by omega) | exact nb_ok (by omega) rfl | decide)) only [kX11_fault, e0, ↓if_pos, ↓if_neg, nb_add, nb_sub, nb_mul, Int.toNat_natCast, mm_kr_s, mm_kv_s, if_pos, if_neg, sq_tn, Int.toNat_zero, Int.reduceToNat, Int.reduceNeg, Nat.reduceAdd, Int.reduceAdd, Int.reduceEq, Int.reduceLT, Int.reduceLE, Int.zero_add, nb_ui_s, nb_ui_k, nb_ui_a, sp_min, sp_max, sp_bits]
      exact sq_ret hI.1
  · obtain ⟨e, rfl⟩ : ∃ e, d = e + 1 := ⟨d - 1, by omega⟩
    have ok := hz.1.ok
    have e4 : ((4 : Nat) : Int) = 4 := rfl
    have om2 := om e I L (by omega) hz
    rw [e4] at om2
    rw [eX12_fault]
    simp (disch := (first | assumption | omega | exact nb_ix (by omega) (by assumption) (by omega) (by omega) | exact nb_ix (by omega) rfl (by omega) (by omega) | exact nb_ok (by omega) rfl | decide)) only [kX12_fault, ↓if_pos, ↓if_neg, nb_add, nb_sub, nb_mul, Int.toNat_natCast, mm_kr_s, mm_kv_s, if_pos, if_neg, sq_tn, Int.toNat_zero, Int.reduceToNat, Int.reduceNeg, Nat.reduceAdd, Int.reduceAdd, Int.reduceEq, Int.reduceLT, Int.reduceLE, Int.zero_add, nb_ui_s, nb_ui_k, nb_ui_a, sp_min, sp_max, sp_bits]
    refine sq_kr om2 (fun I' hI => ?_)
    simp (disch := (first | assumption | omega | exact nb_ix (by omega) (by assumption) (by omega) (by omega) | exact nb_ix (by omega) rfl (by omega) (by omega) | exact nb_ok (by omega) rfl | decide)) only [kX12_fault, ↓if_pos, ↓if_neg, nb_add, nb_sub, nb_mul, Int.toNat_natCast, mm_kr_s, mm_kv_s, if_pos, if_neg, sq_tn, Int.toNat_zero, Int.reduceToNat, Int.reduceNeg, Nat.reduceAdd, Int.reduceAdd, Int.reduceEq, Int.reduceLT, Int.reduceLE, Int.zero_add, nb_ui_s, nb_ui_k, nb_ui_a, sp_min, sp_max, sp_bits]
    exact sq_ret hI.1
set_option maxHeartbeats 4000000 in
theorem oz_text (hP : sq_P n P t u) (hnl : nl < 4) (hS : S ≤ 240) : (
    (∀ (d : Nat) (I L : mm_I), 49 ≤ d → zc n P I T S → I 0 5 = (nl : Int) → sq_X (some (.inl (-1))) n L P (fun I' => zcF (20 + 4 * nl) I I') (mm_rn d 88 [.inr (.inr (some 0)), .inl 1] n I L P)) ∧
    (∀ (d : Nat) (I L : mm_I), 49 ≤ d → zm n P I T S → I 239 13 = (nl : Int) → sq_X (some (.inl (-1))) n L P (fun I' => zkF nl I I') (mm_rn d 190 [.inr (.inr (some 239)), .inl 1] n I L P))) ∨
    (∃ cls : List (List (Nat × Int) × List (Nat × Int)),
    (∀ (d : Nat) (I L : mm_I), 49 ≤ d → zc n P I T S → I 0 5 = (nl : Int) → sq_X (some (.inl ((nl : Int)))) n L P (fun I' => rc_law I' (20 + 4 * nl) cls ∧ I' 1 1 = 0 ∧ I' 0 5 = ((nl + 1 : Nat) : Int) ∧ (∀ b, b ≠ 0 → b ≠ 1 → b ≠ 20 + 4 * nl → b ≠ 21 + 4 * nl → I' b = I b) ∧ (∀ k, k ≠ 5 → I' 0 k = I 0 k)) (mm_rn d 88 [.inr (.inr (some 0)), .inl 1] n I L P)) ∧
    (∀ (d : Nat) (I L : mm_I), 49 ≤ d → zm n P I T S → I 239 13 = (nl : Int) → sq_X (some (.inl ((nl : Int)))) n L P (fun I' => rm_law I' nl cls ∧ I' 239 2 = 0 ∧ I' 239 13 = ((nl + 1 : Nat) : Int) ∧ ∃ J, zkF nl I J ∧ I' = mm_ui (mm_ui J 239 2 0) 239 13 ((nl + 1 : Nat) : Int)) (mm_rn d 190 [.inr (.inr (some 239)), .inl 1] n I L P))) := by
  have hL := sq_P_L hP (show nl < 5 by omega)
  obtain ⟨o, oc, om⟩ := zJ_read (T := T) (S := S) (x := nl) hL (by omega) (by omega) hS
  have hn := hP.1
  have pp := hP.2.2.2.2.2.2.2.1
  have q0 := pp.1
  have q4 := pp.2.2.1
  have ql := (hP.2.2.2.2.2.2.2.2.1 nl (by omega)).1
  have c4 : ¬ (4 : Int) ≤ (nl : Int) := by omega
  have e1 : (nl : Int) + 1 = ((nl + 1 : Nat) : Int) := by omega
  have e2 : ((nl + 1 : Nat) : Int) - 1 = (nl : Int) := by omega
  cases o with
  | inl p =>
    refine Or.inl ⟨fun d I L hd hz h5 => ?_, fun d I L hd hz h13 => ?_⟩
    · obtain ⟨e, rfl⟩ : ∃ e, d = e + 4 := ⟨d - 4, by omega⟩
      have hnx := zc_next (d := e) (L := L) hP (show nl ≤ 4 by omega) h5
      rw [eX11_text]
      simp (disch := (first | assumption | omega | exact nb_ix (by omega) (by assumption) (by omega) (by omega) | exact nb_ix (by omega) rfl (by omega) (by omega) | exact nb_ok (by omega) rfl | decide)) only [kX11_text, ↓if_pos, ↓if_neg, nb_add, nb_sub, nb_mul, Int.toNat_natCast, mm_kr_s, mm_kv_s, if_pos, if_neg, sq_tn, Int.toNat_zero, Int.reduceToNat, Int.reduceNeg, Nat.reduceAdd, Int.reduceAdd, Int.reduceEq, Int.reduceLT, Int.reduceLE, Int.zero_add, nb_ui_s, nb_ui_k, nb_ui_a, sp_min, sp_max, sp_bits]
      refine sq_kr (L0 := L) (P0 := P) (v := .inl (-1)) (Q1 := fun I' => zcF (20 + 4 * nl) I I') ?_ (fun I' hI => ?_)
      · rw [eX11_takeLaw]
        simp (disch := (first | assumption | omega | exact nb_ix (by omega) (by assumption) (by omega) (by omega) | exact nb_ix (by omega) rfl (by omega) (by omega) | exact nb_ok (by omega) rfl | decide)) only [kX11_takeLaw, q0, h5, hnx, ↓if_pos, ↓if_neg, nb_add, nb_sub, nb_mul, Int.toNat_natCast, mm_kr_s, mm_kv_s, if_pos, if_neg, sq_tn, Int.toNat_zero, Int.reduceToNat, Int.reduceNeg, Nat.reduceAdd, Int.reduceAdd, Int.reduceEq, Int.reduceLT, Int.reduceLE, Int.zero_add, nb_ui_s, nb_ui_k, nb_ui_a, sp_min, sp_max, sp_bits]
        refine sq_kr (oc (e + 2) I L (by omega) hz) (fun I' hI => ?_)
        have e0 : zrL (Sum.inl p : zlo) = 0 := rfl
        simp (disch := (first | assumption | omega | exact nb_ix (by omega) (by assumption) (by omega) (by omega) | exact nb_ix (by omega) rfl (by omega) (by omega) | exact nb_ok (by omega) rfl | decide)) only [kX11_takeLaw, e0, ↓if_pos, ↓if_neg, nb_add, nb_sub, nb_mul, Int.toNat_natCast, mm_kr_s, mm_kv_s, if_pos, if_neg, sq_tn, Int.toNat_zero, Int.reduceToNat, Int.reduceNeg, Nat.reduceAdd, Int.reduceAdd, Int.reduceEq, Int.reduceLT, Int.reduceLE, Int.zero_add, nb_ui_s, nb_ui_k, nb_ui_a, sp_min, sp_max, sp_bits]
        exact sq_ret hI.1
      · simp (disch := (first | assumption | omega | exact nb_ix (by omega) (by assumption) (by omega) (by omega) | exact nb_ix (by omega) rfl (by omega) (by omega) | exact nb_ok (by omega) rfl | decide)) only [kX11_text, ↓if_pos, ↓if_neg, nb_add, nb_sub, nb_mul, Int.toNat_natCast, mm_kr_s, mm_kv_s, if_pos, if_neg, sq_tn, Int.toNat_zero, Int.reduceToNat, Int.reduceNeg, Nat.reduceAdd, Int.reduceAdd, Int.reduceEq, Int.reduceLT, Int.reduceLE, Int.zero_add, nb_ui_s, nb_ui_k, nb_ui_a, sp_min, sp_max, sp_bits]
        exact sq_ret hI
    · obtain ⟨e, rfl⟩ : ∃ e, d = e + 1 := ⟨d - 1, by omega⟩
      have ok := hz.1.ok
      rw [eX12_text]
      simp (disch := (first | assumption | omega | exact nb_ix (by omega) (by assumption) (by omega) (by omega) | exact nb_ix (by omega) rfl (by omega) (by omega) | exact nb_ok (by omega) rfl | decide)) only [kX12_text, h13, ↓if_pos, ↓if_neg, nb_add, nb_sub, nb_mul, Int.toNat_natCast, mm_kr_s, mm_kv_s, if_pos, if_neg, sq_tn, Int.toNat_zero, Int.reduceToNat, Int.reduceNeg, Nat.reduceAdd, Int.reduceAdd, Int.reduceEq, Int.reduceLT, Int.reduceLE, Int.zero_add, nb_ui_s, nb_ui_k, nb_ui_a, sp_min, sp_max, sp_bits]
      refine sq_kr (om e I L (by omega) hz) (fun I' hI => ?_)
      have e0 : zrM (Sum.inl p : zlo) = (p : Int) := rfl
      have cp : ¬ (p : Int) = -1 := by omega
      simp (disch := (first | assumption | omega | exact nb_ix (by omega) (by assumption) (by omega) (by omega) | exact nb_ix (by omega) rfl (by omega) (by omega) | exact nb_ok (by omega) rfl | decide)) only [kX12_text, e0, ↓if_pos, ↓if_neg, nb_add, nb_sub, nb_mul, Int.toNat_natCast, mm_kr_s, mm_kv_s, if_pos, if_neg, sq_tn, Int.toNat_zero, Int.reduceToNat, Int.reduceNeg, Nat.reduceAdd, Int.reduceAdd, Int.reduceEq, Int.reduceLT, Int.reduceLE, Int.zero_add, nb_ui_s, nb_ui_k, nb_ui_a, sp_min, sp_max, sp_bits]
      exact sq_ret hI.1
  | inr cls =>
    refine Or.inr ⟨cls, fun d I L hd hz h5 => ?_, fun d I L hd hz h13 => ?_⟩
    · obtain ⟨e, rfl⟩ : ∃ e, d = e + 4 := ⟨d - 4, by omega⟩
      have hnx := zc_next (d := e) (L := L) hP (show nl ≤ 4 by omega) h5
      rw [eX11_text]
      simp (disch := (first | assumption | omega | exact nb_ix (by omega) (by assumption) (by omega) (by omega) | exact nb_ix (by omega) rfl (by omega) (by omega) | exact nb_ok (by omega) rfl | decide)) only [kX11_text, ↓if_pos, ↓if_neg, nb_add, nb_sub, nb_mul, Int.toNat_natCast, mm_kr_s, mm_kv_s, if_pos, if_neg, sq_tn, Int.toNat_zero, Int.reduceToNat, Int.reduceNeg, Nat.reduceAdd, Int.reduceAdd, Int.reduceEq, Int.reduceLT, Int.reduceLE, Int.zero_add, nb_ui_s, nb_ui_k, nb_ui_a, sp_min, sp_max, sp_bits]
      refine sq_kr (L0 := L) (P0 := P) (v := .inl ((nl : Int))) (Q1 := fun I' => rc_law I' (20 + 4 * nl) cls ∧ I' 1 1 = 0 ∧ I' 0 5 = ((nl + 1 : Nat) : Int) ∧ (∀ b, b ≠ 0 → b ≠ 1 → b ≠ 20 + 4 * nl → b ≠ 21 + 4 * nl → I' b = I b) ∧ (∀ k, k ≠ 5 → I' 0 k = I 0 k)) ?_ (fun I' hI => ?_)
      · rw [eX11_takeLaw]
        simp (disch := (first | assumption | omega | exact nb_ix (by omega) (by assumption) (by omega) (by omega) | exact nb_ix (by omega) rfl (by omega) (by omega) | exact nb_ok (by omega) rfl | decide)) only [kX11_takeLaw, q0, h5, hnx, ↓if_pos, ↓if_neg, nb_add, nb_sub, nb_mul, Int.toNat_natCast, mm_kr_s, mm_kv_s, if_pos, if_neg, sq_tn, Int.toNat_zero, Int.reduceToNat, Int.reduceNeg, Nat.reduceAdd, Int.reduceAdd, Int.reduceEq, Int.reduceLT, Int.reduceLE, Int.zero_add, nb_ui_s, nb_ui_k, nb_ui_a, sp_min, sp_max, sp_bits]
        refine sq_kr (oc (e + 2) I L (by omega) hz) (fun I' hI => ?_)
        obtain ⟨hf, hlw⟩ := hI
        have e0 : zrL (Sum.inr cls : zlo) = 1 := rfl
        have h0 : I' 0 = I 0 := hf.1 0 (by decide) (by omega) (by omega)
        have h05 : I' 0 5 = (nl : Int) := by rw [h0]; exact h5
        simp (disch := (first | assumption | omega | exact nb_ix (by omega) (by assumption) (by omega) (by omega) | exact nb_ix (by omega) rfl (by omega) (by omega) | exact nb_ok (by omega) rfl | decide)) only [kX11_takeLaw, e0, q0, h05, e1, e2, ↓if_pos, ↓if_neg, nb_add, nb_sub, nb_mul, Int.toNat_natCast, mm_kr_s, mm_kv_s, if_pos, if_neg, sq_tn, Int.toNat_zero, Int.reduceToNat, Int.reduceNeg, Nat.reduceAdd, Int.reduceAdd, Int.reduceEq, Int.reduceLT, Int.reduceLE, Int.zero_add, nb_ui_s, nb_ui_k, nb_ui_a, sp_min, sp_max, sp_bits]
        refine sq_ret ⟨?_, ?_, ?_, fun b b1 b2 b3 b4 => ?_, fun k hk => ?_⟩
        · obtain ⟨len, m1, m2, m3, m4⟩ := hlw
          refine ⟨len, m1, ?_, ?_, m4⟩
          · rw [nb_ui_a (by omega), nb_ui_a (by omega)]; exact m2
          · rw [nb_ui_r (by omega), nb_ui_r (by omega)]; exact m3
        · rw [nb_ui_a (by decide), nb_ui_s]
        · rw [nb_ui_s]
        · rw [nb_ui_r b1, nb_ui_r b2]; exact hf.1 b b2 b3 (by omega)
        · rw [nb_ui_k hk, nb_ui_a (by decide), h0]
      · simp (disch := (first | assumption | omega | exact nb_ix (by omega) (by assumption) (by omega) (by omega) | exact nb_ix (by omega) rfl (by omega) (by omega) | exact nb_ok (by omega) rfl | decide)) only [kX11_text, ↓if_pos, ↓if_neg, nb_add, nb_sub, nb_mul, Int.toNat_natCast, mm_kr_s, mm_kv_s, if_pos, if_neg, sq_tn, Int.toNat_zero, Int.reduceToNat, Int.reduceNeg, Nat.reduceAdd, Int.reduceAdd, Int.reduceEq, Int.reduceLT, Int.reduceLE, Int.zero_add, nb_ui_s, nb_ui_k, nb_ui_a, sp_min, sp_max, sp_bits]
        exact sq_ret hI
    · obtain ⟨e, rfl⟩ : ∃ e, d = e + 1 := ⟨d - 1, by omega⟩
      have ok := hz.1.ok
      rw [eX12_text]
      simp (disch := (first | assumption | omega | exact nb_ix (by omega) (by assumption) (by omega) (by omega) | exact nb_ix (by omega) rfl (by omega) (by omega) | exact nb_ok (by omega) rfl | decide)) only [kX12_text, h13, ↓if_pos, ↓if_neg, nb_add, nb_sub, nb_mul, Int.toNat_natCast, mm_kr_s, mm_kv_s, if_pos, if_neg, sq_tn, Int.toNat_zero, Int.reduceToNat, Int.reduceNeg, Nat.reduceAdd, Int.reduceAdd, Int.reduceEq, Int.reduceLT, Int.reduceLE, Int.zero_add, nb_ui_s, nb_ui_k, nb_ui_a, sp_min, sp_max, sp_bits]
      refine sq_kr (om e I L (by omega) hz) (fun I' hI => ?_)
      obtain ⟨hf, hlw⟩ := hI
      have e0 : zrM (Sum.inr cls : zlo) = -1 := rfl
      have k13 : I' 239 13 = (nl : Int) := by rw [hf.2.1 13 (by decide) (by decide) (by decide) (by decide)]; exact h13
      simp (disch := (first | assumption | omega | exact nb_ix (by omega) (by assumption) (by omega) (by omega) | exact nb_ix (by omega) rfl (by omega) (by omega) | exact nb_ok (by omega) rfl | decide)) only [kX12_text, e0, k13, e1, e2, ↓if_pos, ↓if_neg, nb_add, nb_sub, nb_mul, Int.toNat_natCast, mm_kr_s, mm_kv_s, if_pos, if_neg, sq_tn, Int.toNat_zero, Int.reduceToNat, Int.reduceNeg, Nat.reduceAdd, Int.reduceAdd, Int.reduceEq, Int.reduceLT, Int.reduceLE, Int.zero_add, nb_ui_s, nb_ui_k, nb_ui_a, sp_min, sp_max, sp_bits]
      refine sq_ret ⟨?_, ?_, ?_, I', hf, rfl⟩
      · obtain ⟨m1, m2, m3, m4⟩ := hlw
        exact ⟨by rw [nb_ui_a (by decide), nb_ui_a (by decide)]; exact m1, m2, sx_ml_keep (fun b b1 b2 => by rw [nb_ui_r (by omega), nb_ui_r (by omega)]) _ _ _ m3, m4⟩
      · rw [nb_ui_k (by decide), nb_ui_s]
      · rw [nb_ui_s]
end LO
