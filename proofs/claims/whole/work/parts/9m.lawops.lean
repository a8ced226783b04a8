/-! fault 1 and text 1, both halves at once -/
section LO
variable {n t u S nl : Nat} {P : mm_P} {T : Nat → Int}
theorem zc_of {I : mm_I} {tp : (Nat → Int) × Nat} (hP : sq_P n P t u) (h : rc_tape I tp) (hs : rs_tape tp) : zc n P I tp.1 tp.2 := ⟨hP.1, by have := hP.2.2.2.2.2.2.2.1; exact this.2.2.2.2.2.2.2.2.2.2.2.2.1, h.1, hs.1, h.2, hs.2⟩
theorem zm_of {I : mm_I} {tp : (Nat → Int) × Nat} (hP : sq_P n P t u) (h : rm_tape I tp) (hs : rs_tape tp) : zm n P I tp.1 tp.2 := ⟨hP.2.2.1, h.1, hs.1, h.2, hs.2⟩
set_option maxHeartbeats 4000000 in
theorem oz_fault (hP : sq_P n P t u) (hnl : nl ≤ 4) (hS : S ≤ 240) : ∃ z : Int,
    (∀ (d : Nat) (I L : mm_I), 48 ≤ d → zc n P I T S → I 0 5 = (nl : Int) → sq_X (some (.inl z)) n L P (fun I' => zcF (20 + 4 * nl) I I') (mm_rn d 87 [.inr (.inr (some 0)), .inl 1] n I L P)) ∧
    (∀ (d : Nat) (I L : mm_I), 48 ≤ d → zm n P I T S → sq_X (some (.inl z)) n L P (fun I' => zkF 4 I I') (mm_rn d 186 [.inr (.inr (some 239)), .inl 1] n I L P)) := by
  have hL := sq_P_L hP (show nl < 5 by omega)
  obtain ⟨o, oc, om⟩ := zJ_read (T := T) (S := S) (x := 4) hL (by omega) (by decide) hS
  refine ⟨zrM o, fun d I L hd hz h5 => ?_, fun d I L hd hz => ?_⟩
  · obtain ⟨e, rfl⟩ : ∃ e, d = e + 1 := ⟨d - 1, by omega⟩
    have hn := hP.1
    have pp := hP.2.2.2.2.2.2.2.1
    have q0 := pp.1
    have q4 := pp.2.2.1
    have ql := (hP.2.2.2.2.2.2.2.2.1 nl (by omega)).1
    rw [eX11_fault]
    simp (disch := (first | assumption | omega | exact nb_ix (by omega) (by assumption) (by omega) (by omega) | exact nb_ix (by omega) rfl (by omega) (by omega) | exact nb_ok (by omega) rfl | decide)) only [kX11_fault, q0, q4, h5, ql, ↓if_pos, ↓if_neg, nb_add, nb_sub, nb_mul, Int.toNat_natCast, mm_kr_s, mm_kv_s, if_pos, if_neg, sq_tn, Int.toNat_zero, Int.reduceToNat, Int.reduceNeg, Nat.reduceAdd, Int.reduceAdd, Int.reduceEq, Int.reduceLT, Int.reduceLE, Int.zero_add, nb_ui_s, nb_ui_k, nb_ui_a, sp_min, sp_max, sp_bits]
    refine sq_kr (oc e I L (by omega) hz) (fun I' hI => ?_)
    cases o with
    | inl p =>
      have e0 : zrL (Sum.inl p : zlo) = 0 := rfl
      have e1 : I' 1 2 = (p : Int) := hI.2
      simp (disch := (first | assumption | omega | exact nb_ix (by omega) (by assumption) (by omega) (by omega) | exact nb_ix (by omega) rfl (by omega) (by omega) | exact nb_ok (by omega) rfl | decide)) only [kX11_fault, e0, q0, e1, ↓if_pos, ↓if_neg, nb_add, nb_sub, nb_mul, Int.toNat_natCast, mm_kr_s, mm_kv_s, if_pos, if_neg, sq_tn, Int.toNat_zero, Int.reduceToNat, Int.reduceNeg, Nat.reduceAdd, Int.reduceAdd, Int.reduceEq, Int.reduceLT, Int.reduceLE, Int.zero_add, nb_ui_s, nb_ui_k, nb_ui_a, sp_min, sp_max, sp_bits]
      exact sq_ret hI.1
    | inr q =>
      have e0 : zrL (Sum.inr q : zlo) = 1 := rfl
      simp (disch := (first | assumption | omega | exact nb_ix (by omega) (by assumption) (by omega) (by omega) | exact nb_ix (by omega) rfl (by omega) (by omega) | exact nb_ok (by omega) rfl | decide)) only [kX11_fault, e0, ↓if_pos, ↓if_neg, nb_add, nb_sub, nb_mul, Int.toNat_natCast, mm_kr_s, mm_kv_s, if_pos, if_neg, sq_tn, Int.toNat_zero, Int.reduceToNat, Int.reduceNeg, Nat.reduceAdd, Int.reduceAdd, Int.reduceEq, Int.reduceLT, Int.reduceLE, Int.zero_add, nb_ui_s, nb_ui_k, nb_ui_a, sp_min, sp_max, sp_bits]
      exact sq_ret hI.1
  · obtain ⟨e, rfl⟩ : ∃ e, d = e + 1 := ⟨d - 1, by omega⟩
    have ok := hz.1.ok
    have e4 : ((4 : Nat) : Int) = 4 := rfl
    have om2 := om e I L (by omega) hz
    rw [e4] at om2
    rw [eX12_fault]
    simp (disch := (first | assumption | omega | exact nb_ix (by omega) (by assumption) (by omega) (by omega) | exact nb_ix (by omega) rfl (by omega) (by omega) | exact nb_ok (by omega) rfl | decide)) only [kX12_fault, ↓if_pos, ↓if_neg, nb_add, nb_sub, nb_mul, Int.toNat_natCast, mm_kr_s, mm_kv_s, if_pos, if_neg, sq_tn, Int.toNat_zero, Int.reduceToNat, Int.reduceNeg, Nat.reduceAdd, Int.reduceAdd, Int.reduceEq, Int.reduceLT, Int.reduceLE, Int.zero_add, nb_ui_s, nb_ui_k, nb_ui_a, sp_min, sp_max, sp_bits]
    refine sq_kr om2 (fun I' hI => ?_)
    simp (disch := (first | assumption | omega | exact nb_ix (by omega) (by assumption) (by omega) (by omega) | exact nb_ix (by omega) rfl (by omega) (by omega) | exact nb_ok (by omega) rfl | decide)) only [kX12_fault, ↓if_pos, ↓if_neg, nb_add, nb_sub, nb_mul, Int.toNat_natCast, mm_kr_s, mm_kv_s, if_pos, if_neg, sq_tn, Int.toNat_zero, Int.reduceToNat, Int.reduceNeg, Nat.reduceAdd, Int.reduceAdd, Int.reduceEq, Int.reduceLT, Int.reduceLE, Int.zero_add, nb_ui_s, nb_ui_k, nb_ui_a, sp_min, sp_max, sp_bits]
    exact sq_ret hI.1
end LO
