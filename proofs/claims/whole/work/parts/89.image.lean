/-! images, clues, danger, laws held, the tape's end: both halves -/
def rc_img (I : mm_I) (kf : Int) (NI : Nat → Int) (LgI : Nat → Nat → Int) : Prop := I 0 13 = kf ∧ (kf = 0 ∨ kf = 1) ∧ (kf = 1 → sq_cN I 210 NI ∧ ∀ h w, (NI 29).toNat - 60 ≤ h → h < (NI 29).toNat → w < 3 → I (215 + w) (h % 100) = LgI h w)
def rm_img (I : mm_I) (kf : Int) (NI : Nat → Int) : Prop := I 239 46 = kf ∧ (kf = 1 → ∀ j, j < 211 → I 268 j = NI j)
section IM
variable {n c t u s d : Nat} {I L : mm_I} {P : mm_P} {N NI : Nat → Int} {LgI : Nat → Nat → Int} {kf : Int}
theorem sq_ccopy3 {a b : Nat} (hP : sq_P n P t u) (hab : (a = 214 ∧ b = 44) ∨ (a = 44 ∧ b = 214)) : sq_X none n L P (fun I' => (∀ w j, w < 3 → j < 100 → I' (a + 1 + w) j = I (b + 1 + w) j) ∧ sq_fr [a + 1, a + 2, a + 3] I I') (mm_rn (d + 1) 10 [.inr (.inr (some a)), .inr (.inr (some b))] n I L P) := by
  have hC := hP.2.2.2.2.2.2.2.1
  have hn := hP.1
  have e100 : Int.toNat 100 = 100 := rfl
  have e0 : Int.toNat 0 = 0 := rfl
  have fin : ∀ x y : Nat, (x = 214 ∧ y = 44) ∨ (x = 44 ∧ y = 214) → (∀ w j, w < 3 → j < 100 → mm_cpy (mm_cpy (mm_cpy I (y + 1) 0 (x + 1) 0 100) (y + 2) 0 (x + 2) 0 100) (y + 3) 0 (x + 3) 0 100 (x + 1 + w) j = I (y + 1 + w) j) ∧ sq_fr [x + 1, x + 2, x + 3] I (mm_cpy (mm_cpy (mm_cpy I (y + 1) 0 (x + 1) 0 100) (y + 2) 0 (x + 2) 0 100) (y + 3) 0 (x + 3) 0 100) := by
    intro x y hxy
    refine ⟨fun w j hw hj => ?_, fun b hb => ?_⟩
    · have : w = 0 ∨ w = 1 ∨ w = 2 := by omega
      rcases this with e | e | e
      · subst e
        rw [nb_cpy_a (by omega), nb_cpy_a (by omega)]
        exact nb_cpy_0 hj
      · subst e
        rw [nb_cpy_a (by omega)]
        show mm_cpy (mm_cpy I (y + 1) 0 (x + 1) 0 100) (y + 2) 0 (x + 2) 0 100 (x + 2) j = I (y + 2) j
        rw [nb_cpy_0 hj, nb_cpy_a (by omega)]
      · subst e
        show mm_cpy _ (y + 3) 0 (x + 3) 0 100 (x + 3) j = I (y + 3) j
        rw [nb_cpy_0 hj, nb_cpy_a (by omega), nb_cpy_a (by omega)]
    · simp at hb
      funext j
      rw [nb_cpy_a (by omega), nb_cpy_a (by omega), nb_cpy_a (by omega)]
  rcases hab with ⟨e1, e2⟩ | ⟨e1, e2⟩
  · subst e1; subst e2
    have oka : mm_ok n 214 1 := nb_ok (by omega) rfl
    have okb : mm_ok n 44 1 := nb_ok (by omega) rfl
    have c1 : 45 < n ∧ 215 < n ∧ 45 ≠ 215 ∧ (mm_ty 45).1 = 20 ∧ (mm_ty 215).1 = 20 ∧ 0 ≤ (100 : Int) ∧ 0 ≤ (0 : Int) ∧ 0 ≤ (0 : Int) ∧ 0 + 100 ≤ ((mm_ty 45).2 : Int) ∧ 0 + 100 ≤ ((mm_ty 215).2 : Int) := ⟨by omega, by omega, by decide, rfl, rfl, by omega, by omega, by omega, by decide, by decide⟩
    have c2 : 46 < n ∧ 216 < n ∧ 46 ≠ 216 ∧ (mm_ty 46).1 = 20 ∧ (mm_ty 216).1 = 20 ∧ 0 ≤ (100 : Int) ∧ 0 ≤ (0 : Int) ∧ 0 ≤ (0 : Int) ∧ 0 + 100 ≤ ((mm_ty 46).2 : Int) ∧ 0 + 100 ≤ ((mm_ty 216).2 : Int) := ⟨by omega, by omega, by decide, rfl, rfl, by omega, by omega, by omega, by decide, by decide⟩
    have c3 : 47 < n ∧ 217 < n ∧ 47 ≠ 217 ∧ (mm_ty 47).1 = 20 ∧ (mm_ty 217).1 = 20 ∧ 0 ≤ (100 : Int) ∧ 0 ≤ (0 : Int) ∧ 0 ≤ (0 : Int) ∧ 0 + 100 ≤ ((mm_ty 47).2 : Int) ∧ 0 + 100 ≤ ((mm_ty 217).2 : Int) := ⟨by omega, by omega, by decide, rfl, rfl, by omega, by omega, by omega, by decide, by decide⟩
    rw [eX1_copyFrom]
    simp (disch := assumption) only [kX1_copyFrom, hC]
    rw [e100, e0]
    exact sq_ret (fin 214 44 (by omega))
  · subst e1; subst e2
    have oka : mm_ok n 214 1 := nb_ok (by omega) rfl
    have okb : mm_ok n 44 1 := nb_ok (by omega) rfl
    have c1 : 215 < n ∧ 45 < n ∧ 215 ≠ 45 ∧ (mm_ty 215).1 = 20 ∧ (mm_ty 45).1 = 20 ∧ 0 ≤ (100 : Int) ∧ 0 ≤ (0 : Int) ∧ 0 ≤ (0 : Int) ∧ 0 + 100 ≤ ((mm_ty 215).2 : Int) ∧ 0 + 100 ≤ ((mm_ty 45).2 : Int) := ⟨by omega, by omega, by decide, rfl, rfl, by omega, by omega, by omega, by decide, by decide⟩
    have c2 : 216 < n ∧ 46 < n ∧ 216 ≠ 46 ∧ (mm_ty 216).1 = 20 ∧ (mm_ty 46).1 = 20 ∧ 0 ≤ (100 : Int) ∧ 0 ≤ (0 : Int) ∧ 0 ≤ (0 : Int) ∧ 0 + 100 ≤ ((mm_ty 216).2 : Int) ∧ 0 + 100 ≤ ((mm_ty 46).2 : Int) := ⟨by omega, by omega, by decide, rfl, rfl, by omega, by omega, by omega, by decide, by decide⟩
    have c3 : 217 < n ∧ 47 < n ∧ 217 ≠ 47 ∧ (mm_ty 217).1 = 20 ∧ (mm_ty 47).1 = 20 ∧ 0 ≤ (100 : Int) ∧ 0 ≤ (0 : Int) ∧ 0 ≤ (0 : Int) ∧ 0 + 100 ≤ ((mm_ty 217).2 : Int) ∧ 0 + 100 ≤ ((mm_ty 47).2 : Int) := ⟨by omega, by omega, by decide, rfl, rfl, by omega, by omega, by omega, by decide, by decide⟩
    rw [eX1_copyFrom]
    simp (disch := assumption) only [kX1_copyFrom, hC]
    rw [e100, e0]
    exact sq_ret (fin 44 214 (by omega))
theorem sl_old_le {x : sT} (hS : rs_T s x) : sl_old x ≤ (x.1 29).toNat := by
  have hch := rs_chain hS
  unfold sl_old
  by_cases c0 : x.2.1 = 0
  · rw [if_pos c0]; exact Nat.le_refl _
  · rw [if_neg c0]
    have := hch x.2.1 0 (by omega) (by omega)
    omega
/-- rows of images: 210 to 217; of row 0 its mark alone -/
def sq_fi (I I' : mm_I) : Prop := (∀ b, b ≠ 0 → ¬ (210 ≤ b ∧ b < 218) → I' b = I b) ∧ (∀ j, j ≠ 13 → I' 0 j = I 0 j)
theorem oa_image {x : sT} (hP : sq_P n P t u) (hs : I t 0 = (s : Int)) (hT : rc_T I x) (hS : rs_T s x) : (s = 0 → mm_rn (d + 10) 142 [.inr (.inr (some 0))] n I L P = some (some (.inl (-1)), n, I, L, P)) ∧ (0 < s → sq_X (some (.inl (x.1 29))) n L P (fun I' => rc_img I' 1 x.1 x.2.2.2.2 ∧ sq_fi I I') (mm_rn (d + 10) 142 [.inr (.inr (some 0))] n I L P)) := by
  have ok0 := sq_ok0 hP
  have hC := hP.2.2.2.2.2.2.2.1
  have hn := hP.1
  have hA := hP.2.2.2.2.2.1 40 (by omega)
  have hA2 := hP.2.2.2.2.2.1 210 (by omega)
  have ok40 := hA.ok
  have ok210 := hA2.ok
  have hole := sl_old_le hS
  rw [eX11_image]
  refine ⟨fun h0 => ?_, fun h0 => ?_⟩
  · simp (disch := (first | assumption | omega | exact nb_ix (by omega) (by assumption) (by omega) (by omega) | exact nb_ix (by omega) rfl (by omega) (by omega) | exact nb_ok (by omega) rfl | decide)) only [kX11_image, sq_noTown hP hs, ↓if_pos, ↓if_neg, nb_add, nb_sub, nb_mul, Int.toNat_natCast, mm_kr_s, mm_kv_s, if_pos, if_neg, sq_tn, Int.toNat_zero, Int.reduceToNat, Int.reduceNeg, Nat.reduceAdd, Int.reduceAdd, Int.reduceEq, Int.reduceLT, Int.reduceLE, Int.zero_add, nb_ui_s, nb_ui_k, nb_ui_a, sp_min, sp_max, sp_bits]
  · have h0' : ¬ s = 0 := by omega
    simp (disch := (first | assumption | omega | exact nb_ix (by omega) (by assumption) (by omega) (by omega) | exact nb_ix (by omega) rfl (by omega) (by omega) | exact nb_ok (by omega) rfl | decide)) only [kX11_image, sq_noTown hP hs, hC, ↓if_pos, ↓if_neg, nb_add, nb_sub, nb_mul, Int.toNat_natCast, mm_kr_s, mm_kv_s, if_pos, if_neg, sq_tn, Int.toNat_zero, Int.reduceToNat, Int.reduceNeg, Nat.reduceAdd, Int.reduceAdd, Int.reduceEq, Int.reduceLT, Int.reduceLE, Int.zero_add, nb_ui_s, nb_ui_k, nb_ui_a, sp_min, sp_max, sp_bits]
    refine sq_kv (sq_ccopy (d := d + 8) hA2 hA (by omega) hT.1) (fun J hJ => ?_)
    simp (disch := (first | assumption | omega | exact nb_ix (by omega) (by assumption) (by omega) (by omega) | exact nb_ix (by omega) rfl (by omega) (by omega) | exact nb_ok (by omega) rfl | decide)) only [kX11_image, hC, ↓if_pos, ↓if_neg, nb_add, nb_sub, nb_mul, Int.toNat_natCast, mm_kr_s, mm_kv_s, if_pos, if_neg, sq_tn, Int.toNat_zero, Int.reduceToNat, Int.reduceNeg, Nat.reduceAdd, Int.reduceAdd, Int.reduceEq, Int.reduceLT, Int.reduceLE, Int.zero_add, nb_ui_s, nb_ui_k, nb_ui_a, sp_min, sp_max, sp_bits]
    refine sq_kv (sq_ccopy3 (d := d + 8) hP (Or.inl ⟨rfl, rfl⟩)) (fun K hK => ?_)
    have k8 : K 40 8 = x.1 29 := by
      rw [hK.2 40 (by decide), hJ.2 40 (by decide)]
      exact (sq_cN_iff.1 hT.1).2.2.2.2.2.2.2.2
    simp (disch := (first | assumption | omega | exact nb_ix (by omega) (by assumption) (by omega) (by omega) | exact nb_ix (by omega) rfl (by omega) (by omega) | exact nb_ok (by omega) rfl | decide)) only [kX11_image, hC, k8, ↓if_pos, ↓if_neg, nb_add, nb_sub, nb_mul, Int.toNat_natCast, mm_kr_s, mm_kv_s, if_pos, if_neg, sq_tn, Int.toNat_zero, Int.reduceToNat, Int.reduceNeg, Nat.reduceAdd, Int.reduceAdd, Int.reduceEq, Int.reduceLT, Int.reduceLE, Int.zero_add, nb_ui_s, nb_ui_k, nb_ui_a, sp_min, sp_max, sp_bits]
    refine sq_ret ⟨⟨?_, Or.inr rfl, fun _ => ⟨?_, fun h w a b e => ?_⟩⟩, fun b hb hb2 => ?_, fun j hj => ?_⟩
    · rw [nb_ui_s]
    · refine sq_cN_rows hJ.1 (fun k hk => ?_)
      rw [nb_ui_r (by omega), hK.2 _ (by simp; omega)]
    · rw [nb_ui_a (by omega)]
      have h1 := hK.1 w (h % 100) e (by omega)
      have e1 : 214 + 1 + w = 215 + w := by omega
      have e2 : 44 + 1 + w = 45 + w := by omega
      rw [e1, e2] at h1
      rw [h1, hJ.2 (45 + w) (by simp; omega)]
      exact hT.2.2 h w (by omega) b e
    · rw [nb_ui_r hb, hK.2 b (by simp; omega), hJ.2 b (by simp; omega)]
    · rw [nb_ui_k hj, hK.2 0 (by decide), hJ.2 0 (by decide)]
theorem oa_back {x : sT} (hP : sq_P n P t u) (hT : rc_T I x) (hG : rc_img I kf NI LgI) : (kf = 0 → mm_rn (d + 10) 143 [.inr (.inr (some 0))] n I L P = some (some (.inl (-1)), n, I, L, P)) ∧ (kf = 1 → sq_X (some (.inl (NI 29))) n L P (fun I' => rc_T I' (NI, 0, x.2.2.1, x.2.2.2.1, LgI) ∧ sq_fr sq_TL I I') (mm_rn (d + 10) 143 [.inr (.inr (some 0))] n I L P)) := by
  have ok0 := sq_ok0 hP
  have hC := hP.2.2.2.2.2.2.2.1
  have hn := hP.1
  have hA := hP.2.2.2.2.2.1 40 (by omega)
  have hA2 := hP.2.2.2.2.2.1 210 (by omega)
  have ok40 := hA.ok
  have ok210 := hA2.ok
  have ok48 : mm_ok n 48 6 := nb_ok (by omega) rfl
  obtain ⟨g1, g2, g3⟩ := hG
  rw [eX11_back]
  refine ⟨fun h0 => ?_, fun h0 => ?_⟩
  · rw [h0] at g1
    simp (disch := (first | assumption | omega | exact nb_ix (by omega) (by assumption) (by omega) (by omega) | exact nb_ix (by omega) rfl (by omega) (by omega) | exact nb_ok (by omega) rfl | decide)) only [kX11_back, g1, ↓if_pos, ↓if_neg, nb_add, nb_sub, nb_mul, Int.toNat_natCast, mm_kr_s, mm_kv_s, if_pos, if_neg, sq_tn, Int.toNat_zero, Int.reduceToNat, Int.reduceNeg, Nat.reduceAdd, Int.reduceAdd, Int.reduceEq, Int.reduceLT, Int.reduceLE, Int.zero_add, nb_ui_s, nb_ui_k, nb_ui_a, sp_min, sp_max, sp_bits]
  · obtain ⟨g4, g5⟩ := g3 h0
    rw [h0] at g1
    simp (disch := (first | assumption | omega | exact nb_ix (by omega) (by assumption) (by omega) (by omega) | exact nb_ix (by omega) rfl (by omega) (by omega) | exact nb_ok (by omega) rfl | decide)) only [kX11_back, g1, hC, ↓if_pos, ↓if_neg, nb_add, nb_sub, nb_mul, Int.toNat_natCast, mm_kr_s, mm_kv_s, if_pos, if_neg, sq_tn, Int.toNat_zero, Int.reduceToNat, Int.reduceNeg, Nat.reduceAdd, Int.reduceAdd, Int.reduceEq, Int.reduceLT, Int.reduceLE, Int.zero_add, nb_ui_s, nb_ui_k, nb_ui_a, sp_min, sp_max, sp_bits]
    refine sq_kv (sq_ccopy (d := d + 8) hA hA2 (by omega) g4) (fun J hJ => ?_)
    simp (disch := (first | assumption | omega | exact nb_ix (by omega) (by assumption) (by omega) (by omega) | exact nb_ix (by omega) rfl (by omega) (by omega) | exact nb_ok (by omega) rfl | decide)) only [kX11_back, hC, ↓if_pos, ↓if_neg, nb_add, nb_sub, nb_mul, Int.toNat_natCast, mm_kr_s, mm_kv_s, if_pos, if_neg, sq_tn, Int.toNat_zero, Int.reduceToNat, Int.reduceNeg, Nat.reduceAdd, Int.reduceAdd, Int.reduceEq, Int.reduceLT, Int.reduceLE, Int.zero_add, nb_ui_s, nb_ui_k, nb_ui_a, sp_min, sp_max, sp_bits]
    refine sq_kv (sq_ccopy3 (d := d + 8) hP (Or.inr ⟨rfl, rfl⟩)) (fun K hK => ?_)
    have hK40 : sq_cN K 40 NI := sq_cN_rows hJ.1 (fun k hk => hK.2 _ (by simp; omega))
    have k8 : K 40 8 = NI 29 := (sq_cN_iff.1 hK40).2.2.2.2.2.2.2.2
    simp (disch := (first | assumption | omega | exact nb_ix (by omega) (by assumption) (by omega) (by omega) | exact nb_ix (by omega) rfl (by omega) (by omega) | exact nb_ok (by omega) rfl | decide)) only [kX11_back, hC, k8, ↓if_pos, ↓if_neg, nb_add, nb_sub, nb_mul, Int.toNat_natCast, mm_kr_s, mm_kv_s, if_pos, if_neg, sq_tn, Int.toNat_zero, Int.reduceToNat, Int.reduceNeg, Nat.reduceAdd, Int.reduceAdd, Int.reduceEq, Int.reduceLT, Int.reduceLE, Int.zero_add, nb_ui_s, nb_ui_k, nb_ui_a, sp_min, sp_max, sp_bits]
    refine sq_ret ⟨⟨?_, ⟨?_, ?_, ?_, ?_, fun i hi => ?_⟩, fun h w a b e => ?_⟩, fun b hb => ?_⟩
    · exact sq_cN_rows hK40 (fun k hk => nb_ui_r (by omega))
    · rw [nb_ui_k (by decide), hK.2 48 (by decide), hJ.2 48 (by decide)]
      exact hT.2.1.1
    · exact hT.2.1.2.1
    · rw [nb_ui_s]; rfl
    · exact Nat.zero_le _
    · exact absurd hi (Nat.not_lt_zero _)
    · show mm_ui K 48 2 0 (45 + w) (h % 100) = LgI h w
      rw [nb_ui_a (by omega)]
      have h1 := hK.1 w (h % 100) e (by omega)
      have e1 : 214 + 1 + w = 215 + w := by omega
      have e2 : 44 + 1 + w = 45 + w := by omega
      rw [e1, e2] at h1
      rw [h1, hJ.2 (215 + w) (by simp; omega)]
      have a2 : (NI 29).toNat - 60 ≤ h := a
      exact g5 h w a2 b e
    · rw [sq_TL_mem] at hb
      rw [nb_ui_r (by omega), hK.2 b (by simp; omega), hJ.2 b (by simp; omega)]
/-- the model's image: rows 268; of 239 its mark -/
def sq_fm (I I' : mm_I) : Prop := (∀ b, b ≠ 239 → b ≠ 268 → I' b = I b) ∧ (∀ j, j ≠ 46 → I' 239 j = I 239 j)
theorem ob_image {x : sT} (hM : sp_M n P) (hs : I 239 26 = (s : Int)) (hT : rm_T I x) : (s = 0 → mm_rn (d + 10) 260 [.inr (.inr (some 239))] n I L P = some (some (.inl (-1)), n, I, L, P)) ∧ (0 < s → sq_X (some (.inl (x.1 29))) n L P (fun I' => rm_img I' 1 x.1 ∧ sq_fm I I') (mm_rn (d + 10) 260 [.inr (.inr (some 239))] n I L P)) := by
  have ok := hM.ok
  obtain ⟨hn, hP⟩ := hM
  rw [eX12_image]
  refine ⟨fun h0 => ?_, fun h0 => ?_⟩
  · simp (disch := (first | assumption | omega | exact nb_ix (by omega) (by assumption) (by omega) (by omega) | exact nb_ix (by omega) rfl (by omega) (by omega) | exact nb_ok (by omega) rfl | decide)) only [kX12_image, hs, ↓if_pos, ↓if_neg, nb_add, nb_sub, nb_mul, Int.toNat_natCast, mm_kr_s, mm_kv_s, if_pos, if_neg, sq_tn, Int.toNat_zero, Int.reduceToNat, Int.reduceNeg, Nat.reduceAdd, Int.reduceAdd, Int.reduceEq, Int.reduceLT, Int.reduceLE, Int.zero_add, nb_ui_s, nb_ui_k, nb_ui_a, sp_min, sp_max, sp_bits]
  · have h0' : ¬ (s : Int) = 0 := by omega
    simp (disch := (first | assumption | omega | exact nb_ix (by omega) (by assumption) (by omega) (by omega) | exact nb_ix (by omega) rfl (by omega) (by omega) | exact nb_ok (by omega) rfl | decide)) only [kX12_image, hs, ↓if_pos, ↓if_neg, nb_add, nb_sub, nb_mul, Int.toNat_natCast, mm_kr_s, mm_kv_s, if_pos, if_neg, sq_tn, Int.toNat_zero, Int.reduceToNat, Int.reduceNeg, Nat.reduceAdd, Int.reduceAdd, Int.reduceEq, Int.reduceLT, Int.reduceLE, Int.zero_add, nb_ui_s, nb_ui_k, nb_ui_a, sp_min, sp_max, sp_bits]
    refine sq_loop (fun i (J : mm_I) => mm_E (d + 9) 260 11 [.inr (.inr (some 239)), .inl ((i : Nat))] [] [] n J L P) (fun i J => (∀ j, j < i → J 268 j = x.1 j) ∧ sq_fr [268] I J) 211 (s0 := I) ⟨fun j hj => by omega, sq_fr_refl _ _⟩ ?_ ?_
    · intro i J hi ⟨h1, h2⟩ ih
      have e57 : J 257 i = x.1 i := by rw [h2 257 (by decide)]; exact hT.1 i hi
      rw [hX12_image_11]
      simp (disch := (first | assumption | omega | exact nb_ix (by omega) (by assumption) (by omega) (by omega) | exact nb_ix (by omega) rfl (by omega) (by omega) | exact nb_ok (by omega) rfl | decide)) only [kX12_image, hP, e57, ↓if_pos, ↓if_neg, nb_add, nb_sub, nb_mul, Int.toNat_natCast, mm_kr_s, mm_kv_s, if_pos, if_neg, sq_tn, Int.toNat_zero, Int.reduceToNat, Int.reduceNeg, Nat.reduceAdd, Int.reduceAdd, Int.reduceEq, Int.reduceLT, Int.reduceLE, Int.zero_add, nb_ui_s, nb_ui_k, nb_ui_a, sp_min, sp_max, sp_bits]
      refine ih _ ⟨fun j hj => ?_, ?_⟩
      · by_cases hji : j = i
        · subst hji; rw [nb_ui_s]
        · rw [nb_ui_k hji]; exact h1 j (by omega)
      · exact sq_fr_up h2 (by simp)
    · intro J ⟨h1, h2⟩
      have e29 : J 257 29 = x.1 29 := by rw [h2 257 (by decide)]; exact hT.1 29 (by omega)
      rw [hX12_image_11]
      simp (disch := (first | assumption | omega | exact nb_ix (by omega) (by assumption) (by omega) (by omega) | exact nb_ix (by omega) rfl (by omega) (by omega) | exact nb_ok (by omega) rfl | decide)) only [kX12_image, hP, e29, ↓if_pos, ↓if_neg, nb_add, nb_sub, nb_mul, Int.toNat_natCast, mm_kr_s, mm_kv_s, if_pos, if_neg, sq_tn, Int.toNat_zero, Int.reduceToNat, Int.reduceNeg, Nat.reduceAdd, Int.reduceAdd, Int.reduceEq, Int.reduceLT, Int.reduceLE, Int.zero_add, nb_ui_s, nb_ui_k, nb_ui_a, sp_min, sp_max, sp_bits]
      refine sq_ret ⟨⟨by rw [nb_ui_s], fun _ j hj => ?_⟩, fun b hb hb2 => ?_, fun j hj => ?_⟩
      · rw [nb_ui_a (by decide)]; exact h1 j hj
      · rw [nb_ui_r hb, h2 b (by simp; omega)]
      · rw [nb_ui_k hj, h2 239 (by decide)]
theorem ob_back {x : sT} (hM : sp_M n P) (hT : rm_T I x) (hkf : kf = 0 ∨ kf = 1) (hG : rm_img I kf NI) : (kf = 0 → mm_rn (d + 10) 261 [.inr (.inr (some 239))] n I L P = some (some (.inl (-1)), n, I, L, P)) ∧ (kf = 1 → sq_X (some (.inl (NI 29))) n L P (fun I' => rm_T I' (NI, 0, x.2.2.1, x.2.2.2.1, LgI) ∧ sq_ft I I') (mm_rn (d + 10) 261 [.inr (.inr (some 239))] n I L P)) := by
  have ok := hM.ok
  obtain ⟨hn, hP⟩ := hM
  obtain ⟨g1, g2⟩ := hG
  rw [eX12_back]
  refine ⟨fun h0 => ?_, fun h0 => ?_⟩
  · rw [h0] at g1
    simp (disch := (first | assumption | omega | exact nb_ix (by omega) (by assumption) (by omega) (by omega) | exact nb_ix (by omega) rfl (by omega) (by omega) | exact nb_ok (by omega) rfl | decide)) only [kX12_back, g1, ↓if_pos, ↓if_neg, nb_add, nb_sub, nb_mul, Int.toNat_natCast, mm_kr_s, mm_kv_s, if_pos, if_neg, sq_tn, Int.toNat_zero, Int.reduceToNat, Int.reduceNeg, Nat.reduceAdd, Int.reduceAdd, Int.reduceEq, Int.reduceLT, Int.reduceLE, Int.zero_add, nb_ui_s, nb_ui_k, nb_ui_a, sp_min, sp_max, sp_bits]
  · have g3 := g2 h0
    rw [h0] at g1
    simp (disch := (first | assumption | omega | exact nb_ix (by omega) (by assumption) (by omega) (by omega) | exact nb_ix (by omega) rfl (by omega) (by omega) | exact nb_ok (by omega) rfl | decide)) only [kX12_back, g1, ↓if_pos, ↓if_neg, nb_add, nb_sub, nb_mul, Int.toNat_natCast, mm_kr_s, mm_kv_s, if_pos, if_neg, sq_tn, Int.toNat_zero, Int.reduceToNat, Int.reduceNeg, Nat.reduceAdd, Int.reduceAdd, Int.reduceEq, Int.reduceLT, Int.reduceLE, Int.zero_add, nb_ui_s, nb_ui_k, nb_ui_a, sp_min, sp_max, sp_bits]
    refine sq_loop (fun i (J : mm_I) => mm_E (d + 9) 261 11 [.inr (.inr (some 239)), .inl ((i : Nat))] [] [] n J L P) (fun i J => (∀ j, j < i → J 257 j = NI j) ∧ sq_fr [257] I J) 211 (s0 := I) ⟨fun j hj => by omega, sq_fr_refl _ _⟩ ?_ ?_
    · intro i J hi ⟨h1, h2⟩ ih
      have e68 : J 268 i = NI i := by rw [h2 268 (by decide)]; exact g3 i hi
      rw [hX12_back_11]
      simp (disch := (first | assumption | omega | exact nb_ix (by omega) (by assumption) (by omega) (by omega) | exact nb_ix (by omega) rfl (by omega) (by omega) | exact nb_ok (by omega) rfl | decide)) only [kX12_back, hP, e68, ↓if_pos, ↓if_neg, nb_add, nb_sub, nb_mul, Int.toNat_natCast, mm_kr_s, mm_kv_s, if_pos, if_neg, sq_tn, Int.toNat_zero, Int.reduceToNat, Int.reduceNeg, Nat.reduceAdd, Int.reduceAdd, Int.reduceEq, Int.reduceLT, Int.reduceLE, Int.zero_add, nb_ui_s, nb_ui_k, nb_ui_a, sp_min, sp_max, sp_bits]
      refine ih _ ⟨fun j hj => ?_, ?_⟩
      · by_cases hji : j = i
        · subst hji; rw [nb_ui_s]
        · rw [nb_ui_k hji]; exact h1 j (by omega)
      · exact sq_fr_up h2 (by simp)
    · intro J ⟨h1, h2⟩
      have e29 : J 257 29 = NI 29 := h1 29 (by omega)
      rw [hX12_back_11]
      simp (disch := (first | assumption | omega | exact nb_ix (by omega) (by assumption) (by omega) (by omega) | exact nb_ix (by omega) rfl (by omega) (by omega) | exact nb_ok (by omega) rfl | decide)) only [kX12_back, hP, e29, ↓if_pos, ↓if_neg, nb_add, nb_sub, nb_mul, Int.toNat_natCast, mm_kr_s, mm_kv_s, if_pos, if_neg, sq_tn, Int.toNat_zero, Int.reduceToNat, Int.reduceNeg, Nat.reduceAdd, Int.reduceAdd, Int.reduceEq, Int.reduceLT, Int.reduceLE, Int.zero_add, nb_ui_s, nb_ui_k, nb_ui_a, sp_min, sp_max, sp_bits]
      refine sq_ret ⟨⟨fun j hj => ?_, ?_, ?_, fun i hi => ?_⟩, fun b hb => ?_, fun j hj => ?_⟩
      · rw [nb_ui_a (by decide)]; exact h1 j hj
      · rw [nb_ui_s]; rfl
      · exact Nat.zero_le _
      · exact absurd hi (Nat.not_lt_zero _)
      · simp at hb
        rw [nb_ui_r (by omega), h2 b (by simp; omega)]
      · rw [nb_ui_k hj, h2 239 (by decide)]
/-! clues -/
def sa_seen (s ck : Nat) (p m v : Int) : Prop := (0 ≤ p ∧ p < s) ∧ (1 ≤ m ∧ m ≤ 20) ∧ (0 ≤ v ∧ v ≤ 99) ∧ ck < 10
theorem oa_seen {ck : Nat} (hP : sq_P n P t u) (hs : I t 0 = (s : Int)) (hck : I 218 4 = (ck : Int)) (hck10 : ck ≤ 10) (p m v b : Int) (hb : b = 0 ∨ b = 1) : (¬ sa_seen s ck p m v → mm_rn (d + 10) 126 [.inr (.inr (some 0)), .inl p, .inl m, .inl v, .inl b] n I L P = some (some (.inl (-1)), n, I, L, P)) ∧ (sa_seen s ck p m v → mm_rn (d + 10) 126 [.inr (.inr (some 0)), .inl p, .inl m, .inl v, .inl b] n I L P = some (some (.inl (((ck + 1 : Nat) : Int))), n, mm_ui (mm_ui (mm_ui (mm_ui (mm_ui I 219 ck p) 220 ck m) 221 ck v) 222 ck b) 218 4 ((ck + 1 : Nat) : Int), L, P)) := by
  have ok0 := sq_ok0 hP
  have hTP := hP.2.2.2.1
  have okt := hTP.ok
  have hC := hP.2.2.2.2.2.2.2.1
  have hPt := hP.2.2.2.2.2.2.1
  have hn := hP.1
  have ok218 : mm_ok n 218 2 := nb_ok (by omega) rfl
  rw [eX11_seen]
  refine ⟨fun h => ?_, fun h => ?_⟩
  · unfold sa_seen at h
    by_cases h1 : 0 ≤ p ∧ p < (s : Int)
    · by_cases h2 : m < 1
      · simp (disch := (first | assumption | omega | exact nb_ix (by omega) (by assumption) (by omega) (by omega) | exact nb_ix (by omega) rfl (by omega) (by omega) | exact nb_ok (by omega) rfl | decide)) only [kX11_seen, sp_has hTP, hs, hPt, ↓if_pos, ↓if_neg, nb_add, nb_sub, nb_mul, Int.toNat_natCast, mm_kr_s, mm_kv_s, if_pos, if_neg, sq_tn, Int.toNat_zero, Int.reduceToNat, Int.reduceNeg, Nat.reduceAdd, Int.reduceAdd, Int.reduceEq, Int.reduceLT, Int.reduceLE, Int.zero_add, nb_ui_s, nb_ui_k, nb_ui_a, sp_min, sp_max, sp_bits]
      · by_cases h3 : 20 < m
        · simp (disch := (first | assumption | omega | exact nb_ix (by omega) (by assumption) (by omega) (by omega) | exact nb_ix (by omega) rfl (by omega) (by omega) | exact nb_ok (by omega) rfl | decide)) only [kX11_seen, sp_has hTP, hs, hPt, ↓if_pos, ↓if_neg, nb_add, nb_sub, nb_mul, Int.toNat_natCast, mm_kr_s, mm_kv_s, if_pos, if_neg, sq_tn, Int.toNat_zero, Int.reduceToNat, Int.reduceNeg, Nat.reduceAdd, Int.reduceAdd, Int.reduceEq, Int.reduceLT, Int.reduceLE, Int.zero_add, nb_ui_s, nb_ui_k, nb_ui_a, sp_min, sp_max, sp_bits]
        · by_cases h4 : v < 0
          · simp (disch := (first | assumption | omega | exact nb_ix (by omega) (by assumption) (by omega) (by omega) | exact nb_ix (by omega) rfl (by omega) (by omega) | exact nb_ok (by omega) rfl | decide)) only [kX11_seen, sp_has hTP, hs, hPt, ↓if_pos, ↓if_neg, nb_add, nb_sub, nb_mul, Int.toNat_natCast, mm_kr_s, mm_kv_s, if_pos, if_neg, sq_tn, Int.toNat_zero, Int.reduceToNat, Int.reduceNeg, Nat.reduceAdd, Int.reduceAdd, Int.reduceEq, Int.reduceLT, Int.reduceLE, Int.zero_add, nb_ui_s, nb_ui_k, nb_ui_a, sp_min, sp_max, sp_bits]
          · by_cases h5 : 99 < v
            · simp (disch := (first | assumption | omega | exact nb_ix (by omega) (by assumption) (by omega) (by omega) | exact nb_ix (by omega) rfl (by omega) (by omega) | exact nb_ok (by omega) rfl | decide)) only [kX11_seen, sp_has hTP, hs, hPt, ↓if_pos, ↓if_neg, nb_add, nb_sub, nb_mul, Int.toNat_natCast, mm_kr_s, mm_kv_s, if_pos, if_neg, sq_tn, Int.toNat_zero, Int.reduceToNat, Int.reduceNeg, Nat.reduceAdd, Int.reduceAdd, Int.reduceEq, Int.reduceLT, Int.reduceLE, Int.zero_add, nb_ui_s, nb_ui_k, nb_ui_a, sp_min, sp_max, sp_bits]
            · have h6 : ¬ ck < 10 := fun z => h ⟨h1, by omega, by omega, z⟩
              simp (disch := (first | assumption | omega | exact nb_ix (by omega) (by assumption) (by omega) (by omega) | exact nb_ix (by omega) rfl (by omega) (by omega) | exact nb_ok (by omega) rfl | decide)) only [kX11_seen, sp_has hTP, hs, hPt, hC, hck, ↓if_pos, ↓if_neg, nb_add, nb_sub, nb_mul, Int.toNat_natCast, mm_kr_s, mm_kv_s, if_pos, if_neg, sq_tn, Int.toNat_zero, Int.reduceToNat, Int.reduceNeg, Nat.reduceAdd, Int.reduceAdd, Int.reduceEq, Int.reduceLT, Int.reduceLE, Int.zero_add, nb_ui_s, nb_ui_k, nb_ui_a, sp_min, sp_max, sp_bits]
    · simp (disch := (first | assumption | omega | exact nb_ix (by omega) (by assumption) (by omega) (by omega) | exact nb_ix (by omega) rfl (by omega) (by omega) | exact nb_ok (by omega) rfl | decide)) only [kX11_seen, sp_has hTP, hs, hPt, ↓if_pos, ↓if_neg, nb_add, nb_sub, nb_mul, Int.toNat_natCast, mm_kr_s, mm_kv_s, if_pos, if_neg, sq_tn, Int.toNat_zero, Int.reduceToNat, Int.reduceNeg, Nat.reduceAdd, Int.reduceAdd, Int.reduceEq, Int.reduceLT, Int.reduceLE, Int.zero_add, nb_ui_s, nb_ui_k, nb_ui_a, sp_min, sp_max, sp_bits]
  · obtain ⟨h1, h2, h3, h4⟩ := h
    have e1 : (ck : Int) + 1 = ((ck + 1 : Nat) : Int) := by omega
    have hadd : mm_rn (d + 9) 12 [.inr (.inr (some 218)), .inl p, .inl m, .inl v, .inl b] n I L P = some (none, n, mm_ui (mm_ui (mm_ui (mm_ui (mm_ui I 219 ck p) 220 ck m) 221 ck v) 222 ck b) 218 4 ((ck + 1 : Nat) : Int), L, P) := by
      have hb2 : 0 ≤ b ∧ b < 2 := by omega
      rw [eX2_add]
      simp (disch := (first | assumption | omega | exact nb_ix (by omega) (by assumption) (by omega) (by omega) | exact nb_ix (by omega) rfl (by omega) (by omega) | exact nb_ok (by omega) rfl | decide)) only [kX2_add, hC, hck, e1, ↓if_pos, ↓if_neg, nb_add, nb_sub, nb_mul, Int.toNat_natCast, mm_kr_s, mm_kv_s, if_pos, if_neg, sq_tn, Int.toNat_zero, Int.reduceToNat, Int.reduceNeg, Nat.reduceAdd, Int.reduceAdd, Int.reduceEq, Int.reduceLT, Int.reduceLE, Int.zero_add, nb_ui_s, nb_ui_k, nb_ui_a, sp_min, sp_max, sp_bits]
    simp (disch := (first | assumption | omega | exact nb_ix (by omega) (by assumption) (by omega) (by omega) | exact nb_ix (by omega) rfl (by omega) (by omega) | exact nb_ok (by omega) rfl | decide)) only [kX11_seen, sp_has hTP, hs, hPt, hC, hck, hadd, ↓if_pos, ↓if_neg, nb_add, nb_sub, nb_mul, Int.toNat_natCast, mm_kr_s, mm_kv_s, if_pos, if_neg, sq_tn, Int.toNat_zero, Int.reduceToNat, Int.reduceNeg, Nat.reduceAdd, Int.reduceAdd, Int.reduceEq, Int.reduceLT, Int.reduceLE, Int.zero_add, nb_ui_s, nb_ui_k, nb_ui_a, sp_min, sp_max, sp_bits]
theorem ob_seen {ck : Nat} (hM : sp_M n P) (hs8 : s ≤ 8) (hs : I 239 26 = (s : Int)) (hck : I 239 42 = (ck : Int)) (hck10 : ck ≤ 10) (p m v b : Int) (hb : b = 0 ∨ b = 1) : (¬ sa_seen s ck p m v → mm_rn (d + 10) 239 [.inr (.inr (some 239)), .inl p, .inl m, .inl v, .inl b] n I L P = some (some (.inl (-1)), n, I, L, P)) ∧ (sa_seen s ck p m v → mm_rn (d + 10) 239 [.inr (.inr (some 239)), .inl p, .inl m, .inl v, .inl b] n I L P = some (some (.inl (((ck + 1 : Nat) : Int))), n, mm_ui (mm_ui (mm_ui (mm_ui (mm_ui I 262 ck p) 263 ck m) 264 ck v) 265 ck b) 239 42 ((ck + 1 : Nat) : Int), L, P)) := by
  have ok := hM.ok
  have his := sp_isSpot (d := d + 7) (L := L) hM p (I := I) (by omega)
  rw [hs] at his
  obtain ⟨hn, hP⟩ := hM
  rw [eX12_seen]
  refine ⟨fun h => ?_, fun h => ?_⟩
  · unfold sa_seen at h
    by_cases h1 : 0 ≤ p ∧ p < (s : Int)
    · by_cases h2 : 1 ≤ m ∧ m ≤ 20
      · by_cases h4 : 0 ≤ v ∧ v ≤ 99
        · have h6 : ck = 10 := by
            have : ¬ ck < 10 := fun z => h ⟨h1, h2, h4, z⟩
            omega
          have hck2 : I 239 42 = 10 := by rw [hck, h6]; rfl
          simp (disch := (first | assumption | omega | exact nb_ix (by omega) (by assumption) (by omega) (by omega) | exact nb_ix (by omega) rfl (by omega) (by omega) | exact nb_ok (by omega) rfl | decide)) only [kX12_seen, his, sp_min2, hck2, ↓if_pos, ↓if_neg, nb_add, nb_sub, nb_mul, Int.toNat_natCast, mm_kr_s, mm_kv_s, if_pos, if_neg, sq_tn, Int.toNat_zero, Int.reduceToNat, Int.reduceNeg, Nat.reduceAdd, Int.reduceAdd, Int.reduceEq, Int.reduceLT, Int.reduceLE, Int.zero_add, nb_ui_s, nb_ui_k, nb_ui_a, sp_min, sp_max, sp_bits]
        · simp (disch := (first | assumption | omega | exact nb_ix (by omega) (by assumption) (by omega) (by omega) | exact nb_ix (by omega) rfl (by omega) (by omega) | exact nb_ok (by omega) rfl | decide)) only [kX12_seen, his, sp_min2, ↓if_pos, ↓if_neg, nb_add, nb_sub, nb_mul, Int.toNat_natCast, mm_kr_s, mm_kv_s, if_pos, if_neg, sq_tn, Int.toNat_zero, Int.reduceToNat, Int.reduceNeg, Nat.reduceAdd, Int.reduceAdd, Int.reduceEq, Int.reduceLT, Int.reduceLE, Int.zero_add, nb_ui_s, nb_ui_k, nb_ui_a, sp_min, sp_max, sp_bits]
      · simp (disch := (first | assumption | omega | exact nb_ix (by omega) (by assumption) (by omega) (by omega) | exact nb_ix (by omega) rfl (by omega) (by omega) | exact nb_ok (by omega) rfl | decide)) only [kX12_seen, his, sp_min2, ↓if_pos, ↓if_neg, nb_add, nb_sub, nb_mul, Int.toNat_natCast, mm_kr_s, mm_kv_s, if_pos, if_neg, sq_tn, Int.toNat_zero, Int.reduceToNat, Int.reduceNeg, Nat.reduceAdd, Int.reduceAdd, Int.reduceEq, Int.reduceLT, Int.reduceLE, Int.zero_add, nb_ui_s, nb_ui_k, nb_ui_a, sp_min, sp_max, sp_bits]
    · simp (disch := (first | assumption | omega | exact nb_ix (by omega) (by assumption) (by omega) (by omega) | exact nb_ix (by omega) rfl (by omega) (by omega) | exact nb_ok (by omega) rfl | decide)) only [kX12_seen, his, sp_min2, ↓if_pos, ↓if_neg, nb_add, nb_sub, nb_mul, Int.toNat_natCast, mm_kr_s, mm_kv_s, if_pos, if_neg, sq_tn, Int.toNat_zero, Int.reduceToNat, Int.reduceNeg, Nat.reduceAdd, Int.reduceAdd, Int.reduceEq, Int.reduceLT, Int.reduceLE, Int.zero_add, nb_ui_s, nb_ui_k, nb_ui_a, sp_min, sp_max, sp_bits]
  · obtain ⟨h1, h2, h3, h4⟩ := h
    have h5 : ¬ (ck : Int) = 10 := by omega
    have e1 : (ck : Int) + 1 = ((ck + 1 : Nat) : Int) := by omega
    have hb2 : 0 ≤ b ∧ b < 2 := by omega
    simp (disch := (first | assumption | omega | exact nb_ix (by omega) (by assumption) (by omega) (by omega) | exact nb_ix (by omega) rfl (by omega) (by omega) | exact nb_ok (by omega) rfl | decide)) only [kX12_seen, his, sp_min2, hck, hP, e1, ↓if_pos, ↓if_neg, nb_add, nb_sub, nb_mul, Int.toNat_natCast, mm_kr_s, mm_kv_s, if_pos, if_neg, sq_tn, Int.toNat_zero, Int.reduceToNat, Int.reduceNeg, Nat.reduceAdd, Int.reduceAdd, Int.reduceEq, Int.reduceLT, Int.reduceLE, Int.zero_add, nb_ui_s, nb_ui_k, nb_ui_a, sp_min, sp_max, sp_bits]
/-! the law that holds, danger, the tape's end -/
theorem oa_law {nl : Nat} (hP : sq_P n P t u) (h5 : I 0 5 = (nl : Int)) (x : Int) : mm_rn (d + 10) 95 [.inr (.inr (some 0)), .inl x] n I L P = some (some (.inl (if -1 ≤ x ∧ x < nl then 1 else 0)), n, (if -1 ≤ x ∧ x < nl then mm_ui I 0 6 x else I), L, P) := by
  have ok0 := sq_ok0 hP
  rw [eX11_law]
  by_cases h : -1 ≤ x ∧ x < (nl : Int)
  · rw [if_pos h, if_pos h]
    simp (disch := (first | assumption | omega | exact nb_ix (by omega) (by assumption) (by omega) (by omega) | exact nb_ix (by omega) rfl (by omega) (by omega) | exact nb_ok (by omega) rfl | decide)) only [kX11_law, h5, ↓if_pos, ↓if_neg, nb_add, nb_sub, nb_mul, Int.toNat_natCast, mm_kr_s, mm_kv_s, if_pos, if_neg, sq_tn, Int.toNat_zero, Int.reduceToNat, Int.reduceNeg, Nat.reduceAdd, Int.reduceAdd, Int.reduceEq, Int.reduceLT, Int.reduceLE, Int.zero_add, nb_ui_s, nb_ui_k, nb_ui_a, sp_min, sp_max, sp_bits]
  · rw [if_neg h, if_neg h]
    by_cases h1 : x < -1
    · simp (disch := (first | assumption | omega | exact nb_ix (by omega) (by assumption) (by omega) (by omega) | exact nb_ix (by omega) rfl (by omega) (by omega) | exact nb_ok (by omega) rfl | decide)) only [kX11_law, ↓if_pos, ↓if_neg, nb_add, nb_sub, nb_mul, Int.toNat_natCast, mm_kr_s, mm_kv_s, if_pos, if_neg, sq_tn, Int.toNat_zero, Int.reduceToNat, Int.reduceNeg, Nat.reduceAdd, Int.reduceAdd, Int.reduceEq, Int.reduceLT, Int.reduceLE, Int.zero_add, nb_ui_s, nb_ui_k, nb_ui_a, sp_min, sp_max, sp_bits]
    · simp (disch := (first | assumption | omega | exact nb_ix (by omega) (by assumption) (by omega) (by omega) | exact nb_ix (by omega) rfl (by omega) (by omega) | exact nb_ok (by omega) rfl | decide)) only [kX11_law, h5, ↓if_pos, ↓if_neg, nb_add, nb_sub, nb_mul, Int.toNat_natCast, mm_kr_s, mm_kv_s, if_pos, if_neg, sq_tn, Int.toNat_zero, Int.reduceToNat, Int.reduceNeg, Nat.reduceAdd, Int.reduceAdd, Int.reduceEq, Int.reduceLT, Int.reduceLE, Int.zero_add, nb_ui_s, nb_ui_k, nb_ui_a, sp_min, sp_max, sp_bits]
theorem ob_law {nl : Nat} (hM : sp_M n P) (hnl : nl ≤ 4) (h5 : I 239 13 = (nl : Int)) (x : Int) : mm_rn (d + 10) 203 [.inr (.inr (some 239)), .inl x] n I L P = some (some (.inl (if -1 ≤ x ∧ x < nl then 1 else 0)), n, (if -1 ≤ x ∧ x < nl then mm_ui I 239 29 x else I), L, P) := by
  have ok := hM.ok
  rw [eX12_law]
  by_cases h : -1 ≤ x ∧ x < (nl : Int)
  · have h2 : -1 ≤ x ∧ x ≤ (nl : Int) - 1 := by omega
    rw [if_pos h, if_pos h]
    simp (disch := (first | assumption | omega | exact nb_ix (by omega) (by assumption) (by omega) (by omega) | exact nb_ix (by omega) rfl (by omega) (by omega) | exact nb_ok (by omega) rfl | decide)) only [kX12_law, h5, sp_min2, ↓if_pos, ↓if_neg, nb_add, nb_sub, nb_mul, Int.toNat_natCast, mm_kr_s, mm_kv_s, if_pos, if_neg, sq_tn, Int.toNat_zero, Int.reduceToNat, Int.reduceNeg, Nat.reduceAdd, Int.reduceAdd, Int.reduceEq, Int.reduceLT, Int.reduceLE, Int.zero_add, nb_ui_s, nb_ui_k, nb_ui_a, sp_min, sp_max, sp_bits]
  · have h2 : ¬ (-1 ≤ x ∧ x ≤ (nl : Int) - 1) := by omega
    rw [if_neg h, if_neg h]
    simp (disch := (first | assumption | omega | exact nb_ix (by omega) (by assumption) (by omega) (by omega) | exact nb_ix (by omega) rfl (by omega) (by omega) | exact nb_ok (by omega) rfl | decide)) only [kX12_law, h5, sp_min2, ↓if_pos, ↓if_neg, nb_add, nb_sub, nb_mul, Int.toNat_natCast, mm_kr_s, mm_kv_s, if_pos, if_neg, sq_tn, Int.toNat_zero, Int.reduceToNat, Int.reduceNeg, Nat.reduceAdd, Int.reduceAdd, Int.reduceEq, Int.reduceLT, Int.reduceLE, Int.zero_add, nb_ui_s, nb_ui_k, nb_ui_a, sp_min, sp_max, sp_bits]
theorem oa_danger {pe : Int} (hP : sq_P n P t u) (h7 : I 0 7 = pe) (x : Int) : mm_rn (d + 10) 97 [.inr (.inr (some 0)), .inl x] n I L P = some (some (.inl (if (0 ≤ x ∧ x ≤ 9) ∧ x ≠ pe then 1 else 0)), n, (if (0 ≤ x ∧ x ≤ 9) ∧ x ≠ pe then mm_ui I 0 7 x else I), L, P) := by
  have ok0 := sq_ok0 hP
  rw [eX11_danger]
  by_cases h : (0 ≤ x ∧ x ≤ 9) ∧ x ≠ pe
  · rw [if_pos h, if_pos h]
    simp (disch := (first | assumption | omega | exact nb_ix (by omega) (by assumption) (by omega) (by omega) | exact nb_ix (by omega) rfl (by omega) (by omega) | exact nb_ok (by omega) rfl | decide)) only [kX11_danger, h7, ↓if_pos, ↓if_neg, nb_add, nb_sub, nb_mul, Int.toNat_natCast, mm_kr_s, mm_kv_s, if_pos, if_neg, sq_tn, Int.toNat_zero, Int.reduceToNat, Int.reduceNeg, Nat.reduceAdd, Int.reduceAdd, Int.reduceEq, Int.reduceLT, Int.reduceLE, Int.zero_add, nb_ui_s, nb_ui_k, nb_ui_a, sp_min, sp_max, sp_bits]
  · rw [if_neg h, if_neg h]
    by_cases h1 : x < 0
    · simp (disch := (first | assumption | omega | exact nb_ix (by omega) (by assumption) (by omega) (by omega) | exact nb_ix (by omega) rfl (by omega) (by omega) | exact nb_ok (by omega) rfl | decide)) only [kX11_danger, ↓if_pos, ↓if_neg, nb_add, nb_sub, nb_mul, Int.toNat_natCast, mm_kr_s, mm_kv_s, if_pos, if_neg, sq_tn, Int.toNat_zero, Int.reduceToNat, Int.reduceNeg, Nat.reduceAdd, Int.reduceAdd, Int.reduceEq, Int.reduceLT, Int.reduceLE, Int.zero_add, nb_ui_s, nb_ui_k, nb_ui_a, sp_min, sp_max, sp_bits]
    · by_cases h2 : 9 < x
      · simp (disch := (first | assumption | omega | exact nb_ix (by omega) (by assumption) (by omega) (by omega) | exact nb_ix (by omega) rfl (by omega) (by omega) | exact nb_ok (by omega) rfl | decide)) only [kX11_danger, ↓if_pos, ↓if_neg, nb_add, nb_sub, nb_mul, Int.toNat_natCast, mm_kr_s, mm_kv_s, if_pos, if_neg, sq_tn, Int.toNat_zero, Int.reduceToNat, Int.reduceNeg, Nat.reduceAdd, Int.reduceAdd, Int.reduceEq, Int.reduceLT, Int.reduceLE, Int.zero_add, nb_ui_s, nb_ui_k, nb_ui_a, sp_min, sp_max, sp_bits]
      · have h3 : x = pe := by
          apply Decidable.byContradiction
          intro z
          exact h ⟨by omega, z⟩
        simp (disch := (first | assumption | omega | exact nb_ix (by omega) (by assumption) (by omega) (by omega) | exact nb_ix (by omega) rfl (by omega) (by omega) | exact nb_ok (by omega) rfl | decide)) only [kX11_danger, h7, ↓if_pos, ↓if_neg, nb_add, nb_sub, nb_mul, Int.toNat_natCast, mm_kr_s, mm_kv_s, if_pos, if_neg, sq_tn, Int.toNat_zero, Int.reduceToNat, Int.reduceNeg, Nat.reduceAdd, Int.reduceAdd, Int.reduceEq, Int.reduceLT, Int.reduceLE, Int.zero_add, nb_ui_s, nb_ui_k, nb_ui_a, sp_min, sp_max, sp_bits]
theorem ob_danger {pe : Int} (hM : sp_M n P) (h7 : I 239 30 = pe) (x : Int) : mm_rn (d + 10) 204 [.inr (.inr (some 239)), .inl x] n I L P = some (some (.inl (if (0 ≤ x ∧ x ≤ 9) ∧ x ≠ pe then 1 else 0)), n, (if (0 ≤ x ∧ x ≤ 9) ∧ x ≠ pe then mm_ui I 239 30 x else I), L, P) := by
  have ok := hM.ok
  rw [eX12_danger]
  by_cases h : (0 ≤ x ∧ x ≤ 9) ∧ x ≠ pe
  · have h1 := h.1
    rw [if_pos h, if_pos h]
    simp (disch := (first | assumption | omega | exact nb_ix (by omega) (by assumption) (by omega) (by omega) | exact nb_ix (by omega) rfl (by omega) (by omega) | exact nb_ok (by omega) rfl | decide)) only [kX12_danger, h7, sp_min2, ↓if_pos, ↓if_neg, nb_add, nb_sub, nb_mul, Int.toNat_natCast, mm_kr_s, mm_kv_s, if_pos, if_neg, sq_tn, Int.toNat_zero, Int.reduceToNat, Int.reduceNeg, Nat.reduceAdd, Int.reduceAdd, Int.reduceEq, Int.reduceLT, Int.reduceLE, Int.zero_add, nb_ui_s, nb_ui_k, nb_ui_a, sp_min, sp_max, sp_bits]
  · rw [if_neg h, if_neg h]
    by_cases h1 : 0 ≤ x ∧ x ≤ 9
    · have h3 : x = pe := by
        apply Decidable.byContradiction
        intro z
        exact h ⟨h1, z⟩
      simp (disch := (first | assumption | omega | exact nb_ix (by omega) (by assumption) (by omega) (by omega) | exact nb_ix (by omega) rfl (by omega) (by omega) | exact nb_ok (by omega) rfl | decide)) only [kX12_danger, h7, sp_min2, ↓if_pos, ↓if_neg, nb_add, nb_sub, nb_mul, Int.toNat_natCast, mm_kr_s, mm_kv_s, if_pos, if_neg, sq_tn, Int.toNat_zero, Int.reduceToNat, Int.reduceNeg, Nat.reduceAdd, Int.reduceAdd, Int.reduceEq, Int.reduceLT, Int.reduceLE, Int.zero_add, nb_ui_s, nb_ui_k, nb_ui_a, sp_min, sp_max, sp_bits]
    · simp (disch := (first | assumption | omega | exact nb_ix (by omega) (by assumption) (by omega) (by omega) | exact nb_ix (by omega) rfl (by omega) (by omega) | exact nb_ok (by omega) rfl | decide)) only [kX12_danger, sp_min2, ↓if_pos, ↓if_neg, nb_add, nb_sub, nb_mul, Int.toNat_natCast, mm_kr_s, mm_kv_s, if_pos, if_neg, sq_tn, Int.toNat_zero, Int.reduceToNat, Int.reduceNeg, Nat.reduceAdd, Int.reduceAdd, Int.reduceEq, Int.reduceLT, Int.reduceLE, Int.zero_add, nb_ui_s, nb_ui_k, nb_ui_a, sp_min, sp_max, sp_bits]
theorem oa_end {z : Nat} (hP : sq_P n P t u) (hz : I 1 1 = (z : Int)) (x : Int) : mm_rn (d + 10) 86 [.inr (.inr (some 0)), .inl x] n I L P = some (some (.inl (if 0 ≤ x ∧ x ≤ z then 1 else 0)), n, (if 0 ≤ x ∧ x ≤ z then mm_ui I 1 1 x else I), L, P) := by
  have ok0 := sq_ok0 hP
  have hC := hP.2.2.2.2.2.2.2.1
  have hn := hP.1
  rw [eX11_end]
  by_cases h : 0 ≤ x ∧ x ≤ (z : Int)
  · rw [if_pos h, if_pos h]
    simp (disch := (first | assumption | omega | exact nb_ix (by omega) (by assumption) (by omega) (by omega) | exact nb_ix (by omega) rfl (by omega) (by omega) | exact nb_ok (by omega) rfl | decide)) only [kX11_end, hC, hz, ↓if_pos, ↓if_neg, nb_add, nb_sub, nb_mul, Int.toNat_natCast, mm_kr_s, mm_kv_s, if_pos, if_neg, sq_tn, Int.toNat_zero, Int.reduceToNat, Int.reduceNeg, Nat.reduceAdd, Int.reduceAdd, Int.reduceEq, Int.reduceLT, Int.reduceLE, Int.zero_add, nb_ui_s, nb_ui_k, nb_ui_a, sp_min, sp_max, sp_bits]
  · rw [if_neg h, if_neg h]
    by_cases h1 : x < 0
    · simp (disch := (first | assumption | omega | exact nb_ix (by omega) (by assumption) (by omega) (by omega) | exact nb_ix (by omega) rfl (by omega) (by omega) | exact nb_ok (by omega) rfl | decide)) only [kX11_end, ↓if_pos, ↓if_neg, nb_add, nb_sub, nb_mul, Int.toNat_natCast, mm_kr_s, mm_kv_s, if_pos, if_neg, sq_tn, Int.toNat_zero, Int.reduceToNat, Int.reduceNeg, Nat.reduceAdd, Int.reduceAdd, Int.reduceEq, Int.reduceLT, Int.reduceLE, Int.zero_add, nb_ui_s, nb_ui_k, nb_ui_a, sp_min, sp_max, sp_bits]
    · simp (disch := (first | assumption | omega | exact nb_ix (by omega) (by assumption) (by omega) (by omega) | exact nb_ix (by omega) rfl (by omega) (by omega) | exact nb_ok (by omega) rfl | decide)) only [kX11_end, hC, hz, ↓if_pos, ↓if_neg, nb_add, nb_sub, nb_mul, Int.toNat_natCast, mm_kr_s, mm_kv_s, if_pos, if_neg, sq_tn, Int.toNat_zero, Int.reduceToNat, Int.reduceNeg, Nat.reduceAdd, Int.reduceAdd, Int.reduceEq, Int.reduceLT, Int.reduceLE, Int.zero_add, nb_ui_s, nb_ui_k, nb_ui_a, sp_min, sp_max, sp_bits]
theorem ob_end {z : Nat} (hM : sp_M n P) (hz : I 239 2 = (z : Int)) (x : Int) : mm_rn (d + 10) 151 [.inr (.inr (some 239)), .inl x] n I L P = some (some (.inl (if 0 ≤ x ∧ x ≤ z then 1 else 0)), n, (if 0 ≤ x ∧ x ≤ z then mm_ui I 239 2 x else I), L, P) := by
  have ok := hM.ok
  rw [eX12_end]
  by_cases h : 0 ≤ x ∧ x ≤ (z : Int)
  · rw [if_pos h, if_pos h]
    simp (disch := (first | assumption | omega | exact nb_ix (by omega) (by assumption) (by omega) (by omega) | exact nb_ix (by omega) rfl (by omega) (by omega) | exact nb_ok (by omega) rfl | decide)) only [kX12_end, hz, ↓if_pos, ↓if_neg, nb_add, nb_sub, nb_mul, Int.toNat_natCast, mm_kr_s, mm_kv_s, if_pos, if_neg, sq_tn, Int.toNat_zero, Int.reduceToNat, Int.reduceNeg, Nat.reduceAdd, Int.reduceAdd, Int.reduceEq, Int.reduceLT, Int.reduceLE, Int.zero_add, nb_ui_s, nb_ui_k, nb_ui_a, sp_min, sp_max, sp_bits]
  · rw [if_neg h, if_neg h]
    by_cases h1 : x < 0
    · simp (disch := (first | assumption | omega | exact nb_ix (by omega) (by assumption) (by omega) (by omega) | exact nb_ix (by omega) rfl (by omega) (by omega) | exact nb_ok (by omega) rfl | decide)) only [kX12_end, ↓if_pos, ↓if_neg, nb_add, nb_sub, nb_mul, Int.toNat_natCast, mm_kr_s, mm_kv_s, if_pos, if_neg, sq_tn, Int.toNat_zero, Int.reduceToNat, Int.reduceNeg, Nat.reduceAdd, Int.reduceAdd, Int.reduceEq, Int.reduceLT, Int.reduceLE, Int.zero_add, nb_ui_s, nb_ui_k, nb_ui_a, sp_min, sp_max, sp_bits]
    · simp (disch := (first | assumption | omega | exact nb_ix (by omega) (by assumption) (by omega) (by omega) | exact nb_ix (by omega) rfl (by omega) (by omega) | exact nb_ok (by omega) rfl | decide)) only [kX12_end, hz, ↓if_pos, ↓if_neg, nb_add, nb_sub, nb_mul, Int.toNat_natCast, mm_kr_s, mm_kv_s, if_pos, if_neg, sq_tn, Int.toNat_zero, Int.reduceToNat, Int.reduceNeg, Nat.reduceAdd, Int.reduceAdd, Int.reduceEq, Int.reduceLT, Int.reduceLE, Int.zero_add, nb_ui_s, nb_ui_k, nb_ui_a, sp_min, sp_max, sp_bits]
end IM
