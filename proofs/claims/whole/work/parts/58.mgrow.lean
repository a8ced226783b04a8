/-! the model's growth of a trouble -/
theorem sq_w24 {z : Int} (h : 0 ≤ z) : mm_w (Int.tmod z 24) = Int.tmod z 24 ∧ 0 ≤ Int.tmod z 24 ∧ Int.tmod z 24 ≤ 23 := by
  have h1 := Int.tmod_nonneg 24 h
  have h2 := Int.tmod_lt_of_pos z (show (0 : Int) < 24 by omega)
  exact ⟨nb_w (by omega) (by omega), h1, by omega⟩
theorem sp_pc_le (m : Nat) : sp_pc m ≤ 8 := by
  unfold sp_pc
  exact Nat.le_trans (List.length_filter_le _ _) (by decide)
set_option maxHeartbeats 2000000 in
theorem sq_mgrow {n c s p : Nat} {I L : mm_I} {P : mm_P} {ev : sv_E} {D : Nat → Int} {B : Nat → Nat} {g v : Int} {N : Nat → Int} {am d : Nat} (hd : c ≤ d) (hM : sp_M n P) (hT : sq_MT I s D B g v) (hH : sq_MH n c P I ev) (hok : sv_ok s N) (hp : p < s)
    (h16 : I 257 (16 + p) = N (16 + p)) (h8 : I 257 (8 + p) = N (8 + p)) (h0w : I 257 p = N p - sv_tk N p) (h24 : I 257 24 = N 24) (h29 : I 257 29 = N 29) (hame : am = sv_am N s) :
    sq_X (some (.inl (max (-9) (min 9 (sv_gr ev D B N s p))))) n L P (sq_fr [248, 249] I) (mm_rn (d + 3) 196 [.inr (.inr (some 239)), .inl ((p : Int)), .inl ((am : Int))] n I L P) := by
  have ok := hM.ok
  have hM2 := hM
  obtain ⟨hn, hP⟩ := hM
  obtain ⟨hs8, hs, hD, hB, hg, hv⟩ := hT
  obtain ⟨hok1, ⟨hok2, hok3⟩, _, _, _, _, hok4⟩ := hok
  obtain ⟨q, hq⟩ : ∃ q : Nat, N 24 = (q : Int) := ⟨(N 24).toNat, by omega⟩
  have hq8 : q < 8 := by omega
  obtain ⟨⟨w1, w2⟩, ⟨k1, k2⟩, ⟨z1, z2⟩, _⟩ := hok1 p (by omega)
  have tk : 0 ≤ sv_tk N p ∧ sv_tk N p ≤ N p := by unfold sv_tk; omega
  obtain ⟨hDp, hDr⟩ := hD (8 * q + p) (by omega)
  obtain ⟨b1, b2⟩ := hB p (by omega)
  have hand : B p &&& am < 256 := Nat.lt_of_le_of_lt Nat.and_le_left b2
  have e1 := sp_steps (d := d + 1) (I := I) (L := L) hM2 hq8 (show p < 8 by omega)
  obtain ⟨m1, m2, m3⟩ := sq_w24 hok4
  have pc8 := sp_pc_le (B p &&& am)
  have hqn : (N 24).toNat = q := by omega
  rw [eX12_growthOf]
  cases ev with
  | none =>
    have hH2 : I 239 29 = -1 := hH
    simp (disch := (first | assumption | omega | exact nb_ix (by omega) (by assumption) (by omega) (by omega) | exact nb_ix (by omega) rfl (by omega) (by omega) | exact nb_ok (by omega) rfl | decide)) only [kX12_growthOf, hP, h24, hq, e1, h8, h0w, hH2, nb_add, nb_sub, nb_mul, Int.toNat_natCast, mm_kr_s, mm_kv_s, if_pos, if_neg, sq_tn, Int.toNat_zero, Int.reduceToNat, Int.reduceNeg, Nat.reduceAdd, Int.reduceAdd, Int.reduceEq, Int.reduceLT, Int.reduceLE, Int.zero_add, nb_ui_s, nb_ui_k, nb_ui_a, sp_min, sp_max, sp_bits]
    unfold sv_gr
    simp only [hqn, hDp]
    repeat' split
    all_goals refine sq_ret2 ?_ (sq_fr_refl _ _)
    all_goals grind
  | some e =>
    obtain ⟨hH2, hH3⟩ := hH
    simp (disch := (first | assumption | omega | exact nb_ix (by omega) (by assumption) (by omega) (by omega) | exact nb_ix (by omega) rfl (by omega) (by omega) | exact nb_ok (by omega) rfl | decide)) only [kX12_growthOf, hP, h24, hq, e1, h8, h0w, hH2, h16, b1, nb_and, h29, m1, nb_add, nb_sub, nb_mul, Int.toNat_natCast, mm_kr_s, mm_kv_s, if_pos, if_neg, sq_tn, Int.toNat_zero, Int.reduceToNat, Int.reduceNeg, Nat.reduceAdd, Int.reduceAdd, Int.reduceEq, Int.reduceLT, Int.reduceLE, Int.zero_add, nb_ui_s, nb_ui_k, nb_ui_a, sp_min, sp_max, sp_bits]
    have hgr : e (N (16 + p)) (N (8 + p)) (N p - sv_tk N p) (I 256 (8 * q + p)) (sp_pc (B p &&& am)) (Int.tmod (N 29) 24) = sv_gr (some e) D B N s p := by
      unfold sv_gr
      simp only [hqn, hDp, hame]
    repeat' split
    all_goals refine sq_kr (hH3 (d + 2) _ L (by omega) (fun b hb1 hb2 => ?_) (fun j hj => ?_)) (fun I' hI' => ?_)
    all_goals first
      | (simp (disch := omega) only [nb_ui_r]; done)
      | (simp only [mm_ui]; clear hgr; grind; done)
      | (simp (disch := (first | assumption | omega | exact nb_ix (by omega) (by assumption) (by omega) (by omega) | exact nb_ix (by omega) rfl (by omega) (by omega) | exact nb_ok (by omega) rfl | decide)) only [kX12_growthOf, hgr, nb_add, nb_sub, nb_mul, Int.toNat_natCast, mm_kr_s, mm_kv_s, if_pos, if_neg, sq_tn, Int.toNat_zero, Int.reduceToNat, Int.reduceNeg, Nat.reduceAdd, Int.reduceAdd, Int.reduceEq, Int.reduceLT, Int.reduceLE, Int.zero_add, nb_ui_s, nb_ui_k, nb_ui_a, sp_min, sp_max, sp_bits]
         refine sq_ret (sq_fr_trans (l1 := [248]) ?_ hI' (by simp) (by simp))
         intro b hb
         simp at hb
         simp (disch := omega) only [nb_ui_r])
