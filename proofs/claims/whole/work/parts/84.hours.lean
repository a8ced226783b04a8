/-! hours with their log: both halves -/
section HR
variable {n c t u s d : Nat} {I L : mm_I} {P : mm_P} {D : Nat → Int} {B : Nat → Nat} {g v : Int} {lw : Option Nat} {ev : sv_E} {N : Nat → Int}
theorem sq_cwrite {h : Nat} {a b e : Int} (hP : sq_P n P t u) (hh : h < 100000) : mm_rn (d + 2) 8 [.inr (.inr (some 44)), .inl ((h : Int)), .inl a, .inl b, .inl e] n I L P = some (none, n, mm_ui (mm_ui (mm_ui I 45 (h % 100) a) 46 (h % 100) b) 47 (h % 100) e, L, P) := by
  have hC := hP.2.2.2.2.2.2.2.1
  have hn := hP.1
  have hm : h % 100 < 100 := by omega
  have hf := sq_fmod (n := n) (d := d) (I := I) (L := L) (P := P) (show h < 100000000 by omega)
  rw [eX1_write]
  simp (disch := (first | assumption | omega | exact nb_ix (by omega) (by assumption) (by omega) (by omega) | exact nb_ix (by omega) rfl (by omega) (by omega) | exact nb_ok (by omega) rfl | decide)) only [kX1_write, hf, hC, ↓if_pos, ↓if_neg, nb_add, nb_sub, nb_mul, Int.toNat_natCast, mm_kr_s, mm_kv_s, if_pos, if_neg, sq_tn, Int.toNat_zero, Int.reduceToNat, Int.reduceNeg, Nat.reduceAdd, Int.reduceAdd, Int.reduceEq, Int.reduceLT, Int.reduceLE, Int.zero_add, nb_ui_s, nb_ui_k, nb_ui_a, sp_min, sp_max, sp_bits]
/-- an hour of the class with its row in the ring -/
theorem sq_clogged (hd : c ≤ d) (hP : sq_P n P t u) (hW : sq_CW n c P I t s D B g v lw ev) (hLW : sq_LW I lw) (hN : sq_cN I 40 N) (hok : sv_ok s N) (hh : N 29 ≤ 10000) :
    sq_X none n L P (fun I' => sq_cN I' 40 (sw_live ev D B g s N) ∧ (∀ j w, w < 3 → I' (45 + w) j = if j = (N 29).toNat % 100 then sl_e (sw_live ev D B g s) s N w else I (45 + w) j) ∧ sq_cf [40, 41, 42, 43, 45, 46, 47] I I') (mm_rn (d + 6) 100 [.inr (.inr (some 0))] n I L P) := by
  have ok0 := sq_ok0 hP
  have hs8 : s ≤ 8 := hW.2.1.2.1
  have hg5 := hW.2.2.2
  have hC := hP.2.2.2.2.2.2.2.1
  have hPt := hP.2.2.2.2.2.2.1
  have hn := hP.1
  have hA := hP.2.2.2.2.2.1 40 (by omega)
  have ok40 := hA.ok
  have nf8 : I 40 8 = N 29 := (sq_cN_iff.1 hN).2.2.2.2.2.2.2.2
  have h29 := hok.2.2.2.2.2.2
  obtain ⟨h, hhe⟩ : ∃ h : Nat, N 29 = (h : Int) := ⟨(N 29).toNat, by omega⟩
  have hhn : (N 29).toNat = h := by omega
  rw [eX11_passLoggedHour]
  simp (disch := (first | assumption | omega | exact nb_ix (by omega) (by assumption) (by omega) (by omega) | exact nb_ix (by omega) rfl (by omega) (by omega) | exact nb_ok (by omega) rfl | decide)) only [kX11_passLoggedHour, hC, hPt, sq_held hP hLW, nf8, ↓if_pos, ↓if_neg, nb_add, nb_sub, nb_mul, Int.toNat_natCast, mm_kr_s, mm_kv_s, if_pos, if_neg, sq_tn, Int.toNat_zero, Int.reduceToNat, Int.reduceNeg, Nat.reduceAdd, Int.reduceAdd, Int.reduceEq, Int.reduceLT, Int.reduceLE, Int.zero_add, nb_ui_s, nb_ui_k, nb_ui_a, sp_min, sp_max, sp_bits]
  refine sq_kr (sq_chour hd (by omega) hA hW.1 hW.2.1 hW.2.2.1 hN hok (by omega)) (fun J hJ => ?_)
  have etr := sq_ctroub (d := d + 4) (L := L) hA hs8 hJ.1 (sw_live_ok hok hs8 hg5)
  have e3 : J 40 3 = N 24 := by
    rw [(sq_cN_iff.1 hJ.1).2.2.2.1]
    unfold sw_live sw_spr sw_grow
    rw [if_neg (by omega), if_neg (by omega), if_neg (by omega), if_neg (by omega), if_neg (by omega), if_neg (by omega), sw_take_ge (by omega)]
  have hwr := fun I a b e => sq_cwrite (d := d + 3) (n := n) (I := I) (L := L) (h := h) (a := a) (b := b) (e := e) hP (by omega)
  rw [hhe]
  simp (disch := (first | assumption | omega | exact nb_ix (by omega) (by assumption) (by omega) (by omega) | exact nb_ix (by omega) rfl (by omega) (by omega) | exact nb_ok (by omega) rfl | decide)) only [kX11_passLoggedHour, hC, etr, e3, hwr, ↓if_pos, ↓if_neg, nb_add, nb_sub, nb_mul, Int.toNat_natCast, mm_kr_s, mm_kv_s, if_pos, if_neg, sq_tn, Int.toNat_zero, Int.reduceToNat, Int.reduceNeg, Nat.reduceAdd, Int.reduceAdd, Int.reduceEq, Int.reduceLT, Int.reduceLE, Int.zero_add, nb_ui_s, nb_ui_k, nb_ui_a, sp_min, sp_max, sp_bits]
  refine sq_ret ⟨sq_cN_rows hJ.1 (fun k hk => ?_), fun j w hw => ?_, ?_⟩
  · rw [nb_ui_r (by omega), nb_ui_r (by omega), nb_ui_r (by omega)]
  · have j45 : J (45 + w) = I (45 + w) := sq_cf_ge hJ.2 (by simp; omega) (by omega)
    have : w = 0 ∨ w = 1 ∨ w = 2 := by omega
    rw [← j45]
    unfold sl_e
    rcases this with e | e | e <;> subst e <;> simp [mm_ui]
  · refine sq_cf_up (sq_cf_up (sq_cf_up (sq_cf_sub hJ.2 ?_) ?_ ?_) ?_ ?_) ?_ ?_
    all_goals first | omega | (simp; done) | (intro b hb; simp at hb ⊢; omega)
set_option maxHeartbeats 1000000 in
/-- an hour of the model with its row in the log -/
theorem sq_mlogged (hd : c ≤ d) (hW : sq_MW n c P I s D B g v ev) (hN : sq_mN I N) (hok : sv_ok s N) (hh : N 29 ≤ 10000) (h30 : 0 ≤ N 30 ∧ N 30 ≤ 60) :
    sq_X none n L P (fun I' => sq_mN I' (sl_hour (sw_live ev D B g s) s N) ∧ sq_fr [248, 249, 257, 259] I I') (mm_rn (d + 6) 199 [.inr (.inr (some 239))] n I L P) := by
  have hM := hW.1
  have ok := hM.ok
  have hs8 := hW.2.1.1
  have hP := hM.2
  have hn := hM.1
  rw [eX12_passHour]
  simp (disch := (first | assumption | omega | exact nb_ix (by omega) (by assumption) (by omega) (by omega) | exact nb_ix (by omega) rfl (by omega) (by omega) | exact nb_ok (by omega) rfl | decide)) only [kX12_passHour, ↓if_pos, ↓if_neg, nb_add, nb_sub, nb_mul, Int.toNat_natCast, mm_kr_s, mm_kv_s, if_pos, if_neg, sq_tn, Int.toNat_zero, Int.reduceToNat, Int.reduceNeg, Nat.reduceAdd, Int.reduceAdd, Int.reduceEq, Int.reduceLT, Int.reduceLE, Int.zero_add, nb_ui_s, nb_ui_k, nb_ui_a, sp_min, sp_max, sp_bits]
  refine sq_kr (sq_mlive hd hM hW.2.1 hW.2.2.1 hN hok (by omega)) (fun J hJ => ?_)
  obtain ⟨j1, j2⟩ := hJ
  have hWJ := sq_MW_keepf hW j2 (by simp)
  have e24 : sw_live ev D B g s N 24 = N 24 := by
    unfold sw_live sw_spr sw_grow
    rw [if_neg (by omega), if_neg (by omega), if_neg (by omega), if_neg (by omega), if_neg (by omega), if_neg (by omega), sw_take_ge (by omega)]
  have x30 : sw_live ev D B g s N 30 = N 30 := sw_live_hi hs8 (by omega)
  have e30 : J 257 30 = N 30 := by rw [j1 30 (by omega), x30]
  -- behind the shift
  have tail : ∀ (K : mm_I) (x2 : mm_V) (m : Nat), m < 60 → sq_mN K (sl_sh (sw_live ev D B g s N)) → sl_sh (sw_live ev D B g s N) 30 = (m : Int) → sq_fr [257] J K → sq_X none n L P (fun I' => sq_mN I' (sl_hour (sw_live ev D B g s) s N) ∧ sq_fr [248, 249, 257, 259] I I') (mm_E (d + 5) 199 63 [.inr (.inr (some 239)), .inl (sv_lost N s), x2] [] [] n K L P) := by
    intro K x2 m hm k1 k2 k3
    have hWK := sq_MW_keepf hWJ k3 (by simp)
    have k30 : K 257 30 = (m : Int) := by rw [k1 30 (by omega), k2]
    have klow : ∀ j, j < 30 → K 257 j = sw_live ev D B g s N j := by
      intro j hj
      rw [k1 j (by omega)]
      unfold sl_sh
      split
      · rw [if_neg (by omega), if_neg (by omega)]
      · rfl
    have k24 : K 257 24 = N 24 := by rw [klow 24 (by omega), e24]
    have q0 : (31 + 3 * (m : Int)).toNat = 31 + 3 * m := by omega
    have q1 : (31 + 3 * (m : Int) + 1).toNat = 31 + 3 * m + 1 := by omega
    have q2 : (31 + 3 * (m : Int) + 2).toNat = 31 + 3 * m + 2 := by omega
    have etr : ∀ z : Int, mm_rn (d + 5) 194 [.inr (.inr (some 239))] n (mm_ui K 257 (31 + 3 * m) z) L P = some (some (.inl ((sv_am (sw_live ev D B g s N) s : Nat))), n, mm_ui K 257 (31 + 3 * m) z, L, P) := by
      intro z
      have hf : sq_fr [257] K (mm_ui K 257 (31 + 3 * m) z) := sq_fr_up (sq_fr_refl _ _) (by simp)
      have hW3 := sq_MW_keepf hWK hf (by simp)
      have hm3 : sq_mN (mm_ui K 257 (31 + 3 * m) z) (fun j => mm_ui K 257 (31 + 3 * m) z 257 j) := fun _ _ => rfl
      rw [sq_mtroub (d := d + 3) (L := L) hW3 hm3]
      have : sv_am (fun j => mm_ui K 257 (31 + 3 * m) z 257 j) s = sv_am (sw_live ev D B g s N) s := by
        unfold sv_am
        refine sp_mask_congr (fun p hp => ?_)
        show decide (0 < mm_ui K 257 (31 + 3 * m) z 257 (16 + p)) = _
        rw [nb_ui_k (by omega), klow _ (by omega)]
      rw [this]
    simp (disch := (first | assumption | omega | exact nb_ix (by omega) (by assumption) (by omega) (by omega) | exact nb_ix (by omega) rfl (by omega) (by omega) | exact nb_ok (by omega) rfl | decide)) only [kX12_passHour, hP, k30, q0, etr, q1, k24, q2, ↓if_pos, ↓if_neg, nb_add, nb_sub, nb_mul, Int.toNat_natCast, mm_kr_s, mm_kv_s, if_pos, if_neg, sq_tn, Int.toNat_zero, Int.reduceToNat, Int.reduceNeg, Nat.reduceAdd, Int.reduceAdd, Int.reduceEq, Int.reduceLT, Int.reduceLE, Int.zero_add, nb_ui_s, nb_ui_k, nb_ui_a, sp_min, sp_max, sp_bits]
    refine sq_ret ⟨fun j hj => ?_, ?_⟩
    · have h4 := k1 j hj
      unfold sl_hour sl_add
      rw [k2, Int.toNat_natCast, ← h4]
      unfold mm_ui
      grind
    · have h5 : sq_fr [257] J (mm_ui (mm_ui (mm_ui (mm_ui K 257 (31 + 3 * m) (sv_lost N s)) 257 (31 + 3 * m + 1) (sv_am (sw_live ev D B g s N) s : Nat)) 257 (31 + 3 * m + 2) (N 24)) 257 30 ((m : Int) + 1)) := sq_fr_up (sq_fr_up (sq_fr_up (sq_fr_up k3 (by simp)) (by simp)) (by simp)) (by simp)
      exact sq_fr_trans j2 h5 (fun _ h => h) (by simp)
  by_cases c60 : N 30 = 60
  · simp (disch := (first | assumption | omega | exact nb_ix (by omega) (by assumption) (by omega) (by omega) | exact nb_ix (by omega) rfl (by omega) (by omega) | exact nb_ok (by omega) rfl | decide)) only [kX12_passHour, hP, e30, c60, ↓if_pos, ↓if_neg, nb_add, nb_sub, nb_mul, Int.toNat_natCast, mm_kr_s, mm_kv_s, if_pos, if_neg, sq_tn, Int.toNat_zero, Int.reduceToNat, Int.reduceNeg, Nat.reduceAdd, Int.reduceAdd, Int.reduceEq, Int.reduceLT, Int.reduceLE, Int.zero_add, nb_ui_s, nb_ui_k, nb_ui_a, sp_min, sp_max, sp_bits]
    refine sq_loop (fun i (K : mm_I) => mm_E (d + 5) 199 19 [.inr (.inr (some 239)), .inl (sv_lost N s), .inl (((i + 3 : Nat) : Int))] [] [] n K L P) (fun i K => sq_fr [257] J K ∧ (∀ j, j < 31 + i → 31 ≤ j → K 257 j = J 257 (j + 3)) ∧ (∀ j, (j < 31 ∨ 31 + i ≤ j) → K 257 j = J 257 j)) 177 (s0 := J) ⟨sq_fr_refl _ _, fun j h1 h2 => by omega, fun _ _ => rfl⟩ ?_ ?_
    · intro i K hi ⟨k1, k2, k3⟩ ih
      have q1 : (31 + ((i + 3 : Nat) : Int) - 3).toNat = 31 + i := by omega
      have q2 : (31 + ((i + 3 : Nat) : Int)).toNat = 31 + i + 3 := by omega
      have q3 := k3 (31 + i + 3) (by omega)
      rw [hX12_passHour_19]
      simp (disch := (first | assumption | omega | exact nb_ix (by omega) (by assumption) (by omega) (by omega) | exact nb_ix (by omega) rfl (by omega) (by omega) | exact nb_ok (by omega) rfl | decide)) only [kX12_passHour, hP, q1, q2, q3, ↓if_pos, ↓if_neg, nb_add, nb_sub, nb_mul, Int.toNat_natCast, mm_kr_s, mm_kv_s, if_pos, if_neg, sq_tn, Int.toNat_zero, Int.reduceToNat, Int.reduceNeg, Nat.reduceAdd, Int.reduceAdd, Int.reduceEq, Int.reduceLT, Int.reduceLE, Int.zero_add, nb_ui_s, nb_ui_k, nb_ui_a, sp_min, sp_max, sp_bits]
      refine ih _ ⟨sq_fr_up k1 (by simp), fun j h1 h2 => ?_, fun j h1 => ?_⟩
      · by_cases hji : j = 31 + i
        · subst hji; rw [nb_ui_s]
        · rw [nb_ui_k hji]; exact k2 j (by omega) h2
      · rw [nb_ui_k (by omega)]; exact k3 j (by omega)
    · intro K ⟨k1, k2, k3⟩
      have k30 : K 257 30 = 60 := by rw [k3 30 (by omega), e30, c60]
      rw [hX12_passHour_19]
      have ht := tail (mm_ui K 257 30 59) (.inl 180) 59 (by omega) (fun j hj => ?_) ?_ (sq_fr_up k1 (by simp))
      · simp (disch := (first | assumption | omega | exact nb_ix (by omega) (by assumption) (by omega) (by omega) | exact nb_ix (by omega) rfl (by omega) (by omega) | exact nb_ok (by omega) rfl | decide)) only [kX12_passHour, hP, ↓if_pos, ↓if_neg, nb_add, nb_sub, nb_mul, Int.toNat_natCast, mm_kr_s, mm_kv_s, if_pos, if_neg, sq_tn, Int.toNat_zero, Int.reduceToNat, Int.reduceNeg, Nat.reduceAdd, Int.reduceAdd, Int.reduceEq, Int.reduceLT, Int.reduceLE, Int.zero_add, nb_ui_s, nb_ui_k, nb_ui_a, sp_min, sp_max, sp_bits] at ht
        simp (disch := (first | assumption | omega | exact nb_ix (by omega) (by assumption) (by omega) (by omega) | exact nb_ix (by omega) rfl (by omega) (by omega) | exact nb_ok (by omega) rfl | decide)) only [kX12_passHour, hP, k30, Int.reduceSub, ↓if_pos, ↓if_neg, nb_add, nb_sub, nb_mul, Int.toNat_natCast, mm_kr_s, mm_kv_s, if_pos, if_neg, sq_tn, Int.toNat_zero, Int.reduceToNat, Int.reduceNeg, Nat.reduceAdd, Int.reduceAdd, Int.reduceEq, Int.reduceLT, Int.reduceLE, Int.zero_add, nb_ui_s, nb_ui_k, nb_ui_a, sp_min, sp_max, sp_bits]
        exact ht
      · unfold sl_sh
        rw [x30, if_pos c60]
        by_cases c30 : j = 30
        · subst c30; rw [nb_ui_s, if_pos rfl]
        · rw [nb_ui_k c30, if_neg c30]
          by_cases c : 31 ≤ j ∧ j < 208
          · rw [if_pos c, k2 j (by omega) c.1, j1 _ (by omega)]
          · rw [if_neg c, k3 j (by omega), j1 j hj]
      · unfold sl_sh
        rw [x30, if_pos c60, if_pos rfl]
        rfl
  · have ht := tail J mm_junk (N 30).toNat (by omega) (fun j hj => ?_) ?_ (sq_fr_refl _ _)
    · simp (disch := (first | assumption | omega | exact nb_ix (by omega) (by assumption) (by omega) (by omega) | exact nb_ix (by omega) rfl (by omega) (by omega) | exact nb_ok (by omega) rfl | decide)) only [kX12_passHour, hP, ↓if_pos, ↓if_neg, nb_add, nb_sub, nb_mul, Int.toNat_natCast, mm_kr_s, mm_kv_s, if_pos, if_neg, sq_tn, Int.toNat_zero, Int.reduceToNat, Int.reduceNeg, Nat.reduceAdd, Int.reduceAdd, Int.reduceEq, Int.reduceLT, Int.reduceLE, Int.zero_add, nb_ui_s, nb_ui_k, nb_ui_a, sp_min, sp_max, sp_bits] at ht
      simp (disch := (first | assumption | omega | exact nb_ix (by omega) (by assumption) (by omega) (by omega) | exact nb_ix (by omega) rfl (by omega) (by omega) | exact nb_ok (by omega) rfl | decide)) only [kX12_passHour, hP, e30, ↓if_pos, ↓if_neg, nb_add, nb_sub, nb_mul, Int.toNat_natCast, mm_kr_s, mm_kv_s, if_pos, if_neg, sq_tn, Int.toNat_zero, Int.reduceToNat, Int.reduceNeg, Nat.reduceAdd, Int.reduceAdd, Int.reduceEq, Int.reduceLT, Int.reduceLE, Int.zero_add, nb_ui_s, nb_ui_k, nb_ui_a, sp_min, sp_max, sp_bits]
      rw [e30] at ht
      exact ht
    · unfold sl_sh
      rw [x30, if_neg c60]
      exact j1 j hj
    · unfold sl_sh
      rw [x30, if_neg c60]
      omega
end HR
