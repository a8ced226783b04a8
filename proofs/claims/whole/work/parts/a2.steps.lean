/-! towns: the model's ways -/
theorem sq_d8 {a : Nat} (h : a < 2147483648) : mm_w (Int.tdiv (a : Int) 8) = ((a / 8 : Nat) : Int) := by
  rw [show Int.tdiv (a : Int) 8 = ((a / 8 : Nat) : Int) from rfl, nb_w (by omega) (by omega)]
theorem sq_m8 {a : Nat} (h : a < 2147483648) : mm_w (Int.tmod (a : Int) 8) = ((a % 8 : Nat) : Int) := by
  rw [show Int.tmod (a : Int) 8 = ((a % 8 : Nat) : Int) from rfl, nb_w (by omega) (by omega)]
theorem sq_d64 {a : Nat} (h : a < 2147483648) : mm_w (Int.tdiv (a : Int) 64) = ((a / 64 : Nat) : Int) := by
  rw [show Int.tdiv (a : Int) 64 = ((a / 64 : Nat) : Int) from rfl, nb_w (by omega) (by omega)]
section MS
variable {n d : Nat} {I L : mm_I} {P : mm_P}
set_option maxHeartbeats 8000000 in
theorem zU_steps {B : Nat → Nat} (hM : sp_M n P) (hB : ∀ p, p < 8 → I 255 p = (B p : Int) ∧ B p < 256) : sq_X none n L P (fun I' => sq_fr [256] I I' ∧ ∀ j, j < 64 → I' 256 j = zDi B 8 j) (mm_rn (d + 2) 188 [.inr (.inr (some 239))] n I L P) := by
  have ok := hM.ok
  have hn := hM.1
  obtain ⟨m24, m25⟩ : P 239 24 = some 255 ∧ P 239 25 = some 256 := by
    obtain ⟨g0, g1, g2, g3, g4, g5, g6, g7, g8, g9, g10, g11, g12, g13, g14, g15, g16, g17, -⟩ := hM
    exact ⟨g16, g17⟩
  rw [eX12_laySteps]
  simp (disch := (first | assumption | omega | exact nb_ix (by omega) (by assumption) (by omega) (by omega) | exact nb_ix (by omega) rfl (by omega) (by omega) | exact nb_ok (by omega) rfl | decide)) only [kX12_laySteps, ↓if_pos, ↓if_neg, nb_add, nb_sub, nb_mul, Int.toNat_natCast, mm_kr_s, mm_kv_s, if_pos, if_neg, sq_tn, Int.toNat_zero, Int.reduceToNat, Int.reduceNeg, Nat.reduceAdd, Int.reduceAdd, Int.reduceEq, Int.reduceLT, Int.reduceLE, Int.zero_add, nb_ui_s, nb_ui_k, nb_ui_a, sp_min, sp_max, sp_bits]
  refine sq_loop2 (fun k (J : mm_I) (y : mm_V × mm_V) => mm_E (d + 1) 188 2 [.inr (.inr (some 239)), .inl ((k : Int)), y.1, y.2, mm_junk] [] [] n J L P) (fun k J _ => sq_fr [256] I J ∧ ∀ j, j < k → J 256 j = zD0 B j) 64 (s0 := I) (t0 := (mm_junk, mm_junk)) ⟨sq_fr_refl _ I, fun p hp => by omega⟩ (fun k J y hk hJ nx => ?_) (fun J y hJ => ?_)
  · have c1 : ¬ (64 : Int) ≤ (k : Int) := by omega
    have e1 := sq_d8 (a := k) (by omega)
    have e2 := sq_m8 (a := k) (by omega)
    have e3 : (k : Int) + 1 = ((k + 1 : Nat) : Int) := by omega
    have hp8 : k / 8 < 8 := by omega
    have ho8 : k % 8 < 8 := by omega
    have jB : J 255 (k / 8) = (B (k / 8) : Int) := by rw [hJ.1 255 (by decide)]; exact (hB _ hp8).1
    have hh : mm_rn (d + 1) 146 [.inl ((B (k / 8) : Int)), .inl (((k % 8 : Nat) : Int))] n J L P = _ := sp_mhas (hB _ hp8).2 ho8
    have x1 : mm_ix n 255 20 ((k / 8 : Nat) : Int) := nb_ix (by omega) rfl (by omega) (by omega)
    have x2 : mm_ix n 256 20 (k : Int) := nb_ix (by omega) rfl (by omega) (by omega)
    have fin : ∀ z : Int, z = zD0 B k → (sq_fr [256] I (mm_ui J 256 k z) ∧ ∀ j, j < k + 1 → mm_ui J 256 k z 256 j = zD0 B j) := by
      intro z hz
      refine ⟨sq_fr_up hJ.1 (by decide), fun j hj => ?_⟩
      by_cases e : j = k
      · rw [e, nb_ui_s, hz]
      · rw [nb_ui_k e]; exact hJ.2 j (by omega)
    have eD : zD0 B k = if k / 8 = k % 8 then 0 else if Nat.testBit (B (k / 8)) (k % 8) = true then 1 else 99 := rfl
    rw [hX12_laySteps_2]
    by_cases h1 : k / 8 = k % 8
    · rw [if_pos h1] at eD
      have c2 : ((k / 8 : Nat) : Int) = ((k % 8 : Nat) : Int) := by omega
      simp (disch := (first | assumption | omega | exact nb_ix (by omega) (by assumption) (by omega) (by omega) | exact nb_ix (by omega) rfl (by omega) (by omega) | exact nb_ok (by omega) rfl | decide)) only [kX12_laySteps, e1, e2, e3, m25, ↓if_pos, ↓if_neg, nb_add, nb_sub, nb_mul, Int.toNat_natCast, mm_kr_s, mm_kv_s, if_pos, if_neg, sq_tn, Int.toNat_zero, Int.reduceToNat, Int.reduceNeg, Nat.reduceAdd, Int.reduceAdd, Int.reduceEq, Int.reduceLT, Int.reduceLE, Int.zero_add, nb_ui_s, nb_ui_k, nb_ui_a, sp_min, sp_max, sp_bits]
      exact nx _ (_, _) (fin 0 eD.symm)
    · rw [if_neg h1] at eD
      have c2 : ¬ ((k / 8 : Nat) : Int) = ((k % 8 : Nat) : Int) := by omega
      by_cases h2 : Nat.testBit (B (k / 8)) (k % 8) = true
      · rw [if_pos h2] at eD hh
        simp (disch := (first | assumption | omega | exact nb_ix (by omega) (by assumption) (by omega) (by omega) | exact nb_ix (by omega) rfl (by omega) (by omega) | exact nb_ok (by omega) rfl | decide)) only [kX12_laySteps, e1, e2, e3, m24, m25, jB, hh, ↓if_pos, ↓if_neg, nb_add, nb_sub, nb_mul, Int.toNat_natCast, mm_kr_s, mm_kv_s, if_pos, if_neg, sq_tn, Int.toNat_zero, Int.reduceToNat, Int.reduceNeg, Nat.reduceAdd, Int.reduceAdd, Int.reduceEq, Int.reduceLT, Int.reduceLE, Int.zero_add, nb_ui_s, nb_ui_k, nb_ui_a, sp_min, sp_max, sp_bits]
        exact nx _ (_, _) (fin 1 eD.symm)
      · rw [if_neg h2] at eD hh
        simp (disch := (first | assumption | omega | exact nb_ix (by omega) (by assumption) (by omega) (by omega) | exact nb_ix (by omega) rfl (by omega) (by omega) | exact nb_ok (by omega) rfl | decide)) only [kX12_laySteps, e1, e2, e3, m24, m25, jB, hh, ↓if_pos, ↓if_neg, nb_add, nb_sub, nb_mul, Int.toNat_natCast, mm_kr_s, mm_kv_s, if_pos, if_neg, sq_tn, Int.toNat_zero, Int.reduceToNat, Int.reduceNeg, Nat.reduceAdd, Int.reduceAdd, Int.reduceEq, Int.reduceLT, Int.reduceLE, Int.zero_add, nb_ui_s, nb_ui_k, nb_ui_a, sp_min, sp_max, sp_bits]
        exact nx _ (_, _) (fin 99 eD.symm)
  · have c1 : (64 : Int) ≤ ((64 : Nat) : Int) := by decide
    rw [hX12_laySteps_2]
    simp (disch := (first | assumption | omega | exact nb_ix (by omega) (by assumption) (by omega) (by omega) | exact nb_ix (by omega) rfl (by omega) (by omega) | exact nb_ok (by omega) rfl | decide)) only [kX12_laySteps, ↓if_pos, ↓if_neg, nb_add, nb_sub, nb_mul, Int.toNat_natCast, mm_kr_s, mm_kv_s, if_pos, if_neg, sq_tn, Int.toNat_zero, Int.reduceToNat, Int.reduceNeg, Nat.reduceAdd, Int.reduceAdd, Int.reduceEq, Int.reduceLT, Int.reduceLE, Int.zero_add, nb_ui_s, nb_ui_k, nb_ui_a, sp_min, sp_max, sp_bits]
    refine sq_loop2 (fun k (K : mm_I) (y : mm_V × mm_V × mm_V) => mm_E (d + 1) 188 60 [.inr (.inr (some 239)), .inl ((k : Int)), y.1, y.2.1, y.2.2] [] [] n K L P) (fun k K _ => sq_fr [256] I K ∧ ∀ j, j < 64 → K 256 j = if j < k % 64 then zwb (k / 64) (zDi B (k / 64)) j else zDi B (k / 64) j) 512 (s0 := J) (t0 := (y.1, y.2, mm_junk)) ⟨hJ.1, fun j hj => by rw [if_neg (by omega)]; exact hJ.2 j hj⟩ (fun k K y hk hK nx => ?_) (fun K y hK => ?_)
    · have c2 : ¬ (512 : Int) ≤ (k : Int) := by omega
      have e1 := sq_d64 (a := k) (by omega)
      have e2 := sq_d8 (a := k) (by omega)
      have e3 := sq_m8 (a := k / 8) (by omega)
      have e4 := sq_m8 (a := k) (by omega)
      have e5 : (k : Int) + 1 = ((k + 1 : Nat) : Int) := by omega
      obtain ⟨b, hb⟩ : ∃ b, k / 64 = b := ⟨_, rfl⟩
      obtain ⟨p, hp⟩ : ∃ p, k / 8 % 8 = p := ⟨_, rfl⟩
      obtain ⟨o, ho⟩ : ∃ o, k % 8 = o := ⟨_, rfl⟩
      have hb8 : b < 8 := by omega
      have hp8 : p < 8 := by omega
      have ho8 : o < 8 := by omega
      have hkm : k % 64 = 8 * p + o := by omega
      have hkk : k = 64 * b + (8 * p + o) := by omega
      rw [hb] at e1
      rw [hp] at e3
      rw [ho] at e4
      have i1 : 8 * (p : Int) + (o : Int) = ((8 * p + o : Nat) : Int) := by omega
      have i2 : 8 * (p : Int) + (b : Int) = ((8 * p + b : Nat) : Int) := by omega
      have i3 : 8 * (b : Int) + (o : Int) = ((8 * b + o : Nat) : Int) := by omega
      have hK2 := hK.2
      rw [hkm, hb] at hK2
      have v1 : K 256 (8 * p + b) = zDi B b (8 * p + b) := by
        rw [hK2 _ (by omega)]
        split
        · exact zst_col hb8 hp8
        · rfl
      have v2 : K 256 (8 * b + o) = zDi B b (8 * b + o) := by
        rw [hK2 _ (by omega)]
        split
        · exact zst_row hb8 ho8
        · rfl
      have v3 : K 256 (8 * p + o) = zDi B b (8 * p + o) := by
        rw [hK2 _ (by omega), if_neg (by omega)]
      have r1 := zDi_rg B b (8 * p + b)
      have r2 := zDi_rg B b (8 * b + o)
      have x1 : mm_ix n 256 20 ((8 * p + o : Nat) : Int) := nb_ix (by omega) rfl (by omega) (by omega)
      have x2 : mm_ix n 256 20 ((8 * p + b : Nat) : Int) := nb_ix (by omega) rfl (by omega) (by omega)
      have x3 : mm_ix n 256 20 ((8 * b + o : Nat) : Int) := nb_ix (by omega) rfl (by omega) (by omega)
      rw [hX12_laySteps_60]
      simp (disch := (first | assumption | omega | exact nb_ix (by omega) (by assumption) (by omega) (by omega) | exact nb_ix (by omega) rfl (by omega) (by omega) | exact nb_ok (by omega) rfl | decide)) only [kX12_laySteps, e1, e2, e3, e4, e5, m25, i1, i2, i3, v1, v2, v3, ↓if_pos, ↓if_neg, nb_add, nb_sub, nb_mul, Int.toNat_natCast, mm_kr_s, mm_kv_s, if_pos, if_neg, sq_tn, Int.toNat_zero, Int.reduceToNat, Int.reduceNeg, Nat.reduceAdd, Int.reduceAdd, Int.reduceEq, Int.reduceLT, Int.reduceLE, Int.zero_add, nb_ui_s, nb_ui_k, nb_ui_a, sp_min, sp_max, sp_bits]
      refine nx _ (_, _, _) ⟨sq_fr_up hK.1 (by decide), fun j hj => ?_⟩
      have new : min (zDi B b (8 * p + o)) (zDi B b (8 * p + b) + zDi B b (8 * b + o)) = zwb b (zDi B b) (8 * p + o) := (zst_e ho8).symm
      rw [new]
      have val : mm_ui K 256 (8 * p + o) (zwb b (zDi B b) (8 * p + o)) 256 j = if j < 8 * p + o + 1 then zwb b (zDi B b) j else zDi B b j := by
        by_cases e : j = 8 * p + o
        · rw [e, nb_ui_s, if_pos (by omega)]
        · rw [nb_ui_k e, hK2 j hj]
          by_cases e6 : j < 8 * p + o
          · rw [if_pos e6, if_pos (by omega)]
          · rw [if_neg e6, if_neg (by omega)]
      rw [val]
      by_cases e7 : 8 * p + o = 63
      · have f1 : (k + 1) % 64 = 0 := by omega
        have f2 : (k + 1) / 64 = b + 1 := by omega
        rw [f1, f2, if_pos (by omega), if_neg (by omega)]
        rfl
      · have f1 : (k + 1) % 64 = 8 * p + o + 1 := by omega
        have f2 : (k + 1) / 64 = b := by omega
        rw [f1, f2]
    · have c2 : (512 : Int) ≤ ((512 : Nat) : Int) := by decide
      rw [hX12_laySteps_60]
      simp (disch := (first | assumption | omega | exact nb_ix (by omega) (by assumption) (by omega) (by omega) | exact nb_ix (by omega) rfl (by omega) (by omega) | exact nb_ok (by omega) rfl | decide)) only [kX12_laySteps, ↓if_pos, ↓if_neg, nb_add, nb_sub, nb_mul, Int.toNat_natCast, mm_kr_s, mm_kv_s, if_pos, if_neg, sq_tn, Int.toNat_zero, Int.reduceToNat, Int.reduceNeg, Nat.reduceAdd, Int.reduceAdd, Int.reduceEq, Int.reduceLT, Int.reduceLE, Int.zero_add, nb_ui_s, nb_ui_k, nb_ui_a, sp_min, sp_max, sp_bits]
      exact sq_ret ⟨hK.1, fun j hj => by have := hK.2 j hj; rw [if_neg (by omega)] at this; exact this⟩
end MS
