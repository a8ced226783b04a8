/-! the law's cases, on -/
section LW
variable {d q Ln n : Nat} {I L : mm_I} {P : mm_P} {l5 l6 : mm_V}
set_option maxHeartbeats 4000000 in
theorem LW_13 (hd : 60 ≤ d) (hR : RR n P I) (hlen : I 1000006 5000 = (Ln : Int)) (hq : q + 6 ≤ Ln) (hLn : Ln ≤ 3072) (hc : mm_and (I 1000006 q) 63 = 13) : LStp d q n I L P l5 l6 := by
  have hn := RR_n hR
  have ok0 : mm_ok n 0 11 := ⟨by omega, by decide +kernel⟩
  have ok9 : mm_ok n 239 12 := ⟨by omega, by decide +kernel⟩
  have e6 : (q : Int) + 6 = ((q + 6 : Nat) : Int) := by omega
  have c0 : ¬ (Ln : Int) - 6 < (q : Int) := by omega
  obtain ⟨z, I1, I2, L2, P1, e1, e2, hR2, hf⟩ := J_heir d n P I L hd hR
  have g1 : I1 1000006 = I 1000006 := (hf 1000006 (by decide)).1
  have hlen1 : I1 1000006 5000 = (Ln : Int) := by rw [g1]; exact hlen
  refine ⟨n, I2, L2, P1, l5, l6, ?_, hR2, Nat.le_refl n, Nat.le_succ n, fun b hb => (hf b hb).2⟩
  rw [hL_law_23]
  simp (disch := first | assumption | omega) only [kL_law_s, kL_law_13, kL_law_e, hlen, hc, nb_add, nb_sub, Int.toNat_natCast, tn1, tn2, tn3, tn4, tn5, g1, e1, e2, mm_kr_s, ↓reduceIte, Int.reduceEq, eq_self, c0, e6]
set_option maxHeartbeats 4000000 in
theorem LW_14 (hd : 60 ≤ d) (hR : RR n P I) (hlen : I 1000006 5000 = (Ln : Int)) (hq : q + 6 ≤ Ln) (hLn : Ln ≤ 3072) (hc : mm_and (I 1000006 q) 63 = 14) : LStp d q n I L P l5 l6 := by
  have hn := RR_n hR
  have ok0 : mm_ok n 0 11 := ⟨by omega, by decide +kernel⟩
  have ok9 : mm_ok n 239 12 := ⟨by omega, by decide +kernel⟩
  have e6 : (q : Int) + 6 = ((q + 6 : Nat) : Int) := by omega
  have c0 : ¬ (Ln : Int) - 6 < (q : Int) := by omega
  obtain ⟨z, I1, I2, L2, P1, e1, e2, hR2, hf⟩ := J_beg (I 1000006 (q + 1)) (I 1000006 (q + 2)) (I 1000006 (q + 3)) d n P I L hd hR
  have g1 : I1 1000006 = I 1000006 := (hf 1000006 (by decide)).1
  have hlen1 : I1 1000006 5000 = (Ln : Int) := by rw [g1]; exact hlen
  refine ⟨n, I2, L2, P1, l5, l6, ?_, hR2, Nat.le_refl n, Nat.le_succ n, fun b hb => (hf b hb).2⟩
  rw [hL_law_23]
  simp (disch := first | assumption | omega) only [kL_law_s, kL_law_14, kL_law_e, hlen, hc, nb_add, nb_sub, Int.toNat_natCast, tn1, tn2, tn3, tn4, tn5, g1, e1, e2, mm_kr_s, ↓reduceIte, Int.reduceEq, eq_self, c0, e6]
set_option maxHeartbeats 4000000 in
theorem LW_15 (hd : 60 ≤ d) (hR : RR n P I) (hlen : I 1000006 5000 = (Ln : Int)) (hq : q + 6 ≤ Ln) (hLn : Ln ≤ 3072) (hc : mm_and (I 1000006 q) 63 = 15) : LStp d q n I L P l5 l6 := by
  have hn := RR_n hR
  have ok0 : mm_ok n 0 11 := ⟨by omega, by decide +kernel⟩
  have ok9 : mm_ok n 239 12 := ⟨by omega, by decide +kernel⟩
  have e6 : (q : Int) + 6 = ((q + 6 : Nat) : Int) := by omega
  have c0 : ¬ (Ln : Int) - 6 < (q : Int) := by omega
  obtain ⟨z, I1, I2, L2, P1, e1, e2, hR2, hf⟩ := J_give (I 1000006 (q + 1)) d n P I L hd hR
  have g1 : I1 1000006 = I 1000006 := (hf 1000006 (by decide)).1
  have hlen1 : I1 1000006 5000 = (Ln : Int) := by rw [g1]; exact hlen
  refine ⟨n, I2, L2, P1, l5, l6, ?_, hR2, Nat.le_refl n, Nat.le_succ n, fun b hb => (hf b hb).2⟩
  rw [hL_law_23]
  simp (disch := first | assumption | omega) only [kL_law_s, kL_law_15, kL_law_e, hlen, hc, nb_add, nb_sub, Int.toNat_natCast, tn1, tn2, tn3, tn4, tn5, g1, e1, e2, mm_kr_s, ↓reduceIte, Int.reduceEq, eq_self, c0, e6]
set_option maxHeartbeats 4000000 in
theorem LW_16 (hd : 60 ≤ d) (hR : RR n P I) (hlen : I 1000006 5000 = (Ln : Int)) (hq : q + 6 ≤ Ln) (hLn : Ln ≤ 3072) (hc : mm_and (I 1000006 q) 63 = 16) : LStp d q n I L P l5 l6 := by
  have hn := RR_n hR
  have ok0 : mm_ok n 0 11 := ⟨by omega, by decide +kernel⟩
  have ok9 : mm_ok n 239 12 := ⟨by omega, by decide +kernel⟩
  have e6 : (q : Int) + 6 = ((q + 6 : Nat) : Int) := by omega
  have c0 : ¬ (Ln : Int) - 6 < (q : Int) := by omega
  obtain ⟨z, I1, I2, L2, P1, e1, e2, hR2, hf⟩ := J_years (I 1000006 (q + 1)) (mm_lorl (mm_lshl (I 1000006 (q + 2)) 32) (mm_landl (I 1000006 (q + 3)) 4294967295)) d n P I L hd hR
  have g1 : I1 1000006 = I 1000006 := (hf 1000006 (by decide)).1
  have hlen1 : I1 1000006 5000 = (Ln : Int) := by rw [g1]; exact hlen
  refine ⟨n, I2, L2, P1, l5, l6, ?_, hR2, Nat.le_refl n, Nat.le_succ n, fun b hb => (hf b hb).2⟩
  rw [hL_law_23]
  simp (disch := first | assumption | omega) only [kL_law_s, kL_law_16, kL_law_e, hlen, hc, nb_add, nb_sub, Int.toNat_natCast, tn1, tn2, tn3, tn4, tn5, g1, e1, e2, mm_kr_s, ↓reduceIte, Int.reduceEq, eq_self, c0, e6]
set_option maxHeartbeats 4000000 in
theorem LW_17 (hd : 60 ≤ d) (hR : RR n P I) (hlen : I 1000006 5000 = (Ln : Int)) (hq : q + 6 ≤ Ln) (hLn : Ln ≤ 3072) (hc : mm_and (I 1000006 q) 63 = 17) : LStp d q n I L P l5 l6 := by
  have hn := RR_n hR
  have ok0 : mm_ok n 0 11 := ⟨by omega, by decide +kernel⟩
  have ok9 : mm_ok n 239 12 := ⟨by omega, by decide +kernel⟩
  have e6 : (q : Int) + 6 = ((q + 6 : Nat) : Int) := by omega
  have c0 : ¬ (Ln : Int) - 6 < (q : Int) := by omega
  obtain ⟨z, I1, I2, L2, P1, e1, e2, hR2, hf⟩ := J_status (I 1000006 (q + 1)) d n P I L hd hR
  have g1 : I1 1000006 = I 1000006 := (hf 1000006 (by decide)).1
  have hlen1 : I1 1000006 5000 = (Ln : Int) := by rw [g1]; exact hlen
  refine ⟨n, I2, L2, P1, l5, l6, ?_, hR2, Nat.le_refl n, Nat.le_succ n, fun b hb => (hf b hb).2⟩
  rw [hL_law_23]
  simp (disch := first | assumption | omega) only [kL_law_s, kL_law_17, kL_law_e, hlen, hc, nb_add, nb_sub, Int.toNat_natCast, tn1, tn2, tn3, tn4, tn5, g1, e1, e2, mm_kr_s, ↓reduceIte, Int.reduceEq, eq_self, c0, e6]
set_option maxHeartbeats 4000000 in
theorem LW_18 (hd : 60 ≤ d) (hR : RR n P I) (hlen : I 1000006 5000 = (Ln : Int)) (hq : q + 6 ≤ Ln) (hLn : Ln ≤ 3072) (hc : mm_and (I 1000006 q) 63 = 18) : LStp d q n I L P l5 l6 := by
  have hn := RR_n hR
  have ok0 : mm_ok n 0 11 := ⟨by omega, by decide +kernel⟩
  have ok9 : mm_ok n 239 12 := ⟨by omega, by decide +kernel⟩
  have e6 : (q : Int) + 6 = ((q + 6 : Nat) : Int) := by omega
  have c0 : ¬ (Ln : Int) - 6 < (q : Int) := by omega
  obtain ⟨z, I1, I2, L2, P1, e1, e2, hR2, hf⟩ := J_undo d n P I L hd hR
  have g1 : I1 1000006 = I 1000006 := (hf 1000006 (by decide)).1
  have hlen1 : I1 1000006 5000 = (Ln : Int) := by rw [g1]; exact hlen
  refine ⟨n, I2, L2, P1, l5, l6, ?_, hR2, Nat.le_refl n, Nat.le_succ n, fun b hb => (hf b hb).2⟩
  rw [hL_law_23]
  simp (disch := first | assumption | omega) only [kL_law_s, kL_law_18, kL_law_e, hlen, hc, nb_add, nb_sub, Int.toNat_natCast, tn1, tn2, tn3, tn4, tn5, g1, e1, e2, mm_kr_s, ↓reduceIte, Int.reduceEq, eq_self, c0, e6]
set_option maxHeartbeats 4000000 in
theorem LW_19 (hd : 60 ≤ d) (hR : RR n P I) (hlen : I 1000006 5000 = (Ln : Int)) (hq : q + 6 ≤ Ln) (hLn : Ln ≤ 3072) (hc : mm_and (I 1000006 q) 63 = 19) : LStp d q n I L P l5 l6 := by
  have hn := RR_n hR
  have ok0 : mm_ok n 0 11 := ⟨by omega, by decide +kernel⟩
  have ok9 : mm_ok n 239 12 := ⟨by omega, by decide +kernel⟩
  have e6 : (q : Int) + 6 = ((q + 6 : Nat) : Int) := by omega
  have c0 : ¬ (Ln : Int) - 6 < (q : Int) := by omega
  obtain ⟨z, I1, I2, L2, P1, e1, e2, hR2, hf⟩ := J_log (I 1000006 (q + 1)) (I 1000006 (q + 2)) d n P I L hd hR
  have g1 : I1 1000006 = I 1000006 := (hf 1000006 (by decide)).1
  have hlen1 : I1 1000006 5000 = (Ln : Int) := by rw [g1]; exact hlen
  refine ⟨n, I2, L2, P1, l5, l6, ?_, hR2, Nat.le_refl n, Nat.le_succ n, fun b hb => (hf b hb).2⟩
  rw [hL_law_23]
  simp (disch := first | assumption | omega) only [kL_law_s, kL_law_19, kL_law_e, hlen, hc, nb_add, nb_sub, Int.toNat_natCast, tn1, tn2, tn3, tn4, tn5, g1, e1, e2, mm_kr_s, ↓reduceIte, Int.reduceEq, eq_self, c0, e6]
set_option maxHeartbeats 4000000 in
theorem LW_20 (hd : 60 ≤ d) (hR : RR n P I) (hlen : I 1000006 5000 = (Ln : Int)) (hq : q + 6 ≤ Ln) (hLn : Ln ≤ 3072) (hc : mm_and (I 1000006 q) 63 = 20) : LStp d q n I L P l5 l6 := by
  have hn := RR_n hR
  have ok0 : mm_ok n 0 11 := ⟨by omega, by decide +kernel⟩
  have ok9 : mm_ok n 239 12 := ⟨by omega, by decide +kernel⟩
  have e6 : (q : Int) + 6 = ((q + 6 : Nat) : Int) := by omega
  have c0 : ¬ (Ln : Int) - 6 < (q : Int) := by omega
  obtain ⟨z, I1, I2, L2, P1, e1, e2, hR2, hf⟩ := J_lost (I 1000006 (q + 1)) d n P I L hd hR
  have g1 : I1 1000006 = I 1000006 := (hf 1000006 (by decide)).1
  have hlen1 : I1 1000006 5000 = (Ln : Int) := by rw [g1]; exact hlen
  refine ⟨n, I2, L2, P1, l5, l6, ?_, hR2, Nat.le_refl n, Nat.le_succ n, fun b hb => (hf b hb).2⟩
  rw [hL_law_23]
  simp (disch := first | assumption | omega) only [kL_law_s, kL_law_20, kL_law_e, hlen, hc, nb_add, nb_sub, Int.toNat_natCast, tn1, tn2, tn3, tn4, tn5, g1, e1, e2, mm_kr_s, ↓reduceIte, Int.reduceEq, eq_self, c0, e6]
set_option maxHeartbeats 4000000 in
theorem LW_21 (hd : 60 ≤ d) (hR : RR n P I) (hlen : I 1000006 5000 = (Ln : Int)) (hq : q + 6 ≤ Ln) (hLn : Ln ≤ 3072) (hc : mm_and (I 1000006 q) 63 = 21) : LStp d q n I L P l5 l6 := by
  have hn := RR_n hR
  have ok0 : mm_ok n 0 11 := ⟨by omega, by decide +kernel⟩
  have ok9 : mm_ok n 239 12 := ⟨by omega, by decide +kernel⟩
  have e6 : (q : Int) + 6 = ((q + 6 : Nat) : Int) := by omega
  have c0 : ¬ (Ln : Int) - 6 < (q : Int) := by omega
  obtain ⟨z, I1, I2, L2, P1, e1, e2, hR2, hf⟩ := J_left (I 1000006 (q + 1)) (I 1000006 (q + 2)) d n P I L hd hR
  have g1 : I1 1000006 = I 1000006 := (hf 1000006 (by decide)).1
  have hlen1 : I1 1000006 5000 = (Ln : Int) := by rw [g1]; exact hlen
  refine ⟨n, I2, L2, P1, l5, l6, ?_, hR2, Nat.le_refl n, Nat.le_succ n, fun b hb => (hf b hb).2⟩
  rw [hL_law_23]
  simp (disch := first | assumption | omega) only [kL_law_s, kL_law_21, kL_law_e, hlen, hc, nb_add, nb_sub, Int.toNat_natCast, tn1, tn2, tn3, tn4, tn5, g1, e1, e2, mm_kr_s, ↓reduceIte, Int.reduceEq, eq_self, c0, e6]
set_option maxHeartbeats 4000000 in
theorem LW_22 (hd : 60 ≤ d) (hR : RR n P I) (hlen : I 1000006 5000 = (Ln : Int)) (hq : q + 6 ≤ Ln) (hLn : Ln ≤ 3072) (hc : mm_and (I 1000006 q) 63 = 22) : LStp d q n I L P l5 l6 := by
  have hn := RR_n hR
  have ok0 : mm_ok n 0 11 := ⟨by omega, by decide +kernel⟩
  have ok9 : mm_ok n 239 12 := ⟨by omega, by decide +kernel⟩
  have e6 : (q : Int) + 6 = ((q + 6 : Nat) : Int) := by omega
  have c0 : ¬ (Ln : Int) - 6 < (q : Int) := by omega
  obtain ⟨z, I1, I2, L2, P1, e1, e2, hR2, hf⟩ := J_saved (I 1000006 (q + 1)) d n P I L hd hR
  have g1 : I1 1000006 = I 1000006 := (hf 1000006 (by decide)).1
  have hlen1 : I1 1000006 5000 = (Ln : Int) := by rw [g1]; exact hlen
  refine ⟨n, I2, L2, P1, l5, l6, ?_, hR2, Nat.le_refl n, Nat.le_succ n, fun b hb => (hf b hb).2⟩
  rw [hL_law_23]
  simp (disch := first | assumption | omega) only [kL_law_s, kL_law_22, kL_law_e, hlen, hc, nb_add, nb_sub, Int.toNat_natCast, tn1, tn2, tn3, tn4, tn5, g1, e1, e2, mm_kr_s, ↓reduceIte, Int.reduceEq, eq_self, c0, e6]
set_option maxHeartbeats 4000000 in
theorem LW_23 (hd : 60 ≤ d) (hR : RR n P I) (hlen : I 1000006 5000 = (Ln : Int)) (hq : q + 6 ≤ Ln) (hLn : Ln ≤ 3072) (hc : mm_and (I 1000006 q) 63 = 23) : LStp d q n I L P l5 l6 := by
  have hn := RR_n hR
  have ok0 : mm_ok n 0 11 := ⟨by omega, by decide +kernel⟩
  have ok9 : mm_ok n 239 12 := ⟨by omega, by decide +kernel⟩
  have e6 : (q : Int) + 6 = ((q + 6 : Nat) : Int) := by omega
  have c0 : ¬ (Ln : Int) - 6 < (q : Int) := by omega
  obtain ⟨z, I1, I2, L2, P1, e1, e2, hR2, hf⟩ := J_cryAt (I 1000006 (q + 1)) (I 1000006 (q + 2)) d n P I L hd hR
  have g1 : I1 1000006 = I 1000006 := (hf 1000006 (by decide)).1
  have hlen1 : I1 1000006 5000 = (Ln : Int) := by rw [g1]; exact hlen
  refine ⟨n, I2, L2, P1, l5, l6, ?_, hR2, Nat.le_refl n, Nat.le_succ n, fun b hb => (hf b hb).2⟩
  rw [hL_law_23]
  simp (disch := first | assumption | omega) only [kL_law_s, kL_law_23, kL_law_e, hlen, hc, nb_add, nb_sub, Int.toNat_natCast, tn1, tn2, tn3, tn4, tn5, g1, e1, e2, mm_kr_s, ↓reduceIte, Int.reduceEq, eq_self, c0, e6]
set_option maxHeartbeats 4000000 in
theorem LW_24 (hd : 60 ≤ d) (hR : RR n P I) (hlen : I 1000006 5000 = (Ln : Int)) (hq : q + 6 ≤ Ln) (hLn : Ln ≤ 3072) (hc : mm_and (I 1000006 q) 63 = 24) : LStp d q n I L P l5 l6 := by
  have hn := RR_n hR
  have ok0 : mm_ok n 0 11 := ⟨by omega, by decide +kernel⟩
  have ok9 : mm_ok n 239 12 := ⟨by omega, by decide +kernel⟩
  have e6 : (q : Int) + 6 = ((q + 6 : Nat) : Int) := by omega
  have c0 : ¬ (Ln : Int) - 6 < (q : Int) := by omega
  obtain ⟨z, I1, I2, L2, P1, e1, e2, hR2, hf⟩ := J_quiet d n P I L hd hR
  have g1 : I1 1000006 = I 1000006 := (hf 1000006 (by decide)).1
  have hlen1 : I1 1000006 5000 = (Ln : Int) := by rw [g1]; exact hlen
  refine ⟨n, I2, L2, P1, l5, l6, ?_, hR2, Nat.le_refl n, Nat.le_succ n, fun b hb => (hf b hb).2⟩
  rw [hL_law_23]
  simp (disch := first | assumption | omega) only [kL_law_s, kL_law_24, kL_law_e, hlen, hc, nb_add, nb_sub, Int.toNat_natCast, tn1, tn2, tn3, tn4, tn5, g1, e1, e2, mm_kr_s, ↓reduceIte, Int.reduceEq, eq_self, c0, e6]
set_option maxHeartbeats 4000000 in
theorem LW_25 (hd : 60 ≤ d) (hR : RR n P I) (hlen : I 1000006 5000 = (Ln : Int)) (hq : q + 6 ≤ Ln) (hLn : Ln ≤ 3072) (hc : mm_and (I 1000006 q) 63 = 25) : LStp d q n I L P l5 l6 := by
  have hn := RR_n hR
  have ok0 : mm_ok n 0 11 := ⟨by omega, by decide +kernel⟩
  have ok9 : mm_ok n 239 12 := ⟨by omega, by decide +kernel⟩
  have e6 : (q : Int) + 6 = ((q + 6 : Nat) : Int) := by omega
  have c0 : ¬ (Ln : Int) - 6 < (q : Int) := by omega
  obtain ⟨z, I1, I2, L2, P1, e1, e2, hR2, hf⟩ := J_call (I 1000006 (q + 1)) (I 1000006 (q + 2)) d n P I L hd hR
  have g1 : I1 1000006 = I 1000006 := (hf 1000006 (by decide)).1
  have hlen1 : I1 1000006 5000 = (Ln : Int) := by rw [g1]; exact hlen
  refine ⟨n, I2, L2, P1, l5, l6, ?_, hR2, Nat.le_refl n, Nat.le_succ n, fun b hb => (hf b hb).2⟩
  rw [hL_law_23]
  simp (disch := first | assumption | omega) only [kL_law_s, kL_law_25, kL_law_e, hlen, hc, nb_add, nb_sub, Int.toNat_natCast, tn1, tn2, tn3, tn4, tn5, g1, e1, e2, mm_kr_s, ↓reduceIte, Int.reduceEq, eq_self, c0, e6]
end LW
