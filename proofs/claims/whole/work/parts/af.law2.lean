/-! the law's cases, on -/
section LW
variable {d q Ln n : Nat} {I L : mm_I} {P : mm_P} {l5 l6 : mm_V}
set_option maxHeartbeats 4000000 in
theorem LW_26 (hd : 60 ≤ d) (hR : RR n P I) (hlen : I 1000006 5000 = (Ln : Int)) (hq : q + 6 ≤ Ln) (hLn : Ln ≤ 3072) (hc : mm_and (I 1000006 q) 63 = 26) : LStp d q n I L P l5 l6 := by
  have hn := RR_n hR
  have ok0 : mm_ok n 0 11 := ⟨by omega, by decide +kernel⟩
  have ok9 : mm_ok n 239 12 := ⟨by omega, by decide +kernel⟩
  have e6 : (q : Int) + 6 = ((q + 6 : Nat) : Int) := by omega
  have c0 : ¬ (Ln : Int) - 6 < (q : Int) := by omega
  obtain ⟨z, I1, I2, L2, P1, e1, e2, hR2, hf⟩ := J_round (I 1000006 (q + 1)) (I 1000006 (q + 2)) d n P I L hd hR
  have g1 : I1 1000006 = I 1000006 := (hf 1000006 (by decide)).1
  have hlen1 : I1 1000006 5000 = (Ln : Int) := by rw [g1]; exact hlen
  refine ⟨n, I2, L2, P1, l5, l6, ?_, hR2, Nat.le_refl n, Nat.le_succ n, fun b hb => (hf b hb).2⟩
  rw [hL_law_23]
  simp (disch := first | assumption | omega) only [kL_law_s, kL_law_26, kL_law_e, hlen, hc, nb_add, nb_sub, Int.toNat_natCast, tn1, tn2, tn3, tn4, tn5, g1, e1, e2, mm_kr_s, ↓reduceIte, Int.reduceEq, eq_self, c0, e6]
set_option maxHeartbeats 4000000 in
theorem LW_27 (hd : 60 ≤ d) (hR : RR n P I) (hlen : I 1000006 5000 = (Ln : Int)) (hq : q + 6 ≤ Ln) (hLn : Ln ≤ 3072) (hc : mm_and (I 1000006 q) 63 = 27) : LStp d q n I L P l5 l6 := by
  have hn := RR_n hR
  have ok0 : mm_ok n 0 11 := ⟨by omega, by decide +kernel⟩
  have ok9 : mm_ok n 239 12 := ⟨by omega, by decide +kernel⟩
  have e6 : (q : Int) + 6 = ((q + 6 : Nat) : Int) := by omega
  have c0 : ¬ (Ln : Int) - 6 < (q : Int) := by omega
  obtain ⟨z, I1, I2, L2, P1, e1, e2, hR2, hf⟩ := J_cover d n P I L hd hR
  have g1 : I1 1000006 = I 1000006 := (hf 1000006 (by decide)).1
  have hlen1 : I1 1000006 5000 = (Ln : Int) := by rw [g1]; exact hlen
  refine ⟨n, I2, L2, P1, l5, l6, ?_, hR2, Nat.le_refl n, Nat.le_succ n, fun b hb => (hf b hb).2⟩
  rw [hL_law_23]
  simp (disch := first | assumption | omega) only [kL_law_s, kL_law_27, kL_law_e, hlen, hc, nb_add, nb_sub, Int.toNat_natCast, tn1, tn2, tn3, tn4, tn5, g1, e1, e2, mm_kr_s, ↓reduceIte, Int.reduceEq, eq_self, c0, e6]
set_option maxHeartbeats 4000000 in
theorem LW_28 (hd : 60 ≤ d) (hR : RR n P I) (hlen : I 1000006 5000 = (Ln : Int)) (hq : q + 6 ≤ Ln) (hLn : Ln ≤ 3072) (hc : mm_and (I 1000006 q) 63 = 28) : LStp d q n I L P l5 l6 := by
  have hn := RR_n hR
  have ok0 : mm_ok n 0 11 := ⟨by omega, by decide +kernel⟩
  have ok9 : mm_ok n 239 12 := ⟨by omega, by decide +kernel⟩
  have e6 : (q : Int) + 6 = ((q + 6 : Nat) : Int) := by omega
  have c0 : ¬ (Ln : Int) - 6 < (q : Int) := by omega
  by_cases h4 : I 1000006 (q + 4) = 0
  ·   obtain ⟨z, I1, I2, L2, P1, e1, e2, hR2, hf⟩ := J_seen (I 1000006 (q + 1)) (I 1000006 (q + 2)) (I 1000006 (q + 3)) 0 (Or.inl rfl) d n P I L hd hR
      have g1 : I1 1000006 = I 1000006 := (hf 1000006 (by decide)).1
      have hlen1 : I1 1000006 5000 = (Ln : Int) := by rw [g1]; exact hlen
      refine ⟨n, I2, L2, P1, l5, l6, ?_, hR2, Nat.le_refl n, Nat.le_succ n, fun b hb => (hf b hb).2⟩
      rw [hL_law_23]
      simp (disch := first | assumption | omega) only [kL_law_s, kL_law_28, kL_law_e, hlen, hc, nb_add, nb_sub, Int.toNat_natCast, tn1, tn2, tn3, tn4, tn5, g1, e1, e2, mm_kr_s, ↓reduceIte, Int.reduceEq, eq_self, c0, e6, h4]
  ·   obtain ⟨z, I1, I2, L2, P1, e1, e2, hR2, hf⟩ := J_seen (I 1000006 (q + 1)) (I 1000006 (q + 2)) (I 1000006 (q + 3)) 1 (Or.inr rfl) d n P I L hd hR
      have g1 : I1 1000006 = I 1000006 := (hf 1000006 (by decide)).1
      have hlen1 : I1 1000006 5000 = (Ln : Int) := by rw [g1]; exact hlen
      refine ⟨n, I2, L2, P1, l5, l6, ?_, hR2, Nat.le_refl n, Nat.le_succ n, fun b hb => (hf b hb).2⟩
      rw [hL_law_23]
      simp (disch := first | assumption | omega) only [kL_law_s, kL_law_28, kL_law_e, hlen, hc, nb_add, nb_sub, Int.toNat_natCast, tn1, tn2, tn3, tn4, tn5, g1, e1, e2, mm_kr_s, ↓reduceIte, Int.reduceEq, eq_self, c0, e6, h4]
set_option maxHeartbeats 4000000 in
theorem LW_29 (hd : 60 ≤ d) (hR : RR n P I) (hlen : I 1000006 5000 = (Ln : Int)) (hq : q + 6 ≤ Ln) (hLn : Ln ≤ 3072) (hc : mm_and (I 1000006 q) 63 = 29) : LStp d q n I L P l5 l6 := by
  have hn := RR_n hR
  have ok0 : mm_ok n 0 11 := ⟨by omega, by decide +kernel⟩
  have ok9 : mm_ok n 239 12 := ⟨by omega, by decide +kernel⟩
  have e6 : (q : Int) + 6 = ((q + 6 : Nat) : Int) := by omega
  have c0 : ¬ (Ln : Int) - 6 < (q : Int) := by omega
  obtain ⟨z, I1, I2, L2, P1, e1, e2, hR2, hf⟩ := J_fits (I 1000006 (q + 1)) d n P I L hd hR
  have g1 : I1 1000006 = I 1000006 := (hf 1000006 (by decide)).1
  have hlen1 : I1 1000006 5000 = (Ln : Int) := by rw [g1]; exact hlen
  refine ⟨n, I2, L2, P1, l5, l6, ?_, hR2, Nat.le_refl n, Nat.le_succ n, fun b hb => (hf b hb).2⟩
  rw [hL_law_23]
  simp (disch := first | assumption | omega) only [kL_law_s, kL_law_29, kL_law_e, hlen, hc, nb_add, nb_sub, Int.toNat_natCast, tn1, tn2, tn3, tn4, tn5, g1, e1, e2, mm_kr_s, ↓reduceIte, Int.reduceEq, eq_self, c0, e6]
set_option maxHeartbeats 4000000 in
theorem LW_30 (hd : 60 ≤ d) (hR : RR n P I) (hlen : I 1000006 5000 = (Ln : Int)) (hq : q + 6 ≤ Ln) (hLn : Ln ≤ 3072) (hc : mm_and (I 1000006 q) 63 = 30) : LStp d q n I L P l5 l6 := by
  have hn := RR_n hR
  have ok0 : mm_ok n 0 11 := ⟨by omega, by decide +kernel⟩
  have ok9 : mm_ok n 239 12 := ⟨by omega, by decide +kernel⟩
  have e6 : (q : Int) + 6 = ((q + 6 : Nat) : Int) := by omega
  have c0 : ¬ (Ln : Int) - 6 < (q : Int) := by omega
  obtain ⟨z, I1, I2, L2, P1, e1, e2, hR2, hf⟩ := J_ask (I 1000006 (q + 1)) d n P I L hd hR
  have g1 : I1 1000006 = I 1000006 := (hf 1000006 (by decide)).1
  have hlen1 : I1 1000006 5000 = (Ln : Int) := by rw [g1]; exact hlen
  refine ⟨n, I2, L2, P1, l5, l6, ?_, hR2, Nat.le_refl n, Nat.le_succ n, fun b hb => (hf b hb).2⟩
  rw [hL_law_23]
  simp (disch := first | assumption | omega) only [kL_law_s, kL_law_30, kL_law_e, hlen, hc, nb_add, nb_sub, Int.toNat_natCast, tn1, tn2, tn3, tn4, tn5, g1, e1, e2, mm_kr_s, ↓reduceIte, Int.reduceEq, eq_self, c0, e6]
set_option maxHeartbeats 4000000 in
theorem LW_31 (hd : 60 ≤ d) (hR : RR n P I) (hlen : I 1000006 5000 = (Ln : Int)) (hq : q + 6 ≤ Ln) (hLn : Ln ≤ 3072) (hc : mm_and (I 1000006 q) 63 = 31) : LStp d q n I L P l5 l6 := by
  have hn := RR_n hR
  have ok0 : mm_ok n 0 11 := ⟨by omega, by decide +kernel⟩
  have ok9 : mm_ok n 239 12 := ⟨by omega, by decide +kernel⟩
  have e6 : (q : Int) + 6 = ((q + 6 : Nat) : Int) := by omega
  have c0 : ¬ (Ln : Int) - 6 < (q : Int) := by omega
  obtain ⟨z, I1, I2, L2, P1, e1, e2, hR2, hf⟩ := J_game (I 1000006 (q + 1)) (I 1000006 (q + 2)) (I 1000006 (q + 3)) (I 1000006 (q + 4)) (I 1000006 (q + 5)) d n P I L hd hR
  have g1 : I1 1000006 = I 1000006 := (hf 1000006 (by decide)).1
  have hlen1 : I1 1000006 5000 = (Ln : Int) := by rw [g1]; exact hlen
  refine ⟨n, I2, L2, P1, l5, l6, ?_, hR2, Nat.le_refl n, Nat.le_succ n, fun b hb => (hf b hb).2⟩
  rw [hL_law_23]
  simp (disch := first | assumption | omega) only [kL_law_s, kL_law_31, kL_law_e, hlen, hc, nb_add, nb_sub, Int.toNat_natCast, tn1, tn2, tn3, tn4, tn5, g1, e1, e2, mm_kr_s, ↓reduceIte, Int.reduceEq, eq_self, c0, e6]
set_option maxHeartbeats 4000000 in
theorem LW_32 (hd : 60 ≤ d) (hR : RR n P I) (hlen : I 1000006 5000 = (Ln : Int)) (hq : q + 6 ≤ Ln) (hLn : Ln ≤ 3072) (hc : mm_and (I 1000006 q) 63 = 32) : LStp d q n I L P l5 l6 := by
  have hn := RR_n hR
  have ok0 : mm_ok n 0 11 := ⟨by omega, by decide +kernel⟩
  have ok9 : mm_ok n 239 12 := ⟨by omega, by decide +kernel⟩
  have e6 : (q : Int) + 6 = ((q + 6 : Nat) : Int) := by omega
  have c0 : ¬ (Ln : Int) - 6 < (q : Int) := by omega
  obtain ⟨z, I1, I2, L2, P1, e1, e2, hR2, hf⟩ := J_rests (I 1000006 (q + 1)) (I 1000006 (q + 2)) (I 1000006 (q + 3)) d n P I L hd hR
  have g1 : I1 1000006 = I 1000006 := (hf 1000006 (by decide)).1
  have hlen1 : I1 1000006 5000 = (Ln : Int) := by rw [g1]; exact hlen
  refine ⟨n, I2, L2, P1, l5, l6, ?_, hR2, Nat.le_refl n, Nat.le_succ n, fun b hb => (hf b hb).2⟩
  rw [hL_law_23]
  simp (disch := first | assumption | omega) only [kL_law_s, kL_law_32, kL_law_e, hlen, hc, nb_add, nb_sub, Int.toNat_natCast, tn1, tn2, tn3, tn4, tn5, g1, e1, e2, mm_kr_s, ↓reduceIte, Int.reduceEq, eq_self, c0, e6]
set_option maxHeartbeats 4000000 in
theorem LW_33 (hd : 60 ≤ d) (hR : RR n P I) (hlen : I 1000006 5000 = (Ln : Int)) (hq : q + 6 ≤ Ln) (hLn : Ln ≤ 3072) (hc : mm_and (I 1000006 q) 63 = 33) : LStp d q n I L P l5 l6 := by
  have hn := RR_n hR
  have ok0 : mm_ok n 0 11 := ⟨by omega, by decide +kernel⟩
  have ok9 : mm_ok n 239 12 := ⟨by omega, by decide +kernel⟩
  have e6 : (q : Int) + 6 = ((q + 6 : Nat) : Int) := by omega
  have c0 : ¬ (Ln : Int) - 6 < (q : Int) := by omega
  obtain ⟨z, I1, I2, L2, P1, e1, e2, hR2, hf⟩ := J_odds (I 1000006 (q + 1)) (I 1000006 (q + 2)) (I 1000006 (q + 3)) (I 1000006 (q + 4)) d n P I L hd hR
  have g1 : I1 1000006 = I 1000006 := (hf 1000006 (by decide)).1
  have hlen1 : I1 1000006 5000 = (Ln : Int) := by rw [g1]; exact hlen
  refine ⟨n, I2, L2, P1, l5, l6, ?_, hR2, Nat.le_refl n, Nat.le_succ n, fun b hb => (hf b hb).2⟩
  rw [hL_law_23]
  simp (disch := first | assumption | omega) only [kL_law_s, kL_law_33, kL_law_e, hlen, hc, nb_add, nb_sub, Int.toNat_natCast, tn1, tn2, tn3, tn4, tn5, g1, e1, e2, mm_kr_s, ↓reduceIte, Int.reduceEq, eq_self, c0, e6]
set_option maxHeartbeats 4000000 in
theorem LW_34 (hd : 60 ≤ d) (hR : RR n P I) (hlen : I 1000006 5000 = (Ln : Int)) (hq : q + 6 ≤ Ln) (hLn : Ln ≤ 3072) (hc : mm_and (I 1000006 q) 63 = 34) : LStp d q n I L P l5 l6 := by
  have hn := RR_n hR
  have ok0 : mm_ok n 0 11 := ⟨by omega, by decide +kernel⟩
  have ok9 : mm_ok n 239 12 := ⟨by omega, by decide +kernel⟩
  have e6 : (q : Int) + 6 = ((q + 6 : Nat) : Int) := by omega
  have c0 : ¬ (Ln : Int) - 6 < (q : Int) := by omega
  obtain ⟨z, I1, I2, L2, P1, e1, e2, hR2, hf⟩ := J_shares (I 1000006 (q + 1)) (I 1000006 (q + 2)) d n P I L hd hR
  have g1 : I1 1000006 = I 1000006 := (hf 1000006 (by decide)).1
  have hlen1 : I1 1000006 5000 = (Ln : Int) := by rw [g1]; exact hlen
  refine ⟨n, I2, L2, P1, l5, l6, ?_, hR2, Nat.le_refl n, Nat.le_succ n, fun b hb => (hf b hb).2⟩
  rw [hL_law_23]
  simp (disch := first | assumption | omega) only [kL_law_s, kL_law_34, kL_law_e, hlen, hc, nb_add, nb_sub, Int.toNat_natCast, tn1, tn2, tn3, tn4, tn5, g1, e1, e2, mm_kr_s, ↓reduceIte, Int.reduceEq, eq_self, c0, e6]
set_option maxHeartbeats 4000000 in
theorem LW_35 (hd : 60 ≤ d) (hR : RR n P I) (hlen : I 1000006 5000 = (Ln : Int)) (hq : q + 6 ≤ Ln) (hLn : Ln ≤ 3072) (hc : mm_and (I 1000006 q) 63 = 35) : LStp d q n I L P l5 l6 := by
  have hn := RR_n hR
  have ok0 : mm_ok n 0 11 := ⟨by omega, by decide +kernel⟩
  have ok9 : mm_ok n 239 12 := ⟨by omega, by decide +kernel⟩
  have e6 : (q : Int) + 6 = ((q + 6 : Nat) : Int) := by omega
  have c0 : ¬ (Ln : Int) - 6 < (q : Int) := by omega
  obtain ⟨z, I1, I2, L2, P1, e1, e2, hR2, hf⟩ := J_most (I 1000006 (q + 1)) d n P I L hd hR
  have g1 : I1 1000006 = I 1000006 := (hf 1000006 (by decide)).1
  have hlen1 : I1 1000006 5000 = (Ln : Int) := by rw [g1]; exact hlen
  refine ⟨n, I2, L2, P1, l5, l6, ?_, hR2, Nat.le_refl n, Nat.le_succ n, fun b hb => (hf b hb).2⟩
  rw [hL_law_23]
  simp (disch := first | assumption | omega) only [kL_law_s, kL_law_35, kL_law_e, hlen, hc, nb_add, nb_sub, Int.toNat_natCast, tn1, tn2, tn3, tn4, tn5, g1, e1, e2, mm_kr_s, ↓reduceIte, Int.reduceEq, eq_self, c0, e6]
set_option maxHeartbeats 4000000 in
theorem LW_36 (hd : 60 ≤ d) (hR : RR n P I) (hlen : I 1000006 5000 = (Ln : Int)) (hq : q + 6 ≤ Ln) (hLn : Ln ≤ 3072) (hc : mm_and (I 1000006 q) 63 = 36) : LStp d q n I L P l5 l6 := by
  have hn := RR_n hR
  have ok0 : mm_ok n 0 11 := ⟨by omega, by decide +kernel⟩
  have ok9 : mm_ok n 239 12 := ⟨by omega, by decide +kernel⟩
  have e6 : (q : Int) + 6 = ((q + 6 : Nat) : Int) := by omega
  have c0 : ¬ (Ln : Int) - 6 < (q : Int) := by omega
  obtain ⟨z, I1, I2, L2, P1, e1, e2, hR2, hf⟩ := J_image d n P I L hd hR
  have g1 : I1 1000006 = I 1000006 := (hf 1000006 (by decide)).1
  have hlen1 : I1 1000006 5000 = (Ln : Int) := by rw [g1]; exact hlen
  refine ⟨n, I2, L2, P1, l5, l6, ?_, hR2, Nat.le_refl n, Nat.le_succ n, fun b hb => (hf b hb).2⟩
  rw [hL_law_23]
  simp (disch := first | assumption | omega) only [kL_law_s, kL_law_36, kL_law_e, hlen, hc, nb_add, nb_sub, Int.toNat_natCast, tn1, tn2, tn3, tn4, tn5, g1, e1, e2, mm_kr_s, ↓reduceIte, Int.reduceEq, eq_self, c0, e6]
set_option maxHeartbeats 4000000 in
theorem LW_37 (hd : 60 ≤ d) (hR : RR n P I) (hlen : I 1000006 5000 = (Ln : Int)) (hq : q + 6 ≤ Ln) (hLn : Ln ≤ 3072) (hc : mm_and (I 1000006 q) 63 = 37) : LStp d q n I L P l5 l6 := by
  have hn := RR_n hR
  have ok0 : mm_ok n 0 11 := ⟨by omega, by decide +kernel⟩
  have ok9 : mm_ok n 239 12 := ⟨by omega, by decide +kernel⟩
  have e6 : (q : Int) + 6 = ((q + 6 : Nat) : Int) := by omega
  have c0 : ¬ (Ln : Int) - 6 < (q : Int) := by omega
  obtain ⟨z, I1, I2, L2, P1, e1, e2, hR2, hf⟩ := J_back d n P I L hd hR
  have g1 : I1 1000006 = I 1000006 := (hf 1000006 (by decide)).1
  have hlen1 : I1 1000006 5000 = (Ln : Int) := by rw [g1]; exact hlen
  refine ⟨n, I2, L2, P1, l5, l6, ?_, hR2, Nat.le_refl n, Nat.le_succ n, fun b hb => (hf b hb).2⟩
  rw [hL_law_23]
  simp (disch := first | assumption | omega) only [kL_law_s, kL_law_37, kL_law_e, hlen, hc, nb_add, nb_sub, Int.toNat_natCast, tn1, tn2, tn3, tn4, tn5, g1, e1, e2, mm_kr_s, ↓reduceIte, Int.reduceEq, eq_self, c0, e6]
set_option maxHeartbeats 4000000 in
theorem LW_38 (hd : 60 ≤ d) (hR : RR n P I) (hlen : I 1000006 5000 = (Ln : Int)) (hq : q + 6 ≤ Ln) (hLn : Ln ≤ 3072) (hc : mm_and (I 1000006 q) 63 = 38) : LStp d q n I L P l5 l6 := by
  have hn := RR_n hR
  have ok0 : mm_ok n 0 11 := ⟨by omega, by decide +kernel⟩
  have ok9 : mm_ok n 239 12 := ⟨by omega, by decide +kernel⟩
  have e6 : (q : Int) + 6 = ((q + 6 : Nat) : Int) := by omega
  have c0 : ¬ (Ln : Int) - 6 < (q : Int) := by omega
  obtain ⟨z, I1, I2, L2, P1, e1, e2, hR2, hf⟩ := J_count (I 1000006 (q + 1)) d n P I L hd hR
  have g1 : I1 1000006 = I 1000006 := (hf 1000006 (by decide)).1
  have hlen1 : I1 1000006 5000 = (Ln : Int) := by rw [g1]; exact hlen
  refine ⟨n, I2, L2, P1, l5, l6, ?_, hR2, Nat.le_refl n, Nat.le_succ n, fun b hb => (hf b hb).2⟩
  rw [hL_law_23]
  simp (disch := first | assumption | omega) only [kL_law_s, kL_law_38, kL_law_e, hlen, hc, nb_add, nb_sub, Int.toNat_natCast, tn1, tn2, tn3, tn4, tn5, g1, e1, e2, mm_kr_s, ↓reduceIte, Int.reduceEq, eq_self, c0, e6]
set_option maxHeartbeats 4000000 in
theorem LW_d (hd : 60 ≤ d) (hR : RR n P I) (hlen : I 1000006 5000 = (Ln : Int)) (hq : q + 6 ≤ Ln) (hLn : Ln ≤ 3072) (h0 : ¬ mm_and (I 1000006 q) 63 = 0) (h1 : ¬ mm_and (I 1000006 q) 63 = 1) (h2 : ¬ mm_and (I 1000006 q) 63 = 2) (h3 : ¬ mm_and (I 1000006 q) 63 = 3) (h4 : ¬ mm_and (I 1000006 q) 63 = 4) (h5 : ¬ mm_and (I 1000006 q) 63 = 5) (h6 : ¬ mm_and (I 1000006 q) 63 = 6) (h7 : ¬ mm_and (I 1000006 q) 63 = 7) (h8 : ¬ mm_and (I 1000006 q) 63 = 8) (h9 : ¬ mm_and (I 1000006 q) 63 = 9) (h10 : ¬ mm_and (I 1000006 q) 63 = 10) (h11 : ¬ mm_and (I 1000006 q) 63 = 11) (h12 : ¬ mm_and (I 1000006 q) 63 = 12) (h13 : ¬ mm_and (I 1000006 q) 63 = 13) (h14 : ¬ mm_and (I 1000006 q) 63 = 14) (h15 : ¬ mm_and (I 1000006 q) 63 = 15) (h16 : ¬ mm_and (I 1000006 q) 63 = 16) (h17 : ¬ mm_and (I 1000006 q) 63 = 17) (h18 : ¬ mm_and (I 1000006 q) 63 = 18) (h19 : ¬ mm_and (I 1000006 q) 63 = 19) (h20 : ¬ mm_and (I 1000006 q) 63 = 20) (h21 : ¬ mm_and (I 1000006 q) 63 = 21) (h22 : ¬ mm_and (I 1000006 q) 63 = 22) (h23 : ¬ mm_and (I 1000006 q) 63 = 23) (h24 : ¬ mm_and (I 1000006 q) 63 = 24) (h25 : ¬ mm_and (I 1000006 q) 63 = 25) (h26 : ¬ mm_and (I 1000006 q) 63 = 26) (h27 : ¬ mm_and (I 1000006 q) 63 = 27) (h28 : ¬ mm_and (I 1000006 q) 63 = 28) (h29 : ¬ mm_and (I 1000006 q) 63 = 29) (h30 : ¬ mm_and (I 1000006 q) 63 = 30) (h31 : ¬ mm_and (I 1000006 q) 63 = 31) (h32 : ¬ mm_and (I 1000006 q) 63 = 32) (h33 : ¬ mm_and (I 1000006 q) 63 = 33) (h34 : ¬ mm_and (I 1000006 q) 63 = 34) (h35 : ¬ mm_and (I 1000006 q) 63 = 35) (h36 : ¬ mm_and (I 1000006 q) 63 = 36) (h37 : ¬ mm_and (I 1000006 q) 63 = 37) (h38 : ¬ mm_and (I 1000006 q) 63 = 38) : LStp d q n I L P l5 l6 := by
  have hn := RR_n hR
  have ok0 : mm_ok n 0 11 := ⟨by omega, by decide +kernel⟩
  have ok9 : mm_ok n 239 12 := ⟨by omega, by decide +kernel⟩
  have e6 : (q : Int) + 6 = ((q + 6 : Nat) : Int) := by omega
  have c0 : ¬ (Ln : Int) - 6 < (q : Int) := by omega
  refine ⟨n, I, L, P, l5, l6, ?_, hR, Nat.le_refl n, Nat.le_succ n, fun b hb => rfl⟩
  rw [hL_law_23]
  simp (disch := first | assumption | omega) only [kL_law_s, kL_law_e, hlen, nb_add, nb_sub, Int.toNat_natCast, ↓reduceIte, c0, e6, h0, h1, h2, h3, h4, h5, h6, h7, h8, h9, h10, h11, h12, h13, h14, h15, h16, h17, h18, h19, h20, h21, h22, h23, h24, h25, h26, h27, h28, h29, h30, h31, h32, h33, h34, h35, h36, h37, h38]
end LW
