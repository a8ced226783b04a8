/-! the law's cases: a call of both, and the relation again -/
def LStp (d q n : Nat) (I L : mm_I) (P : mm_P) (l5 l6 : mm_V) : Prop := ∃ (n' : Nat) (I' L' : mm_I) (P' : mm_P) (m5 m6 : mm_V), mm_E d 282 23 [.inr (.inr (some 1000006)), .inr (.inr (some 0)), .inr (.inr (some 239)), .inr (.inr (some 269)), .inl ((q : Int)), l5, l6] [] [] n I L P = mm_E d 282 23 [.inr (.inr (some 1000006)), .inr (.inr (some 0)), .inr (.inr (some 239)), .inr (.inr (some 269)), .inl (((q + 6 : Nat) : Int)), m5, m6] [] [] n' I' L' P' ∧ RR n' P' I' ∧ n ≤ n' ∧ n' ≤ n + 1 ∧ (∀ b, 270 ≤ b → I' b = I b)
theorem tn1 (q : Nat) : ((q : Int) + 1).toNat = q + 1 := by omega
theorem tn2 (q : Nat) : ((q : Int) + 2).toNat = q + 2 := by omega
theorem tn3 (q : Nat) : ((q : Int) + 3).toNat = q + 3 := by omega
theorem tn4 (q : Nat) : ((q : Int) + 4).toNat = q + 4 := by omega
theorem tn5 (q : Nat) : ((q : Int) + 5).toNat = q + 5 := by omega
section LW
variable {d q Ln n : Nat} {I L : mm_I} {P : mm_P} {l5 l6 : mm_V}
set_option maxHeartbeats 4000000 in
theorem LW_0 (hd : 60 ≤ d) (hR : RR n P I) (hlen : I 1000006 5000 = (Ln : Int)) (hq : q + 6 ≤ Ln) (hLn : Ln ≤ 3072) (hc : mm_and (I 1000006 q) 63 = 0) : LStp d q n I L P l5 l6 := by
  have hn := RR_n hR
  have ok0 : mm_ok n 0 11 := ⟨by omega, by decide +kernel⟩
  have ok9 : mm_ok n 239 12 := ⟨by omega, by decide +kernel⟩
  have e6 : (q : Int) + 6 = ((q + 6 : Nat) : Int) := by omega
  have c0 : ¬ (Ln : Int) - 6 < (q : Int) := by omega
  obtain ⟨z, I1, I2, L2, P1, e1, e2, hR2, hf⟩ := J_feed (I 1000006 (q + 1)) (I 1000006 (q + 2)) (I 1000006 (q + 3)) (I 1000006 (q + 4)) (I 1000006 (q + 5)) d n P I L hd hR
  have g1 : I1 1000006 = I 1000006 := (hf 1000006 (by decide)).1
  have hlen1 : I1 1000006 5000 = (Ln : Int) := by rw [g1]; exact hlen
  refine ⟨n, I2, L2, P1, l5, l6, ?_, hR2, Nat.le_refl n, Nat.le_succ n, fun b hb => (hf b hb).2⟩
  rw [hL_law_23]
  simp (disch := first | assumption | omega) only [kL_law_s, kL_law_0, kL_law_e, hlen, hc, nb_add, nb_sub, Int.toNat_natCast, tn1, tn2, tn3, tn4, tn5, g1, e1, e2, mm_kr_s, ↓reduceIte, Int.reduceEq, eq_self, c0, e6]
set_option maxHeartbeats 4000000 in
theorem LW_1 (hd : 60 ≤ d) (hR : RR n P I) (hlen : I 1000006 5000 = (Ln : Int)) (hq : q + 6 ≤ Ln) (hLn : Ln ≤ 3072) (hc : mm_and (I 1000006 q) 63 = 1) : LStp d q n I L P l5 l6 := by
  have hn := RR_n hR
  have ok0 : mm_ok n 0 11 := ⟨by omega, by decide +kernel⟩
  have ok9 : mm_ok n 239 12 := ⟨by omega, by decide +kernel⟩
  have e6 : (q : Int) + 6 = ((q + 6 : Nat) : Int) := by omega
  have c0 : ¬ (Ln : Int) - 6 < (q : Int) := by omega
  obtain ⟨z, I1, I2, L2, P1, e1, e2, hR2, hf⟩ := J_end (I 1000006 (q + 1)) d n P I L hd hR
  have g1 : I1 1000006 = I 1000006 := (hf 1000006 (by decide)).1
  have hlen1 : I1 1000006 5000 = (Ln : Int) := by rw [g1]; exact hlen
  refine ⟨n, I2, L2, P1, l5, l6, ?_, hR2, Nat.le_refl n, Nat.le_succ n, fun b hb => (hf b hb).2⟩
  rw [hL_law_23]
  simp (disch := first | assumption | omega) only [kL_law_s, kL_law_1, kL_law_e, hlen, hc, nb_add, nb_sub, Int.toNat_natCast, tn1, tn2, tn3, tn4, tn5, g1, e1, e2, mm_kr_s, ↓reduceIte, Int.reduceEq, eq_self, c0, e6]
set_option maxHeartbeats 4000000 in
theorem LW_2 (hd : 60 ≤ d) (hR : RR n P I) (hlen : I 1000006 5000 = (Ln : Int)) (hq : q + 6 ≤ Ln) (hLn : Ln ≤ 3072) (hc : mm_and (I 1000006 q) 63 = 2) : LStp d q n I L P l5 l6 := by
  have hn := RR_n hR
  have ok0 : mm_ok n 0 11 := ⟨by omega, by decide +kernel⟩
  have ok9 : mm_ok n 239 12 := ⟨by omega, by decide +kernel⟩
  have e6 : (q : Int) + 6 = ((q + 6 : Nat) : Int) := by omega
  have c0 : ¬ (Ln : Int) - 6 < (q : Int) := by omega
  obtain ⟨z, I1, I2, L2, P1, e1, e2, hR2, hf⟩ := J_fault (I 1000006 (q + 1)) d n P I L hd hR
  have g1 : I1 1000006 = I 1000006 := (hf 1000006 (by decide)).1
  have hlen1 : I1 1000006 5000 = (Ln : Int) := by rw [g1]; exact hlen
  refine ⟨n, I2, L2, P1, l5, l6, ?_, hR2, Nat.le_refl n, Nat.le_succ n, fun b hb => (hf b hb).2⟩
  rw [hL_law_23]
  simp (disch := first | assumption | omega) only [kL_law_s, kL_law_2, kL_law_e, hlen, hc, nb_add, nb_sub, Int.toNat_natCast, tn1, tn2, tn3, tn4, tn5, g1, e1, e2, mm_kr_s, ↓reduceIte, Int.reduceEq, eq_self, c0, e6]
set_option maxHeartbeats 4000000 in
theorem LW_3 (hd : 60 ≤ d) (hR : RR n P I) (hlen : I 1000006 5000 = (Ln : Int)) (hq : q + 6 ≤ Ln) (hLn : Ln ≤ 3072) (hc : mm_and (I 1000006 q) 63 = 3) : LStp d q n I L P l5 l6 := by
  have hn := RR_n hR
  have ok0 : mm_ok n 0 11 := ⟨by omega, by decide +kernel⟩
  have ok9 : mm_ok n 239 12 := ⟨by omega, by decide +kernel⟩
  have e6 : (q : Int) + 6 = ((q + 6 : Nat) : Int) := by omega
  have c0 : ¬ (Ln : Int) - 6 < (q : Int) := by omega
  obtain ⟨z, I1, I2, L2, P1, e1, e2, hR2, hf⟩ := J_text (I 1000006 (q + 1)) d n P I L hd hR
  have g1 : I1 1000006 = I 1000006 := (hf 1000006 (by decide)).1
  have hlen1 : I1 1000006 5000 = (Ln : Int) := by rw [g1]; exact hlen
  refine ⟨n, I2, L2, P1, l5, l6, ?_, hR2, Nat.le_refl n, Nat.le_succ n, fun b hb => (hf b hb).2⟩
  rw [hL_law_23]
  simp (disch := first | assumption | omega) only [kL_law_s, kL_law_3, kL_law_e, hlen, hc, nb_add, nb_sub, Int.toNat_natCast, tn1, tn2, tn3, tn4, tn5, g1, e1, e2, mm_kr_s, ↓reduceIte, Int.reduceEq, eq_self, c0, e6]
set_option maxHeartbeats 4000000 in
theorem LW_4 (hd : 60 ≤ d) (hR : RR n P I) (hlen : I 1000006 5000 = (Ln : Int)) (hq : q + 6 ≤ Ln) (hLn : Ln ≤ 3072) (hc : mm_and (I 1000006 q) 63 = 4) : LStp d q n I L P l5 l6 := by
  have hn := RR_n hR
  have ok0 : mm_ok n 0 11 := ⟨by omega, by decide +kernel⟩
  have ok9 : mm_ok n 239 12 := ⟨by omega, by decide +kernel⟩
  have e6 : (q : Int) + 6 = ((q + 6 : Nat) : Int) := by omega
  have c0 : ¬ (Ln : Int) - 6 < (q : Int) := by omega
  obtain ⟨z, I1, I2, L2, P1, e1, e2, hR2, hf⟩ := J_rule (I 1000006 (q + 1)) d n P I L hd hR
  have g1 : I1 1000006 = I 1000006 := (hf 1000006 (by decide)).1
  have hlen1 : I1 1000006 5000 = (Ln : Int) := by rw [g1]; exact hlen
  refine ⟨n, I2, L2, P1, l5, l6, ?_, hR2, Nat.le_refl n, Nat.le_succ n, fun b hb => (hf b hb).2⟩
  rw [hL_law_23]
  simp (disch := first | assumption | omega) only [kL_law_s, kL_law_4, kL_law_e, hlen, hc, nb_add, nb_sub, Int.toNat_natCast, tn1, tn2, tn3, tn4, tn5, g1, e1, e2, mm_kr_s, ↓reduceIte, Int.reduceEq, eq_self, c0, e6]
set_option maxHeartbeats 4000000 in
theorem LW_5 (hd : 60 ≤ d) (hR : RR n P I) (hlen : I 1000006 5000 = (Ln : Int)) (hq : q + 6 ≤ Ln) (hLn : Ln ≤ 3072) (hc : mm_and (I 1000006 q) 63 = 5) : LStp d q n I L P l5 l6 := by
  have hn := RR_n hR
  have ok0 : mm_ok n 0 11 := ⟨by omega, by decide +kernel⟩
  have ok9 : mm_ok n 239 12 := ⟨by omega, by decide +kernel⟩
  have e6 : (q : Int) + 6 = ((q + 6 : Nat) : Int) := by omega
  have c0 : ¬ (Ln : Int) - 6 < (q : Int) := by omega
  obtain ⟨k, b, n', I2, L1, hk, hn1, hn2, e1, e2, e3, hb, hR2, hf⟩ := J_spot (I 1000006 (q + 1)) (I 1000006 (q + 2)) d n P I L hd hR
  have ok9' : mm_ok n' 239 12 := ⟨by omega, by decide +kernel⟩
  have ix : mm_ix n' 269 22 0 := nb_ix (by omega) (show mm_ty 269 = (22, 1) by decide +kernel) (by omega) (by decide)
  have g1 : I2 1000006 = I 1000006 := hf 1000006 (by decide)
  refine ⟨n', I2, L1, P, .inl k, .inl b, ?_, hR2, hn1, hn2, hf⟩
  rcases hk with hk | hk
  · subst hk
    have hb2 := hb rfl
    have q1 : ¬ b < b := by omega
    rw [hL_law_23]
    simp (disch := first | assumption | omega) only [kL_law_s, kL_law_5, kL_law_e, hlen, hc, nb_add, nb_sub, Int.toNat_natCast, Int.toNat_zero, tn1, tn2, e1, e2, e3, zq_kr, mm_kr_s, hb2, ↓reduceIte, Int.reduceEq, eq_self, Int.lt_irrefl, c0, e6]
  · subst hk
    rw [hL_law_23]
    simp (disch := first | assumption | omega) only [kL_law_s, kL_law_5, kL_law_e, hlen, hc, nb_add, nb_sub, Int.toNat_natCast, tn1, tn2, e1, e2, e3, zq_kr, mm_kr_s, ↓reduceIte, Int.reduceEq, eq_self, c0, e6]
set_option maxHeartbeats 4000000 in
theorem LW_6 (hd : 60 ≤ d) (hR : RR n P I) (hlen : I 1000006 5000 = (Ln : Int)) (hq : q + 6 ≤ Ln) (hLn : Ln ≤ 3072) (hc : mm_and (I 1000006 q) 63 = 6) : LStp d q n I L P l5 l6 := by
  have hn := RR_n hR
  have ok0 : mm_ok n 0 11 := ⟨by omega, by decide +kernel⟩
  have ok9 : mm_ok n 239 12 := ⟨by omega, by decide +kernel⟩
  have e6 : (q : Int) + 6 = ((q + 6 : Nat) : Int) := by omega
  have c0 : ¬ (Ln : Int) - 6 < (q : Int) := by omega
  obtain ⟨z, I1, I2, L2, P1, e1, e2, hR2, hf⟩ := J_steps (I 1000006 (q + 1)) (I 1000006 (q + 2)) d n P I L hd hR
  have g1 : I1 1000006 = I 1000006 := (hf 1000006 (by decide)).1
  have hlen1 : I1 1000006 5000 = (Ln : Int) := by rw [g1]; exact hlen
  refine ⟨n, I2, L2, P1, l5, l6, ?_, hR2, Nat.le_refl n, Nat.le_succ n, fun b hb => (hf b hb).2⟩
  rw [hL_law_23]
  simp (disch := first | assumption | omega) only [kL_law_s, kL_law_6, kL_law_e, hlen, hc, nb_add, nb_sub, Int.toNat_natCast, tn1, tn2, tn3, tn4, tn5, g1, e1, e2, mm_kr_s, ↓reduceIte, Int.reduceEq, eq_self, c0, e6]
set_option maxHeartbeats 4000000 in
theorem LW_7 (hd : 60 ≤ d) (hR : RR n P I) (hlen : I 1000006 5000 = (Ln : Int)) (hq : q + 6 ≤ Ln) (hLn : Ln ≤ 3072) (hc : mm_and (I 1000006 q) 63 = 7) : LStp d q n I L P l5 l6 := by
  have hn := RR_n hR
  have ok0 : mm_ok n 0 11 := ⟨by omega, by decide +kernel⟩
  have ok9 : mm_ok n 239 12 := ⟨by omega, by decide +kernel⟩
  have e6 : (q : Int) + 6 = ((q + 6 : Nat) : Int) := by omega
  have c0 : ¬ (Ln : Int) - 6 < (q : Int) := by omega
  obtain ⟨z, I1, I2, L2, P1, e1, e2, hR2, hf⟩ := J_law (I 1000006 (q + 1)) d n P I L hd hR
  have g1 : I1 1000006 = I 1000006 := (hf 1000006 (by decide)).1
  have hlen1 : I1 1000006 5000 = (Ln : Int) := by rw [g1]; exact hlen
  refine ⟨n, I2, L2, P1, l5, l6, ?_, hR2, Nat.le_refl n, Nat.le_succ n, fun b hb => (hf b hb).2⟩
  rw [hL_law_23]
  simp (disch := first | assumption | omega) only [kL_law_s, kL_law_7, kL_law_e, hlen, hc, nb_add, nb_sub, Int.toNat_natCast, tn1, tn2, tn3, tn4, tn5, g1, e1, e2, mm_kr_s, ↓reduceIte, Int.reduceEq, eq_self, c0, e6]
set_option maxHeartbeats 4000000 in
theorem LW_8 (hd : 60 ≤ d) (hR : RR n P I) (hlen : I 1000006 5000 = (Ln : Int)) (hq : q + 6 ≤ Ln) (hLn : Ln ≤ 3072) (hc : mm_and (I 1000006 q) 63 = 8) : LStp d q n I L P l5 l6 := by
  have hn := RR_n hR
  have ok0 : mm_ok n 0 11 := ⟨by omega, by decide +kernel⟩
  have ok9 : mm_ok n 239 12 := ⟨by omega, by decide +kernel⟩
  have e6 : (q : Int) + 6 = ((q + 6 : Nat) : Int) := by omega
  have c0 : ¬ (Ln : Int) - 6 < (q : Int) := by omega
  obtain ⟨z, I1, I2, L2, P1, e1, e2, hR2, hf⟩ := J_danger (I 1000006 (q + 1)) d n P I L hd hR
  have g1 : I1 1000006 = I 1000006 := (hf 1000006 (by decide)).1
  have hlen1 : I1 1000006 5000 = (Ln : Int) := by rw [g1]; exact hlen
  refine ⟨n, I2, L2, P1, l5, l6, ?_, hR2, Nat.le_refl n, Nat.le_succ n, fun b hb => (hf b hb).2⟩
  rw [hL_law_23]
  simp (disch := first | assumption | omega) only [kL_law_s, kL_law_8, kL_law_e, hlen, hc, nb_add, nb_sub, Int.toNat_natCast, tn1, tn2, tn3, tn4, tn5, g1, e1, e2, mm_kr_s, ↓reduceIte, Int.reduceEq, eq_self, c0, e6]
set_option maxHeartbeats 4000000 in
theorem LW_9 (hd : 60 ≤ d) (hR : RR n P I) (hlen : I 1000006 5000 = (Ln : Int)) (hq : q + 6 ≤ Ln) (hLn : Ln ≤ 3072) (hc : mm_and (I 1000006 q) 63 = 9) : LStp d q n I L P l5 l6 := by
  have hn := RR_n hR
  have ok0 : mm_ok n 0 11 := ⟨by omega, by decide +kernel⟩
  have ok9 : mm_ok n 239 12 := ⟨by omega, by decide +kernel⟩
  have e6 : (q : Int) + 6 = ((q + 6 : Nat) : Int) := by omega
  have c0 : ¬ (Ln : Int) - 6 < (q : Int) := by omega
  obtain ⟨z, I1, I2, L2, P1, e1, e2, hR2, hf⟩ := J_hours (I 1000006 (q + 1)) d n P I L hd hR
  have g1 : I1 1000006 = I 1000006 := (hf 1000006 (by decide)).1
  have hlen1 : I1 1000006 5000 = (Ln : Int) := by rw [g1]; exact hlen
  refine ⟨n, I2, L2, P1, l5, l6, ?_, hR2, Nat.le_refl n, Nat.le_succ n, fun b hb => (hf b hb).2⟩
  rw [hL_law_23]
  simp (disch := first | assumption | omega) only [kL_law_s, kL_law_9, kL_law_e, hlen, hc, nb_add, nb_sub, Int.toNat_natCast, tn1, tn2, tn3, tn4, tn5, g1, e1, e2, mm_kr_s, ↓reduceIte, Int.reduceEq, eq_self, c0, e6]
set_option maxHeartbeats 4000000 in
theorem LW_10 (hd : 60 ≤ d) (hR : RR n P I) (hlen : I 1000006 5000 = (Ln : Int)) (hq : q + 6 ≤ Ln) (hLn : Ln ≤ 3072) (hc : mm_and (I 1000006 q) 63 = 10) : LStp d q n I L P l5 l6 := by
  have hn := RR_n hR
  have ok0 : mm_ok n 0 11 := ⟨by omega, by decide +kernel⟩
  have ok9 : mm_ok n 239 12 := ⟨by omega, by decide +kernel⟩
  have e6 : (q : Int) + 6 = ((q + 6 : Nat) : Int) := by omega
  have c0 : ¬ (Ln : Int) - 6 < (q : Int) := by omega
  obtain ⟨z, I1, I2, L2, P1, e1, e2, hR2, hf⟩ := J_walk (I 1000006 (q + 1)) d n P I L hd hR
  have g1 : I1 1000006 = I 1000006 := (hf 1000006 (by decide)).1
  have hlen1 : I1 1000006 5000 = (Ln : Int) := by rw [g1]; exact hlen
  refine ⟨n, I2, L2, P1, l5, l6, ?_, hR2, Nat.le_refl n, Nat.le_succ n, fun b hb => (hf b hb).2⟩
  rw [hL_law_23]
  simp (disch := first | assumption | omega) only [kL_law_s, kL_law_10, kL_law_e, hlen, hc, nb_add, nb_sub, Int.toNat_natCast, tn1, tn2, tn3, tn4, tn5, g1, e1, e2, mm_kr_s, ↓reduceIte, Int.reduceEq, eq_self, c0, e6]
set_option maxHeartbeats 4000000 in
theorem LW_11 (hd : 60 ≤ d) (hR : RR n P I) (hlen : I 1000006 5000 = (Ln : Int)) (hq : q + 6 ≤ Ln) (hLn : Ln ≤ 3072) (hc : mm_and (I 1000006 q) 63 = 11) : LStp d q n I L P l5 l6 := by
  have hn := RR_n hR
  have ok0 : mm_ok n 0 11 := ⟨by omega, by decide +kernel⟩
  have ok9 : mm_ok n 239 12 := ⟨by omega, by decide +kernel⟩
  have e6 : (q : Int) + 6 = ((q + 6 : Nat) : Int) := by omega
  have c0 : ¬ (Ln : Int) - 6 < (q : Int) := by omega
  obtain ⟨z, I1, I2, L2, P1, e1, e2, hR2, hf⟩ := J_cry d n P I L hd hR
  have g1 : I1 1000006 = I 1000006 := (hf 1000006 (by decide)).1
  have hlen1 : I1 1000006 5000 = (Ln : Int) := by rw [g1]; exact hlen
  refine ⟨n, I2, L2, P1, l5, l6, ?_, hR2, Nat.le_refl n, Nat.le_succ n, fun b hb => (hf b hb).2⟩
  rw [hL_law_23]
  simp (disch := first | assumption | omega) only [kL_law_s, kL_law_11, kL_law_e, hlen, hc, nb_add, nb_sub, Int.toNat_natCast, tn1, tn2, tn3, tn4, tn5, g1, e1, e2, mm_kr_s, ↓reduceIte, Int.reduceEq, eq_self, c0, e6]
set_option maxHeartbeats 4000000 in
theorem LW_12 (hd : 60 ≤ d) (hR : RR n P I) (hlen : I 1000006 5000 = (Ln : Int)) (hq : q + 6 ≤ Ln) (hLn : Ln ≤ 3072) (hc : mm_and (I 1000006 q) 63 = 12) : LStp d q n I L P l5 l6 := by
  have hn := RR_n hR
  have ok0 : mm_ok n 0 11 := ⟨by omega, by decide +kernel⟩
  have ok9 : mm_ok n 239 12 := ⟨by omega, by decide +kernel⟩
  have e6 : (q : Int) + 6 = ((q + 6 : Nat) : Int) := by omega
  have c0 : ¬ (Ln : Int) - 6 < (q : Int) := by omega
  obtain ⟨z, I1, I2, L2, P1, e1, e2, hR2, hf⟩ := J_whi d n P I L hd hR
  have g1 : I1 1000006 = I 1000006 := (hf 1000006 (by decide)).1
  have hlen1 : I1 1000006 5000 = (Ln : Int) := by rw [g1]; exact hlen
  refine ⟨n, I2, L2, P1, l5, l6, ?_, hR2, Nat.le_refl n, Nat.le_succ n, fun b hb => (hf b hb).2⟩
  rw [hL_law_23]
  simp (disch := first | assumption | omega) only [kL_law_s, kL_law_12, kL_law_e, hlen, hc, nb_add, nb_sub, Int.toNat_natCast, tn1, tn2, tn3, tn4, tn5, g1, e1, e2, mm_kr_s, ↓reduceIte, Int.reduceEq, eq_self, c0, e6]
end LW
