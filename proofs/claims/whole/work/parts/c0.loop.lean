/-! the law's loop: every script comes to its end with true -/
section LL
variable {d q Ln n : Nat} {I L : mm_I} {P : mm_P} {l5 l6 : mm_V}
theorem LW_step (hd : 60 ≤ d) (hR : RR n P I) (hlen : I 1000006 5000 = (Ln : Int)) (hq : q + 6 ≤ Ln) (hLn : Ln ≤ 3072) : LStp d q n I L P l5 l6 := by
  by_cases h0 : mm_and (I 1000006 q) 63 = 0
  · exact LW_0 hd hR hlen hq hLn h0
  by_cases h1 : mm_and (I 1000006 q) 63 = 1
  · exact LW_1 hd hR hlen hq hLn h1
  by_cases h2 : mm_and (I 1000006 q) 63 = 2
  · exact LW_2 hd hR hlen hq hLn h2
  by_cases h3 : mm_and (I 1000006 q) 63 = 3
  · exact LW_3 hd hR hlen hq hLn h3
  by_cases h4 : mm_and (I 1000006 q) 63 = 4
  · exact LW_4 hd hR hlen hq hLn h4
  by_cases h5 : mm_and (I 1000006 q) 63 = 5
  · exact LW_5 hd hR hlen hq hLn h5
  by_cases h6 : mm_and (I 1000006 q) 63 = 6
  · exact LW_6 hd hR hlen hq hLn h6
  by_cases h7 : mm_and (I 1000006 q) 63 = 7
  · exact LW_7 hd hR hlen hq hLn h7
  by_cases h8 : mm_and (I 1000006 q) 63 = 8
  · exact LW_8 hd hR hlen hq hLn h8
  by_cases h9 : mm_and (I 1000006 q) 63 = 9
  · exact LW_9 hd hR hlen hq hLn h9
  by_cases h10 : mm_and (I 1000006 q) 63 = 10
  · exact LW_10 hd hR hlen hq hLn h10
  by_cases h11 : mm_and (I 1000006 q) 63 = 11
  · exact LW_11 hd hR hlen hq hLn h11
  by_cases h12 : mm_and (I 1000006 q) 63 = 12
  · exact LW_12 hd hR hlen hq hLn h12
  by_cases h13 : mm_and (I 1000006 q) 63 = 13
  · exact LW_13 hd hR hlen hq hLn h13
  by_cases h14 : mm_and (I 1000006 q) 63 = 14
  · exact LW_14 hd hR hlen hq hLn h14
  by_cases h15 : mm_and (I 1000006 q) 63 = 15
  · exact LW_15 hd hR hlen hq hLn h15
  by_cases h16 : mm_and (I 1000006 q) 63 = 16
  · exact LW_16 hd hR hlen hq hLn h16
  by_cases h17 : mm_and (I 1000006 q) 63 = 17
  · exact LW_17 hd hR hlen hq hLn h17
  by_cases h18 : mm_and (I 1000006 q) 63 = 18
  · exact LW_18 hd hR hlen hq hLn h18
  by_cases h19 : mm_and (I 1000006 q) 63 = 19
  · exact LW_19 hd hR hlen hq hLn h19
  by_cases h20 : mm_and (I 1000006 q) 63 = 20
  · exact LW_20 hd hR hlen hq hLn h20
  by_cases h21 : mm_and (I 1000006 q) 63 = 21
  · exact LW_21 hd hR hlen hq hLn h21
  by_cases h22 : mm_and (I 1000006 q) 63 = 22
  · exact LW_22 hd hR hlen hq hLn h22
  by_cases h23 : mm_and (I 1000006 q) 63 = 23
  · exact LW_23 hd hR hlen hq hLn h23
  by_cases h24 : mm_and (I 1000006 q) 63 = 24
  · exact LW_24 hd hR hlen hq hLn h24
  by_cases h25 : mm_and (I 1000006 q) 63 = 25
  · exact LW_25 hd hR hlen hq hLn h25
  by_cases h26 : mm_and (I 1000006 q) 63 = 26
  · exact LW_26 hd hR hlen hq hLn h26
  by_cases h27 : mm_and (I 1000006 q) 63 = 27
  · exact LW_27 hd hR hlen hq hLn h27
  by_cases h28 : mm_and (I 1000006 q) 63 = 28
  · exact LW_28 hd hR hlen hq hLn h28
  by_cases h29 : mm_and (I 1000006 q) 63 = 29
  · exact LW_29 hd hR hlen hq hLn h29
  by_cases h30 : mm_and (I 1000006 q) 63 = 30
  · exact LW_30 hd hR hlen hq hLn h30
  by_cases h31 : mm_and (I 1000006 q) 63 = 31
  · exact LW_31 hd hR hlen hq hLn h31
  by_cases h32 : mm_and (I 1000006 q) 63 = 32
  · exact LW_32 hd hR hlen hq hLn h32
  by_cases h33 : mm_and (I 1000006 q) 63 = 33
  · exact LW_33 hd hR hlen hq hLn h33
  by_cases h34 : mm_and (I 1000006 q) 63 = 34
  · exact LW_34 hd hR hlen hq hLn h34
  by_cases h35 : mm_and (I 1000006 q) 63 = 35
  · exact LW_35 hd hR hlen hq hLn h35
  by_cases h36 : mm_and (I 1000006 q) 63 = 36
  · exact LW_36 hd hR hlen hq hLn h36
  by_cases h37 : mm_and (I 1000006 q) 63 = 37
  · exact LW_37 hd hR hlen hq hLn h37
  by_cases h38 : mm_and (I 1000006 q) 63 = 38
  · exact LW_38 hd hR hlen hq hLn h38
  exact LW_d hd hR hlen hq hLn h0 h1 h2 h3 h4 h5 h6 h7 h8 h9 h10 h11 h12 h13 h14 h15 h16 h17 h18 h19 h20 h21 h22 h23 h24 h25 h26 h27 h28 h29 h30 h31 h32 h33 h34 h35 h36 h37 h38
theorem LW_run (hd : 60 ≤ d) (hLn : Ln ≤ 3072) : ∀ (m q n : Nat) (I L : mm_I) (P : mm_P) (l5 l6 : mm_V), Ln - q < m → q ≤ Ln → RR n P I → I 1000006 5000 = (Ln : Int) → ∃ (n' : Nat) (I' L' : mm_I) (P' : mm_P), mm_E d 282 23 [.inr (.inr (some 1000006)), .inr (.inr (some 0)), .inr (.inr (some 239)), .inr (.inr (some 269)), .inl ((q : Int)), l5, l6] [] [] n I L P = some (some (.inl 1), n', I', L', P') ∧ n' ≤ n + (Ln - q) := by
  intro m
  induction m with
  | zero => intro q n I L P l5 l6 h; omega
  | succ m ih =>
    intro q n I L P l5 l6 hm hqL hR hlen
    by_cases hq : q + 6 ≤ Ln
    · obtain ⟨n1, I1, L1, P1, m5, m6, e, hR1, h1, h2, hf⟩ := LW_step (l5 := l5) (l6 := l6) (L := L) hd hR hlen hq hLn
      obtain ⟨n2, I2, L2, P2, e2, h3⟩ := ih (q + 6) n1 I1 L1 P1 m5 m6 (by omega) (by omega) hR1 (by rw [hf 1000006 (by decide)]; exact hlen)
      exact ⟨n2, I2, L2, P2, by rw [e, e2], by omega⟩
    · have c0 : (Ln : Int) - 6 < (q : Int) := by omega
      refine ⟨n, I, L, P, ?_, by omega⟩
      rw [hL_law_23]
      simp (disch := first | assumption | omega) only [kL_law_s, kL_law_e, hlen, nb_add, nb_sub, c0, ↓reduceIte]
end LL
theorem st_I_0 (L : Nat) (xs : Nat → Int32) : ∀ b j, b < 1000000 → st_I L xs b j = 0 := by
  intro b j hb
  unfold st_I st_row
  rw [if_neg (by omega), if_neg (by omega), if_neg (by omega), if_neg (by omega), if_neg (by omega)]
  rfl
theorem st_I_S (L : Nat) (xs : Nat → Int32) : zS (st_I L xs) := ⟨fun j => rfl, fun j => rfl, fun j => rfl, fun j => rfl⟩
theorem st_I_L (L : Nat) (xs : Nat → Int32) : zI1 (st_I L xs) 1000006 5000 = (L : Int) := by
  unfold zI1
  rw [nb_ui_a (by decide), nb_ui_a (by decide), nb_ui_a (by decide), nb_ui_a (by decide), nb_ui_a (by decide), nb_ui_a (by decide)]
  unfold st_I
  rw [if_pos rfl, if_pos rfl]
theorem LW_all {L : Nat} (xs : Nat → Int32) (hL : L ≤ 3072) : ∃ (n' : Nat) (I' L' : mm_I) (P' : mm_P), mm_E 64 282 0 [.inr (.inr (some 1000006)), mm_junk, mm_junk, mm_junk, mm_junk, mm_junk, mm_junk] [] [] 0 (st_I L xs) (fun _ _ => 0) (fun _ _ => none) = some (some (.inl 1), n', I', L', P') ∧ n' ≤ 270 + L := by
  obtain ⟨P', e, hR⟩ := z_begin (d := 60) (P := fun _ _ => none) (st_I_0 L xs) (fun _ _ => rfl) (st_I_S L xs)
  obtain ⟨n', I2, L2, P2, e2, h⟩ := LW_run (d := 64) (by decide) hL (L + 1) 0 270 (zI1 (st_I L xs)) zL0 P' mm_junk mm_junk (by omega) (by omega) hR (st_I_L L xs)
  have e3 : mm_E 64 282 0 [.inr (.inr (some 1000006)), mm_junk, mm_junk, mm_junk, mm_junk, mm_junk, mm_junk] [] [] 0 (st_I L xs) (fun _ _ => 0) (fun _ _ => none) = _ := e
  exact ⟨n', I2, L2, P2, by rw [e3]; exact e2, by omega⟩
