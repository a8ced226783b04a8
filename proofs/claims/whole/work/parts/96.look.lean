/-! texts: blanks, the next sign, numbers -/
/-- j is the next place behind i that is no blank -/
def zk (T : Nat → Int) (S i j : Nat) : Prop := i ≤ j ∧ j ≤ S ∧ (∀ k, i ≤ k → k < j → T k = 32) ∧ (j < S → T j ≠ 32)
theorem zk_ex {T : Nat → Int} {S : Nat} : ∀ (m i : Nat), S - i = m → i ≤ S → ∃ j, zk T S i j := by
  intro m
  induction m with
  | zero => intro i hm hi; exact ⟨i, Nat.le_refl _, hi, fun k h1 h2 => by omega, fun h => by omega⟩
  | succ m ih =>
    intro i hm hi
    by_cases h : T i = 32
    · obtain ⟨j, h1, h2, h3, h4⟩ := ih (i + 1) (by omega) (by omega)
      refine ⟨j, by omega, h2, fun k hk hk2 => ?_, h4⟩
      by_cases hki : k = i
      · rw [hki]; exact h
      · exact h3 k (by omega) hk2
    · exact ⟨i, Nat.le_refl _, hi, fun k h1 h2 => by omega, fun _ => h⟩
theorem zk_self {T : Nat → Int} {S i j : Nat} (h : zk T S i j) : zk T S j j := ⟨Nat.le_refl _, h.2.1, fun k h1 h2 => by omega, h.2.2.2⟩
theorem zk_one {T : Nat → Int} {S i j j' : Nat} (h : zk T S i j) (h' : zk T S i j') : j = j' := by
  obtain ⟨a1, a2, a3, a4⟩ := h
  obtain ⟨b1, b2, b3, b4⟩ := h'
  rcases Nat.lt_trichotomy j j' with q | q | q
  · exact absurd (b3 j a1 q) (a4 (by omega))
  · exact q
  · exact absurd (a3 j' b1 q) (b4 (by omega))
/-- the sign at a place, -1 behind the last -/
def zp (T : Nat → Int) (S j : Nat) : Int := if j < S then T j else -1
def zc (n : Nat) (P : mm_P) (I : mm_I) (T : Nat → Int) (S : Nat) : Prop := 270 ≤ n ∧ P 1 0 = some 2 ∧ I 1 1 = (S : Int) ∧ S ≤ 240 ∧ (∀ i, i < S → I 2 i = T i) ∧ (∀ i, i < S → 1 ≤ T i ∧ T i ≤ 255)
def zm (n : Nat) (P : mm_P) (I : mm_I) (T : Nat → Int) (S : Nat) : Prop := sp_M n P ∧ I 239 2 = (S : Int) ∧ S ≤ 240 ∧ (∀ i, i < S → I 240 i = T i) ∧ (∀ i, i < S → 1 ≤ T i ∧ T i ≤ 255)
theorem zc.up {n : Nat} {P : mm_P} {I : mm_I} {T : Nat → Int} {S a k : Nat} {z : Int} (h : zc n P I T S) (h1 : a ≠ 2) (h2 : ¬ (a = 1 ∧ k = 1)) : zc n P (mm_ui I a k z) T S := by
  obtain ⟨a1, a2, a3, a4, a5, a6⟩ := h
  refine ⟨a1, a2, ?_, a4, fun i hi => by rw [nb_ui_a (by omega)]; exact a5 i hi, a6⟩
  by_cases e : a = 1
  · subst e
    rw [nb_ui_k (by omega)]; exact a3
  · rw [nb_ui_a (by omega)]; exact a3
theorem zm.up {n : Nat} {P : mm_P} {I : mm_I} {T : Nat → Int} {S a k : Nat} {z : Int} (h : zm n P I T S) (h1 : a ≠ 240) (h2 : ¬ (a = 239 ∧ k = 2)) : zm n P (mm_ui I a k z) T S := by
  obtain ⟨a1, a3, a4, a5, a6⟩ := h
  refine ⟨a1, ?_, a4, fun i hi => by rw [nb_ui_a (by omega)]; exact a5 i hi, a6⟩
  by_cases e : a = 239
  · subst e
    rw [nb_ui_k (by omega)]; exact a3
  · rw [nb_ui_a (by omega)]; exact a3
theorem nb_ui_id {I : mm_I} {a k : Nat} {z : Int} (h : I a k = z) : mm_ui I a k z = I := by
  funext b j
  unfold mm_ui
  by_cases e : b = a ∧ j = k
  · obtain ⟨e1, e2⟩ := e
    subst e1; subst e2
    simp [h]
  · by_cases e1 : b = a
    · have : ¬ j = k := fun q => e ⟨e1, q⟩
      simp [this]
    · simp [e1]
theorem nb_ui_2 {I : mm_I} {a k : Nat} {z w : Int} : mm_ui (mm_ui I a k z) a k w = mm_ui I a k w := by
  funext b j
  unfold mm_ui
  by_cases e1 : b = a
  · by_cases e2 : j = k
    · simp [e1, e2]
    · simp [e2]
  · simp [e1]
section LK
variable {n d S i j : Nat} {I L : mm_I} {P : mm_P} {T : Nat → Int}
theorem zc_peek (h : zc n P I T S) (hk : zk T S i j) (hi : I 1 2 = (i : Int)) : mm_rn (d + 1) 59 [.inr (.inr (some 1))] n I L P = some (some (.inl (zp T S j)), n, mm_ui I 1 2 (j : Int), L, P) := by
  obtain ⟨hn, p0, hS, hS2, hT, hR⟩ := h
  obtain ⟨k1, k2, k3, k4⟩ := hk
  rw [eX8_peek]
  simp (disch := (first | assumption | omega | exact nb_ix (by omega) (by assumption) (by omega) (by omega) | exact nb_ix (by omega) rfl (by omega) (by omega) | exact nb_ok (by omega) rfl | decide)) only [kX8_peek, hi, ↓if_pos, ↓if_neg, nb_add, nb_sub, nb_mul, Int.toNat_natCast, mm_kr_s, mm_kv_s, if_pos, if_neg, sq_tn, Int.toNat_zero, Int.reduceToNat, Int.reduceNeg, Nat.reduceAdd, Int.reduceAdd, Int.reduceEq, Int.reduceLT, Int.reduceLE, Int.zero_add, nb_ui_s, nb_ui_k, nb_ui_a, sp_min, sp_max, sp_bits]
  have key := nb_loop (fun k => mm_E d 59 5 [.inr (.inr (some 1)), .inl (((i + k : Nat) : Int))] [] [] n I L P) (j - i) (fun k hk => by
    show mm_E d 59 5 [.inr (.inr (some 1)), .inl (((i + k : Nat) : Int))] [] [] n I L P = mm_E d 59 5 [.inr (.inr (some 1)), .inl (((i + (k + 1) : Nat) : Int))] [] [] n I L P
    rw [hX8_peek_5]
    have h1 : ¬ (S : Int) ≤ ((i + k : Nat) : Int) := by omega
    have h2 : I 2 (i + k) = 32 := by rw [hT (i + k) (by omega)]; exact k3 (i + k) (by omega) (by omega)
    have h3 : ((i + k : Nat) : Int) + 1 = ((i + (k + 1) : Nat) : Int) := by omega
    simp (disch := (first | assumption | omega | exact nb_ix (by omega) (by assumption) (by omega) (by omega) | exact nb_ix (by omega) rfl (by omega) (by omega) | exact nb_ok (by omega) rfl | decide)) only [kX8_peek, hS, p0, h2, h3, ↓if_pos, ↓if_neg, nb_add, nb_sub, nb_mul, Int.toNat_natCast, mm_kr_s, mm_kv_s, if_pos, if_neg, sq_tn, Int.toNat_zero, Int.reduceToNat, Int.reduceNeg, Nat.reduceAdd, Int.reduceAdd, Int.reduceEq, Int.reduceLT, Int.reduceLE, Int.zero_add, nb_ui_s, nb_ui_k, nb_ui_a, sp_min, sp_max, sp_bits])
  have e0 : ((i + 0 : Nat) : Int) = (i : Int) := rfl
  have e1 : i + (j - i) = j := by omega
  simp only [e0, e1] at key
  rw [key, hX8_peek_5]
  unfold zp
  by_cases hj : j < S
  · rw [if_pos hj]
    have h1 : ¬ (S : Int) ≤ (j : Int) := by omega
    have h2 : I 2 j = T j := hT j hj
    have h3 : ¬ T j = 32 := k4 hj
    simp (disch := (first | assumption | omega | exact nb_ix (by omega) (by assumption) (by omega) (by omega) | exact nb_ix (by omega) rfl (by omega) (by omega) | exact nb_ok (by omega) rfl | decide)) only [kX8_peek, hS, p0, h2, ↓if_pos, ↓if_neg, nb_add, nb_sub, nb_mul, Int.toNat_natCast, mm_kr_s, mm_kv_s, if_pos, if_neg, sq_tn, Int.toNat_zero, Int.reduceToNat, Int.reduceNeg, Nat.reduceAdd, Int.reduceAdd, Int.reduceEq, Int.reduceLT, Int.reduceLE, Int.zero_add, nb_ui_s, nb_ui_k, nb_ui_a, sp_min, sp_max, sp_bits]
  · rw [if_neg hj]
    have h1 : (S : Int) ≤ (j : Int) := by omega
    have h2 : (S : Int) = (j : Int) := by omega
    simp (disch := (first | assumption | omega | exact nb_ix (by omega) (by assumption) (by omega) (by omega) | exact nb_ix (by omega) rfl (by omega) (by omega) | exact nb_ok (by omega) rfl | decide)) only [kX8_peek, hS, p0, ↓if_pos, ↓if_neg, nb_add, nb_sub, nb_mul, Int.toNat_natCast, mm_kr_s, mm_kv_s, if_pos, if_neg, sq_tn, Int.toNat_zero, Int.reduceToNat, Int.reduceNeg, Nat.reduceAdd, Int.reduceAdd, Int.reduceEq, Int.reduceLT, Int.reduceLE, Int.zero_add, nb_ui_s, nb_ui_k, nb_ui_a, sp_min, sp_max, sp_bits]
    rw [h2]
theorem zc_pass1 {c : Int} (h : zc n P I T S) (hk : zk T S i j) (hi : I 1 2 = (i : Int)) (hc : zp T S j = c) : mm_rn (d + 2) 60 [.inr (.inr (some 1)), .inl c] n I L P = some (some (.inl 1), n, mm_ui I 1 2 ((j + 1 : Nat) : Int), L, P) := by
  have hp := zc_peek (d := d) (L := L) h hk hi
  have hn := h.1
  have hS2 := h.2.2.2.1
  have hj := hk.2.1
  rw [eX8_passes]
  have e1 : (j : Int) + 1 = ((j + 1 : Nat) : Int) := by omega
  simp (disch := (first | assumption | omega | exact nb_ix (by omega) (by assumption) (by omega) (by omega) | exact nb_ix (by omega) rfl (by omega) (by omega) | exact nb_ok (by omega) rfl | decide)) only [kX8_passes, hp, hc, e1, nb_ui_2, ↓if_pos, ↓if_neg, nb_add, nb_sub, nb_mul, Int.toNat_natCast, mm_kr_s, mm_kv_s, if_pos, if_neg, sq_tn, Int.toNat_zero, Int.reduceToNat, Int.reduceNeg, Nat.reduceAdd, Int.reduceAdd, Int.reduceEq, Int.reduceLT, Int.reduceLE, Int.zero_add, nb_ui_s, nb_ui_k, nb_ui_a, sp_min, sp_max, sp_bits]
  done
theorem zc_pass0 {c : Int} (h : zc n P I T S) (hk : zk T S i j) (hi : I 1 2 = (i : Int)) (hc : ¬ zp T S j = c) : mm_rn (d + 2) 60 [.inr (.inr (some 1)), .inl c] n I L P = some (some (.inl 0), n, mm_ui I 1 2 (j : Int), L, P) := by
  have hp := zc_peek (d := d) (L := L) h hk hi
  have hn := h.1
  rw [eX8_passes]
  simp (disch := (first | assumption | omega | exact nb_ix (by omega) (by assumption) (by omega) (by omega) | exact nb_ix (by omega) rfl (by omega) (by omega) | exact nb_ok (by omega) rfl | decide)) only [kX8_passes, hp, ↓if_pos, ↓if_neg, nb_add, nb_sub, nb_mul, Int.toNat_natCast, mm_kr_s, mm_kv_s, if_pos, if_neg, sq_tn, Int.toNat_zero, Int.reduceToNat, Int.reduceNeg, Nat.reduceAdd, Int.reduceAdd, Int.reduceEq, Int.reduceLT, Int.reduceLE, Int.zero_add, nb_ui_s, nb_ui_k, nb_ui_a, sp_min, sp_max, sp_bits]
  done
theorem zm_here (h : zm n P I T S) (hi : I 239 3 = (i : Int)) : mm_rn (d + 1) 152 [.inr (.inr (some 239))] n I L P = some (some (.inl (zp T S i)), n, I, L, P) := by
  have ok := h.1.ok
  obtain ⟨hM, hS, hS2, hT, hR⟩ := h
  have hn := hM.1
  have p0 := hM.2.1
  rw [eX12_here]
  unfold zp
  by_cases hj : i < S
  · rw [if_pos hj]
    have h1 : ¬ (S : Int) ≤ (i : Int) := by omega
    have h2 : I 240 i = T i := hT i hj
    simp (disch := (first | assumption | omega | exact nb_ix (by omega) (by assumption) (by omega) (by omega) | exact nb_ix (by omega) rfl (by omega) (by omega) | exact nb_ok (by omega) rfl | decide)) only [kX12_here, hS, hi, p0, h2, ↓if_pos, ↓if_neg, nb_add, nb_sub, nb_mul, Int.toNat_natCast, mm_kr_s, mm_kv_s, if_pos, if_neg, sq_tn, Int.toNat_zero, Int.reduceToNat, Int.reduceNeg, Nat.reduceAdd, Int.reduceAdd, Int.reduceEq, Int.reduceLT, Int.reduceLE, Int.zero_add, nb_ui_s, nb_ui_k, nb_ui_a, sp_min, sp_max, sp_bits]
  · rw [if_neg hj]
    have h1 : (S : Int) ≤ (i : Int) := by omega
    simp (disch := (first | assumption | omega | exact nb_ix (by omega) (by assumption) (by omega) (by omega) | exact nb_ix (by omega) rfl (by omega) (by omega) | exact nb_ok (by omega) rfl | decide)) only [kX12_here, hS, hi, p0, ↓if_pos, ↓if_neg, nb_add, nb_sub, nb_mul, Int.toNat_natCast, mm_kr_s, mm_kv_s, if_pos, if_neg, sq_tn, Int.toNat_zero, Int.reduceToNat, Int.reduceNeg, Nat.reduceAdd, Int.reduceAdd, Int.reduceEq, Int.reduceLT, Int.reduceLE, Int.zero_add, nb_ui_s, nb_ui_k, nb_ui_a, sp_min, sp_max, sp_bits]
theorem zm_look (h : zm n P I T S) (hk : zk T S i j) (hi : I 239 3 = (i : Int)) : mm_rn (d + 2) 153 [.inr (.inr (some 239))] n I L P = some (some (.inl (zp T S j)), n, mm_ui I 239 3 (j : Int), L, P) := by
  have ok := h.1.ok
  have hS2 := h.2.2.1
  obtain ⟨k1, k2, k3, k4⟩ := hk
  rw [eX12_look]
  have key := nb_loop (fun k => mm_E (d + 1) 153 0 [.inr (.inr (some 239))] [] [] n (mm_ui I 239 3 ((i + k : Nat) : Int)) L P) (j - i) (fun k hk => by
    show mm_E (d + 1) 153 0 [.inr (.inr (some 239))] [] [] n (mm_ui I 239 3 ((i + k : Nat) : Int)) L P = mm_E (d + 1) 153 0 [.inr (.inr (some 239))] [] [] n (mm_ui I 239 3 ((i + (k + 1) : Nat) : Int)) L P
    rw [hX12_look_0]
    have hz : zp T S (i + k) = 32 := by unfold zp; rw [if_pos (by omega)]; exact k3 (i + k) (by omega) (by omega)
    have hh := zm_here (d := d) (L := L) (i := i + k) (h.up (a := 239) (k := 3) (z := ((i + k : Nat) : Int)) (by decide) (by decide)) (by rw [nb_ui_s])
    have h3 : ((i + k : Nat) : Int) + 1 = ((i + (k + 1) : Nat) : Int) := by omega
    simp (disch := (first | assumption | omega | exact nb_ix (by omega) (by assumption) (by omega) (by omega) | exact nb_ix (by omega) rfl (by omega) (by omega) | exact nb_ok (by omega) rfl | decide)) only [kX12_look, hh, hz, h3, nb_ui_2, ↓if_pos, ↓if_neg, nb_add, nb_sub, nb_mul, Int.toNat_natCast, mm_kr_s, mm_kv_s, if_pos, if_neg, sq_tn, Int.toNat_zero, Int.reduceToNat, Int.reduceNeg, Nat.reduceAdd, Int.reduceAdd, Int.reduceEq, Int.reduceLT, Int.reduceLE, Int.zero_add, nb_ui_s, nb_ui_k, nb_ui_a, sp_min, sp_max, sp_bits])
  have e0 : mm_ui I 239 3 ((i + 0 : Nat) : Int) = I := nb_ui_id hi
  have e1 : i + (j - i) = j := by omega
  simp only [e0, e1] at key
  rw [key, hX12_look_0]
  have hh := zm_here (d := d) (L := L) (i := j) (h.up (a := 239) (k := 3) (z := (j : Int)) (by decide) (by decide)) (by rw [nb_ui_s])
  have hz : ¬ zp T S j = 32 := by
    unfold zp
    by_cases q : j < S
    · rw [if_pos q]; exact k4 q
    · rw [if_neg q]; decide
  simp (disch := (first | assumption | omega | exact nb_ix (by omega) (by assumption) (by omega) (by omega) | exact nb_ix (by omega) rfl (by omega) (by omega) | exact nb_ok (by omega) rfl | decide)) only [kX12_look, hh, ↓if_pos, ↓if_neg, nb_add, nb_sub, nb_mul, Int.toNat_natCast, mm_kr_s, mm_kv_s, if_pos, if_neg, sq_tn, Int.toNat_zero, Int.reduceToNat, Int.reduceNeg, Nat.reduceAdd, Int.reduceAdd, Int.reduceEq, Int.reduceLT, Int.reduceLE, Int.zero_add, nb_ui_s, nb_ui_k, nb_ui_a, sp_min, sp_max, sp_bits]
  done
theorem zm_bad (hM : sp_M n P) {p : Nat} (hw : I 239 4 = -1) (hi : I 239 3 = (p : Int)) : mm_rn (d + 1) 154 [.inr (.inr (some 239))] n I L P = some (none, n, mm_ui I 239 4 (p : Int), L, P) := by
  have ok := hM.ok
  rw [eX12_bad]
  simp (disch := (first | assumption | omega | exact nb_ix (by omega) (by assumption) (by omega) (by omega) | exact nb_ix (by omega) rfl (by omega) (by omega) | exact nb_ok (by omega) rfl | decide)) only [kX12_bad, hw, hi, ↓if_pos, ↓if_neg, nb_add, nb_sub, nb_mul, Int.toNat_natCast, mm_kr_s, mm_kv_s, if_pos, if_neg, sq_tn, Int.toNat_zero, Int.reduceToNat, Int.reduceNeg, Nat.reduceAdd, Int.reduceAdd, Int.reduceEq, Int.reduceLT, Int.reduceLE, Int.zero_add, nb_ui_s, nb_ui_k, nb_ui_a, sp_min, sp_max, sp_bits]
  done
theorem zm_dig (c : Int) : mm_rn (d + 1) 155 [.inl c] n I L P = some (some (.inl (if 48 ≤ c ∧ c ≤ 57 then 1 else 0)), n, I, L, P) := by
  rw [eX12_isDigit]
  by_cases h : c < 48
  · rw [if_neg (by omega)]
    simp (disch := (first | assumption | omega | exact nb_ix (by omega) (by assumption) (by omega) (by omega) | exact nb_ix (by omega) rfl (by omega) (by omega) | exact nb_ok (by omega) rfl | decide)) only [kX12_isDigit, ↓if_pos, ↓if_neg, nb_add, nb_sub, nb_mul, Int.toNat_natCast, mm_kr_s, mm_kv_s, if_pos, if_neg, sq_tn, Int.toNat_zero, Int.reduceToNat, Int.reduceNeg, Nat.reduceAdd, Int.reduceAdd, Int.reduceEq, Int.reduceLT, Int.reduceLE, Int.zero_add, nb_ui_s, nb_ui_k, nb_ui_a, sp_min, sp_max, sp_bits]
  · by_cases h2 : 57 < c
    · rw [if_neg (by omega)]
      simp (disch := (first | assumption | omega | exact nb_ix (by omega) (by assumption) (by omega) (by omega) | exact nb_ix (by omega) rfl (by omega) (by omega) | exact nb_ok (by omega) rfl | decide)) only [kX12_isDigit, ↓if_pos, ↓if_neg, nb_add, nb_sub, nb_mul, Int.toNat_natCast, mm_kr_s, mm_kv_s, if_pos, if_neg, sq_tn, Int.toNat_zero, Int.reduceToNat, Int.reduceNeg, Nat.reduceAdd, Int.reduceAdd, Int.reduceEq, Int.reduceLT, Int.reduceLE, Int.zero_add, nb_ui_s, nb_ui_k, nb_ui_a, sp_min, sp_max, sp_bits]
    · rw [if_pos (by omega)]
      simp (disch := (first | assumption | omega | exact nb_ix (by omega) (by assumption) (by omega) (by omega) | exact nb_ix (by omega) rfl (by omega) (by omega) | exact nb_ok (by omega) rfl | decide)) only [kX12_isDigit, ↓if_pos, ↓if_neg, nb_add, nb_sub, nb_mul, Int.toNat_natCast, mm_kr_s, mm_kv_s, if_pos, if_neg, sq_tn, Int.toNat_zero, Int.reduceToNat, Int.reduceNeg, Nat.reduceAdd, Int.reduceAdd, Int.reduceEq, Int.reduceLT, Int.reduceLE, Int.zero_add, nb_ui_s, nb_ui_k, nb_ui_a, sp_min, sp_max, sp_bits]
def zl (c : Int) : Int := if c = 122 then 0 else if c = 107 then 1 else if c = 119 then 2 else if c = 100 then 3 else if c = 110 then 4 else if c = 104 then 5 else -1
theorem zm_let (c : Int) : mm_rn (d + 1) 157 [.inl c] n I L P = some (some (.inl (zl c)), n, I, L, P) := by
  rw [eX12_letterOf]
  unfold zl
  by_cases h1 : c = 122
  · rw [if_pos h1]; simp (disch := (first | assumption | omega | exact nb_ix (by omega) (by assumption) (by omega) (by omega) | exact nb_ix (by omega) rfl (by omega) (by omega) | exact nb_ok (by omega) rfl | decide)) only [kX12_letterOf, ↓if_pos, ↓if_neg, nb_add, nb_sub, nb_mul, Int.toNat_natCast, mm_kr_s, mm_kv_s, if_pos, if_neg, sq_tn, Int.toNat_zero, Int.reduceToNat, Int.reduceNeg, Nat.reduceAdd, Int.reduceAdd, Int.reduceEq, Int.reduceLT, Int.reduceLE, Int.zero_add, nb_ui_s, nb_ui_k, nb_ui_a, sp_min, sp_max, sp_bits]
  · rw [if_neg h1]
    by_cases h2 : c = 107
    · rw [if_pos h2]; simp (disch := (first | assumption | omega | exact nb_ix (by omega) (by assumption) (by omega) (by omega) | exact nb_ix (by omega) rfl (by omega) (by omega) | exact nb_ok (by omega) rfl | decide)) only [kX12_letterOf, ↓if_pos, ↓if_neg, nb_add, nb_sub, nb_mul, Int.toNat_natCast, mm_kr_s, mm_kv_s, if_pos, if_neg, sq_tn, Int.toNat_zero, Int.reduceToNat, Int.reduceNeg, Nat.reduceAdd, Int.reduceAdd, Int.reduceEq, Int.reduceLT, Int.reduceLE, Int.zero_add, nb_ui_s, nb_ui_k, nb_ui_a, sp_min, sp_max, sp_bits]
    · rw [if_neg h2]
      by_cases h3 : c = 119
      · rw [if_pos h3]; simp (disch := (first | assumption | omega | exact nb_ix (by omega) (by assumption) (by omega) (by omega) | exact nb_ix (by omega) rfl (by omega) (by omega) | exact nb_ok (by omega) rfl | decide)) only [kX12_letterOf, ↓if_pos, ↓if_neg, nb_add, nb_sub, nb_mul, Int.toNat_natCast, mm_kr_s, mm_kv_s, if_pos, if_neg, sq_tn, Int.toNat_zero, Int.reduceToNat, Int.reduceNeg, Nat.reduceAdd, Int.reduceAdd, Int.reduceEq, Int.reduceLT, Int.reduceLE, Int.zero_add, nb_ui_s, nb_ui_k, nb_ui_a, sp_min, sp_max, sp_bits]
      · rw [if_neg h3]
        by_cases h4 : c = 100
        · rw [if_pos h4]; simp (disch := (first | assumption | omega | exact nb_ix (by omega) (by assumption) (by omega) (by omega) | exact nb_ix (by omega) rfl (by omega) (by omega) | exact nb_ok (by omega) rfl | decide)) only [kX12_letterOf, ↓if_pos, ↓if_neg, nb_add, nb_sub, nb_mul, Int.toNat_natCast, mm_kr_s, mm_kv_s, if_pos, if_neg, sq_tn, Int.toNat_zero, Int.reduceToNat, Int.reduceNeg, Nat.reduceAdd, Int.reduceAdd, Int.reduceEq, Int.reduceLT, Int.reduceLE, Int.zero_add, nb_ui_s, nb_ui_k, nb_ui_a, sp_min, sp_max, sp_bits]
        · rw [if_neg h4]
          by_cases h5 : c = 110
          · rw [if_pos h5]; simp (disch := (first | assumption | omega | exact nb_ix (by omega) (by assumption) (by omega) (by omega) | exact nb_ix (by omega) rfl (by omega) (by omega) | exact nb_ok (by omega) rfl | decide)) only [kX12_letterOf, ↓if_pos, ↓if_neg, nb_add, nb_sub, nb_mul, Int.toNat_natCast, mm_kr_s, mm_kv_s, if_pos, if_neg, sq_tn, Int.toNat_zero, Int.reduceToNat, Int.reduceNeg, Nat.reduceAdd, Int.reduceAdd, Int.reduceEq, Int.reduceLT, Int.reduceLE, Int.zero_add, nb_ui_s, nb_ui_k, nb_ui_a, sp_min, sp_max, sp_bits]
          · rw [if_neg h5]
            by_cases h6 : c = 104
            · rw [if_pos h6]; simp (disch := (first | assumption | omega | exact nb_ix (by omega) (by assumption) (by omega) (by omega) | exact nb_ix (by omega) rfl (by omega) (by omega) | exact nb_ok (by omega) rfl | decide)) only [kX12_letterOf, ↓if_pos, ↓if_neg, nb_add, nb_sub, nb_mul, Int.toNat_natCast, mm_kr_s, mm_kv_s, if_pos, if_neg, sq_tn, Int.toNat_zero, Int.reduceToNat, Int.reduceNeg, Nat.reduceAdd, Int.reduceAdd, Int.reduceEq, Int.reduceLT, Int.reduceLE, Int.zero_add, nb_ui_s, nb_ui_k, nb_ui_a, sp_min, sp_max, sp_bits]
            · rw [if_neg h6]; simp (disch := (first | assumption | omega | exact nb_ix (by omega) (by assumption) (by omega) (by omega) | exact nb_ix (by omega) rfl (by omega) (by omega) | exact nb_ok (by omega) rfl | decide)) only [kX12_letterOf, ↓if_pos, ↓if_neg, nb_add, nb_sub, nb_mul, Int.toNat_natCast, mm_kr_s, mm_kv_s, if_pos, if_neg, sq_tn, Int.toNat_zero, Int.reduceToNat, Int.reduceNeg, Nat.reduceAdd, Int.reduceAdd, Int.reduceEq, Int.reduceLT, Int.reduceLE, Int.zero_add, nb_ui_s, nb_ui_k, nb_ui_a, sp_min, sp_max, sp_bits]
theorem zc_let (c : Int) : mm_rn (d + 1) 38 [.inl c] n I L P = some (some (.inl (zl c)), n, I, L, P) := by
  rw [eX4_letterOf]
  unfold zl
  by_cases h1 : c = 122
  · subst h1; simp (disch := (first | assumption | omega | exact nb_ix (by omega) (by assumption) (by omega) (by omega) | exact nb_ix (by omega) rfl (by omega) (by omega) | exact nb_ok (by omega) rfl | decide)) only [kX4_letterOf, ↓if_pos, ↓if_neg, nb_add, nb_sub, nb_mul, Int.toNat_natCast, mm_kr_s, mm_kv_s, if_pos, if_neg, sq_tn, Int.toNat_zero, Int.reduceToNat, Int.reduceNeg, Nat.reduceAdd, Int.reduceAdd, Int.reduceEq, Int.reduceLT, Int.reduceLE, Int.zero_add, nb_ui_s, nb_ui_k, nb_ui_a, sp_min, sp_max, sp_bits]
  · rw [if_neg h1]
    by_cases h2 : c = 107
    · subst h2; simp (disch := (first | assumption | omega | exact nb_ix (by omega) (by assumption) (by omega) (by omega) | exact nb_ix (by omega) rfl (by omega) (by omega) | exact nb_ok (by omega) rfl | decide)) only [kX4_letterOf, ↓if_pos, ↓if_neg, nb_add, nb_sub, nb_mul, Int.toNat_natCast, mm_kr_s, mm_kv_s, if_pos, if_neg, sq_tn, Int.toNat_zero, Int.reduceToNat, Int.reduceNeg, Nat.reduceAdd, Int.reduceAdd, Int.reduceEq, Int.reduceLT, Int.reduceLE, Int.zero_add, nb_ui_s, nb_ui_k, nb_ui_a, sp_min, sp_max, sp_bits]
    · rw [if_neg h2]
      by_cases h3 : c = 119
      · subst h3; simp (disch := (first | assumption | omega | exact nb_ix (by omega) (by assumption) (by omega) (by omega) | exact nb_ix (by omega) rfl (by omega) (by omega) | exact nb_ok (by omega) rfl | decide)) only [kX4_letterOf, ↓if_pos, ↓if_neg, nb_add, nb_sub, nb_mul, Int.toNat_natCast, mm_kr_s, mm_kv_s, if_pos, if_neg, sq_tn, Int.toNat_zero, Int.reduceToNat, Int.reduceNeg, Nat.reduceAdd, Int.reduceAdd, Int.reduceEq, Int.reduceLT, Int.reduceLE, Int.zero_add, nb_ui_s, nb_ui_k, nb_ui_a, sp_min, sp_max, sp_bits]
      · rw [if_neg h3]
        by_cases h4 : c = 100
        · subst h4; simp (disch := (first | assumption | omega | exact nb_ix (by omega) (by assumption) (by omega) (by omega) | exact nb_ix (by omega) rfl (by omega) (by omega) | exact nb_ok (by omega) rfl | decide)) only [kX4_letterOf, ↓if_pos, ↓if_neg, nb_add, nb_sub, nb_mul, Int.toNat_natCast, mm_kr_s, mm_kv_s, if_pos, if_neg, sq_tn, Int.toNat_zero, Int.reduceToNat, Int.reduceNeg, Nat.reduceAdd, Int.reduceAdd, Int.reduceEq, Int.reduceLT, Int.reduceLE, Int.zero_add, nb_ui_s, nb_ui_k, nb_ui_a, sp_min, sp_max, sp_bits]
        · rw [if_neg h4]
          by_cases h5 : c = 110
          · subst h5; simp (disch := (first | assumption | omega | exact nb_ix (by omega) (by assumption) (by omega) (by omega) | exact nb_ix (by omega) rfl (by omega) (by omega) | exact nb_ok (by omega) rfl | decide)) only [kX4_letterOf, ↓if_pos, ↓if_neg, nb_add, nb_sub, nb_mul, Int.toNat_natCast, mm_kr_s, mm_kv_s, if_pos, if_neg, sq_tn, Int.toNat_zero, Int.reduceToNat, Int.reduceNeg, Nat.reduceAdd, Int.reduceAdd, Int.reduceEq, Int.reduceLT, Int.reduceLE, Int.zero_add, nb_ui_s, nb_ui_k, nb_ui_a, sp_min, sp_max, sp_bits]
          · rw [if_neg h5]
            by_cases h6 : c = 104
            · subst h6; simp (disch := (first | assumption | omega | exact nb_ix (by omega) (by assumption) (by omega) (by omega) | exact nb_ix (by omega) rfl (by omega) (by omega) | exact nb_ok (by omega) rfl | decide)) only [kX4_letterOf, ↓if_pos, ↓if_neg, nb_add, nb_sub, nb_mul, Int.toNat_natCast, mm_kr_s, mm_kv_s, if_pos, if_neg, sq_tn, Int.toNat_zero, Int.reduceToNat, Int.reduceNeg, Nat.reduceAdd, Int.reduceAdd, Int.reduceEq, Int.reduceLT, Int.reduceLE, Int.zero_add, nb_ui_s, nb_ui_k, nb_ui_a, sp_min, sp_max, sp_bits]
            · rw [if_neg h6]; simp (disch := (first | assumption | omega | exact nb_ix (by omega) (by assumption) (by omega) (by omega) | exact nb_ix (by omega) rfl (by omega) (by omega) | exact nb_ok (by omega) rfl | decide)) only [kX4_letterOf, ↓if_pos, ↓if_neg, nb_add, nb_sub, nb_mul, Int.toNat_natCast, mm_kr_s, mm_kv_s, if_pos, if_neg, sq_tn, Int.toNat_zero, Int.reduceToNat, Int.reduceNeg, Nat.reduceAdd, Int.reduceAdd, Int.reduceEq, Int.reduceLT, Int.reduceLE, Int.zero_add, nb_ui_s, nb_ui_k, nb_ui_a, sp_min, sp_max, sp_bits]
theorem zc_put {a c0 : Nat} {s v : Int} (hL : sp_L n P a) (hc : I a 1 = (c0 : Int)) (hc2 : c0 < 256) (hs : 0 ≤ s ∧ s ≤ 13) (hv : 0 ≤ v ∧ v ≤ 9999) : mm_rn (d + 1) 22 [.inr (.inr (some a)), .inl s, .inl v] n I L P = some (none, n, mm_ui (mm_ui I (a + 1) c0 (s + 16 * v)) a 1 ((c0 + 1 : Nat) : Int), L, P) := by
  have ok := hL.ok
  obtain ⟨a0, a1, a2, a3, a4, a5, a6, a7⟩ := hL
  have e64 : ((mm_ty (a + 1)).2 : Int) = 256 := by rw [a2]; rfl
  have e1 : (c0 : Int) + 1 = ((c0 + 1 : Nat) : Int) := by omega
  have ha : a ≠ a + 1 := by omega
  have hal : mm_ok n (a + 1) 20 := ⟨by omega, by rw [a2]⟩
  rw [eX3_put]
  simp (disch := (first | assumption | omega | exact nb_ix (by omega) (by assumption) (by omega) (by omega) | exact nb_ix (by omega) rfl (by omega) (by omega) | exact nb_ok (by omega) rfl | decide)) only [kX3_put, a5, hc, e64, e1, ↓if_pos, ↓if_neg, nb_add, nb_sub, nb_mul, Int.toNat_natCast, mm_kr_s, mm_kv_s, if_pos, if_neg, sq_tn, Int.toNat_zero, Int.reduceToNat, Int.reduceNeg, Nat.reduceAdd, Int.reduceAdd, Int.reduceEq, Int.reduceLT, Int.reduceLE, Int.zero_add, nb_ui_s, nb_ui_k, nb_ui_a, sp_min, sp_max, sp_bits]
  done
theorem zm_put {x c0 : Nat} {s v : Int} (hM : sp_M n P) (hx : I 239 14 = (x : Int)) (hx5 : x < 5) (hc : I 243 x = (c0 : Int)) (hc2 : c0 < 520) : mm_rn (d + 1) 156 [.inr (.inr (some 239)), .inl s, .inl v] n I L P = some (none, n, mm_ui (mm_ui (mm_ui I 241 (520 * x + c0) s) 242 (520 * x + c0) v) 243 x ((c0 + 1 : Nat) : Int), L, P) := by
  have ok := hM.ok
  obtain ⟨hn, g1, g6, g7, g8, g9, g10, g11, g12, g15, g16, g17⟩ := hM
  rw [eX12_put]
  have e1 : (c0 : Int) + 1 = ((c0 + 1 : Nat) : Int) := by omega
  have e2 : 520 * (x : Int) + (c0 : Int) = ((520 * x + c0 : Nat) : Int) := by omega
  simp (disch := (first | assumption | omega | exact nb_ix (by omega) (by assumption) (by omega) (by omega) | exact nb_ix (by omega) rfl (by omega) (by omega) | exact nb_ok (by omega) rfl | decide)) only [kX12_put, g6, g7, g8, hx, hc, e1, e2, ↓if_pos, ↓if_neg, nb_add, nb_sub, nb_mul, Int.toNat_natCast, mm_kr_s, mm_kv_s, if_pos, if_neg, sq_tn, Int.toNat_zero, Int.reduceToNat, Int.reduceNeg, Nat.reduceAdd, Int.reduceAdd, Int.reduceEq, Int.reduceLT, Int.reduceLE, Int.zero_add, nb_ui_s, nb_ui_k, nb_ui_a, sp_min, sp_max, sp_bits]
  done
end LK
