/-! numbers, brackets -/
abbrev zdg (c : Int) : Prop := 48 ≤ c ∧ c ≤ 57
def zv (T : Nat → Int) (j : Nat) : Nat → Int
  | 0 => 0
  | m + 1 => 10 * zv T j m + T (j + m) - 48
def zd (T : Nat → Int) (S j m : Nat) : Prop := ∀ k, k < m → zdg (zp T S (j + k))
theorem zp_lt {T : Nat → Int} {S j : Nat} (h : zdg (zp T S j)) : j < S ∧ zp T S j = T j := by
  unfold zp at h ⊢
  by_cases q : j < S
  · exact ⟨q, by rw [if_pos q]⟩
  · rw [if_neg q] at h
    unfold zdg at h
    omega
theorem zd_ex (T : Nat → Int) (S j : Nat) : ∀ D, ∃ m, m ≤ D ∧ zd T S j m ∧ (m < D → ¬ zdg (zp T S (j + m))) := by
  intro D
  induction D with
  | zero => exact ⟨0, Nat.le_refl _, fun k h => by omega, fun h => by omega⟩
  | succ D ih =>
    obtain ⟨m, h1, h2, h3⟩ := ih
    by_cases hm : m < D
    · exact ⟨m, by omega, h2, fun _ => h3 hm⟩
    · by_cases hd : zdg (zp T S (j + m))
      · refine ⟨m + 1, by omega, fun k hk => ?_, fun h => by omega⟩
        by_cases e : k = m
        · rw [e]; exact hd
        · exact h2 k (by omega)
      · exact ⟨m, by omega, h2, fun _ => hd⟩
theorem zv_rg {T : Nat → Int} {S j : Nat} : ∀ m, zd T S j m → 0 ≤ zv T j m ∧ zv T j m < 10 ^ m := by
  intro m
  induction m with
  | zero => intro _; exact ⟨Int.le_refl 0, by show (0 : Int) < 10 ^ 0; decide⟩
  | succ m ih =>
    intro h
    obtain ⟨h1, h2⟩ := ih (fun k hk => h k (by omega))
    have h3 := h m (by omega)
    obtain ⟨h4, h5⟩ := zp_lt h3
    rw [h5] at h3
    unfold zdg at h3
    have e : zv T j (m + 1) = 10 * zv T j m + T (j + m) - 48 := rfl
    rw [e, Int.pow_succ]
    generalize (10 : Int) ^ m = q at h2
    omega
theorem zd_S {T : Nat → Int} {S j m : Nat} (hj : j ≤ S) (h : zd T S j m) : j + m ≤ S := by
  by_cases e : m = 0
  · omega
  · have := (zp_lt (h (m - 1) (by omega))).1
    omega
section NB
variable {n d S i j : Nat} {I L : mm_I} {P : mm_P} {T : Nat → Int}
theorem zv_b {m D : Nat} (hD : D ≤ 4) (hm : m ≤ D) (hd : zd T S j m) : 0 ≤ zv T j m ∧ zv T j m ≤ 9999 := by
  obtain ⟨h1, h2⟩ := zv_rg m hd
  have hm4 : m = 0 ∨ m = 1 ∨ m = 2 ∨ m = 3 ∨ m = 4 := by omega
  rcases hm4 with e | e | e | e | e <;> subst e <;> simp at h2 <;> omega
set_option maxHeartbeats 2000000 in
theorem zc_number {m D : Nat} (h : zc n P I T S) (hk : zk T S i j) (hi : I 1 2 = (i : Int)) (hD : D ≤ 4) (hD1 : 1 ≤ D) (hm : m ≤ D) (hd : zd T S j m) (hd2 : m < D → ¬ zdg (zp T S (j + m))) : mm_rn (d + 2) 61 [.inr (.inr (some 1)), .inl ((D : Int))] n I L P = some (some (.inl (if m = 0 ∨ zdg (zp T S (j + m)) then -1 else zv T j m)), n, mm_ui I 1 2 ((j + m : Nat) : Int), L, P) := by
  have hp := zc_peek (d := d) (L := L) h hk hi
  have hjS := hk.2.1
  have hjm := zd_S hjS hd
  obtain ⟨hn, p0, hS, hS2, hT, hR⟩ := h
  rw [eX8_number]
  simp (disch := (first | assumption | omega | exact nb_ix (by omega) (by assumption) (by omega) (by omega) | exact nb_ix (by omega) rfl (by omega) (by omega) | exact nb_ok (by omega) rfl | decide)) only [kX8_number, hp, ↓if_pos, ↓if_neg, nb_add, nb_sub, nb_mul, Int.toNat_natCast, mm_kr_s, mm_kv_s, if_pos, if_neg, sq_tn, Int.toNat_zero, Int.reduceToNat, Int.reduceNeg, Nat.reduceAdd, Int.reduceAdd, Int.reduceEq, Int.reduceLT, Int.reduceLE, Int.zero_add, nb_ui_s, nb_ui_k, nb_ui_a, sp_min, sp_max, sp_bits]
  have key := nb_loop (fun k => mm_E (d + 1) 61 9 [.inr (.inr (some 1)), .inl ((D : Int)), .inl (zv T j k), .inl (((k : Nat) : Int))] [] [] n (mm_ui I 1 2 ((j + k : Nat) : Int)) L P) m (fun k hk => by
    show mm_E (d + 1) 61 9 [.inr (.inr (some 1)), .inl ((D : Int)), .inl (zv T j k), .inl (((k : Nat) : Int))] [] [] n (mm_ui I 1 2 ((j + k : Nat) : Int)) L P = mm_E (d + 1) 61 9 [.inr (.inr (some 1)), .inl ((D : Int)), .inl (zv T j (k + 1)), .inl (((k + 1 : Nat) : Int))] [] [] n (mm_ui I 1 2 ((j + (k + 1) : Nat) : Int)) L P
    rw [hX8_number_9]
    have hdk := hd k hk
    obtain ⟨q1, q2⟩ := zp_lt hdk
    rw [q2] at hdk
    obtain ⟨r1, r2⟩ := hdk
    have hb := zv_b hD (show k ≤ D by omega) (fun a ha => hd a (by omega))
    have t1 : I 2 (j + k) = T (j + k) := hT (j + k) q1
    have t2 : I 1 1 = (S : Int) := hS
    have e1 : ((j + k : Nat) : Int) + 1 = ((j + (k + 1) : Nat) : Int) := by omega
    have e2 : ((k : Nat) : Int) + 1 = ((k + 1 : Nat) : Int) := by omega
    have e3 : zv T j (k + 1) = 10 * zv T j k + T (j + k) - 48 := rfl
    have c1 : ¬ (D : Int) < (k : Int) := by omega
    have c2 : ¬ (S : Int) ≤ ((j + k : Nat) : Int) := by omega
    have c3 : ¬ T (j + k) < 48 := by omega
    have c4 : ¬ (D : Int) ≤ (k : Int) := by omega
    rw [e3]
    simp (disch := (first | assumption | omega | exact nb_ix (by omega) (by assumption) (by omega) (by omega) | exact nb_ix (by omega) rfl (by omega) (by omega) | exact nb_ok (by omega) rfl | decide)) only [kX8_number, t2, p0, t1, e1, e2, nb_ui_2, ↓if_pos, ↓if_neg, nb_add, nb_sub, nb_mul, Int.toNat_natCast, mm_kr_s, mm_kv_s, if_pos, if_neg, sq_tn, Int.toNat_zero, Int.reduceToNat, Int.reduceNeg, Nat.reduceAdd, Int.reduceAdd, Int.reduceEq, Int.reduceLT, Int.reduceLE, Int.zero_add, nb_ui_s, nb_ui_k, nb_ui_a, sp_min, sp_max, sp_bits])
  have e0 : mm_E (d + 1) 61 9 [.inr (.inr (some 1)), .inl ((D : Int)), .inl 0, .inl 0] [] [] n (mm_ui I 1 2 (j : Int)) L P = mm_E (d + 1) 61 9 [.inr (.inr (some 1)), .inl ((D : Int)), .inl (zv T j 0), .inl (((0 : Nat) : Int))] [] [] n (mm_ui I 1 2 ((j + 0 : Nat) : Int)) L P := rfl
  rw [e0]
  refine Eq.trans key ?_
  show mm_E (d + 1) 61 9 [.inr (.inr (some 1)), .inl ((D : Int)), .inl (zv T j m), .inl (((m : Nat) : Int))] [] [] n (mm_ui I 1 2 ((j + m : Nat) : Int)) L P = _
  rw [hX8_number_9]
  have c1 : ¬ (D : Int) < (m : Int) := by omega
  by_cases hg : zdg (zp T S (j + m))
  · rw [if_pos (Or.inr hg)]
    have hmD : m = D := by
      by_cases q : m < D
      · exact absurd hg (hd2 q)
      · omega
    obtain ⟨q1, q2⟩ := zp_lt hg
    rw [q2] at hg
    obtain ⟨r1, r2⟩ := hg
    have t1 : I 2 (j + m) = T (j + m) := hT (j + m) q1
    have c2 : ¬ (S : Int) ≤ ((j + m : Nat) : Int) := by omega
    have c3 : ¬ T (j + m) < 48 := by omega
    have c4 : (D : Int) ≤ (m : Int) := by omega
    have c5 : (D : Int) < (m : Int) + 1 := by omega
    simp (disch := (first | assumption | omega | exact nb_ix (by omega) (by assumption) (by omega) (by omega) | exact nb_ix (by omega) rfl (by omega) (by omega) | exact nb_ok (by omega) rfl | decide)) only [kX8_number, hS, p0, t1, ↓if_pos, ↓if_neg, nb_add, nb_sub, nb_mul, Int.toNat_natCast, mm_kr_s, mm_kv_s, if_pos, if_neg, sq_tn, Int.toNat_zero, Int.reduceToNat, Int.reduceNeg, Nat.reduceAdd, Int.reduceAdd, Int.reduceEq, Int.reduceLT, Int.reduceLE, Int.zero_add, nb_ui_s, nb_ui_k, nb_ui_a, sp_min, sp_max, sp_bits]
    rw [hX8_number_9]
    simp (disch := (first | assumption | omega | exact nb_ix (by omega) (by assumption) (by omega) (by omega) | exact nb_ix (by omega) rfl (by omega) (by omega) | exact nb_ok (by omega) rfl | decide)) only [kX8_number, hS, p0, t1, ↓if_pos, ↓if_neg, nb_add, nb_sub, nb_mul, Int.toNat_natCast, mm_kr_s, mm_kv_s, if_pos, if_neg, sq_tn, Int.toNat_zero, Int.reduceToNat, Int.reduceNeg, Nat.reduceAdd, Int.reduceAdd, Int.reduceEq, Int.reduceLT, Int.reduceLE, Int.zero_add, nb_ui_s, nb_ui_k, nb_ui_a, sp_min, sp_max, sp_bits]
  · by_cases q : j + m < S
    · have q2 : zp T S (j + m) = T (j + m) := by unfold zp; rw [if_pos q]
      rw [q2] at hg ⊢
      have t1 : I 2 (j + m) = T (j + m) := hT (j + m) q
      have c2 : ¬ (S : Int) ≤ ((j + m : Nat) : Int) := by omega
      have fin : mm_E (d + 1) 61 53 [.inr (.inr (some 1)), .inl ((D : Int)), .inl (zv T j m), .inl (((m : Nat) : Int))] [] [] n (mm_ui I 1 2 ((j + m : Nat) : Int)) L P = some (some (.inl (if m = 0 ∨ zdg (T (j + m)) then -1 else zv T j m)), n, mm_ui I 1 2 ((j + m : Nat) : Int), L, P) := by
        by_cases hm0 : m = 0
        · rw [if_pos (Or.inl hm0)]
          have c6 : (m : Int) = 0 := by omega
          simp (disch := (first | assumption | omega | exact nb_ix (by omega) (by assumption) (by omega) (by omega) | exact nb_ix (by omega) rfl (by omega) (by omega) | exact nb_ok (by omega) rfl | decide)) only [kX8_number, ↓if_pos, ↓if_neg, nb_add, nb_sub, nb_mul, Int.toNat_natCast, mm_kr_s, mm_kv_s, if_pos, if_neg, sq_tn, Int.toNat_zero, Int.reduceToNat, Int.reduceNeg, Nat.reduceAdd, Int.reduceAdd, Int.reduceEq, Int.reduceLT, Int.reduceLE, Int.zero_add, nb_ui_s, nb_ui_k, nb_ui_a, sp_min, sp_max, sp_bits]
        · rw [if_neg (by rintro (w | w); exact hm0 w; exact hg w)]
          have c6 : ¬ (m : Int) = 0 := by omega
          simp (disch := (first | assumption | omega | exact nb_ix (by omega) (by assumption) (by omega) (by omega) | exact nb_ix (by omega) rfl (by omega) (by omega) | exact nb_ok (by omega) rfl | decide)) only [kX8_number, ↓if_pos, ↓if_neg, nb_add, nb_sub, nb_mul, Int.toNat_natCast, mm_kr_s, mm_kv_s, if_pos, if_neg, sq_tn, Int.toNat_zero, Int.reduceToNat, Int.reduceNeg, Nat.reduceAdd, Int.reduceAdd, Int.reduceEq, Int.reduceLT, Int.reduceLE, Int.zero_add, nb_ui_s, nb_ui_k, nb_ui_a, sp_min, sp_max, sp_bits]
      rw [← fin]
      by_cases c3 : T (j + m) < 48
      · simp (disch := (first | assumption | omega | exact nb_ix (by omega) (by assumption) (by omega) (by omega) | exact nb_ix (by omega) rfl (by omega) (by omega) | exact nb_ok (by omega) rfl | decide)) only [kX8_number, hS, p0, t1, ↓if_pos, ↓if_neg, nb_add, nb_sub, nb_mul, Int.toNat_natCast, mm_kr_s, mm_kv_s, if_pos, if_neg, sq_tn, Int.toNat_zero, Int.reduceToNat, Int.reduceNeg, Nat.reduceAdd, Int.reduceAdd, Int.reduceEq, Int.reduceLT, Int.reduceLE, Int.zero_add, nb_ui_s, nb_ui_k, nb_ui_a, sp_min, sp_max, sp_bits]
      · have c4 : ¬ T (j + m) ≤ 57 := fun w => hg ⟨by omega, w⟩
        simp (disch := (first | assumption | omega | exact nb_ix (by omega) (by assumption) (by omega) (by omega) | exact nb_ix (by omega) rfl (by omega) (by omega) | exact nb_ok (by omega) rfl | decide)) only [kX8_number, hS, p0, t1, ↓if_pos, ↓if_neg, nb_add, nb_sub, nb_mul, Int.toNat_natCast, mm_kr_s, mm_kv_s, if_pos, if_neg, sq_tn, Int.toNat_zero, Int.reduceToNat, Int.reduceNeg, Nat.reduceAdd, Int.reduceAdd, Int.reduceEq, Int.reduceLT, Int.reduceLE, Int.zero_add, nb_ui_s, nb_ui_k, nb_ui_a, sp_min, sp_max, sp_bits]
    · have c2 : (S : Int) ≤ ((j + m : Nat) : Int) := by omega
      by_cases hm0 : m = 0
      · rw [if_pos (Or.inl hm0)]
        have c6 : (m : Int) = 0 := by omega
        simp (disch := (first | assumption | omega | exact nb_ix (by omega) (by assumption) (by omega) (by omega) | exact nb_ix (by omega) rfl (by omega) (by omega) | exact nb_ok (by omega) rfl | decide)) only [kX8_number, hS, p0, ↓if_pos, ↓if_neg, nb_add, nb_sub, nb_mul, Int.toNat_natCast, mm_kr_s, mm_kv_s, if_pos, if_neg, sq_tn, Int.toNat_zero, Int.reduceToNat, Int.reduceNeg, Nat.reduceAdd, Int.reduceAdd, Int.reduceEq, Int.reduceLT, Int.reduceLE, Int.zero_add, nb_ui_s, nb_ui_k, nb_ui_a, sp_min, sp_max, sp_bits]
      · rw [if_neg (by rintro (w | w); exact hm0 w; exact hg w)]
        have c6 : ¬ (m : Int) = 0 := by omega
        simp (disch := (first | assumption | omega | exact nb_ix (by omega) (by assumption) (by omega) (by omega) | exact nb_ix (by omega) rfl (by omega) (by omega) | exact nb_ok (by omega) rfl | decide)) only [kX8_number, hS, p0, ↓if_pos, ↓if_neg, nb_add, nb_sub, nb_mul, Int.toNat_natCast, mm_kr_s, mm_kv_s, if_pos, if_neg, sq_tn, Int.toNat_zero, Int.reduceToNat, Int.reduceNeg, Nat.reduceAdd, Int.reduceAdd, Int.reduceEq, Int.reduceLT, Int.reduceLE, Int.zero_add, nb_ui_s, nb_ui_k, nb_ui_a, sp_min, sp_max, sp_bits]
set_option maxHeartbeats 2000000 in
theorem zm_plain {m : Nat} (h : zm n P I T S) (hi : I 239 3 = (j : Int)) (hjS : j ≤ S) (hw : I 239 4 = -1) (hm : m ≤ 4) (hd : zd T S j m) (hd2 : m < 4 → ¬ zdg (zp T S (j + m))) : mm_rn (d + 2) 160 [.inr (.inr (some 239))] n I L P = some (some (.inl (zv T j m)), n, mm_ui (mm_ui I 239 3 ((j + m : Nat) : Int)) 239 4 (if zdg (zp T S (j + m)) then ((j + m : Nat) : Int) else -1), L, P) := by
  have ok := h.1.ok
  have hjm := zd_S hjS hd
  have hS2 := h.2.2.1
  have hh : ∀ k, mm_rn (d + 1) 152 [.inr (.inr (some 239))] n (mm_ui I 239 3 ((j + k : Nat) : Int)) L P = some (some (.inl (zp T S (j + k))), n, mm_ui I 239 3 ((j + k : Nat) : Int), L, P) := fun k => zm_here (i := j + k) (h.up (a := 239) (k := 3) (z := ((j + k : Nat) : Int)) (by decide) (by decide)) (by rw [nb_ui_s])
  rw [eX12_plainNumber]
  simp (disch := (first | assumption | omega | exact nb_ix (by omega) (by assumption) (by omega) (by omega) | exact nb_ix (by omega) rfl (by omega) (by omega) | exact nb_ok (by omega) rfl | decide)) only [kX12_plainNumber, ↓if_pos, ↓if_neg, nb_add, nb_sub, nb_mul, Int.toNat_natCast, mm_kr_s, mm_kv_s, if_pos, if_neg, sq_tn, Int.toNat_zero, Int.reduceToNat, Int.reduceNeg, Nat.reduceAdd, Int.reduceAdd, Int.reduceEq, Int.reduceLT, Int.reduceLE, Int.zero_add, nb_ui_s, nb_ui_k, nb_ui_a, sp_min, sp_max, sp_bits]
  have key := nb_loop (fun k => mm_E (d + 1) 160 4 [.inr (.inr (some 239)), .inl (zv T j k), .inl (((k : Nat) : Int))] [] [] n (mm_ui I 239 3 ((j + k : Nat) : Int)) L P) m (fun k hk => by
    show mm_E (d + 1) 160 4 [.inr (.inr (some 239)), .inl (zv T j k), .inl (((k : Nat) : Int))] [] [] n (mm_ui I 239 3 ((j + k : Nat) : Int)) L P = mm_E (d + 1) 160 4 [.inr (.inr (some 239)), .inl (zv T j (k + 1)), .inl (((k + 1 : Nat) : Int))] [] [] n (mm_ui I 239 3 ((j + (k + 1) : Nat) : Int)) L P
    rw [hX12_plainNumber_4]
    have hdk := hd k hk
    obtain ⟨q1, q2⟩ := zp_lt hdk
    have hdk' := hdk
    rw [q2] at hdk'
    obtain ⟨r1, r2⟩ := hdk'
    have hdg := zm_dig (d := d) (n := n) (L := L) (P := P) (I := mm_ui I 239 3 ((j + k : Nat) : Int)) (zp T S (j + k))
    rw [if_pos hdk] at hdg
    have hb := zv_b (D := 4) (by decide) (show k ≤ 4 by omega) (fun a ha => hd a (by omega))
    have e1 : ((j + k : Nat) : Int) + 1 = ((j + (k + 1) : Nat) : Int) := by omega
    have e2 : ((k : Nat) : Int) + 1 = ((k + 1 : Nat) : Int) := by omega
    have e3 : zv T j (k + 1) = 10 * zv T j k + T (j + k) - 48 := rfl
    have c1 : ¬ (4 : Int) ≤ (k : Int) := by omega
    rw [e3]
    have hhk := hh k
    rw [q2] at hdg hhk
    simp (disch := (first | assumption | omega | exact nb_ix (by omega) (by assumption) (by omega) (by omega) | exact nb_ix (by omega) rfl (by omega) (by omega) | exact nb_ok (by omega) rfl | decide)) only [kX12_plainNumber, hhk, hdg, e1, e2, nb_ui_2, ↓if_pos, ↓if_neg, nb_add, nb_sub, nb_mul, Int.toNat_natCast, mm_kr_s, mm_kv_s, if_pos, if_neg, sq_tn, Int.toNat_zero, Int.reduceToNat, Int.reduceNeg, Nat.reduceAdd, Int.reduceAdd, Int.reduceEq, Int.reduceLT, Int.reduceLE, Int.zero_add, nb_ui_s, nb_ui_k, nb_ui_a, sp_min, sp_max, sp_bits])
  have e0 : mm_E (d + 1) 160 4 [.inr (.inr (some 239)), .inl 0, .inl 0] [] [] n I L P = mm_E (d + 1) 160 4 [.inr (.inr (some 239)), .inl (zv T j 0), .inl (((0 : Nat) : Int))] [] [] n (mm_ui I 239 3 ((j + 0 : Nat) : Int)) L P := by
    rw [show mm_ui I 239 3 ((j + 0 : Nat) : Int) = I from nb_ui_id hi]
    rfl
  rw [e0]
  refine Eq.trans key ?_
  show mm_E (d + 1) 160 4 [.inr (.inr (some 239)), .inl (zv T j m), .inl (((m : Nat) : Int))] [] [] n (mm_ui I 239 3 ((j + m : Nat) : Int)) L P = _
  have hdg := zm_dig (d := d) (n := n) (L := L) (P := P) (I := mm_ui I 239 3 ((j + m : Nat) : Int)) (zp T S (j + m))
  have hw2 : mm_ui I 239 3 ((j + m : Nat) : Int) 239 4 = -1 := by rw [nb_ui_k (by decide)]; exact hw
  have hbad := zm_bad (d := d) (n := n) (L := L) (P := P) (I := mm_ui I 239 3 ((j + m : Nat) : Int)) h.1 hw2 (p := j + m) (by rw [nb_ui_s])
  have hhm := hh m
  rw [hX12_plainNumber_4]
  by_cases hg : zdg (zp T S (j + m))
  · have hm4 : m = 4 := by
      by_cases q : m < 4
      · exact absurd hg (hd2 q)
      · omega
    have c1 : (4 : Int) ≤ (m : Int) := by omega
    have hg2 : 48 ≤ zp T S (j + m) ∧ zp T S (j + m) ≤ 57 := hg
    rw [if_pos hg2] at hdg
    rw [if_pos hg]
    simp (disch := (first | assumption | omega | exact nb_ix (by omega) (by assumption) (by omega) (by omega) | exact nb_ix (by omega) rfl (by omega) (by omega) | exact nb_ok (by omega) rfl | decide)) only [kX12_plainNumber, hhm, hdg, hbad, ↓if_pos, ↓if_neg, nb_add, nb_sub, nb_mul, Int.toNat_natCast, mm_kr_s, mm_kv_s, if_pos, if_neg, sq_tn, Int.toNat_zero, Int.reduceToNat, Int.reduceNeg, Nat.reduceAdd, Int.reduceAdd, Int.reduceEq, Int.reduceLT, Int.reduceLE, Int.zero_add, nb_ui_s, nb_ui_k, nb_ui_a, sp_min, sp_max, sp_bits]
    done
  · have hg2 : ¬ (48 ≤ zp T S (j + m) ∧ zp T S (j + m) ≤ 57) := hg
    rw [if_neg hg2] at hdg
    rw [if_neg hg, nb_ui_id hw2]
    by_cases c1 : (4 : Int) ≤ (m : Int)
    · simp (disch := (first | assumption | omega | exact nb_ix (by omega) (by assumption) (by omega) (by omega) | exact nb_ix (by omega) rfl (by omega) (by omega) | exact nb_ok (by omega) rfl | decide)) only [kX12_plainNumber, hhm, hdg, hbad, ↓if_pos, ↓if_neg, nb_add, nb_sub, nb_mul, Int.toNat_natCast, mm_kr_s, mm_kv_s, if_pos, if_neg, sq_tn, Int.toNat_zero, Int.reduceToNat, Int.reduceNeg, Nat.reduceAdd, Int.reduceAdd, Int.reduceEq, Int.reduceLT, Int.reduceLE, Int.zero_add, nb_ui_s, nb_ui_k, nb_ui_a, sp_min, sp_max, sp_bits]
      done
    · simp (disch := (first | assumption | omega | exact nb_ix (by omega) (by assumption) (by omega) (by omega) | exact nb_ix (by omega) rfl (by omega) (by omega) | exact nb_ok (by omega) rfl | decide)) only [kX12_plainNumber, hhm, hdg, hbad, ↓if_pos, ↓if_neg, nb_add, nb_sub, nb_mul, Int.toNat_natCast, mm_kr_s, mm_kv_s, if_pos, if_neg, sq_tn, Int.toNat_zero, Int.reduceToNat, Int.reduceNeg, Nat.reduceAdd, Int.reduceAdd, Int.reduceEq, Int.reduceLT, Int.reduceLE, Int.zero_add, nb_ui_s, nb_ui_k, nb_ui_a, sp_min, sp_max, sp_bits]
      done
end NB
