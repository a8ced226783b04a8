/-! towns: letters, items, numbers -/
theorem z20 : ((2 : Nat) = 0) = False := by simp
theorem z21 : ((2 : Nat) = 1) = False := by simp
section SG
variable {n d : Nat} {I L : mm_I} {P : mm_P}
theorem zt_chk {i k : Int} (h : 0 ≤ i) (h2 : i < k) : mm_rn (d + 1) 273 [.inl i, .inl k] n I L P = some (none, n, I, L, P) := by
  show mm_prim (mm_rn d) 273 [.inl i, .inl k] n I L P = _
  unfold mm_prim
  rw [if_pos rfl]
  show (if 0 ≤ i ∧ i < k then _ else _) = _
  rw [if_pos ⟨h, h2⟩]
theorem zt_lat {s : Nat} (hs : s = 1000004 ∨ s = 1000005) : mm_rn (d + 1) 272 [.inr (.inr (some s))] n I L P = some (some (.inl 1), n, I, L, P) := by
  rw [eJ0_isLatin1_aae02]
  simp (disch := (first | assumption | omega | exact nb_ix (by omega) (by assumption) (by omega) (by omega) | exact nb_ix (by omega) rfl (by omega) (by omega) | exact nb_ok (by omega) rfl | decide)) only [kJ0_isLatin1_aae02, ↓if_pos, ↓if_neg, nb_add, nb_sub, nb_mul, Int.toNat_natCast, mm_kr_s, mm_kv_s, if_pos, if_neg, sq_tn, Int.toNat_zero, Int.reduceToNat, Int.reduceNeg, Nat.reduceAdd, Int.reduceAdd, Int.reduceEq, Int.reduceLT, Int.reduceLE, Int.zero_add, nb_ui_s, nb_ui_k, nb_ui_a, sp_min, sp_max, sp_bits]
theorem zt_cod {s : Nat} (hs : s = 1000004 ∨ s = 1000005) : mm_rn (d + 1) 271 [.inr (.inr (some s))] n I L P = some (some (.inl 0), n, I, L, P) := by
  rw [eJ0_coder_7d493]
  simp (disch := (first | assumption | omega | exact nb_ix (by omega) (by assumption) (by omega) (by omega) | exact nb_ix (by omega) rfl (by omega) (by omega) | exact nb_ok (by omega) rfl | decide)) only [kJ0_coder_7d493, ↓if_pos, ↓if_neg, nb_add, nb_sub, nb_mul, Int.toNat_natCast, mm_kr_s, mm_kv_s, if_pos, if_neg, sq_tn, Int.toNat_zero, Int.reduceToNat, Int.reduceNeg, Nat.reduceAdd, Int.reduceAdd, Int.reduceEq, Int.reduceLT, Int.reduceLE, Int.zero_add, nb_ui_s, nb_ui_k, nb_ui_a, sp_min, sp_max, sp_bits]
theorem zt_len : mm_rn (d + 2) 269 [.inr (.inr (some 1000004))] n I L P = some (some (.inl 3), n, I, L, P) := by
  have h1 := zt_cod (d := d) (n := n) (I := I) (L := L) (P := P) (Or.inl rfl)
  have h3 : mm_shr 3 0 = 3 := by decide +kernel
  rw [eJ0_length_8abf5]
  simp (disch := (first | assumption | omega | exact nb_ix (by omega) (by assumption) (by omega) (by omega) | exact nb_ix (by omega) rfl (by omega) (by omega) | exact nb_ok (by omega) rfl | decide)) only [kJ0_length_8abf5, h1, h3, ↓if_pos, ↓if_neg, nb_add, nb_sub, nb_mul, Int.toNat_natCast, mm_kr_s, mm_kv_s, if_pos, if_neg, sq_tn, Int.toNat_zero, Int.reduceToNat, Int.reduceNeg, Nat.reduceAdd, Int.reduceAdd, Int.reduceEq, Int.reduceLT, Int.reduceLE, Int.zero_add, nb_ui_s, nb_ui_k, nb_ui_a, sp_min, sp_max, sp_bits]
theorem zt_chv : (∀ i, i < 3 → mm_i2c (mm_and (mm_chr 1000004 ((i : Nat) : Int)) 255) = mm_chr 1000004 ((i : Nat) : Int) ∧ 0 ≤ mm_chr 1000004 ((i : Nat) : Int) ∧ mm_chr 1000004 ((i : Nat) : Int) < 65536) ∧ (∀ i, i < 7 → mm_i2c (mm_and (mm_chr 1000005 ((i : Nat) : Int)) 255) = mm_chr 1000005 ((i : Nat) : Int) ∧ 0 ≤ mm_chr 1000005 ((i : Nat) : Int) ∧ mm_chr 1000005 ((i : Nat) : Int) < 65536) := by decide +kernel
theorem zt_ch0 {i : Nat} (hi : i < 3) : mm_rn (d + 3) 270 [.inr (.inr (some 1000004)), .inl ((i : Int))] n I L P = some (some (.inl (mm_chr 1000004 (i : Int))), n, I, L, P) := by
  have h1 := zt_lat (d := d + 1) (n := n) (I := I) (L := L) (P := P) (s := 1000004) (Or.inl rfl)
  obtain ⟨v1, v2, v3⟩ := zt_chv.1 i hi
  have h2 : mm_rn (d + 2) 274 [.inr (.inr (some 1000008)), .inl ((i : Int))] n I L P = some (some (.inl (mm_chr 1000004 (i : Int))), n, I, L, P) := by
    have h3 := zt_chk (d := d) (n := n) (I := I) (L := L) (P := P) (i := (i : Int)) (k := 3) (by omega) (by omega)
    rw [eJ1_charAt_3b067]
    have h4 : ((1000008 = 1000008 ∧ 0 ≤ (i : Int) ∧ (i : Int) < 3) ∨ (1000008 = 1000009 ∧ 0 ≤ (i : Int) ∧ (i : Int) < 7)) := Or.inl ⟨rfl, by omega, by omega⟩
    simp (disch := (first | assumption | omega | exact nb_ix (by omega) (by assumption) (by omega) (by omega) | exact nb_ix (by omega) rfl (by omega) (by omega) | exact nb_ok (by omega) rfl | decide)) only [kJ1_charAt_3b067, h3, h4, Nat.reduceSub, v1, ↓if_pos, ↓if_neg, nb_add, nb_sub, nb_mul, Int.toNat_natCast, mm_kr_s, mm_kv_s, if_pos, if_neg, sq_tn, Int.toNat_zero, Int.reduceToNat, Int.reduceNeg, Nat.reduceAdd, Int.reduceAdd, Int.reduceEq, Int.reduceLT, Int.reduceLE, Int.zero_add, nb_ui_s, nb_ui_k, nb_ui_a, sp_min, sp_max, sp_bits]
    done
  rw [eJ0_charAt_5068e]
  simp (disch := (first | assumption | omega | exact nb_ix (by omega) (by assumption) (by omega) (by omega) | exact nb_ix (by omega) rfl (by omega) (by omega) | exact nb_ok (by omega) rfl | decide)) only [kJ0_charAt_5068e, h1, h2, ↓if_pos, ↓if_neg, nb_add, nb_sub, nb_mul, Int.toNat_natCast, mm_kr_s, mm_kv_s, if_pos, if_neg, sq_tn, Int.toNat_zero, Int.reduceToNat, Int.reduceNeg, Nat.reduceAdd, Int.reduceAdd, Int.reduceEq, Int.reduceLT, Int.reduceLE, Int.zero_add, nb_ui_s, nb_ui_k, nb_ui_a, sp_min, sp_max, sp_bits]
  done
theorem zt_ch1 {i : Nat} (hi : i < 7) : mm_rn (d + 3) 270 [.inr (.inr (some 1000005)), .inl ((i : Int))] n I L P = some (some (.inl (mm_chr 1000005 (i : Int))), n, I, L, P) := by
  have h1 := zt_lat (d := d + 1) (n := n) (I := I) (L := L) (P := P) (s := 1000005) (Or.inr rfl)
  obtain ⟨v1, v2, v3⟩ := zt_chv.2 i hi
  have h2 : mm_rn (d + 2) 274 [.inr (.inr (some 1000009)), .inl ((i : Int))] n I L P = some (some (.inl (mm_chr 1000005 (i : Int))), n, I, L, P) := by
    have h3 := zt_chk (d := d) (n := n) (I := I) (L := L) (P := P) (i := (i : Int)) (k := 7) (by omega) (by omega)
    rw [eJ1_charAt_3b067]
    have h4 : ((1000009 = 1000008 ∧ 0 ≤ (i : Int) ∧ (i : Int) < 3) ∨ (1000009 = 1000009 ∧ 0 ≤ (i : Int) ∧ (i : Int) < 7)) := Or.inr ⟨rfl, by omega, by omega⟩
    simp (disch := (first | assumption | omega | exact nb_ix (by omega) (by assumption) (by omega) (by omega) | exact nb_ix (by omega) rfl (by omega) (by omega) | exact nb_ok (by omega) rfl | decide)) only [kJ1_charAt_3b067, h3, h4, Nat.reduceSub, v1, ↓if_pos, ↓if_neg, nb_add, nb_sub, nb_mul, Int.toNat_natCast, mm_kr_s, mm_kv_s, if_pos, if_neg, sq_tn, Int.toNat_zero, Int.reduceToNat, Int.reduceNeg, Nat.reduceAdd, Int.reduceAdd, Int.reduceEq, Int.reduceLT, Int.reduceLE, Int.zero_add, nb_ui_s, nb_ui_k, nb_ui_a, sp_min, sp_max, sp_bits]
    done
  rw [eJ0_charAt_5068e]
  simp (disch := (first | assumption | omega | exact nb_ix (by omega) (by assumption) (by omega) (by omega) | exact nb_ix (by omega) rfl (by omega) (by omega) | exact nb_ok (by omega) rfl | decide)) only [kJ0_charAt_5068e, h1, h2, ↓if_pos, ↓if_neg, nb_add, nb_sub, nb_mul, Int.toNat_natCast, mm_kr_s, mm_kv_s, if_pos, if_neg, sq_tn, Int.toNat_zero, Int.reduceToNat, Int.reduceNeg, Nat.reduceAdd, Int.reduceAdd, Int.reduceEq, Int.reduceLT, Int.reduceLE, Int.zero_add, nb_ui_s, nb_ui_k, nb_ui_a, sp_min, sp_max, sp_bits]
  done
/-- the first of a row's signs that is c, from a on; b behind the last; -1: none -/
def zfi (f : Nat → Int) (c : Int) (a : Nat) : Nat → Int
  | 0 => -1
  | m + 1 => if f a = c then (a : Int) else zfi f c (a + 1) m
theorem zt_in {s N : Nat} (hs : ∀ (i : Nat), i < N → mm_rn d 270 [.inr (.inr (some s)), .inl ((i : Int))] n I L P = some (some (.inl (mm_chr s (i : Int))), n, I, L, P)) (hN : N ≤ 7) (hst : s = 1000004 ∨ s = 1000005) (c : Int) (f0 : Int) : ∀ (m a : Nat), a + m ≤ N → mm_E d 75 3 [.inr (.inr (some s)), .inl f0, .inl (((a + m : Nat) : Int)), .inl c, .inl ((a : Int))] [] [] n I L P = some (some (.inl (zfi (fun i => mm_chr s (i : Int)) c a m)), n, I, L, P) := by
  intro m
  induction m with
  | zero =>
    intro a h
    rw [hX10_signIn_3]
    have h1 : ((a + 0 : Nat) : Int) ≤ (a : Int) := by omega
    simp (disch := (first | assumption | omega | exact nb_ix (by omega) (by assumption) (by omega) (by omega) | exact nb_ix (by omega) rfl (by omega) (by omega) | exact nb_ok (by omega) rfl | decide)) only [kX10_signIn, ↓if_pos, ↓if_neg, nb_add, nb_sub, nb_mul, Int.toNat_natCast, mm_kr_s, mm_kv_s, if_pos, if_neg, sq_tn, Int.toNat_zero, Int.reduceToNat, Int.reduceNeg, Nat.reduceAdd, Int.reduceAdd, Int.reduceEq, Int.reduceLT, Int.reduceLE, Int.zero_add, nb_ui_s, nb_ui_k, nb_ui_a, sp_min, sp_max, sp_bits]
    rfl
  | succ m ih =>
    intro a h
    rw [hX10_signIn_3, show a + (m + 1) = a + 1 + m by omega]
    have h1 : ¬ ((a + 1 + m : Nat) : Int) ≤ (a : Int) := by omega
    have h2 := hs a (by omega)
    have e1 : (a : Int) + 1 = ((a + 1 : Nat) : Int) := by omega
    have ez : zfi (fun i => mm_chr s (i : Int)) c a (m + 1) = if mm_chr s (a : Int) = c then (a : Int) else zfi (fun i => mm_chr s (i : Int)) c (a + 1) m := rfl
    rw [ez]
    by_cases hc : mm_chr s (a : Int) = c
    · rw [if_pos hc]
      simp (disch := (first | assumption | omega | exact nb_ix (by omega) (by assumption) (by omega) (by omega) | exact nb_ix (by omega) rfl (by omega) (by omega) | exact nb_ok (by omega) rfl | decide)) only [kX10_signIn, h2, hc, ↓if_pos, ↓if_neg, nb_add, nb_sub, nb_mul, Int.toNat_natCast, mm_kr_s, mm_kv_s, if_pos, if_neg, sq_tn, Int.toNat_zero, Int.reduceToNat, Int.reduceNeg, Nat.reduceAdd, Int.reduceAdd, Int.reduceEq, Int.reduceLT, Int.reduceLE, Int.zero_add, nb_ui_s, nb_ui_k, nb_ui_a, sp_min, sp_max, sp_bits]
      done
    · rw [if_neg hc]
      simp (disch := (first | assumption | omega | exact nb_ix (by omega) (by assumption) (by omega) (by omega) | exact nb_ix (by omega) rfl (by omega) (by omega) | exact nb_ok (by omega) rfl | decide)) only [kX10_signIn, h2, e1, ↓if_pos, ↓if_neg, nb_add, nb_sub, nb_mul, Int.toNat_natCast, mm_kr_s, mm_kv_s, if_pos, if_neg, sq_tn, Int.toNat_zero, Int.reduceToNat, Int.reduceNeg, Nat.reduceAdd, Int.reduceAdd, Int.reduceEq, Int.reduceLT, Int.reduceLE, Int.zero_add, nb_ui_s, nb_ui_k, nb_ui_a, sp_min, sp_max, sp_bits]
      have := ih (a + 1) (by omega)
      exact this
def zh (c : Int) : Int := if c = 115 then 0 else if c = 112 then 1 else if c = 108 then 2 else -1
/-- which item a letter is: of s, p, l -/
def zi (q : Nat) (c : Int) : Int := if q = 0 then (if c = 103 then 0 else if c = 101 then 1 else if c = 107 then 2 else -1) else if q = 1 then (if c = 119 then 0 else if c = 111 then 1 else -1) else (if c = 97 then 0 else if c = 98 then 1 else -1)
def zF (q : Nat) : Nat := if q = 0 then 0 else if q = 1 then 3 else 5
def zM (q : Nat) : Nat := if q = 0 then 3 else 2
theorem zt_heads (c : Int) : mm_rn (d + 4) 75 [.inr (.inr (some 1000004)), .inl 0, .inl 3, .inl c] n I L P = some (some (.inl (zh c)), n, I, L, P) := by
  rw [eX10_signIn]
  simp (disch := (first | assumption | omega | exact nb_ix (by omega) (by assumption) (by omega) (by omega) | exact nb_ix (by omega) rfl (by omega) (by omega) | exact nb_ok (by omega) rfl | decide)) only [kX10_signIn, ↓if_pos, ↓if_neg, nb_add, nb_sub, nb_mul, Int.toNat_natCast, mm_kr_s, mm_kv_s, if_pos, if_neg, sq_tn, Int.toNat_zero, Int.reduceToNat, Int.reduceNeg, Nat.reduceAdd, Int.reduceAdd, Int.reduceEq, Int.reduceLT, Int.reduceLE, Int.zero_add, nb_ui_s, nb_ui_k, nb_ui_a, sp_min, sp_max, sp_bits]
  have h := zt_in (d := d + 3) (n := n) (I := I) (L := L) (P := P) (s := 1000004) (N := 3) (fun i hi => zt_ch0 hi) (by decide) (Or.inl rfl) c 0 3 0 (by decide)
  refine Eq.trans h ?_
  congr 3
  unfold zh
  simp only [zfi, eq_comm (b := c)]
  rfl
theorem zt_items {q : Nat} (hq : q < 3) (c : Int) : mm_rn (d + 4) 75 [.inr (.inr (some 1000005)), .inl ((zF q : Int)), .inl (((zF q + zM q : Nat) : Int)), .inl c] n I L P = some (some (.inl (if zi q c = -1 then -1 else (zF q : Int) + zi q c)), n, I, L, P) := by
  rw [eX10_signIn]
  simp (disch := (first | assumption | omega | exact nb_ix (by omega) (by assumption) (by omega) (by omega) | exact nb_ix (by omega) rfl (by omega) (by omega) | exact nb_ok (by omega) rfl | decide)) only [kX10_signIn, ↓if_pos, ↓if_neg, nb_add, nb_sub, nb_mul, Int.toNat_natCast, mm_kr_s, mm_kv_s, if_pos, if_neg, sq_tn, Int.toNat_zero, Int.reduceToNat, Int.reduceNeg, Nat.reduceAdd, Int.reduceAdd, Int.reduceEq, Int.reduceLT, Int.reduceLE, Int.zero_add, nb_ui_s, nb_ui_k, nb_ui_a, sp_min, sp_max, sp_bits]
  have hb : zF q + zM q ≤ 7 := by
    have : q = 0 ∨ q = 1 ∨ q = 2 := by omega
    rcases this with e | e | e <;> subst e <;> decide
  have h := zt_in (d := d + 3) (n := n) (I := I) (L := L) (P := P) (s := 1000005) (N := 7) (fun i hi => zt_ch1 hi) (by decide) (Or.inr rfl) c (zF q : Int) (zM q) (zF q) hb
  refine Eq.trans h ?_
  congr 4
  have : q = 0 ∨ q = 1 ∨ q = 2 := by omega
  rcases this with e | e | e <;> subst e
  · show (if (103 : Int) = c then (0 : Int) else if (101 : Int) = c then 1 else if (107 : Int) = c then 2 else -1) = if (if c = 103 then (0 : Int) else if c = 101 then 1 else if c = 107 then 2 else -1) = -1 then -1 else 0 + (if c = 103 then (0 : Int) else if c = 101 then 1 else if c = 107 then 2 else -1)
    grind
  · show (if (119 : Int) = c then (3 : Int) else if (111 : Int) = c then 4 else -1) = if (if c = 119 then (0 : Int) else if c = 111 then 1 else -1) = -1 then -1 else 3 + (if c = 119 then (0 : Int) else if c = 111 then 1 else -1)
    grind
  · show (if (97 : Int) = c then (5 : Int) else if (98 : Int) = c then 6 else -1) = if (if c = 97 then (0 : Int) else if c = 98 then 1 else -1) = -1 then -1 else 5 + (if c = 97 then (0 : Int) else if c = 98 then 1 else -1)
    grind
end SG
