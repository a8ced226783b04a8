/-! towns: what an item may be, its number -/
def zql (q k : Nat) : Int := if q = 0 then (if k = 0 then 1 else 0) else if q = 1 then (if k = 0 then 1 else 0) else 0
def zqh (q k : Nat) : Int := if q = 0 then (if k = 0 then 5 else if k = 1 then 4 else 99) else if q = 1 then (if k = 0 then 99 else 9) else 7
def zqu (q k : Nat) : Int := if q = 0 then (if k = 0 then 2 else if k = 1 then 1 else 20) else if q = 1 then (if k = 0 then 20 else 1) else (k : Int)
def zqc (q : Nat) : Int := if q = 0 then 115 else if q = 1 then 112 else 108
/-- the rows of numbers that stand there from the start -/
def zS (I : mm_I) : Prop := (∀ j, I 1000000 j = ([0, 3, 5, 7] : List Int).getD j 0) ∧ (∀ j, I 1000001 j = ([1, 0, 0, 1, 0, 0, 0] : List Int).getD j 0) ∧ (∀ j, I 1000002 j = ([5, 4, 99, 99, 9, 7, 7] : List Int).getD j 0) ∧ (∀ j, I 1000003 j = ([2, 1, 20, 20, 1, 0, 1] : List Int).getD j 0)
theorem zS.fr {I I' : mm_I} (h : zS I) (hf : ∀ b, 1000000 ≤ b → b ≤ 1000003 → I' b = I b) : zS I' := ⟨fun j => by rw [hf 1000000 (by decide) (by decide)]; exact h.1 j, fun j => by rw [hf 1000001 (by decide) (by decide)]; exact h.2.1 j, fun j => by rw [hf 1000002 (by decide) (by decide)]; exact h.2.2.1 j, fun j => by rw [hf 1000003 (by decide) (by decide)]; exact h.2.2.2 j⟩
theorem zS.f {I : mm_I} {q : Nat} (h : zS I) (hq : q < 3) : I 1000000 q = (zF q : Int) ∧ I 1000000 (q + 1) = ((zF q + zM q : Nat) : Int) := by
  rw [h.1, h.1]
  have : ∀ q, q < 3 → ([0, 3, 5, 7] : List Int).getD q 0 = (zF q : Int) ∧ ([0, 3, 5, 7] : List Int).getD (q + 1) 0 = ((zF q + zM q : Nat) : Int) := by decide +kernel
  exact this q hq
theorem zS.i {I : mm_I} {q k : Nat} (h : zS I) (hq : q < 3) (hk : k < zM q) : I 1000001 (zF q + k) = zql q k ∧ I 1000002 (zF q + k) = zqh q k ∧ I 1000003 (zF q + k) = zqu q k := by
  rw [h.2.1, h.2.2.1, h.2.2.2]
  have : ∀ q, q < 3 → ∀ k, k < zM q → ([1, 0, 0, 1, 0, 0, 0] : List Int).getD (zF q + k) 0 = zql q k ∧ ([5, 4, 99, 99, 9, 7, 7] : List Int).getD (zF q + k) 0 = zqh q k ∧ ([2, 1, 20, 20, 1, 0, 1] : List Int).getD (zF q + k) 0 = zqu q k := by decide +kernel
  exact this q hq k hk
theorem zFM {q : Nat} (hq : q < 3) : zF q + zM q ≤ 7 ∧ zM q ≤ 3 ∧ 2 ≤ zM q := by
  have : ∀ q, q < 3 → zF q + zM q ≤ 7 ∧ zM q ≤ 3 ∧ 2 ≤ zM q := by decide
  exact this q hq
theorem zi_lt {q : Nat} (hq : q < 3) (c : Int) (h : ¬ zi q c = -1) : ∃ k : Nat, k < zM q ∧ zi q c = (k : Int) := by
  unfold zi at h ⊢
  have : q = 0 ∨ q = 1 ∨ q = 2 := by omega
  rcases this with e | e | e <;> subst e <;> simp only [if_true, Nat.one_ne_zero, if_false, z20, z21] at h ⊢
  · by_cases h1 : c = 103
    · exact ⟨0, by decide, by rw [if_pos h1]; rfl⟩
    · rw [if_neg h1] at h ⊢
      by_cases h2 : c = 101
      · exact ⟨1, by decide, by rw [if_pos h2]; rfl⟩
      · rw [if_neg h2] at h ⊢
        by_cases h3 : c = 107
        · exact ⟨2, by decide, by rw [if_pos h3]; rfl⟩
        · rw [if_neg h3] at h
          exact absurd rfl h
  · by_cases h1 : c = 119
    · exact ⟨0, by decide, by rw [if_pos h1]; rfl⟩
    · rw [if_neg h1] at h ⊢
      by_cases h2 : c = 111
      · exact ⟨1, by decide, by rw [if_pos h2]; rfl⟩
      · rw [if_neg h2] at h
        exact absurd rfl h
  · by_cases h1 : c = 97
    · exact ⟨0, by decide, by rw [if_pos h1]; rfl⟩
    · rw [if_neg h1] at h ⊢
      by_cases h2 : c = 98
      · exact ⟨1, by decide, by rw [if_pos h2]; rfl⟩
      · rw [if_neg h2] at h
        exact absurd rfl h
theorem zi_no {q : Nat} {c : Int} (h : ¬ zi q c = -1) : c ≠ 59 ∧ c ≠ -1 ∧ c ≠ 32 := by
  refine ⟨fun e => ?_, fun e => ?_, fun e => ?_⟩ <;> subst e <;> unfold zi at h <;> simp at h
section NU
variable {n d S i j : Nat} {I L : mm_I} {P : mm_P} {T : Nat → Int}
theorem zt_itemOf {q : Nat} (hq : q < 3) (c : Int) : mm_rn (d + 1) 179 [.inl (zqc q), .inl c] n I L P = some (some (.inl (zi q c)), n, I, L, P) := by
  rw [eX12_itemOf]
  unfold zi zqc
  have : q = 0 ∨ q = 1 ∨ q = 2 := by omega
  rcases this with e | e | e <;> subst e <;> simp only [if_true, Nat.one_ne_zero, if_false, z20, z21]
  · by_cases h1 : c = 103
    · simp (disch := (first | assumption | omega | exact nb_ix (by omega) (by assumption) (by omega) (by omega) | exact nb_ix (by omega) rfl (by omega) (by omega) | exact nb_ok (by omega) rfl | decide)) only [kX12_itemOf, ↓if_pos, ↓if_neg, nb_add, nb_sub, nb_mul, Int.toNat_natCast, mm_kr_s, mm_kv_s, if_pos, if_neg, sq_tn, Int.toNat_zero, Int.reduceToNat, Int.reduceNeg, Nat.reduceAdd, Int.reduceAdd, Int.reduceEq, Int.reduceLT, Int.reduceLE, Int.zero_add, nb_ui_s, nb_ui_k, nb_ui_a, sp_min, sp_max, sp_bits]
      done
    · by_cases h2 : c = 101
      · simp (disch := (first | assumption | omega | exact nb_ix (by omega) (by assumption) (by omega) (by omega) | exact nb_ix (by omega) rfl (by omega) (by omega) | exact nb_ok (by omega) rfl | decide)) only [kX12_itemOf, ↓if_pos, ↓if_neg, nb_add, nb_sub, nb_mul, Int.toNat_natCast, mm_kr_s, mm_kv_s, if_pos, if_neg, sq_tn, Int.toNat_zero, Int.reduceToNat, Int.reduceNeg, Nat.reduceAdd, Int.reduceAdd, Int.reduceEq, Int.reduceLT, Int.reduceLE, Int.zero_add, nb_ui_s, nb_ui_k, nb_ui_a, sp_min, sp_max, sp_bits]
        done
      · by_cases h3 : c = 107
        · simp (disch := (first | assumption | omega | exact nb_ix (by omega) (by assumption) (by omega) (by omega) | exact nb_ix (by omega) rfl (by omega) (by omega) | exact nb_ok (by omega) rfl | decide)) only [kX12_itemOf, ↓if_pos, ↓if_neg, nb_add, nb_sub, nb_mul, Int.toNat_natCast, mm_kr_s, mm_kv_s, if_pos, if_neg, sq_tn, Int.toNat_zero, Int.reduceToNat, Int.reduceNeg, Nat.reduceAdd, Int.reduceAdd, Int.reduceEq, Int.reduceLT, Int.reduceLE, Int.zero_add, nb_ui_s, nb_ui_k, nb_ui_a, sp_min, sp_max, sp_bits]
          done
        · simp (disch := (first | assumption | omega | exact nb_ix (by omega) (by assumption) (by omega) (by omega) | exact nb_ix (by omega) rfl (by omega) (by omega) | exact nb_ok (by omega) rfl | decide)) only [kX12_itemOf, ↓if_pos, ↓if_neg, nb_add, nb_sub, nb_mul, Int.toNat_natCast, mm_kr_s, mm_kv_s, if_pos, if_neg, sq_tn, Int.toNat_zero, Int.reduceToNat, Int.reduceNeg, Nat.reduceAdd, Int.reduceAdd, Int.reduceEq, Int.reduceLT, Int.reduceLE, Int.zero_add, nb_ui_s, nb_ui_k, nb_ui_a, sp_min, sp_max, sp_bits]
          done
  · by_cases h1 : c = 119
    · simp (disch := (first | assumption | omega | exact nb_ix (by omega) (by assumption) (by omega) (by omega) | exact nb_ix (by omega) rfl (by omega) (by omega) | exact nb_ok (by omega) rfl | decide)) only [kX12_itemOf, ↓if_pos, ↓if_neg, nb_add, nb_sub, nb_mul, Int.toNat_natCast, mm_kr_s, mm_kv_s, if_pos, if_neg, sq_tn, Int.toNat_zero, Int.reduceToNat, Int.reduceNeg, Nat.reduceAdd, Int.reduceAdd, Int.reduceEq, Int.reduceLT, Int.reduceLE, Int.zero_add, nb_ui_s, nb_ui_k, nb_ui_a, sp_min, sp_max, sp_bits]
      done
    · by_cases h2 : c = 111
      · simp (disch := (first | assumption | omega | exact nb_ix (by omega) (by assumption) (by omega) (by omega) | exact nb_ix (by omega) rfl (by omega) (by omega) | exact nb_ok (by omega) rfl | decide)) only [kX12_itemOf, ↓if_pos, ↓if_neg, nb_add, nb_sub, nb_mul, Int.toNat_natCast, mm_kr_s, mm_kv_s, if_pos, if_neg, sq_tn, Int.toNat_zero, Int.reduceToNat, Int.reduceNeg, Nat.reduceAdd, Int.reduceAdd, Int.reduceEq, Int.reduceLT, Int.reduceLE, Int.zero_add, nb_ui_s, nb_ui_k, nb_ui_a, sp_min, sp_max, sp_bits]
        done
      · simp (disch := (first | assumption | omega | exact nb_ix (by omega) (by assumption) (by omega) (by omega) | exact nb_ix (by omega) rfl (by omega) (by omega) | exact nb_ok (by omega) rfl | decide)) only [kX12_itemOf, ↓if_pos, ↓if_neg, nb_add, nb_sub, nb_mul, Int.toNat_natCast, mm_kr_s, mm_kv_s, if_pos, if_neg, sq_tn, Int.toNat_zero, Int.reduceToNat, Int.reduceNeg, Nat.reduceAdd, Int.reduceAdd, Int.reduceEq, Int.reduceLT, Int.reduceLE, Int.zero_add, nb_ui_s, nb_ui_k, nb_ui_a, sp_min, sp_max, sp_bits]
        done
  · by_cases h1 : c = 97
    · simp (disch := (first | assumption | omega | exact nb_ix (by omega) (by assumption) (by omega) (by omega) | exact nb_ix (by omega) rfl (by omega) (by omega) | exact nb_ok (by omega) rfl | decide)) only [kX12_itemOf, ↓if_pos, ↓if_neg, nb_add, nb_sub, nb_mul, Int.toNat_natCast, mm_kr_s, mm_kv_s, if_pos, if_neg, sq_tn, Int.toNat_zero, Int.reduceToNat, Int.reduceNeg, Nat.reduceAdd, Int.reduceAdd, Int.reduceEq, Int.reduceLT, Int.reduceLE, Int.zero_add, nb_ui_s, nb_ui_k, nb_ui_a, sp_min, sp_max, sp_bits]
      done
    · by_cases h2 : c = 98
      · simp (disch := (first | assumption | omega | exact nb_ix (by omega) (by assumption) (by omega) (by omega) | exact nb_ix (by omega) rfl (by omega) (by omega) | exact nb_ok (by omega) rfl | decide)) only [kX12_itemOf, ↓if_pos, ↓if_neg, nb_add, nb_sub, nb_mul, Int.toNat_natCast, mm_kr_s, mm_kv_s, if_pos, if_neg, sq_tn, Int.toNat_zero, Int.reduceToNat, Int.reduceNeg, Nat.reduceAdd, Int.reduceAdd, Int.reduceEq, Int.reduceLT, Int.reduceLE, Int.zero_add, nb_ui_s, nb_ui_k, nb_ui_a, sp_min, sp_max, sp_bits]
        done
      · simp (disch := (first | assumption | omega | exact nb_ix (by omega) (by assumption) (by omega) (by omega) | exact nb_ix (by omega) rfl (by omega) (by omega) | exact nb_ok (by omega) rfl | decide)) only [kX12_itemOf, ↓if_pos, ↓if_neg, nb_add, nb_sub, nb_mul, Int.toNat_natCast, mm_kr_s, mm_kv_s, if_pos, if_neg, sq_tn, Int.toNat_zero, Int.reduceToNat, Int.reduceNeg, Nat.reduceAdd, Int.reduceAdd, Int.reduceEq, Int.reduceLT, Int.reduceLE, Int.zero_add, nb_ui_s, nb_ui_k, nb_ui_a, sp_min, sp_max, sp_bits]
        done
theorem zt_qk {q k : Nat} (hq : q < 3) (hk : k < zM q) : (q = 0 ∧ (k = 0 ∨ k = 1 ∨ k = 2)) ∨ (q = 1 ∧ (k = 0 ∨ k = 1)) ∨ (q = 2 ∧ (k = 0 ∨ k = 1)) := by
  have : q = 0 ∨ q = 1 ∨ q = 2 := by omega
  rcases this with e | e | e <;> subst e
  · have h : zM 0 = 3 := rfl
    omega
  · have h : zM 1 = 2 := rfl
    omega
  · have h : zM 2 = 2 := rfl
    omega
theorem zt_lowest {q k : Nat} (hq : q < 3) (hk : k < zM q) : mm_rn (d + 1) 180 [.inl (zqc q), .inl ((k : Int))] n I L P = some (some (.inl (zql q k)), n, I, L, P) := by
  rw [eX12_lowest]
  rcases zt_qk hq hk with ⟨e, f⟩ | ⟨e, f⟩ | ⟨e, f⟩ <;> subst e
  · rcases f with e | e | e <;> subst e <;> simp (disch := decide) only [kX12_lowest, zqc, zql, if_true, if_false, if_pos, if_neg, Nat.one_ne_zero, z20, z21]
  · rcases f with e | e <;> subst e <;> simp (disch := decide) only [kX12_lowest, zqc, zql, if_true, if_false, if_pos, if_neg, Nat.one_ne_zero, z20, z21]
  · rcases f with e | e <;> subst e <;> simp (disch := decide) only [kX12_lowest, zqc, zql, if_true, if_false, if_pos, if_neg, Nat.one_ne_zero, z20, z21]
theorem zt_highest {q k : Nat} (hq : q < 3) (hk : k < zM q) : mm_rn (d + 1) 181 [.inl (zqc q), .inl ((k : Int))] n I L P = some (some (.inl (zqh q k)), n, I, L, P) := by
  rw [eX12_highest]
  rcases zt_qk hq hk with ⟨e, f⟩ | ⟨e, f⟩ | ⟨e, f⟩ <;> subst e
  · rcases f with e | e | e <;> subst e <;> simp (disch := decide) only [kX12_highest, zqc, zqh, if_true, if_false, if_pos, if_neg, Nat.one_ne_zero, z20, z21]
  · rcases f with e | e <;> subst e <;> simp (disch := decide) only [kX12_highest, zqc, zqh, if_true, if_false, if_pos, if_neg, Nat.one_ne_zero, z20, z21]
  · rcases f with e | e <;> subst e <;> simp (disch := decide) only [kX12_highest, zqc, zqh, if_true, if_false, if_pos, if_neg, Nat.one_ne_zero, z20, z21]
theorem zt_usual {q k : Nat} (hq : q < 3) (hk : k < zM q) : mm_rn (d + 1) 182 [.inl (zqc q), .inl ((k : Int))] n I L P = some (some (.inl (zqu q k)), n, I, L, P) := by
  rw [eX12_usual]
  rcases zt_qk hq hk with ⟨e, f⟩ | ⟨e, f⟩ | ⟨e, f⟩ <;> subst e
  · rcases f with e | e | e <;> subst e <;> simp (disch := decide) only [kX12_usual, zqc, zqu, if_true, if_false, if_pos, if_neg, Nat.one_ne_zero, z20, z21]
  · rcases f with e | e <;> subst e <;> simp (disch := decide) only [kX12_usual, zqc, zqu, if_true, if_false, if_pos, if_neg, Nat.one_ne_zero, z20, z21]
  · rcases f with e | e <;> subst e <;> simp (disch := decide) only [kX12_usual, zqc, zqu, if_true, if_false, if_pos, if_neg, Nat.one_ne_zero, z20, z21]
abbrev zno : Type := Sum Nat (Nat × Int)
/-- what a number comes to: m digits from j on, at most two -/
def znum (T : Nat → Int) (S j m : Nat) (lo hi : Int) : zno := if m = 0 ∨ zdg (zp T S (j + m)) then .inl (j + m) else if lo ≤ zv T j m ∧ zv T j m ≤ hi then .inr (j + m, zv T j m) else .inl (j + m - 1)
def zna : zno → Nat
  | .inl p => p
  | .inr r => r.1
def znw : zno → Int
  | .inl p => (p : Int)
  | .inr _ => -1
def znr : zno → Int
  | .inl _ => 0
  | .inr _ => 1
/-- the class's heap behind it -/
def znI (I : mm_I) (it : Nat) : zno → mm_I
  | .inl p => mm_ui I 1 2 (p : Int)
  | .inr r => mm_ui (mm_ui I 1 2 (r.1 : Int)) 4 it r.2
theorem zn_le {m : Nat} {lo hi : Int} (hj : j ≤ S) (hd : zd T S j m) : zna (znum T S j m lo hi) ≤ S := by
  have := zd_S hj hd
  unfold znum
  split
  · exact this
  · split
    · exact this
    · show j + m - 1 ≤ S
      omega
set_option maxHeartbeats 2000000 in
theorem zt_cnum {q k m : Nat} (hS0 : zS I) (hq : q < 3) (hkm : k < zM q) (h : zc n P I T S) (p3 : P 3 0 = some 4) (hk : zk T S i j) (hi : I 1 2 = (i : Int)) (hm : m ≤ 2) (hd : zd T S j m) (hd2 : m < 2 → ¬ zdg (zp T S (j + m))) : mm_rn (d + 3) 78 [.inr (.inr (some 3)), .inr (.inr (some 1)), .inl (((zF q + k : Nat) : Int))] n I L P = some (some (.inl (znr (znum T S j m (zql q k) (zqh q k)))), n, znI I (zF q + k) (znum T S j m (zql q k) (zqh q k)), L, P) := by
  have hn := h.1
  have hS2 := h.2.2.2.1
  have hb := zFM hq
  have hjm := zd_S hk.2.1 hd
  have e2 : ((2 : Nat) : Int) = 2 := rfl
  have hnum := zc_number (d := d) (L := L) (D := 2) h hk hi (by decide) (by decide) hm hd hd2
  rw [e2] at hnum
  obtain ⟨s1, s2, s3⟩ := hS0.i hq hkm
  have hv := zv_b (D := 2) (by decide) hm hd
  have sx1 : 1000000 ≤ 1000001 ∧ (mm_ty 1000001).1 = 30 ∧ 0 ≤ ((zF q + k : Nat) : Int) ∧ ((zF q + k : Nat) : Int) < ((mm_ty 1000001).2 : Int) := ⟨by decide, by decide +kernel, by omega, by rw [show mm_ty 1000001 = (30, 7) by decide +kernel]; show ((zF q + k : Nat) : Int) < 7; omega⟩
  have sx2 : 1000000 ≤ 1000002 ∧ (mm_ty 1000002).1 = 30 ∧ 0 ≤ ((zF q + k : Nat) : Int) ∧ ((zF q + k : Nat) : Int) < ((mm_ty 1000002).2 : Int) := ⟨by decide, by decide +kernel, by omega, by rw [show mm_ty 1000002 = (30, 7) by decide +kernel]; show ((zF q + k : Nat) : Int) < 7; omega⟩
  rw [eX10_readNumber]
  unfold znum
  by_cases c1 : m = 0 ∨ zdg (zp T S (j + m))
  · rw [if_pos c1] at hnum
    rw [if_pos c1]
    simp (disch := (first | assumption | omega | exact nb_ix (by omega) (by assumption) (by omega) (by omega) | exact nb_ix (by omega) rfl (by omega) (by omega) | exact nb_ok (by omega) rfl | decide)) only [kX10_readNumber, hnum, ↓if_pos, ↓if_neg, nb_add, nb_sub, nb_mul, Int.toNat_natCast, mm_kr_s, mm_kv_s, if_pos, if_neg, sq_tn, Int.toNat_zero, Int.reduceToNat, Int.reduceNeg, Nat.reduceAdd, Int.reduceAdd, Int.reduceEq, Int.reduceLT, Int.reduceLE, Int.zero_add, nb_ui_s, nb_ui_k, nb_ui_a, sp_min, sp_max, sp_bits]
    rfl
  · rw [if_neg c1] at hnum
    rw [if_neg c1]
    have c2 : ¬ zv T j m = -1 := by omega
    by_cases c3 : zql q k ≤ zv T j m ∧ zv T j m ≤ zqh q k
    · rw [if_pos c3]
      have c4 : ¬ zv T j m < zql q k := by omega
      have c5 := c3.2
      simp (disch := (first | assumption | omega | exact nb_ix (by omega) (by assumption) (by omega) (by omega) | exact nb_ix (by omega) rfl (by omega) (by omega) | exact nb_ok (by omega) rfl | decide)) only [kX10_readNumber, hnum, sx1, sx2, s1, s2, p3, ↓if_pos, ↓if_neg, nb_add, nb_sub, nb_mul, Int.toNat_natCast, mm_kr_s, mm_kv_s, if_pos, if_neg, sq_tn, Int.toNat_zero, Int.reduceToNat, Int.reduceNeg, Nat.reduceAdd, Int.reduceAdd, Int.reduceEq, Int.reduceLT, Int.reduceLE, Int.zero_add, nb_ui_s, nb_ui_k, nb_ui_a, sp_min, sp_max, sp_bits]
      rfl
    · rw [if_neg c3]
      have hm0 : ¬ m = 0 := fun w => c1 (Or.inl w)
      have e3 : ((j + m : Nat) : Int) - 1 = ((j + m - 1 : Nat) : Int) := by omega
      by_cases c4 : zv T j m < zql q k
      · simp (disch := (first | assumption | omega | exact nb_ix (by omega) (by assumption) (by omega) (by omega) | exact nb_ix (by omega) rfl (by omega) (by omega) | exact nb_ok (by omega) rfl | decide)) only [kX10_readNumber, hnum, sx1, s1, e3, nb_ui_2, ↓if_pos, ↓if_neg, nb_add, nb_sub, nb_mul, Int.toNat_natCast, mm_kr_s, mm_kv_s, if_pos, if_neg, sq_tn, Int.toNat_zero, Int.reduceToNat, Int.reduceNeg, Nat.reduceAdd, Int.reduceAdd, Int.reduceEq, Int.reduceLT, Int.reduceLE, Int.zero_add, nb_ui_s, nb_ui_k, nb_ui_a, sp_min, sp_max, sp_bits]
        rfl
      · have c5 : ¬ zv T j m ≤ zqh q k := by omega
        simp (disch := (first | assumption | omega | exact nb_ix (by omega) (by assumption) (by omega) (by omega) | exact nb_ix (by omega) rfl (by omega) (by omega) | exact nb_ok (by omega) rfl | decide)) only [kX10_readNumber, hnum, sx1, sx2, s1, s2, e3, nb_ui_2, ↓if_pos, ↓if_neg, nb_add, nb_sub, nb_mul, Int.toNat_natCast, mm_kr_s, mm_kv_s, if_pos, if_neg, sq_tn, Int.toNat_zero, Int.reduceToNat, Int.reduceNeg, Nat.reduceAdd, Int.reduceAdd, Int.reduceEq, Int.reduceLT, Int.reduceLE, Int.zero_add, nb_ui_s, nb_ui_k, nb_ui_a, sp_min, sp_max, sp_bits]
        rfl
set_option maxHeartbeats 2000000 in
theorem zt_mnum {lo hi : Int} {m : Nat} (h : zm n P I T S) (hk : zk T S i j) (hi2 : I 239 3 = (i : Int)) (hw : I 239 4 = -1) (hm : m ≤ 2) (hd : zd T S j m) (hd2 : m < 2 → ¬ zdg (zp T S (j + m))) : ∃ r : Int, mm_rn (d + 3) 178 [.inr (.inr (some 239)), .inl lo, .inl hi] n I L P = some (some (.inl r), n, mm_ui (mm_ui I 239 3 (zna (znum T S j m lo hi) : Int)) 239 4 (znw (znum T S j m lo hi)), L, P) ∧ (∀ p, znum T S j m lo hi = .inr p → r = p.2) := by
  have ok := h.1.ok
  have hS2 := h.2.2.1
  have hjS := hk.2.1
  have hl := zm_look (d := d) (L := L) h hk hi2
  have hjm := zd_S hjS hd
  have hv := zv_b (D := 2) (by decide) hm hd
  have hh : ∀ k, mm_rn (d + 2) 152 [.inr (.inr (some 239))] n (mm_ui I 239 3 ((j + k : Nat) : Int)) L P = some (some (.inl (zp T S (j + k))), n, mm_ui I 239 3 ((j + k : Nat) : Int), L, P) := fun k => zm_here (i := j + k) (h.up (a := 239) (k := 3) (z := ((j + k : Nat) : Int)) (by decide) (by decide)) (by rw [nb_ui_s])
  have hdg : ∀ (c : Int) (J : mm_I), mm_rn (d + 2) 155 [.inl c] n J L P = some (some (.inl (if 48 ≤ c ∧ c ≤ 57 then 1 else 0)), n, J, L, P) := fun c J => zm_dig c
  have hbad : ∀ (p : Nat), mm_rn (d + 2) 154 [.inr (.inr (some 239))] n (mm_ui I 239 3 (p : Int)) L P = some (none, n, mm_ui (mm_ui I 239 3 (p : Int)) 239 4 (p : Int), L, P) := fun p => zm_bad h.1 (by rw [nb_ui_k (by decide)]; exact hw) (by rw [nb_ui_s])
  have hok : ∀ (p : Nat), mm_ui (mm_ui I 239 3 (p : Int)) 239 4 (-1) = mm_ui I 239 3 (p : Int) := fun p => nb_ui_id (by rw [nb_ui_k (by decide)]; exact hw)
  rw [eX12_number]
  by_cases hm0 : m = 0
  · subst hm0
    have hg : ¬ (48 ≤ zp T S j ∧ zp T S j ≤ 57) := hd2 (by decide)
    have hdj := hdg (zp T S j) (mm_ui I 239 3 (j : Int))
    rw [if_neg hg] at hdj
    have hbj := hbad j
    refine ⟨lo, ?_, fun p hp => ?_⟩
    · unfold znum
      rw [if_pos (Or.inl rfl)]
      simp (disch := (first | assumption | omega | exact nb_ix (by omega) (by assumption) (by omega) (by omega) | exact nb_ix (by omega) rfl (by omega) (by omega) | exact nb_ok (by omega) rfl | decide)) only [kX12_number, hl, hdj, hbj, ↓if_pos, ↓if_neg, nb_add, nb_sub, nb_mul, Int.toNat_natCast, mm_kr_s, mm_kv_s, if_pos, if_neg, sq_tn, Int.toNat_zero, Int.reduceToNat, Int.reduceNeg, Nat.reduceAdd, Int.reduceAdd, Int.reduceEq, Int.reduceLT, Int.reduceLE, Int.zero_add, nb_ui_s, nb_ui_k, nb_ui_a, sp_min, sp_max, sp_bits]
      rfl
    · unfold znum at hp
      rw [if_pos (Or.inl rfl)] at hp
      cases hp
  · have hg0 : zdg (zp T S j) := hd 0 (by omega)
    obtain ⟨q1, q2⟩ := zp_lt hg0
    have hg0' := hg0
    rw [q2] at hg0'
    have hdj := hdg (zp T S j) (mm_ui I 239 3 (j : Int))
    rw [if_pos hg0, q2] at hdj
    have hh0 : mm_rn (d + 2) 152 [.inr (.inr (some 239))] n (mm_ui I 239 3 (j : Int)) L P = some (some (.inl (zp T S j)), n, mm_ui I 239 3 (j : Int), L, P) := hh 0
    rw [q2] at hh0
    rw [q2] at hl
    obtain ⟨r1, r2⟩ := hg0'
    have e1 : (j : Int) + 1 = ((j + 1 : Nat) : Int) := by omega
    have v1 : zv T j 1 = T j - 48 := by show 10 * 0 + T (j + 0) - 48 = _; rw [Nat.add_zero]; omega
    have hb1 : 0 ≤ T j - 48 ∧ T j - 48 ≤ 9 := by omega
    refine ⟨zv T j m, ?_, fun p hp => ?_⟩
    · have part : mm_E (d + 2) 178 0 [.inr (.inr (some 239)), .inl lo, .inl hi, mm_junk] [] [] n I L P = mm_E (d + 2) 178 67 [.inr (.inr (some 239)), .inl lo, .inl hi, .inl (zv T j m)] [] [] n (mm_ui I 239 3 ((j + m : Nat) : Int)) L P := by
        by_cases hm1 : m = 1
        · subst hm1
          have hg1 : ¬ (48 ≤ zp T S (j + 1) ∧ zp T S (j + 1) ≤ 57) := hd2 (by decide)
          have hd1 := hdg (zp T S (j + 1)) (mm_ui I 239 3 ((j + 1 : Nat) : Int))
          rw [if_neg hg1] at hd1
          rw [v1]
          simp (disch := (first | assumption | omega | exact nb_ix (by omega) (by assumption) (by omega) (by omega) | exact nb_ix (by omega) rfl (by omega) (by omega) | exact nb_ok (by omega) rfl | decide)) only [kX12_number, hl, hdj, hh0, e1, nb_ui_2, hh 1, hd1, ↓if_pos, ↓if_neg, nb_add, nb_sub, nb_mul, Int.toNat_natCast, mm_kr_s, mm_kv_s, if_pos, if_neg, sq_tn, Int.toNat_zero, Int.reduceToNat, Int.reduceNeg, Nat.reduceAdd, Int.reduceAdd, Int.reduceEq, Int.reduceLT, Int.reduceLE, Int.zero_add, nb_ui_s, nb_ui_k, nb_ui_a, sp_min, sp_max, sp_bits]
          done
        · have hm2 : m = 2 := by omega
          subst hm2
          have hg1 : zdg (zp T S (j + 1)) := hd 1 (by omega)
          obtain ⟨q3, q4⟩ := zp_lt hg1
          have hd1 := hdg (zp T S (j + 1)) (mm_ui I 239 3 ((j + 1 : Nat) : Int))
          rw [if_pos hg1, q4] at hd1
          have hh1 := hh 1
          rw [q4] at hg1 hh1
          obtain ⟨r3, r4⟩ := hg1
          have v2 : zv T j 2 = 10 * (T j - 48) + T (j + 1) - 48 := by show 10 * zv T j 1 + T (j + 1) - 48 = _; rw [v1]
          have e2 : ((j + 1 : Nat) : Int) + 1 = ((j + 2 : Nat) : Int) := by omega
          rw [v2]
          simp (disch := (first | assumption | omega | exact nb_ix (by omega) (by assumption) (by omega) (by omega) | exact nb_ix (by omega) rfl (by omega) (by omega) | exact nb_ok (by omega) rfl | decide)) only [kX12_number, hl, hdj, hh0, e1, nb_ui_2, hh1, hd1, e2, ↓if_pos, ↓if_neg, nb_add, nb_sub, nb_mul, Int.toNat_natCast, mm_kr_s, mm_kv_s, if_pos, if_neg, sq_tn, Int.toNat_zero, Int.reduceToNat, Int.reduceNeg, Nat.reduceAdd, Int.reduceAdd, Int.reduceEq, Int.reduceLT, Int.reduceLE, Int.zero_add, nb_ui_s, nb_ui_k, nb_ui_a, sp_min, sp_max, sp_bits]
          done
      rw [part]
      have hdm := hdg (zp T S (j + m)) (mm_ui I 239 3 ((j + m : Nat) : Int))
      have hhm := hh m
      unfold znum
      by_cases c1 : zdg (zp T S (j + m))
      · rw [if_pos c1] at hdm
        rw [if_pos (Or.inr c1)]
        simp (disch := (first | assumption | omega | exact nb_ix (by omega) (by assumption) (by omega) (by omega) | exact nb_ix (by omega) rfl (by omega) (by omega) | exact nb_ok (by omega) rfl | decide)) only [kX12_number, hhm, hdm, hbad (j + m), ↓if_pos, ↓if_neg, nb_add, nb_sub, nb_mul, Int.toNat_natCast, mm_kr_s, mm_kv_s, if_pos, if_neg, sq_tn, Int.toNat_zero, Int.reduceToNat, Int.reduceNeg, Nat.reduceAdd, Int.reduceAdd, Int.reduceEq, Int.reduceLT, Int.reduceLE, Int.zero_add, nb_ui_s, nb_ui_k, nb_ui_a, sp_min, sp_max, sp_bits]
        rfl
      · rw [if_neg c1] at hdm
        rw [if_neg (by rintro (w | w); exact hm0 w; exact c1 w)]
        by_cases c3 : lo ≤ zv T j m ∧ zv T j m ≤ hi
        · have h5 : mm_rn (d + 2) 145 [.inl (zv T j m), .inl lo, .inl hi] n (mm_ui I 239 3 ((j + m : Nat) : Int)) L P = _ := sp_min2 _ _ _
          rw [if_pos c3] at h5
          rw [if_pos c3]
          show _ = (some (some (.inl (zv T j m)), n, mm_ui (mm_ui I 239 3 ((j + m : Nat) : Int)) 239 4 (-1), L, P) : Option mm_A)
          rw [hok]
          simp (disch := (first | assumption | omega | exact nb_ix (by omega) (by assumption) (by omega) (by omega) | exact nb_ix (by omega) rfl (by omega) (by omega) | exact nb_ok (by omega) rfl | decide)) only [kX12_number, hhm, hdm, h5, ↓if_pos, ↓if_neg, nb_add, nb_sub, nb_mul, Int.toNat_natCast, mm_kr_s, mm_kv_s, if_pos, if_neg, sq_tn, Int.toNat_zero, Int.reduceToNat, Int.reduceNeg, Nat.reduceAdd, Int.reduceAdd, Int.reduceEq, Int.reduceLT, Int.reduceLE, Int.zero_add, nb_ui_s, nb_ui_k, nb_ui_a, sp_min, sp_max, sp_bits]
          done
        · have h5 : mm_rn (d + 2) 145 [.inl (zv T j m), .inl lo, .inl hi] n (mm_ui I 239 3 ((j + m : Nat) : Int)) L P = _ := sp_min2 _ _ _
          rw [if_neg c3] at h5
          rw [if_neg c3]
          have e3 : ((j + m : Nat) : Int) - 1 = ((j + m - 1 : Nat) : Int) := by omega
          simp (disch := (first | assumption | omega | exact nb_ix (by omega) (by assumption) (by omega) (by omega) | exact nb_ix (by omega) rfl (by omega) (by omega) | exact nb_ok (by omega) rfl | decide)) only [kX12_number, hhm, hdm, h5, e3, nb_ui_2, hbad (j + m - 1), ↓if_pos, ↓if_neg, nb_add, nb_sub, nb_mul, Int.toNat_natCast, mm_kr_s, mm_kv_s, if_pos, if_neg, sq_tn, Int.toNat_zero, Int.reduceToNat, Int.reduceNeg, Nat.reduceAdd, Int.reduceAdd, Int.reduceEq, Int.reduceLT, Int.reduceLE, Int.zero_add, nb_ui_s, nb_ui_k, nb_ui_a, sp_min, sp_max, sp_bits]
          rfl
    · unfold znum at hp
      split at hp
      · cases hp
      · split at hp
        · cases hp; rfl
        · cases hp
end NU
