/-! the class's cry -/
def sp_hush0 (N : Nat → Int) (m k : Nat) : Nat → Int := fun j => if j < k ∧ Nat.testBit m j = true then 0 else N j
theorem sp_cry {d n a t p v s : Nat} {I L : mm_I} {P : mm_P} (ha : sp_N n P a) (ht : sp_T n P t) (hs : I t 0 = (s : Int)) (hs8 : s ≤ 8) (hp : p < s) (hat : I a 3 = (p : Int)) (hv : I (t + 4) p = (v : Int)) {m : Nat} (hm : m = sp_mask (fun q => decide (0 < I (a + 3) q)) 8 &&& v) :
    mm_rn (d + 3) 46 [.inr (.inr (some a)), .inr (.inr (some t))] n I L P = some (some (.inl (sp_pc m : Int)), n, sp_row I (a + 3) (sp_hush0 (I (a + 3)) m 8), L, P) := by
  have oa := ha.ok
  have ot := ht.ok
  have ha2 := ha
  have ht2 := ht
  obtain ⟨a0, a1, a2, a3, a4, a5, a6, a7⟩ := ha
  obtain ⟨t0, t1, t2, t3, t4, t5, t6, t7, t8, t9, t10, t11⟩ := ht
  have hl1 : sp_mask (fun q => decide (0 < I (a + 3) q)) 8 < 256 := sp_mask_lt _ 8
  have hm2 : m < 256 := by rw [hm]; exact Nat.lt_of_le_of_lt Nat.and_le_left hl1
  rw [eX5_hushSeen]
  simp (disch := assumption) only [kX5_hushSeen]
  rw [sp_troubles (d := d + 1) ha2, mm_kr_s]
  simp (disch := assumption) only [kX5_hushSeen, hat]
  rw [sp_viewOf (d := d) ht2 hs hs8 hp, mm_kr_s, hv]
  simp (disch := assumption) only [kX5_hushSeen]
  rw [nb_and (Nat.lt_trans hl1 (by decide)), ← hm]
  clear hm hl1
  have key := nb_loop (fun k => mm_E (d + 2) 46 16 [.inr (.inr (some a)), .inr (.inr (some t)), .inl (m : Int), .inl (k : Nat)] [] [] n (sp_row I (a + 3) (sp_hush0 (I (a + 3)) m k)) L P) 8 (fun k hk => by
    have hk8 : ¬ (8 : Int) ≤ (k : Int) := by omega
    have hix : mm_ix n (a + 3) 20 (k : Int) := nb_ix a0 a4 (by omega) (by omega)
    rw [hX5_hushSeen_16]
    simp (disch := assumption) only [kX5_hushSeen, hk8, if_false]
    rw [nb_tst0 m hm2 k hk]
    have hstep : ∀ j, j ≠ k → sp_hush0 (I (a + 3)) m (k + 1) j = sp_hush0 (I (a + 3)) m k j := by
      intro j hj
      unfold sp_hush0
      have e9 : (j < k + 1 ∧ Nat.testBit m j = true) = (j < k ∧ Nat.testBit m j = true) := by
        apply propext
        constructor
        · intro ⟨q2, q3⟩; exact ⟨by omega, q3⟩
        · intro ⟨q2, q3⟩; exact ⟨by omega, q3⟩
      simp only [e9]
    cases hb : Nat.testBit m k with
    | true =>
      simp (disch := assumption) only [kX5_hushSeen, if_true, a7, Int.toNat_natCast]
      rw [nb_add (by omega) (by omega), sp_row_u, sp_row_e (g := sp_hush0 (I (a + 3)) m (k + 1))]
      · rfl
      · intro j
        by_cases hj : j = k
        · subst hj
          rw [if_pos rfl]
          unfold sp_hush0
          rw [if_pos ⟨by omega, hb⟩]
        · rw [if_neg hj, hstep j hj]
    | false =>
      simp (disch := assumption) only [kX5_hushSeen, if_true, Bool.false_eq_true, if_false, Int.reduceEq]
      rw [nb_add (by omega) (by omega), sp_row_e (f := sp_hush0 (I (a + 3)) m k) (g := sp_hush0 (I (a + 3)) m (k + 1))]
      · rfl
      · intro j
        by_cases hj : j = k
        · subst hj
          unfold sp_hush0
          rw [if_neg (by omega), if_neg (by rw [hb]; simp)]
        · rw [hstep j hj])
  have e0 : sp_row I (a + 3) (sp_hush0 (I (a + 3)) m 0) = I := by
    rw [sp_row_e (g := I (a + 3)), sp_row_id]
    intro j
    unfold sp_hush0
    rw [if_neg (by omega)]
  rw [e0] at key
  refine key.trans ?_
  rw [hX5_hushSeen_16]
  simp (disch := assumption) only [kX5_hushSeen]
  simp (disch := assumption) only [kX5_hushSeen, show ((8 : Nat) : Int) = 8 from rfl, Int.le_refl, if_true]
  rw [sp_bits (d := d + 1) hm2, mm_kr_s]
  simp only [kX5_hushSeen]
