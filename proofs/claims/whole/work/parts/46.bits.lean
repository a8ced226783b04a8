/-! PURE PART: numbers and bits of the machine -/
theorem nb_bv (a : Nat) : (Int32.ofInt (a : Int)).toBitVec = BitVec.ofNat 32 a := by
  rw [Int32.toBitVec_ofInt, BitVec.ofInt_natCast]
theorem nb_ti (x : Int32) (a : Nat) (h : a < 2147483648) (e : x.toBitVec = BitVec.ofNat 32 a) : x.toInt = (a : Int) := by
  show x.toBitVec.toInt = _
  rw [e, BitVec.toInt_ofNat']
  rw [Int.bmod_def]
  split <;> omega
theorem nb_or {a b : Nat} (ha : a < 2147483648) (hb : b < 2147483648) : mm_or a b = ((a ||| b : Nat) : Int) := by
  unfold mm_or
  refine nb_ti _ _ ?_ ?_
  · exact Nat.or_lt_two_pow (n := 31) ha hb
  · rw [Int32.toBitVec_or, nb_bv, nb_bv, ← BitVec.ofNat_or]
theorem nb_and {a b : Nat} (ha : a < 2147483648) : mm_and a b = ((a &&& b : Nat) : Int) := by
  unfold mm_and
  refine nb_ti _ _ ?_ ?_
  · exact Nat.lt_of_le_of_lt Nat.and_le_left ha
  · rw [Int32.toBitVec_and, nb_bv, nb_bv, ← BitVec.ofNat_and]
theorem nb_shl0 : ∀ k, k < 31 → mm_shl 1 ((k : Nat) : Int) = ((2 ^ k : Nat) : Int) := by decide +kernel
theorem nb_tst0 : ∀ a, a < 256 → ∀ k, k < 8 → mm_and (mm_shr ((a : Nat) : Int) ((k : Nat) : Int)) 1 = if Nat.testBit a k = true then 1 else 0 := by decide +kernel
theorem nb_not0 : ∀ a, a < 256 → ∀ k, k < 8 → mm_and ((a : Nat) : Int) (mm_xor (mm_shl 1 ((k : Nat) : Int)) (-1)) = ((if Nat.testBit a k = true then a - 2 ^ k else a : Nat) : Int) := by decide +kernel
theorem nb_set0 : ∀ a, a < 256 → ∀ k, k < 8 → mm_or ((a : Nat) : Int) (mm_shl 1 ((k : Nat) : Int)) = ((if Nat.testBit a k = true then a else a + 2 ^ k : Nat) : Int) := by decide +kernel
theorem nb_ush {x : Int} : mm_and (mm_ushr x 24) 255 = mm_and (mm_shr x 24) 255 ∧ mm_and (mm_ushr x 16) 255 = mm_and (mm_shr x 16) 255 ∧ mm_and (mm_ushr x 8) 255 = mm_and (mm_shr x 8) 255 ∧ mm_and (mm_ushr x 0) 255 = mm_and (mm_shr x 0) 255 := by
  have key : ∀ (s : Nat), s ≤ 24 → mm_and (mm_ushr x s) 255 = mm_and (mm_shr x s) 255 := by
    intro s hs
    unfold mm_and mm_ushr mm_shr
    congr 1
    rw [Int32.ofInt_toInt, Int32.ofInt_toInt]
    apply Int32.toBitVec.inj
    have e31 : ((Int32.ofInt (s : Int) &&& 31).toBitVec.smod 32).toNat = s := by
      rw [Int32.toBitVec_and, nb_bv]
      have : ∀ s : Nat, s ≤ 24 → ((BitVec.ofNat 32 s &&& Int32.toBitVec 31).smod 32).toNat = s := by decide +kernel
      exact this s hs
    have e32 : (((Int32.ofInt (s : Int)).toUInt32 &&& Int32.toUInt32 31).toBitVec % 32).toNat = s := by
      show (((Int32.ofInt (s : Int)).toBitVec &&& Int32.toBitVec 31) % 32).toNat = s
      rw [nb_bv]
      have : ∀ s : Nat, s ≤ 24 → ((BitVec.ofNat 32 s &&& Int32.toBitVec 31) % 32).toNat = s := by decide +kernel
      exact this s hs
    rw [Int32.toBitVec_and, Int32.toBitVec_and, Int32.toBitVec_shiftRight]
    show ((((Int32.ofInt x).toUInt32 >>> ((Int32.ofInt (s:Int)).toUInt32 &&& Int32.toUInt32 31)).toBitVec) &&& _) = _
    rw [UInt32.toBitVec_shiftRight, BitVec.ushiftRight_eq', e32, BitVec.sshiftRight_eq', e31]
    have hX : (Int32.ofInt x).toUInt32.toBitVec = (Int32.ofInt x).toBitVec := rfl
    rw [hX]
    generalize (Int32.ofInt x).toBitVec = X
    have e255 : (Int32.ofInt 255).toBitVec = BitVec.ofNat 32 (2 ^ 8 - 1) := by decide
    rw [e255]
    apply BitVec.eq_of_getLsbD_eq
    intro i hi
    rw [BitVec.getLsbD_and, BitVec.getLsbD_and, BitVec.getLsbD_ushiftRight, BitVec.getLsbD_sshiftRight]
    by_cases h8 : i < 8
    · have h1 : s + i < 32 := by omega
      have h2 : ¬ 32 ≤ i := by omega
      simp [h1, h2]
    · have h3 : (BitVec.ofNat 32 (2 ^ 8 - 1)).getLsbD i = false := by
        rw [BitVec.getLsbD_ofNat, Nat.testBit_two_pow_sub_one]
        simp [h8]
      rw [h3, Bool.and_false, Bool.and_false]
  exact ⟨key 24 (by omega), key 16 (by omega), key 8 (by omega), key 0 (by omega)⟩
theorem nb_w {z : Int} (h : -2147483648 ≤ z) (h2 : z < 2147483648) : mm_w z = z := by
  unfold mm_w
  rw [Int.bmod_def]
  split <;> omega
theorem nb_add {x y : Int} (h : -2147483648 ≤ x + y) (h2 : x + y < 2147483648) : mm_add x y = x + y := nb_w h h2
theorem nb_sub {x y : Int} (h : -2147483648 ≤ x - y) (h2 : x - y < 2147483648) : mm_sub x y = x - y := nb_w h h2
theorem nb_mul {x y : Int} (h : -2147483648 ≤ x * y) (h2 : x * y < 2147483648) : mm_mul x y = x * y := nb_w h h2
theorem nb_ix {n a ci k : Nat} {i : Int} (h : a < n) (ht : mm_ty a = (ci, k)) (h0 : 0 ≤ i) (h1 : i < (k : Int)) : mm_ix n a ci i := by
  refine ⟨h, ?_, h0, ?_⟩ <;> rw [ht]
  exact h1
theorem nb_ui_s {I : mm_I} {a k : Nat} {z : Int} : mm_ui I a k z a k = z := if_pos ⟨rfl, rfl⟩
theorem nb_ui_k {I : mm_I} {a k j : Nat} {z : Int} (h : j ≠ k) : mm_ui I a k z a j = I a j := if_neg (fun q => h q.2)
theorem nb_ui_a {I : mm_I} {a b k j : Nat} {z : Int} (h : b ≠ a) : mm_ui I a k z b j = I b j := if_neg (fun q => h q.1)
theorem nb_ui_r {I : mm_I} {a b k : Nat} {z : Int} (h : b ≠ a) : mm_ui I a k z b = I b := funext fun _ => nb_ui_a h
/-- a loop that goes on step by step comes to where it ends -/
theorem nb_loop {α : Type} (F : Nat → α) (N : Nat) (h : ∀ k, k < N → F k = F (k + 1)) : F 0 = F N := by
  have : ∀ k, k ≤ N → F 0 = F k := by
    intro k
    induction k with
    | zero => intro _; rfl
    | succ k ih => intro hk; rw [ih (by omega), h k (by omega)]
  exact this N (Nat.le_refl N)
