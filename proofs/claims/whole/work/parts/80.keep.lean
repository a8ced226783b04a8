/-! acts: what is kept ahead of each, what is refused -/
def sk_na (na : Nat) : Nat := if na = 40 then 40 else na + 1
def sk_H (na : Nat) (H : Nat → Nat → Int) (N : Nat → Int) : Nat → Nat → Int := fun i => if na = 40 then (if i = 39 then N else H (i + 1)) else (if i = na then N else H i)
def sk_nx (nx : Nat) : Nat := if nx = 39 then 0 else nx + 1
def rc_past (I : mm_I) (nx na : Nat) (H : Nat → Nat → Int) : Prop := I 48 1 = (nx : Int) ∧ nx < 40 ∧ I 48 2 = (na : Int) ∧ na ≤ 40 ∧ ∀ i, i < na → sq_cN I (50 + 4 * ((nx + 40 - na + i) % 40)) (H i)
def rm_past (I : mm_I) (na : Nat) (H : Nat → Nat → Int) : Prop := I 239 33 = (na : Int) ∧ na ≤ 40 ∧ ∀ i, i < na → ∀ j, j < 211 → I 260 (211 * i + j) = H i j
/-- the rows of the night, the log and the past -/
def sq_TL : List Nat := List.range' 40 170
theorem sq_TL_mem {b : Nat} : b ∈ sq_TL ↔ 40 ≤ b ∧ b < 210 := by
  unfold sq_TL
  rw [List.mem_range'_1]
theorem sq_TL_ge : ∀ b, b ∈ sq_TL → 36 ≤ b := by
  intro b hb
  rw [sq_TL_mem] at hb
  omega
theorem sq_cN_rows {I I' : mm_I} {a : Nat} {N : Nat → Int} (h : sq_cN I a N) (e : ∀ k, k < 4 → I' (a + k) = I (a + k)) : sq_cN I' a N := by
  intro j hj
  rw [← h j hj]
  unfold sq_rd
  rw [e 1 (by omega), e 2 (by omega), e 3 (by omega), show I' a = I a from e 0 (by omega)]
theorem nb_xor {a b : Nat} (ha : a < 2147483648) (hb : b < 2147483648) : mm_xor a b = ((a ^^^ b : Nat) : Int) := by
  unfold mm_xor
  refine nb_ti _ _ ?_ ?_
  · exact Nat.xor_lt_two_pow (n := 31) ha hb
  · rw [Int32.toBitVec_xor, nb_bv, nb_bv, ← BitVec.ofNat_xor]
theorem sq_fmod {n d a : Nat} {I L : mm_I} {P : mm_P} (ha : a < 100000000) : mm_rn (d + 1) 264 [.inl ((a : Int)), .inl 100] n I L P = some (some (.inl (((a % 100 : Nat) : Int))), n, I, L, P) := by
  have hx : mm_xor (a : Int) 100 = ((a ^^^ 100 : Nat) : Int) := nb_xor (b := 100) (by omega) (by omega)
  have hm : mm_w (Int.tmod (a : Int) 100) = ((a % 100 : Nat) : Int) := by
    rw [Int.tmod_eq_emod_of_nonneg (by omega), nb_w (by omega) (by omega)]; omega
  rw [eJ9_floorMod_7cf53]
  simp (disch := (first | assumption | omega | exact nb_ix (by omega) (by assumption) (by omega) (by omega) | exact nb_ix (by omega) rfl (by omega) (by omega) | exact nb_ok (by omega) rfl | decide)) only [kJ9_floorMod_7cf53, hx, hm, ↓if_pos, ↓if_neg, nb_add, nb_sub, nb_mul, Int.toNat_natCast, mm_kr_s, mm_kv_s, if_pos, if_neg, sq_tn, Int.toNat_zero, Int.reduceToNat, Int.reduceNeg, Nat.reduceAdd, Int.reduceAdd, Int.reduceEq, Int.reduceLT, Int.reduceLE, Int.zero_add, nb_ui_s, nb_ui_k, nb_ui_a, sp_min, sp_max, sp_bits]
section KP
variable {n t u d nx na : Nat} {I L : mm_I} {P : mm_P} {N : Nat → Int} {H : Nat → Nat → Int}
set_option maxHeartbeats 1000000 in
theorem sq_ckeep (hP : sq_P n P t u) (hN : sq_cN I 40 N) (hA : rc_past I nx na H) : sq_X none n L P (fun I' => rc_past I' (sk_nx nx) (sk_na na) (sk_H na H N) ∧ (∀ b, b ≠ 48 → ¬ (50 ≤ b ∧ b < 210) → I' b = I b)) (mm_rn (d + 2) 51 [.inr (.inr (some 48)), .inr (.inr (some 40))] n I L P) := by
  obtain ⟨hn, htu, _, _, _, hNt, _, hC, _, hN49⟩ := hP
  obtain ⟨p1, p2, p3, p4, p5⟩ := hA
  have hA50 := hNt (50 + 4 * nx) (by omega)
  have ok50 := hA50.ok
  have ok48 : mm_ok n 48 6 := nb_ok (by omega) rfl
  have h49 := hN49 nx p2
  rw [eX6_keep]
  simp (disch := (first | assumption | omega | exact nb_ix (by omega) (by assumption) (by omega) (by omega) | exact nb_ix (by omega) rfl (by omega) (by omega) | exact nb_ok (by omega) rfl | decide)) only [kX6_keep, hC, p1, h49, ↓if_pos, ↓if_neg, nb_add, nb_sub, nb_mul, Int.toNat_natCast, mm_kr_s, mm_kv_s, if_pos, if_neg, sq_tn, Int.toNat_zero, Int.reduceToNat, Int.reduceNeg, Nat.reduceAdd, Int.reduceAdd, Int.reduceEq, Int.reduceLT, Int.reduceLE, Int.zero_add, nb_ui_s, nb_ui_k, nb_ui_a, sp_min, sp_max, sp_bits]
  refine sq_kv (sq_ccopy (d := d) hA50 (hNt 40 (by omega)) (by omega) hN) (fun J hJ => ?_)
  have e48 : J 48 = I 48 := hJ.2 48 (by simp; omega)
  have q1 : J 48 1 = (nx : Int) := by rw [e48]; exact p1
  have q3 : J 48 2 = (na : Int) := by rw [e48]; exact p3
  have fin : ∀ K : mm_I, K 48 1 = (sk_nx nx : Int) → K 48 2 = (sk_na na : Int) → (∀ b, b ≠ 48 → K b = J b) → (rc_past K (sk_nx nx) (sk_na na) (sk_H na H N) ∧ (∀ b, b ≠ 48 → ¬ (50 ≤ b ∧ b < 210) → K b = I b)) := by
    intro K k1 k2 k3
    refine ⟨⟨k1, ?_, k2, ?_, fun i hi => ?_⟩, fun b hb hb2 => ?_⟩
    · unfold sk_nx; split <;> omega
    · unfold sk_na; split <;> omega
    · have ej : ∀ a, 50 ≤ a → ∀ M, sq_cN J a M → sq_cN K a M := by
        intro a ha M hM
        exact sq_cN_rows hM (fun k _ => k3 (a + k) (by omega))
      unfold sk_na at hi ⊢
      unfold sk_H sk_nx
      by_cases c40 : na = 40
      · rw [if_pos c40] at hi ⊢
        rw [if_pos c40]
        have hpos : ((if nx = 39 then 0 else nx + 1) + 40 - 40 + i) % 40 = (nx + 1 + i) % 40 := by
          split <;> omega
        rw [hpos]
        by_cases c39 : i = 39
        · rw [if_pos c39]
          have : (nx + 1 + i) % 40 = nx := by omega
          rw [this]
          exact ej _ (by omega) _ hJ.1
        · rw [if_neg c39]
          have h0 := p5 (i + 1) (by omega)
          have e : (nx + 40 - na + (i + 1)) % 40 = (nx + 1 + i) % 40 := by omega
          rw [e] at h0
          refine ej _ (by omega) _ (sq_cN_rows h0 (fun k hk => hJ.2 _ (by simp; omega)))
      · rw [if_neg c40] at hi ⊢
        rw [if_neg c40]
        have hpos : ((if nx = 39 then 0 else nx + 1) + 40 - (na + 1) + i) % 40 = (nx + 40 - na + i) % 40 := by
          split <;> omega
        rw [hpos]
        by_cases c39 : i = na
        · rw [if_pos c39]
          have : (nx + 40 - na + i) % 40 = nx := by omega
          rw [this]
          exact ej _ (by omega) _ hJ.1
        · rw [if_neg c39]
          have h0 := p5 i (by omega)
          refine ej _ (by omega) _ (sq_cN_rows h0 (fun k hk => hJ.2 _ (by simp; omega)))
    · rw [k3 b hb]
      exact hJ.2 b (by simp; omega)
  have emin : min 40 ((na : Int) + 1) = (sk_na na : Int) := by unfold sk_na; split <;> omega
  by_cases c39 : nx = 39
  · have e1 : (sk_nx nx : Int) = 0 := by unfold sk_nx; rw [if_pos c39]; rfl
    simp (disch := (first | assumption | omega | exact nb_ix (by omega) (by assumption) (by omega) (by omega) | exact nb_ix (by omega) rfl (by omega) (by omega) | exact nb_ok (by omega) rfl | decide)) only [kX6_keep, q1, q3, emin, ↓if_pos, ↓if_neg, nb_add, nb_sub, nb_mul, Int.toNat_natCast, mm_kr_s, mm_kv_s, if_pos, if_neg, sq_tn, Int.toNat_zero, Int.reduceToNat, Int.reduceNeg, Nat.reduceAdd, Int.reduceAdd, Int.reduceEq, Int.reduceLT, Int.reduceLE, Int.zero_add, nb_ui_s, nb_ui_k, nb_ui_a, sp_min, sp_max, sp_bits]
    refine sq_ret (fin _ ?_ ?_ (fun b hb => ?_))
    · rw [e1]; simp [mm_ui]
    · simp [mm_ui]
    · rw [nb_ui_r hb, nb_ui_r hb]
  · have e1 : (sk_nx nx : Int) = (nx : Int) + 1 := by unfold sk_nx; rw [if_neg c39]; rfl
    simp (disch := (first | assumption | omega | exact nb_ix (by omega) (by assumption) (by omega) (by omega) | exact nb_ix (by omega) rfl (by omega) (by omega) | exact nb_ok (by omega) rfl | decide)) only [kX6_keep, q1, q3, emin, ↓if_pos, ↓if_neg, nb_add, nb_sub, nb_mul, Int.toNat_natCast, mm_kr_s, mm_kv_s, if_pos, if_neg, sq_tn, Int.toNat_zero, Int.reduceToNat, Int.reduceNeg, Nat.reduceAdd, Int.reduceAdd, Int.reduceEq, Int.reduceLT, Int.reduceLE, Int.zero_add, nb_ui_s, nb_ui_k, nb_ui_a, sp_min, sp_max, sp_bits]
    refine sq_ret (fin _ ?_ ?_ (fun b hb => ?_))
    · rw [e1]; simp [mm_ui]
    · simp [mm_ui]
    · rw [nb_ui_r hb, nb_ui_r hb]
/-- the model keeps: rows 260 and the count of acts alone -/
def sq_fk (I I' : mm_I) : Prop := (∀ b, b ≠ 239 → b ≠ 260 → I' b = I b) ∧ (∀ j, j ≠ 33 → I' 239 j = I 239 j)
set_option maxHeartbeats 1000000 in
theorem sq_mkeep (hM : sp_M n P) (hN : sq_mN I N) (hA : rm_past I na H) : sq_X none n L P (fun I' => rm_past I' (sk_na na) (sk_H na H N) ∧ sq_fk I I') (mm_rn (d + 1) 205 [.inr (.inr (some 239))] n I L P) := by
  have ok := hM.ok
  obtain ⟨hn, hP⟩ := hM
  obtain ⟨p1, p2, p3⟩ := hA
  rw [eX12_keep]
  -- the copy of the night to place m
  have copy : ∀ (m : Nat) (x : mm_V) (J : mm_I), m < 40 → J 239 33 = (m : Int) → sq_fk I J → (∀ i, i < m → ∀ j, j < 211 → J 260 (211 * i + j) = sk_H na H N i j) → m + 1 = sk_na na → sk_H na H N m = N → sq_X none n L P (fun I' => rm_past I' (sk_na na) (sk_H na H N) ∧ sq_fk I I') (mm_E d 205 54 [.inr (.inr (some 239)), .inl 0] [] [] n J L P) := by
    intro m x J hm h1 h2 h3 h4 h5
    refine sq_loop (fun i (K : mm_I) => mm_E d 205 54 [.inr (.inr (some 239)), .inl ((i : Nat))] [] [] n K L P) (fun i K => K 239 = J 239 ∧ sq_fk I K ∧ (∀ a, a < m → ∀ j, j < 211 → K 260 (211 * a + j) = sk_H na H N a j) ∧ (∀ j, j < i → K 260 (211 * m + j) = N j)) 211 (s0 := J) ⟨rfl, h2, h3, fun j hj => by omega⟩ ?_ ?_
    · intro i K hi ⟨k1, k2, k3, k4⟩ ih
      have e33 : K 239 33 = (m : Int) := by rw [k1]; exact h1
      have e57 : K 257 i = N i := by rw [k2.1 257 (by decide) (by decide)]; exact hN i hi
      have e8 : (211 * (m : Int) + (i : Int)).toNat = 211 * m + i := by omega
      rw [hX12_keep_54]
      simp (disch := (first | assumption | omega | exact nb_ix (by omega) (by assumption) (by omega) (by omega) | exact nb_ix (by omega) rfl (by omega) (by omega) | exact nb_ok (by omega) rfl | decide)) only [kX12_keep, hP, e33, e57, e8, ↓if_pos, ↓if_neg, nb_add, nb_sub, nb_mul, Int.toNat_natCast, mm_kr_s, mm_kv_s, if_pos, if_neg, sq_tn, Int.toNat_zero, Int.reduceToNat, Int.reduceNeg, Nat.reduceAdd, Int.reduceAdd, Int.reduceEq, Int.reduceLT, Int.reduceLE, Int.zero_add, nb_ui_s, nb_ui_k, nb_ui_a, sp_min, sp_max, sp_bits]
      refine ih _ ⟨?_, ⟨fun b hb hb2 => ?_, fun j hj => ?_⟩, fun a ha j hj => ?_, fun j hj => ?_⟩
      · rw [nb_ui_r (by decide)]; exact k1
      · rw [nb_ui_r hb2]; exact k2.1 b hb hb2
      · rw [nb_ui_a (by decide)]; exact k2.2 j hj
      · have : 211 * a + 211 ≤ 211 * m := by omega
        rw [nb_ui_k (by omega)]; exact k3 a ha j hj
      · by_cases hji : j = i
        · subst hji; rw [nb_ui_s]
        · rw [nb_ui_k (by omega)]; exact k4 j (by omega)
    · intro K ⟨k1, k2, k3, k4⟩
      have e33 : K 239 33 = (m : Int) := by rw [k1]; exact h1
      rw [hX12_keep_54]
      simp (disch := (first | assumption | omega | exact nb_ix (by omega) (by assumption) (by omega) (by omega) | exact nb_ix (by omega) rfl (by omega) (by omega) | exact nb_ok (by omega) rfl | decide)) only [kX12_keep, e33, ↓if_pos, ↓if_neg, nb_add, nb_sub, nb_mul, Int.toNat_natCast, mm_kr_s, mm_kv_s, if_pos, if_neg, sq_tn, Int.toNat_zero, Int.reduceToNat, Int.reduceNeg, Nat.reduceAdd, Int.reduceAdd, Int.reduceEq, Int.reduceLT, Int.reduceLE, Int.zero_add, nb_ui_s, nb_ui_k, nb_ui_a, sp_min, sp_max, sp_bits]
      refine sq_ret ⟨⟨?_, ?_, fun i hi j hj => ?_⟩, ⟨fun b hb hb2 => ?_, fun j hj => ?_⟩⟩
      · rw [nb_ui_s, ← h4]; omega
      · rw [← h4]; omega
      · rw [nb_ui_a (by decide)]
        by_cases c : i = m
        · subst c; rw [k4 j hj, h5]
        · exact k3 i (by omega) j hj
      · rw [nb_ui_r hb]; exact k2.1 b hb hb2
      · rw [nb_ui_k hj]; exact k2.2 j hj
  by_cases c40 : na = 40
  · have ena : sk_na na = 40 := if_pos c40
    subst c40
    have p1' : I 239 33 = 40 := p1
    simp (disch := (first | assumption | omega | exact nb_ix (by omega) (by assumption) (by omega) (by omega) | exact nb_ix (by omega) rfl (by omega) (by omega) | exact nb_ok (by omega) rfl | decide)) only [kX12_keep, p1', ↓if_pos, ↓if_neg, nb_add, nb_sub, nb_mul, Int.toNat_natCast, mm_kr_s, mm_kv_s, if_pos, if_neg, sq_tn, Int.toNat_zero, Int.reduceToNat, Int.reduceNeg, Nat.reduceAdd, Int.reduceAdd, Int.reduceEq, Int.reduceLT, Int.reduceLE, Int.zero_add, nb_ui_s, nb_ui_k, nb_ui_a, sp_min, sp_max, sp_bits]
    refine sq_loop (fun i (K : mm_I) => mm_E d 205 13 [.inr (.inr (some 239)), .inl (((i + 211 : Nat) : Int))] [] [] n K L P) (fun i K => K 239 = I 239 ∧ (∀ b, b ≠ 260 → K b = I b) ∧ (∀ j, j < i → K 260 j = I 260 (j + 211)) ∧ (∀ j, i ≤ j → K 260 j = I 260 j)) 8229 (s0 := I) ⟨rfl, fun _ _ => rfl, fun j hj => by omega, fun _ _ => rfl⟩ ?_ ?_
    · intro i K hi ⟨k1, k2, k3, k4⟩ ih
      have e1 : ((i + 211 : Nat) : Int) - 211 = (i : Int) := by omega
      have e2 := k4 (i + 211) (by omega)
      rw [hX12_keep_13]
      simp (disch := (first | assumption | omega | exact nb_ix (by omega) (by assumption) (by omega) (by omega) | exact nb_ix (by omega) rfl (by omega) (by omega) | exact nb_ok (by omega) rfl | decide)) only [kX12_keep, hP, e1, e2, ↓if_pos, ↓if_neg, nb_add, nb_sub, nb_mul, Int.toNat_natCast, mm_kr_s, mm_kv_s, if_pos, if_neg, sq_tn, Int.toNat_zero, Int.reduceToNat, Int.reduceNeg, Nat.reduceAdd, Int.reduceAdd, Int.reduceEq, Int.reduceLT, Int.reduceLE, Int.zero_add, nb_ui_s, nb_ui_k, nb_ui_a, sp_min, sp_max, sp_bits]
      refine ih _ ⟨?_, fun b hb => ?_, fun j hj => ?_, fun j hj => ?_⟩
      · rw [nb_ui_r (by decide)]; exact k1
      · rw [nb_ui_r hb]; exact k2 b hb
      · by_cases hji : j = i
        · subst hji; rw [nb_ui_s]
        · rw [nb_ui_k hji]; exact k3 j (by omega)
      · rw [nb_ui_k (by omega)]; exact k4 j (by omega)
    · intro K ⟨k1, k2, k3, k4⟩
      have e33 : K 239 33 = 40 := by rw [k1]; exact p1'
      rw [hX12_keep_13]
      simp (disch := (first | assumption | omega | exact nb_ix (by omega) (by assumption) (by omega) (by omega) | exact nb_ix (by omega) rfl (by omega) (by omega) | exact nb_ok (by omega) rfl | decide)) only [kX12_keep, e33, Int.reduceSub, ↓if_pos, ↓if_neg, nb_add, nb_sub, nb_mul, Int.toNat_natCast, mm_kr_s, mm_kv_s, if_pos, if_neg, sq_tn, Int.toNat_zero, Int.reduceToNat, Int.reduceNeg, Nat.reduceAdd, Int.reduceAdd, Int.reduceEq, Int.reduceLT, Int.reduceLE, Int.zero_add, nb_ui_s, nb_ui_k, nb_ui_a, sp_min, sp_max, sp_bits]
      refine copy 39 mm_junk _ (by omega) (by rw [nb_ui_s]; rfl) ⟨fun b hb hb2 => ?_, fun j hj => ?_⟩ (fun i hi j hj => ?_) (by rw [ena]) ?_
      · rw [nb_ui_r hb]; exact k2 b hb2
      · rw [nb_ui_k hj, k1]
      · rw [nb_ui_a (by decide), k3 _ (by omega)]
        have : sk_H 40 H N i = H (i + 1) := by unfold sk_H; rw [if_pos rfl, if_neg (by omega)]
        rw [this, ← p3 (i + 1) (by omega) j hj]
        congr 1
        omega
      · unfold sk_H; rw [if_pos rfl, if_pos rfl]
  · have c40' : ¬ (na : Int) = 40 := by omega
    simp (disch := (first | assumption | omega | exact nb_ix (by omega) (by assumption) (by omega) (by omega) | exact nb_ix (by omega) rfl (by omega) (by omega) | exact nb_ok (by omega) rfl | decide)) only [kX12_keep, p1, ↓if_pos, ↓if_neg, nb_add, nb_sub, nb_mul, Int.toNat_natCast, mm_kr_s, mm_kv_s, if_pos, if_neg, sq_tn, Int.toNat_zero, Int.reduceToNat, Int.reduceNeg, Nat.reduceAdd, Int.reduceAdd, Int.reduceEq, Int.reduceLT, Int.reduceLE, Int.zero_add, nb_ui_s, nb_ui_k, nb_ui_a, sp_min, sp_max, sp_bits]
    refine copy na mm_junk I (by omega) p1 ⟨fun _ _ _ => rfl, fun _ _ => rfl⟩ (fun i hi j hj => ?_) (by unfold sk_na; rw [if_neg c40]) ?_
    · have : sk_H na H N i = H i := by unfold sk_H; rw [if_neg c40, if_neg (by omega)]
      rw [this]
      exact p3 i hi j hj
    · unfold sk_H; rw [if_neg c40, if_pos rfl]
/-- a refusal -/
theorem sq_cref {k : Nat} (hP : sq_P n P t u) (hk : k < 5) : mm_rn (d + 1) 98 [.inr (.inr (some 0)), .inl ((k : Int))] n I L P = some (some (.inl (-1)), n, mm_ui I 238 k (mm_add (I 238 k) 1), L, P) := by
  have ok0 := sq_ok0 hP
  have hC := hP.2.2.2.2.2.2.2.1
  have hn := hP.1
  have e5 : ((mm_ty 238).2 : Int) = 5 := rfl
  rw [eX11_refuse]
  simp (disch := (first | assumption | omega | exact nb_ix (by omega) (by assumption) (by omega) (by omega) | exact nb_ix (by omega) rfl (by omega) (by omega) | exact nb_ok (by omega) rfl | decide)) only [kX11_refuse, ↓if_pos, ↓if_neg, hC, e5, Int.toNat_natCast]
theorem sq_mref {k : Nat} (hM : sp_M n P) (hk : k < 5) : mm_rn (d + 1) 206 [.inr (.inr (some 239)), .inl ((k : Int))] n I L P = some (some (.inl 1), n, mm_ui I 258 k (mm_add (I 258 k) 1), L, P) := by
  have ok := hM.ok
  obtain ⟨hn, hP⟩ := hM
  have h1 : ¬ (k : Int) = -1 := by omega
  rw [eX12_isRefused]
  simp (disch := (first | assumption | omega | exact nb_ix (by omega) (by assumption) (by omega) (by omega) | exact nb_ix (by omega) rfl (by omega) (by omega) | exact nb_ok (by omega) rfl | decide)) only [kX12_isRefused, ↓if_pos, ↓if_neg, hP, Int.toNat_natCast]
theorem sq_mref0 (hM : sp_M n P) : mm_rn (d + 1) 206 [.inr (.inr (some 239)), .inl (-1)] n I L P = some (some (.inl 0), n, I, L, P) := by
  have ok := hM.ok
  rw [eX12_isRefused]
  simp (disch := (first | assumption | omega | exact nb_ix (by omega) (by assumption) (by omega) (by omega) | exact nb_ix (by omega) rfl (by omega) (by omega) | exact nb_ok (by omega) rfl | decide)) only [kX12_isRefused, ↓if_pos, ↓if_neg, nb_add, nb_sub, nb_mul, Int.toNat_natCast, mm_kr_s, mm_kv_s, if_pos, if_neg, sq_tn, Int.toNat_zero, Int.reduceToNat, Int.reduceNeg, Nat.reduceAdd, Int.reduceAdd, Int.reduceEq, Int.reduceLT, Int.reduceLE, Int.zero_add, nb_ui_s, nb_ui_k, nb_ui_a, sp_min, sp_max, sp_bits]
end KP
/-- what an act does, in the class and in the model: refused for r, or done (r = -1) with the night N' behind it -/
def sq_AC (nx na : Nat) (H : Nat → Nat → Int) (N N' : Nat → Int) (r : Int) (I I' : mm_I) : Prop := (r = -1 → sq_cN I' 40 N' ∧ rc_past I' (sk_nx nx) (sk_na na) (sk_H na H N) ∧ (∀ b, (b < 40 ∨ (44 ≤ b ∧ b < 48) ∨ b = 49 ∨ 210 ≤ b) → I' b = I b)) ∧ (r ≠ -1 → I' = mm_ui I 238 r.toNat (mm_add (I 238 r.toNat) 1))
def sq_AM (na : Nat) (H : Nat → Nat → Int) (N N' : Nat → Int) (r : Int) (I I' : mm_I) : Prop := (r = -1 → sq_mN I' N' ∧ rm_past I' (sk_na na) (sk_H na H N) ∧ (∀ b, b ≠ 239 → b ≠ 257 → b ≠ 260 → I' b = I b) ∧ (∀ j, j ≠ 33 → I' 239 j = I 239 j)) ∧ (r ≠ -1 → I' = mm_ui I 258 r.toNat (mm_add (I 258 r.toNat) 1))
