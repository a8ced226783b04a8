/-! nights: begin a trouble, all worth -/
theorem sp_isIn {d n p : Nat} {I L : mm_I} {P : mm_P} (hp : p < 8) : mm_rn (d + 1) 283 [.inl (p : Int)] n I L P = some (some (.inl 1), n, I, L, P) := by
  have h1 : ¬ (p : Int) < 0 := by omega
  have h2 : ¬ (8 : Int) ≤ (p : Int) := by omega
  rw [eX5_isIn]
  simp (disch := first | assumption | omega) only [kX5_isIn, h1, h2, if_false]
theorem sp_worthIn {d n a p : Nat} {I L : mm_I} {P : mm_P} (ha : sp_N n P a) (hp : p < 8) : mm_rn (d + 2) 284 [.inr (.inr (some a)), .inl (p : Int)] n I L P = some (some (.inl (I (a + 1) p)), n, I, L, P) := by
  have oa := ha.ok
  obtain ⟨a0, a1, a2, a3, a4, a5, a6, a7⟩ := ha
  have h1 : mm_ix n (a + 1) 20 (p : Int) := nb_ix (by omega) a2 (by omega) (by omega)
  rw [eX5_worthIn]
  simp (disch := assumption) only [kX5_worthIn]
  rw [sp_isIn (d := d) hp, mm_kr_s]
  simp (disch := assumption) only [kX5_worthIn, Int.reduceEq, if_false, a5, Int.toNat_natCast]
theorem sp_sizeIn {d n a p : Nat} {I L : mm_I} {P : mm_P} (ha : sp_N n P a) (hp : p < 8) : mm_rn (d + 2) 285 [.inr (.inr (some a)), .inl (p : Int)] n I L P = some (some (.inl (I (a + 3) p)), n, I, L, P) := by
  have oa := ha.ok
  obtain ⟨a0, a1, a2, a3, a4, a5, a6, a7⟩ := ha
  have h3 : mm_ix n (a + 3) 20 (p : Int) := nb_ix a0 a4 (by omega) (by omega)
  rw [eX5_sizeIn]
  simp (disch := assumption) only [kX5_sizeIn]
  rw [sp_isIn (d := d) hp, mm_kr_s]
  simp (disch := assumption) only [kX5_sizeIn, Int.reduceEq, if_false, a7, Int.toNat_natCast]
theorem sp_start {d n a p : Nat} {I L : mm_I} {P : mm_P} (ha : sp_N n P a) (hp : p < 8) (k z : Int) : mm_rn (d + 2) 45 [.inr (.inr (some a)), .inl (p : Int), .inl k, .inl z] n I L P = some (none, n, if I (a + 3) p = 0 then mm_ui (mm_ui I (a + 2) p k) (a + 3) p z else I, L, P) := by
  have oa := ha.ok
  obtain ⟨a0, a1, a2, a3, a4, a5, a6, a7⟩ := ha
  have h3 : mm_ix n (a + 3) 20 (p : Int) := nb_ix a0 a4 (by omega) (by omega)
  have h2 : mm_ix n (a + 2) 20 (p : Int) := nb_ix (by omega) a3 (by omega) (by omega)
  rw [eX5_startTrouble]
  simp (disch := assumption) only [kX5_startTrouble]
  rw [sp_isIn (d := d) hp, mm_kr_s]
  simp (disch := assumption) only [kX5_startTrouble, Int.reduceEq, if_false, a6, a7, Int.toNat_natCast]
  split <;> rfl
def sp_sum (f : Nat → Int) : Nat → Int
  | 0 => 0
  | k + 1 => sp_sum f k + f k
theorem sp_sum_rg {f : Nat → Int} {M : Int} (hM : 0 ≤ M) : ∀ k : Nat, (∀ j, j < k → 0 ≤ f j ∧ f j ≤ M) → 0 ≤ sp_sum f k ∧ sp_sum f k ≤ k * M := by
  intro k
  induction k with
  | zero => intro _; exact ⟨Int.le_refl _, by simp [sp_sum]⟩
  | succ k ih =>
    intro h
    obtain ⟨h1, h2⟩ := ih (fun j hj => h j (by omega))
    obtain ⟨h3, h4⟩ := h k (by omega)
    have e : ((k + 1 : Nat) : Int) * M = k * M + M := by rw [Int.natCast_add, Int.add_mul]; simp
    rw [e]
    unfold sp_sum
    exact ⟨by omega, by omega⟩
theorem sp_all {d n a : Nat} {I L : mm_I} {P : mm_P} (ha : sp_N n P a) (hw : ∀ p, p < 8 → 0 ≤ I (a + 1) p ∧ I (a + 1) p ≤ 99) : mm_rn (d + 1) 44 [.inr (.inr (some a))] n I L P = some (some (.inl (sp_sum (I (a + 1)) 8)), n, I, L, P) := by
  have oa := ha.ok
  obtain ⟨a0, a1, a2, a3, a4, a5, a6, a7⟩ := ha
  rw [eX5_allWorth]
  simp only [kX5_allWorth]
  have key := nb_loop (fun k => mm_E d 44 4 [.inr (.inr (some a)), .inl (sp_sum (I (a + 1)) k), .inl (k : Nat)] [] [] n I L P) 8 (fun k hk => by
    have hk8 : ¬ (8 : Int) ≤ (k : Int) := by omega
    have hix : mm_ix n (a + 1) 20 (k : Int) := nb_ix (by omega) a2 (by omega) (by omega)
    obtain ⟨r1, r2⟩ := sp_sum_rg (f := I (a + 1)) (M := 99) (by omega) k (fun j hj => hw j (by omega))
    obtain ⟨r3, r4⟩ := hw k hk
    have r5 : (k : Int) * 99 ≤ 800 := by omega
    rw [hX5_allWorth_4]
    simp (disch := assumption) only [kX5_allWorth, hk8, if_false, a5, Int.toNat_natCast]
    rw [nb_add (by omega) (by omega), nb_add (by omega) (by omega)]
    rfl)
  refine key.trans ?_
  rw [hX5_allWorth_4]
  simp [kX5_allWorth]
