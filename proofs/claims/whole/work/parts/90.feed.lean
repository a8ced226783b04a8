/-! feeding the tape: both halves -/
def sf_b (w : Int) (k : Nat) : Int := if k = 0 then mm_and (mm_shr w 24) 255 else if k = 1 then mm_and (mm_shr w 16) 255 else if k = 2 then mm_and (mm_shr w 8) 255 else mm_and (mm_shr w 0) 255
theorem sf_255 (x : Int) : 0 ≤ mm_and x 255 ∧ mm_and x 255 ≤ 255 := by
  unfold mm_and
  have h1 : (Int32.ofInt x &&& Int32.ofInt 255).toBitVec.toNat ≤ 255 := by
    rw [Int32.toBitVec_and, BitVec.toNat_and]
    exact Nat.le_trans Nat.and_le_right (by decide)
  have h2 : (Int32.ofInt x &&& Int32.ofInt 255).toInt = ((Int32.ofInt x &&& Int32.ofInt 255).toBitVec.toNat : Int) := by
    show (Int32.ofInt x &&& Int32.ofInt 255).toBitVec.toInt = _
    exact BitVec.toInt_eq_toNat_of_lt (by omega)
  rw [h2]
  omega
theorem sf_b_rg (w : Int) (k : Nat) : 0 ≤ sf_b w k ∧ sf_b w k ≤ 255 := by
  unfold sf_b
  split
  · exact sf_255 _
  · split
    · exact sf_255 _
    · split
      · exact sf_255 _
      · exact sf_255 _
def sf_n (f : Nat → Int) : Nat → Nat
  | 0 => 0
  | k + 1 => sf_n f k + (if f k = 0 then 0 else 1)
def sf_p (f : Nat → Int) : Nat → (Nat → Int) × Nat → (Nat → Int) × Nat
  | 0, x => x
  | k + 1, x => if f k = 0 then sf_p f k x else ((fun j => if j = (sf_p f k x).2 then f k else (sf_p f k x).1 j), (sf_p f k x).2 + 1)
theorem sf_p_n {f : Nat → Int} {x : (Nat → Int) × Nat} : ∀ k, (sf_p f k x).2 = x.2 + sf_n f k := by
  intro k
  induction k with
  | zero => rfl
  | succ k ih =>
    unfold sf_p sf_n
    by_cases h : f k = 0
    · rw [if_pos h, if_pos h, ih]; omega
    · rw [if_neg h, if_neg h]
      show (sf_p f k x).2 + 1 = _
      rw [ih]; omega
theorem sf_n_le {f : Nat → Int} : ∀ k, sf_n f k ≤ k := by
  intro k
  induction k with
  | zero => exact Nat.le_refl _
  | succ k ih => unfold sf_n; split <;> omega
def rc_tape (I : mm_I) (x : (Nat → Int) × Nat) : Prop := I 1 1 = (x.2 : Int) ∧ ∀ i, i < x.2 → I 2 i = x.1 i
def rm_tape (I : mm_I) (x : (Nat → Int) × Nat) : Prop := I 239 2 = (x.2 : Int) ∧ ∀ i, i < x.2 → I 240 i = x.1 i
def rs_tape (x : (Nat → Int) × Nat) : Prop := x.2 ≤ 240 ∧ ∀ i, i < x.2 → 1 ≤ x.1 i ∧ x.1 i ≤ 255
theorem rs_tape_p {f : Nat → Int} {x : (Nat → Int) × Nat} (h : rs_tape x) (hf : ∀ k, 0 ≤ f k ∧ f k ≤ 255) : ∀ k, x.2 + sf_n f k ≤ 240 → rs_tape (sf_p f k x) := by
  intro k
  induction k with
  | zero => intro _; exact h
  | succ k ih =>
    intro hk
    unfold sf_n at hk
    have i1 := ih (by split at hk <;> omega)
    have e2 := sf_p_n (f := f) (x := x) k
    unfold sf_p
    by_cases c : f k = 0
    · rw [if_pos c]; exact i1
    · rw [if_neg c]
      rw [if_neg c] at hk
      refine ⟨?_, fun i hi => ?_⟩
      · show (sf_p f k x).2 + 1 ≤ 240
        omega
      · have hi2 : i < (sf_p f k x).2 + 1 := hi
        show 1 ≤ (if i = (sf_p f k x).2 then f k else (sf_p f k x).1 i) ∧ (if i = (sf_p f k x).2 then f k else (sf_p f k x).1 i) ≤ 255
        have := hf k
        by_cases ci : i = (sf_p f k x).2
        · rw [if_pos ci]; omega
        · rw [if_neg ci]; exact i1.2 i (by omega)
section FD
variable {n t u d : Nat} {I L : mm_I} {P : mm_P} {x : (Nat → Int) × Nat}
theorem sf_sh (w : Int) (k : Nat) (hk : k < 4) : mm_and (mm_ushr w (24 - 8 * (k : Int))) 255 = sf_b w k := by
  obtain ⟨h1, h2, h3, h4⟩ := nb_ush (x := w)
  have : k = 0 ∨ k = 1 ∨ k = 2 ∨ k = 3 := by omega
  rcases this with e | e | e | e <;> subst e
  · exact h1
  · exact h2
  · exact h3
  · exact h4
theorem sq_cbytes (w : Int) : mm_rn (d + 1) 85 [.inl w] n I L P = some (some (.inl ((sf_n (sf_b w) 4 : Nat))), n, I, L, P) := by
  rw [eX11_bytesIn]
  simp (disch := (first | assumption | omega | exact nb_ix (by omega) (by assumption) (by omega) (by omega) | exact nb_ix (by omega) rfl (by omega) (by omega) | exact nb_ok (by omega) rfl | decide)) only [kX11_bytesIn, ↓if_pos, ↓if_neg, nb_add, nb_sub, nb_mul, Int.toNat_natCast, mm_kr_s, mm_kv_s, if_pos, if_neg, sq_tn, Int.toNat_zero, Int.reduceToNat, Int.reduceNeg, Nat.reduceAdd, Int.reduceAdd, Int.reduceEq, Int.reduceLT, Int.reduceLE, Int.zero_add, nb_ui_s, nb_ui_k, nb_ui_a, sp_min, sp_max, sp_bits]
  refine sq_for (G := fun x => x = some (some (.inl ((sf_n (sf_b w) 4 : Nat))), n, I, L, P)) (fun k => mm_E d 85 5 [.inl w, .inl ((sf_n (sf_b w) k : Nat)), .inl (24 - 8 * (k : Int))] [] [] n I L P) 4 (fun k hk => ?_) ?_
  · have hle := sf_n_le (f := sf_b w) k
    have hsh := sf_sh w k hk
    have e5 : sf_n (sf_b w) (k + 1) = sf_n (sf_b w) k + (if sf_b w k = 0 then 0 else 1) := rfl
    have e6 : 24 - 8 * (k : Int) + -8 = 24 - 8 * ((k + 1 : Nat) : Int) := by omega
    show mm_E _ _ _ _ _ _ _ _ _ _ = mm_E _ _ _ _ _ _ _ _ _ _
    rw [hX11_bytesIn_5, e5]
    by_cases c : sf_b w k = 0
    · rw [if_pos c]
      simp (disch := (first | assumption | omega | exact nb_ix (by omega) (by assumption) (by omega) (by omega) | exact nb_ix (by omega) rfl (by omega) (by omega) | exact nb_ok (by omega) rfl | decide)) only [kX11_bytesIn, hsh, e6, ↓if_pos, ↓if_neg, nb_add, nb_sub, nb_mul, Int.toNat_natCast, mm_kr_s, mm_kv_s, if_pos, if_neg, sq_tn, Int.toNat_zero, Int.reduceToNat, Int.reduceNeg, Nat.reduceAdd, Int.reduceAdd, Int.reduceEq, Int.reduceLT, Int.reduceLE, Int.zero_add, nb_ui_s, nb_ui_k, nb_ui_a, sp_min, sp_max, sp_bits]
      rfl
    · rw [if_neg c]
      simp (disch := (first | assumption | omega | exact nb_ix (by omega) (by assumption) (by omega) (by omega) | exact nb_ix (by omega) rfl (by omega) (by omega) | exact nb_ok (by omega) rfl | decide)) only [kX11_bytesIn, hsh, e6, ↓if_pos, ↓if_neg, nb_add, nb_sub, nb_mul, Int.toNat_natCast, mm_kr_s, mm_kv_s, if_pos, if_neg, sq_tn, Int.toNat_zero, Int.reduceToNat, Int.reduceNeg, Nat.reduceAdd, Int.reduceAdd, Int.reduceEq, Int.reduceLT, Int.reduceLE, Int.zero_add, nb_ui_s, nb_ui_k, nb_ui_a, sp_min, sp_max, sp_bits]
      rfl
  · show mm_E _ _ _ _ _ _ _ _ _ _ = _
    rw [hX11_bytesIn_5]
    simp (disch := (first | assumption | omega | exact nb_ix (by omega) (by assumption) (by omega) (by omega) | exact nb_ix (by omega) rfl (by omega) (by omega) | exact nb_ok (by omega) rfl | decide)) only [kX11_bytesIn, ↓if_pos, ↓if_neg, nb_add, nb_sub, nb_mul, Int.toNat_natCast, mm_kr_s, mm_kv_s, if_pos, if_neg, sq_tn, Int.toNat_zero, Int.reduceToNat, Int.reduceNeg, Nat.reduceAdd, Int.reduceAdd, Int.reduceEq, Int.reduceLT, Int.reduceLE, Int.zero_add, nb_ui_s, nb_ui_k, nb_ui_a, sp_min, sp_max, sp_bits]
/-- rows of the tape: 2; of row 1 its length -/
def sq_fe (I I' : mm_I) : Prop := (∀ b, b ≠ 1 → b ≠ 2 → I' b = I b) ∧ (∀ j, j ≠ 1 → I' 1 j = I 1 j)
theorem sq_fe_trans {I I1 I2 : mm_I} (h : sq_fe I I1) (h2 : sq_fe I1 I2) : sq_fe I I2 := ⟨fun b a e => by rw [h2.1 b a e, h.1 b a e], fun j a => by rw [h2.2 j a, h.2 j a]⟩
theorem sq_cappend (hP : sq_P n P t u) (hT : rc_tape I x) (w : Int) (hx : x.2 + sf_n (sf_b w) 4 ≤ 240) : sq_X none n L P (fun I' => rc_tape I' (sf_p (sf_b w) 4 x) ∧ sq_fe I I') (mm_rn (d + 1) 58 [.inr (.inr (some 1)), .inl w] n I L P) := by
  have hC := hP.2.2.2.2.2.2.2.1
  have hn := hP.1
  rw [eX8_append]
  simp (disch := (first | assumption | omega | exact nb_ix (by omega) (by assumption) (by omega) (by omega) | exact nb_ix (by omega) rfl (by omega) (by omega) | exact nb_ok (by omega) rfl | decide)) only [kX8_append, ↓if_pos, ↓if_neg, nb_add, nb_sub, nb_mul, Int.toNat_natCast, mm_kr_s, mm_kv_s, if_pos, if_neg, sq_tn, Int.toNat_zero, Int.reduceToNat, Int.reduceNeg, Nat.reduceAdd, Int.reduceAdd, Int.reduceEq, Int.reduceLT, Int.reduceLE, Int.zero_add, nb_ui_s, nb_ui_k, nb_ui_a, sp_min, sp_max, sp_bits]
  refine sq_loop2 (fun k (x3 : mm_V) (J : mm_I) => mm_E d 58 3 [.inr (.inr (some 1)), .inl w, .inl (24 - 8 * (k : Int)), x3] [] [] n J L P) (fun k _ J => rc_tape J (sf_p (sf_b w) k x) ∧ sq_fe I J) 4 (s0 := mm_junk) (t0 := I) ⟨hT, fun _ _ _ => rfl, fun _ _ => rfl⟩ ?_ ?_
  · intro k x3 J hk ⟨⟨h1, h2⟩, h3⟩ ih
    have hsh := sf_sh w k hk
    have hz := sf_p_n (f := sf_b w) (x := x) k
    have e6 : 24 - 8 * (k : Int) + -8 = 24 - 8 * ((k + 1 : Nat) : Int) := by omega
    have e5 : sf_p (sf_b w) (k + 1) x = if sf_b w k = 0 then sf_p (sf_b w) k x else ((fun j => if j = (sf_p (sf_b w) k x).2 then sf_b w k else (sf_p (sf_b w) k x).1 j), (sf_p (sf_b w) k x).2 + 1) := rfl
    have hmono : sf_n (sf_b w) k + (if sf_b w k = 0 then 0 else 1) ≤ sf_n (sf_b w) 4 := by
      have : k = 0 ∨ k = 1 ∨ k = 2 ∨ k = 3 := by omega
      have a0 : ∀ j, sf_n (sf_b w) (j + 1) = sf_n (sf_b w) j + (if sf_b w j = 0 then 0 else 1) := fun _ => rfl
      have a1 := a0 0
      have a2 := a0 1
      have a3 := a0 2
      have a4 := a0 3
      simp only [Nat.reduceAdd] at a1 a2 a3 a4
      rcases this with e | e | e | e <;> subst e <;> omega
    rw [hX8_append_3]
    by_cases c : sf_b w k = 0
    · rw [if_pos c] at e5
      simp (disch := (first | assumption | omega | exact nb_ix (by omega) (by assumption) (by omega) (by omega) | exact nb_ix (by omega) rfl (by omega) (by omega) | exact nb_ok (by omega) rfl | decide)) only [kX8_append, hsh, e6, ↓if_pos, ↓if_neg, nb_add, nb_sub, nb_mul, Int.toNat_natCast, mm_kr_s, mm_kv_s, if_pos, if_neg, sq_tn, Int.toNat_zero, Int.reduceToNat, Int.reduceNeg, Nat.reduceAdd, Int.reduceAdd, Int.reduceEq, Int.reduceLT, Int.reduceLE, Int.zero_add, nb_ui_s, nb_ui_k, nb_ui_a, sp_min, sp_max, sp_bits]
      exact ih _ _ ⟨by rw [e5]; exact ⟨h1, h2⟩, h3⟩
    · rw [if_neg c] at e5 hmono
      have hzl : (sf_p (sf_b w) k x).2 < 240 := by omega
      have hb := sf_b_rg w k
      simp (disch := (first | assumption | omega | exact nb_ix (by omega) (by assumption) (by omega) (by omega) | exact nb_ix (by omega) rfl (by omega) (by omega) | exact nb_ok (by omega) rfl | decide)) only [kX8_append, hsh, e6, h1, hC, ↓if_pos, ↓if_neg, nb_add, nb_sub, nb_mul, Int.toNat_natCast, mm_kr_s, mm_kv_s, if_pos, if_neg, sq_tn, Int.toNat_zero, Int.reduceToNat, Int.reduceNeg, Nat.reduceAdd, Int.reduceAdd, Int.reduceEq, Int.reduceLT, Int.reduceLE, Int.zero_add, nb_ui_s, nb_ui_k, nb_ui_a, sp_min, sp_max, sp_bits]
      refine ih _ _ ⟨?_, fun b a e => ?_, fun j a => ?_⟩
      · rw [e5]
        refine ⟨?_, fun i hi => ?_⟩
        · rw [nb_ui_s]; rfl
        · have hi2 : i < (sf_p (sf_b w) k x).2 + 1 := hi
          show _ = if i = (sf_p (sf_b w) k x).2 then sf_b w k else (sf_p (sf_b w) k x).1 i
          rw [nb_ui_a (by decide)]
          by_cases ci : i = (sf_p (sf_b w) k x).2
          · rw [if_pos ci, ci, nb_ui_s]
          · rw [if_neg ci, nb_ui_k ci]
            exact h2 i (by omega)
      · rw [nb_ui_r a, nb_ui_r e]; exact h3.1 b a e
      · rw [nb_ui_k a, nb_ui_a (by decide)]; exact h3.2 j a
  · intro x3 J h
    rw [hX8_append_3]
    simp (disch := (first | assumption | omega | exact nb_ix (by omega) (by assumption) (by omega) (by omega) | exact nb_ix (by omega) rfl (by omega) (by omega) | exact nb_ok (by omega) rfl | decide)) only [kX8_append, ↓if_pos, ↓if_neg, nb_add, nb_sub, nb_mul, Int.toNat_natCast, mm_kr_s, mm_kv_s, if_pos, if_neg, sq_tn, Int.toNat_zero, Int.reduceToNat, Int.reduceNeg, Nat.reduceAdd, Int.reduceAdd, Int.reduceEq, Int.reduceLT, Int.reduceLE, Int.zero_add, nb_ui_s, nb_ui_k, nb_ui_a, sp_min, sp_max, sp_bits]
    exact sq_ret h
def sf_f (a b c e f : Int) (k : Nat) : Int := sf_b (if k < 4 then a else if k < 8 then b else if k < 12 then c else if k < 16 then e else f) (k % 4)
theorem sf_f_p {a b c e f : Int} : sf_p (sf_f a b c e f) 20 x = sf_p (sf_b f) 4 (sf_p (sf_b e) 4 (sf_p (sf_b c) 4 (sf_p (sf_b b) 4 (sf_p (sf_b a) 4 x)))) := by
  have h : ∀ (g1 g2 : Nat → Int) (k : Nat) (y : (Nat → Int) × Nat), (∀ j, j < 4 → g1 (k + j) = g2 j) → sf_p g1 (k + 4) y = sf_p g2 4 (sf_p g1 k y) := by
    intro g1 g2 k y hg
    have b0 := hg 0 (by omega)
    have b1 := hg 1 (by omega)
    have b2 := hg 2 (by omega)
    have b3 := hg 3 (by omega)
    rw [Nat.add_zero] at b0
    have u : ∀ (q : Nat → Int) j z, sf_p q (j + 1) z = if q j = 0 then sf_p q j z else ((fun i => if i = (sf_p q j z).2 then q j else (sf_p q j z).1 i), (sf_p q j z).2 + 1) := fun _ _ _ => rfl
    rw [show k + 4 = k + 3 + 1 from rfl, u g1, u g2 3, b3]
    rw [show k + 3 = k + 2 + 1 from rfl, u g1, u g2 2, b2]
    rw [show k + 2 = k + 1 + 1 from rfl, u g1, u g2 1, b1]
    rw [u g1, u g2 0, b0]
    rfl
  have h4 := h (sf_f a b c e f) (sf_b f) 16 x (fun j hj => by unfold sf_f; rw [if_neg (by omega), if_neg (by omega), if_neg (by omega), if_neg (by omega)]; congr 1; omega)
  have h3 := h (sf_f a b c e f) (sf_b e) 12 x (fun j hj => by unfold sf_f; rw [if_neg (by omega), if_neg (by omega), if_neg (by omega), if_pos (by omega)]; congr 1; omega)
  have h2 := h (sf_f a b c e f) (sf_b c) 8 x (fun j hj => by unfold sf_f; rw [if_neg (by omega), if_neg (by omega), if_pos (by omega)]; congr 1; omega)
  have h1 := h (sf_f a b c e f) (sf_b b) 4 x (fun j hj => by unfold sf_f; rw [if_neg (by omega), if_pos (by omega)]; congr 1; omega)
  have h0 := h (sf_f a b c e f) (sf_b a) 0 x (fun j hj => by unfold sf_f; rw [if_pos (by omega)]; congr 1; omega)
  simp only [Nat.reduceAdd] at h0 h1 h2 h3 h4
  rw [h4, h3, h2, h1, h0]
  rfl
theorem sf_f_n {a b c e f : Int} : sf_n (sf_f a b c e f) 20 = sf_n (sf_b a) 4 + sf_n (sf_b b) 4 + sf_n (sf_b c) 4 + sf_n (sf_b e) 4 + sf_n (sf_b f) 4 := by
  have h := sf_f_p (x := ((fun _ => 0), 0)) (a := a) (b := b) (c := c) (e := e) (f := f)
  have h2 := congrArg Prod.snd h
  rw [sf_p_n, sf_p_n, sf_p_n, sf_p_n, sf_p_n, sf_p_n] at h2
  simp only [Nat.zero_add] at h2
  exact h2
def sa_feed (x : (Nat → Int) × Nat) (f : Nat → Int) : Int := if x.2 + sf_n f 20 ≤ 240 then ((x.2 + sf_n f 20 : Nat) : Int) else -1
theorem oa_feed (hP : sq_P n P t u) (hT : rc_tape I x) (hx : x.2 ≤ 240) (a b c e f : Int) : sq_X (some (.inl (sa_feed x (sf_f a b c e f)))) n L P (fun I' => (x.2 + sf_n (sf_f a b c e f) 20 ≤ 240 → rc_tape I' (sf_p (sf_f a b c e f) 20 x) ∧ sq_fe I I') ∧ (¬ x.2 + sf_n (sf_f a b c e f) 20 ≤ 240 → I' = I)) (mm_rn (d + 10) 84 [.inr (.inr (some 0)), .inl a, .inl b, .inl c, .inl e, .inl f] n I L P) := by
  have ok0 := sq_ok0 hP
  have hC := hP.2.2.2.2.2.2.2.1
  have hn := hP.1
  have hb := fun w => sq_cbytes (d := d + 8) (n := n) (I := I) (L := L) (P := P) w
  have e1 : (1 : Nat) < n := by omega
  have la := sf_n_le (f := sf_b a) 4
  have lb := sf_n_le (f := sf_b b) 4
  have lc := sf_n_le (f := sf_b c) 4
  have le := sf_n_le (f := sf_b e) 4
  have lf := sf_n_le (f := sf_b f) 4
  have hnn := sf_f_n (a := a) (b := b) (c := c) (e := e) (f := f)
  have hz := hT.1
  unfold sa_feed
  rw [hnn]
  rw [eX11_feed]
  by_cases h : x.2 + (sf_n (sf_b a) 4 + sf_n (sf_b b) 4 + sf_n (sf_b c) 4 + sf_n (sf_b e) 4 + sf_n (sf_b f) 4) ≤ 240
  · rw [if_pos h]
    have n1 := sf_p_n (f := sf_b a) (x := x) 4
    have n2 := sf_p_n (f := sf_b b) (x := sf_p (sf_b a) 4 x) 4
    have n3 := sf_p_n (f := sf_b c) (x := sf_p (sf_b b) 4 (sf_p (sf_b a) 4 x)) 4
    have n4 := sf_p_n (f := sf_b e) (x := sf_p (sf_b c) 4 (sf_p (sf_b b) 4 (sf_p (sf_b a) 4 x))) 4
    have n5 := sf_p_n (f := sf_b f) (x := sf_p (sf_b e) 4 (sf_p (sf_b c) 4 (sf_p (sf_b b) 4 (sf_p (sf_b a) 4 x)))) 4
    simp (disch := (first | assumption | omega | exact nb_ix (by omega) (by assumption) (by omega) (by omega) | exact nb_ix (by omega) rfl (by omega) (by omega) | exact nb_ok (by omega) rfl | decide)) only [kX11_feed, hb, hC, hz, ↓if_pos, ↓if_neg, nb_add, nb_sub, nb_mul, Int.toNat_natCast, mm_kr_s, mm_kv_s, if_pos, if_neg, sq_tn, Int.toNat_zero, Int.reduceToNat, Int.reduceNeg, Nat.reduceAdd, Int.reduceAdd, Int.reduceEq, Int.reduceLT, Int.reduceLE, Int.zero_add, nb_ui_s, nb_ui_k, nb_ui_a, sp_min, sp_max, sp_bits]
    refine sq_kv (sq_cappend (d := d + 8) hP hT a (by omega)) (fun J1 hJ1 => ?_)
    simp (disch := (first | assumption | omega | exact nb_ix (by omega) (by assumption) (by omega) (by omega) | exact nb_ix (by omega) rfl (by omega) (by omega) | exact nb_ok (by omega) rfl | decide)) only [kX11_feed, hC, ↓if_pos, ↓if_neg, nb_add, nb_sub, nb_mul, Int.toNat_natCast, mm_kr_s, mm_kv_s, if_pos, if_neg, sq_tn, Int.toNat_zero, Int.reduceToNat, Int.reduceNeg, Nat.reduceAdd, Int.reduceAdd, Int.reduceEq, Int.reduceLT, Int.reduceLE, Int.zero_add, nb_ui_s, nb_ui_k, nb_ui_a, sp_min, sp_max, sp_bits]
    refine sq_kv (sq_cappend (d := d + 8) hP hJ1.1 b (by omega)) (fun J2 hJ2 => ?_)
    simp (disch := (first | assumption | omega | exact nb_ix (by omega) (by assumption) (by omega) (by omega) | exact nb_ix (by omega) rfl (by omega) (by omega) | exact nb_ok (by omega) rfl | decide)) only [kX11_feed, hC, ↓if_pos, ↓if_neg, nb_add, nb_sub, nb_mul, Int.toNat_natCast, mm_kr_s, mm_kv_s, if_pos, if_neg, sq_tn, Int.toNat_zero, Int.reduceToNat, Int.reduceNeg, Nat.reduceAdd, Int.reduceAdd, Int.reduceEq, Int.reduceLT, Int.reduceLE, Int.zero_add, nb_ui_s, nb_ui_k, nb_ui_a, sp_min, sp_max, sp_bits]
    refine sq_kv (sq_cappend (d := d + 8) hP hJ2.1 c (by omega)) (fun J3 hJ3 => ?_)
    simp (disch := (first | assumption | omega | exact nb_ix (by omega) (by assumption) (by omega) (by omega) | exact nb_ix (by omega) rfl (by omega) (by omega) | exact nb_ok (by omega) rfl | decide)) only [kX11_feed, hC, ↓if_pos, ↓if_neg, nb_add, nb_sub, nb_mul, Int.toNat_natCast, mm_kr_s, mm_kv_s, if_pos, if_neg, sq_tn, Int.toNat_zero, Int.reduceToNat, Int.reduceNeg, Nat.reduceAdd, Int.reduceAdd, Int.reduceEq, Int.reduceLT, Int.reduceLE, Int.zero_add, nb_ui_s, nb_ui_k, nb_ui_a, sp_min, sp_max, sp_bits]
    refine sq_kv (sq_cappend (d := d + 8) hP hJ3.1 e (by omega)) (fun J4 hJ4 => ?_)
    simp (disch := (first | assumption | omega | exact nb_ix (by omega) (by assumption) (by omega) (by omega) | exact nb_ix (by omega) rfl (by omega) (by omega) | exact nb_ok (by omega) rfl | decide)) only [kX11_feed, hC, ↓if_pos, ↓if_neg, nb_add, nb_sub, nb_mul, Int.toNat_natCast, mm_kr_s, mm_kv_s, if_pos, if_neg, sq_tn, Int.toNat_zero, Int.reduceToNat, Int.reduceNeg, Nat.reduceAdd, Int.reduceAdd, Int.reduceEq, Int.reduceLT, Int.reduceLE, Int.zero_add, nb_ui_s, nb_ui_k, nb_ui_a, sp_min, sp_max, sp_bits]
    refine sq_kv (sq_cappend (d := d + 8) hP hJ4.1 f (by omega)) (fun J5 hJ5 => ?_)
    have hz5 := hJ5.1.1
    simp (disch := (first | assumption | omega | exact nb_ix (by omega) (by assumption) (by omega) (by omega) | exact nb_ix (by omega) rfl (by omega) (by omega) | exact nb_ok (by omega) rfl | decide)) only [kX11_feed, hC, hz5, ↓if_pos, ↓if_neg, nb_add, nb_sub, nb_mul, Int.toNat_natCast, mm_kr_s, mm_kv_s, if_pos, if_neg, sq_tn, Int.toNat_zero, Int.reduceToNat, Int.reduceNeg, Nat.reduceAdd, Int.reduceAdd, Int.reduceEq, Int.reduceLT, Int.reduceLE, Int.zero_add, nb_ui_s, nb_ui_k, nb_ui_a, sp_min, sp_max, sp_bits]
    refine sq_ret2 ?_ ⟨fun _ => ⟨?_, sq_fe_trans (sq_fe_trans (sq_fe_trans (sq_fe_trans hJ1.2 hJ2.2) hJ3.2) hJ4.2) hJ5.2⟩, fun q => absurd h q⟩
    · rw [n5, n4, n3, n2, n1]
      congr 3
      omega
    · rw [sf_f_p]; exact hJ5.1
  · rw [if_neg h]
    simp (disch := (first | assumption | omega | exact nb_ix (by omega) (by assumption) (by omega) (by omega) | exact nb_ix (by omega) rfl (by omega) (by omega) | exact nb_ok (by omega) rfl | decide)) only [kX11_feed, hb, hC, hz, ↓if_pos, ↓if_neg, nb_add, nb_sub, nb_mul, Int.toNat_natCast, mm_kr_s, mm_kv_s, if_pos, if_neg, sq_tn, Int.toNat_zero, Int.reduceToNat, Int.reduceNeg, Nat.reduceAdd, Int.reduceAdd, Int.reduceEq, Int.reduceLT, Int.reduceLE, Int.zero_add, nb_ui_s, nb_ui_k, nb_ui_a, sp_min, sp_max, sp_bits]
    exact sq_ret ⟨fun q => absurd q h, fun _ => rfl⟩
/-- rows of the model's tape -/
def sq_fg (I I' : mm_I) : Prop := (∀ b, b ≠ 239 → b ≠ 240 → I' b = I b) ∧ (∀ j, j ≠ 2 → I' 239 j = I 239 j)
theorem sq_mbyte {a b c e f : Int} {k : Nat} (hk : k < 20) : mm_rn (d + 1) 149 [.inl a, .inl b, .inl c, .inl e, .inl f, .inl ((k : Int))] n I L P = some (some (.inl (sf_f a b c e f k)), n, I, L, P) := by
  have hm : mm_w (Int.tmod (k : Int) 4) = ((k % 4 : Nat) : Int) := by
    rw [Int.tmod_eq_emod_of_nonneg (by omega), nb_w (by omega) (by omega)]; omega
  have hs : ∀ w : Int, mm_and (mm_shr w (24 - 8 * ((k % 4 : Nat) : Int))) 255 = sf_b w (k % 4) := by
    intro w
    have : k % 4 = 0 ∨ k % 4 = 1 ∨ k % 4 = 2 ∨ k % 4 = 3 := by omega
    rcases this with e | e | e | e <;> rw [e] <;> rfl
  rw [eX12_byteOf]
  unfold sf_f
  by_cases c1 : k < 4
  · simp (disch := (first | assumption | omega | exact nb_ix (by omega) (by assumption) (by omega) (by omega) | exact nb_ix (by omega) rfl (by omega) (by omega) | exact nb_ok (by omega) rfl | decide)) only [kX12_byteOf, hm, hs, ↓if_pos, ↓if_neg, nb_add, nb_sub, nb_mul, Int.toNat_natCast, mm_kr_s, mm_kv_s, if_pos, if_neg, sq_tn, Int.toNat_zero, Int.reduceToNat, Int.reduceNeg, Nat.reduceAdd, Int.reduceAdd, Int.reduceEq, Int.reduceLT, Int.reduceLE, Int.zero_add, nb_ui_s, nb_ui_k, nb_ui_a, sp_min, sp_max, sp_bits]
  · by_cases c2 : k < 8
    · simp (disch := (first | assumption | omega | exact nb_ix (by omega) (by assumption) (by omega) (by omega) | exact nb_ix (by omega) rfl (by omega) (by omega) | exact nb_ok (by omega) rfl | decide)) only [kX12_byteOf, hm, hs, ↓if_pos, ↓if_neg, nb_add, nb_sub, nb_mul, Int.toNat_natCast, mm_kr_s, mm_kv_s, if_pos, if_neg, sq_tn, Int.toNat_zero, Int.reduceToNat, Int.reduceNeg, Nat.reduceAdd, Int.reduceAdd, Int.reduceEq, Int.reduceLT, Int.reduceLE, Int.zero_add, nb_ui_s, nb_ui_k, nb_ui_a, sp_min, sp_max, sp_bits]
    · by_cases c3 : k < 12
      · simp (disch := (first | assumption | omega | exact nb_ix (by omega) (by assumption) (by omega) (by omega) | exact nb_ix (by omega) rfl (by omega) (by omega) | exact nb_ok (by omega) rfl | decide)) only [kX12_byteOf, hm, hs, ↓if_pos, ↓if_neg, nb_add, nb_sub, nb_mul, Int.toNat_natCast, mm_kr_s, mm_kv_s, if_pos, if_neg, sq_tn, Int.toNat_zero, Int.reduceToNat, Int.reduceNeg, Nat.reduceAdd, Int.reduceAdd, Int.reduceEq, Int.reduceLT, Int.reduceLE, Int.zero_add, nb_ui_s, nb_ui_k, nb_ui_a, sp_min, sp_max, sp_bits]
      · by_cases c4 : k < 16
        · simp (disch := (first | assumption | omega | exact nb_ix (by omega) (by assumption) (by omega) (by omega) | exact nb_ix (by omega) rfl (by omega) (by omega) | exact nb_ok (by omega) rfl | decide)) only [kX12_byteOf, hm, hs, ↓if_pos, ↓if_neg, nb_add, nb_sub, nb_mul, Int.toNat_natCast, mm_kr_s, mm_kv_s, if_pos, if_neg, sq_tn, Int.toNat_zero, Int.reduceToNat, Int.reduceNeg, Nat.reduceAdd, Int.reduceAdd, Int.reduceEq, Int.reduceLT, Int.reduceLE, Int.zero_add, nb_ui_s, nb_ui_k, nb_ui_a, sp_min, sp_max, sp_bits]
        · simp (disch := (first | assumption | omega | exact nb_ix (by omega) (by assumption) (by omega) (by omega) | exact nb_ix (by omega) rfl (by omega) (by omega) | exact nb_ok (by omega) rfl | decide)) only [kX12_byteOf, hm, hs, ↓if_pos, ↓if_neg, nb_add, nb_sub, nb_mul, Int.toNat_natCast, mm_kr_s, mm_kv_s, if_pos, if_neg, sq_tn, Int.toNat_zero, Int.reduceToNat, Int.reduceNeg, Nat.reduceAdd, Int.reduceAdd, Int.reduceEq, Int.reduceLT, Int.reduceLE, Int.zero_add, nb_ui_s, nb_ui_k, nb_ui_a, sp_min, sp_max, sp_bits]
theorem ob_feed (hM : sp_M n P) (hT : rm_tape I x) (hx : x.2 ≤ 240) (a b c e f : Int) : sq_X (some (.inl (sa_feed x (sf_f a b c e f)))) n L P (fun I' => (x.2 + sf_n (sf_f a b c e f) 20 ≤ 240 → rm_tape I' (sf_p (sf_f a b c e f) 20 x) ∧ sq_fg I I') ∧ (¬ x.2 + sf_n (sf_f a b c e f) 20 ≤ 240 → I' = I)) (mm_rn (d + 10) 150 [.inr (.inr (some 239)), .inl a, .inl b, .inl c, .inl e, .inl f] n I L P) := by
  have ok := hM.ok
  obtain ⟨hn, hP⟩ := hM
  have hby := fun k I hk => sq_mbyte (d := d + 8) (n := n) (I := I) (L := L) (P := P) (a := a) (b := b) (c := c) (e := e) (f := f) (k := k) hk
  generalize hF : sf_f a b c e f = F at *
  have hle := sf_n_le (f := F) 20
  have hz := hT.1
  rw [eX12_feed]
  simp (disch := (first | assumption | omega | exact nb_ix (by omega) (by assumption) (by omega) (by omega) | exact nb_ix (by omega) rfl (by omega) (by omega) | exact nb_ok (by omega) rfl | decide)) only [kX12_feed, ↓if_pos, ↓if_neg, nb_add, nb_sub, nb_mul, Int.toNat_natCast, mm_kr_s, mm_kv_s, if_pos, if_neg, sq_tn, Int.toNat_zero, Int.reduceToNat, Int.reduceNeg, Nat.reduceAdd, Int.reduceAdd, Int.reduceEq, Int.reduceLT, Int.reduceLE, Int.zero_add, nb_ui_s, nb_ui_k, nb_ui_a, sp_min, sp_max, sp_bits]
  refine sq_for (fun k => mm_E (d + 9) 150 6 [.inr (.inr (some 239)), .inl a, .inl b, .inl c, .inl e, .inl f, .inl ((sf_n F k : Nat)), .inl ((k : Nat)), mm_junk] [] [] n I L P) 20 (fun k hk => ?_) ?_
  · have hlk := sf_n_le (f := F) k
    have hbk := hby k I hk
    have e5 : sf_n F (k + 1) = sf_n F k + (if F k = 0 then 0 else 1) := rfl
    rw [hX12_feed_6, e5]
    by_cases c0 : F k = 0
    · rw [if_pos c0]
      simp (disch := (first | assumption | omega | exact nb_ix (by omega) (by assumption) (by omega) (by omega) | exact nb_ix (by omega) rfl (by omega) (by omega) | exact nb_ok (by omega) rfl | decide)) only [kX12_feed, hbk, c0, Int.add_zero, ↓if_pos, ↓if_neg, nb_add, nb_sub, nb_mul, Int.toNat_natCast, mm_kr_s, mm_kv_s, if_pos, if_neg, sq_tn, Int.toNat_zero, Int.reduceToNat, Int.reduceNeg, Nat.reduceAdd, Int.reduceAdd, Int.reduceEq, Int.reduceLT, Int.reduceLE, Int.zero_add, nb_ui_s, nb_ui_k, nb_ui_a, sp_min, sp_max, sp_bits]
      rfl
    · rw [if_neg c0]
      simp (disch := (first | assumption | omega | exact nb_ix (by omega) (by assumption) (by omega) (by omega) | exact nb_ix (by omega) rfl (by omega) (by omega) | exact nb_ok (by omega) rfl | decide)) only [kX12_feed, hbk, ↓if_pos, ↓if_neg, nb_add, nb_sub, nb_mul, Int.toNat_natCast, mm_kr_s, mm_kv_s, if_pos, if_neg, sq_tn, Int.toNat_zero, Int.reduceToNat, Int.reduceNeg, Nat.reduceAdd, Int.reduceAdd, Int.reduceEq, Int.reduceLT, Int.reduceLE, Int.zero_add, nb_ui_s, nb_ui_k, nb_ui_a, sp_min, sp_max, sp_bits]
      rfl
  unfold sa_feed
  rw [hX12_feed_6]
  by_cases h : x.2 + sf_n F 20 ≤ 240
  · rw [if_pos h]
    simp (disch := (first | assumption | omega | exact nb_ix (by omega) (by assumption) (by omega) (by omega) | exact nb_ix (by omega) rfl (by omega) (by omega) | exact nb_ok (by omega) rfl | decide)) only [kX12_feed, hz, ↓if_pos, ↓if_neg, nb_add, nb_sub, nb_mul, Int.toNat_natCast, mm_kr_s, mm_kv_s, if_pos, if_neg, sq_tn, Int.toNat_zero, Int.reduceToNat, Int.reduceNeg, Nat.reduceAdd, Int.reduceAdd, Int.reduceEq, Int.reduceLT, Int.reduceLE, Int.zero_add, nb_ui_s, nb_ui_k, nb_ui_a, sp_min, sp_max, sp_bits]
    refine sq_loop2 (fun k (x8 : mm_V) (J : mm_I) => mm_E (d + 9) 150 62 [.inr (.inr (some 239)), .inl a, .inl b, .inl c, .inl e, .inl f, .inl ((sf_n F 20 : Nat)), .inl ((k : Nat)), x8] [] [] n J L P) (fun k _ J => rm_tape J (sf_p F k x) ∧ sq_fg I J) 20 (s0 := mm_junk) (t0 := I) ⟨hT, fun _ _ _ => rfl, fun _ _ => rfl⟩ ?_ ?_
    · intro k x8 J hk ⟨⟨h1, h2⟩, h3⟩ ih
      have hbk := hby k J hk
      have hzk := sf_p_n (f := F) (x := x) k
      have e5 : sf_p F (k + 1) x = if F k = 0 then sf_p F k x else ((fun j => if j = (sf_p F k x).2 then F k else (sf_p F k x).1 j), (sf_p F k x).2 + 1) := rfl
      have hmono : ∀ m, k + 1 ≤ m → sf_n F k + (if F k = 0 then 0 else 1) ≤ sf_n F m := by
        intro m hm
        induction m with
        | zero => omega
        | succ m ih2 =>
          have e9 : sf_n F (m + 1) = sf_n F m + (if F m = 0 then 0 else 1) := rfl
          by_cases cm : m = k
          · subst cm; rw [e9]; exact Nat.le_refl _
          · have := ih2 (by omega); omega
      have hm20 := hmono 20 (by omega)
      rw [hX12_feed_62]
      by_cases c0 : F k = 0
      · rw [if_pos c0] at e5
        simp (disch := (first | assumption | omega | exact nb_ix (by omega) (by assumption) (by omega) (by omega) | exact nb_ix (by omega) rfl (by omega) (by omega) | exact nb_ok (by omega) rfl | decide)) only [kX12_feed, hbk, c0, ↓if_pos, ↓if_neg, nb_add, nb_sub, nb_mul, Int.toNat_natCast, mm_kr_s, mm_kv_s, if_pos, if_neg, sq_tn, Int.toNat_zero, Int.reduceToNat, Int.reduceNeg, Nat.reduceAdd, Int.reduceAdd, Int.reduceEq, Int.reduceLT, Int.reduceLE, Int.zero_add, nb_ui_s, nb_ui_k, nb_ui_a, sp_min, sp_max, sp_bits]
        exact ih _ _ ⟨by rw [e5]; exact ⟨h1, h2⟩, h3⟩
      · rw [if_neg c0] at e5 hm20
        have hzl : (sf_p F k x).2 < 240 := by omega
        simp (disch := (first | assumption | omega | exact nb_ix (by omega) (by assumption) (by omega) (by omega) | exact nb_ix (by omega) rfl (by omega) (by omega) | exact nb_ok (by omega) rfl | decide)) only [kX12_feed, hbk, h1, hP, ↓if_pos, ↓if_neg, nb_add, nb_sub, nb_mul, Int.toNat_natCast, mm_kr_s, mm_kv_s, if_pos, if_neg, sq_tn, Int.toNat_zero, Int.reduceToNat, Int.reduceNeg, Nat.reduceAdd, Int.reduceAdd, Int.reduceEq, Int.reduceLT, Int.reduceLE, Int.zero_add, nb_ui_s, nb_ui_k, nb_ui_a, sp_min, sp_max, sp_bits]
        refine ih _ _ ⟨?_, fun b a e => ?_, fun j a => ?_⟩
        · rw [e5]
          refine ⟨?_, fun i hi => ?_⟩
          · rw [nb_ui_s]; rfl
          · have hi2 : i < (sf_p F k x).2 + 1 := hi
            show _ = if i = (sf_p F k x).2 then F k else (sf_p F k x).1 i
            rw [nb_ui_a (by decide)]
            by_cases ci : i = (sf_p F k x).2
            · rw [if_pos ci, ci, nb_ui_s]
            · rw [if_neg ci, nb_ui_k ci]
              exact h2 i (by omega)
        · rw [nb_ui_r a, nb_ui_r e]; exact h3.1 b a e
        · rw [nb_ui_k a, nb_ui_a (by decide)]; exact h3.2 j a
    · intro x8 J ⟨h1, h2⟩
      have hz5 := h1.1
      have n5 := sf_p_n (f := F) (x := x) 20
      rw [hX12_feed_62]
      simp (disch := (first | assumption | omega | exact nb_ix (by omega) (by assumption) (by omega) (by omega) | exact nb_ix (by omega) rfl (by omega) (by omega) | exact nb_ok (by omega) rfl | decide)) only [kX12_feed, hz5, ↓if_pos, ↓if_neg, nb_add, nb_sub, nb_mul, Int.toNat_natCast, mm_kr_s, mm_kv_s, if_pos, if_neg, sq_tn, Int.toNat_zero, Int.reduceToNat, Int.reduceNeg, Nat.reduceAdd, Int.reduceAdd, Int.reduceEq, Int.reduceLT, Int.reduceLE, Int.zero_add, nb_ui_s, nb_ui_k, nb_ui_a, sp_min, sp_max, sp_bits]
      refine sq_ret2 ?_ ⟨fun _ => ⟨h1, h2⟩, fun q => absurd h q⟩
      rw [n5]
  · rw [if_neg h]
    simp (disch := (first | assumption | omega | exact nb_ix (by omega) (by assumption) (by omega) (by omega) | exact nb_ix (by omega) rfl (by omega) (by omega) | exact nb_ok (by omega) rfl | decide)) only [kX12_feed, hz, ↓if_pos, ↓if_neg, nb_add, nb_sub, nb_mul, Int.toNat_natCast, mm_kr_s, mm_kv_s, if_pos, if_neg, sq_tn, Int.toNat_zero, Int.reduceToNat, Int.reduceNeg, Nat.reduceAdd, Int.reduceAdd, Int.reduceEq, Int.reduceLT, Int.reduceLE, Int.zero_add, nb_ui_s, nb_ui_k, nb_ui_a, sp_min, sp_max, sp_bits]
    exact sq_ret ⟨fun q => absurd q h, fun _ => rfl⟩
end FD
