/-! odds of fires -/
def sd_w (q ch : Int) : Int := Int.tdiv (q * ch) 100
def sd_st (p : Nat) (M : Nat → Int) : Nat → Int := if M (16 + p) = 0 then sw_beg M p 0 1 else M
def sd_L (f : (Nat → Int) → Nat → Int) (s p : Nat) (ch v : Int) : Nat → (Nat → Int) → Int → Int → Nat → Int
  | 0, _, l, q, _ => if v ≤ l then q else 0
  | k + 1, M, l, q, m => if Nat.testBit m 0 = true then sd_L f s p ch v k (f (sd_st p M)) (l + sv_lost (sd_st p M) s) (sd_w q ch) (m / 2) else sd_L f s p ch v k (f M) (l + sv_lost M s) (q - sd_w q ch) (m / 2)
def sd_T (f : (Nat → Int) → Nat → Int) (s p : Nat) (ch v : Int) : Nat → (Nat → Int) → Int → Int → Int
  | 0, _, l, q => if v ≤ l then q else 0
  | k + 1, M, l, q => sd_T f s p ch v k (f M) (l + sv_lost M s) (q - sd_w q ch) + sd_T f s p ch v k (f (sd_st p M)) (l + sv_lost (sd_st p M) s) (sd_w q ch)
theorem sp_sum_add {f g : Nat → Int} : ∀ k, sp_sum (fun j => f j + g j) k = sp_sum f k + sp_sum g k := by
  intro k
  induction k with
  | zero => rfl
  | succ k ih => unfold sp_sum; rw [ih]; omega
theorem sp_sum_two {f : Nat → Int} : ∀ k, sp_sum f (2 * k) = sp_sum (fun j => f (2 * j) + f (2 * j + 1)) k := by
  intro k
  induction k with
  | zero => rfl
  | succ k ih =>
    have e : 2 * (k + 1) = 2 * k + 1 + 1 := by omega
    rw [e]
    show sp_sum f (2 * k) + f (2 * k) + f (2 * k + 1) = sp_sum _ k + (f (2 * k) + f (2 * k + 1))
    rw [ih]
    omega
theorem sd_sum {f : (Nat → Int) → Nat → Int} {s p : Nat} {ch v : Int} : ∀ k M l q, sd_T f s p ch v k M l q = sp_sum (sd_L f s p ch v k M l q) (2 ^ k) := by
  intro k
  induction k with
  | zero =>
    intro M l q
    show _ = sp_sum _ 1
    unfold sd_T
    show _ = 0 + sd_L f s p ch v 0 M l q 0
    unfold sd_L
    omega
  | succ k ih =>
    intro M l q
    have e : 2 ^ (k + 1) = 2 * 2 ^ k := by rw [Nat.pow_succ]; omega
    rw [e, sp_sum_two]
    unfold sd_T
    rw [ih, ih, ← sp_sum_add]
    refine sp_sum_congr _ (fun j _ => ?_)
    have b0 : Nat.testBit (2 * j) 0 = false := by simp [Nat.testBit_zero]
    have b1 : Nat.testBit (2 * j + 1) 0 = true := by simp [Nat.testBit_zero]
    have d0 : 2 * j / 2 = j := by omega
    have d1 : (2 * j + 1) / 2 = j := by omega
    show _ = (if _ then _ else _) + (if _ then _ else _)
    rw [b0, b1, d0, d1]
    simp
def sd_M (f : (Nat → Int) → Nat → Int) (p : Nat) (b : Nat → Bool) (N : Nat → Int) : Nat → Nat → Int
  | 0 => N
  | i + 1 => f (if b i = true then sd_st p (sd_M f p b N i) else sd_M f p b N i)
def sd_S (f : (Nat → Int) → Nat → Int) (s p : Nat) (b : Nat → Bool) (N : Nat → Int) : Nat → Int
  | 0 => 0
  | i + 1 => sd_S f s p b N i + sv_lost (if b i = true then sd_st p (sd_M f p b N i) else sd_M f p b N i) s
def sd_P (ch : Int) (b : Nat → Bool) : Nat → Int
  | 0 => 1000000000
  | i + 1 => if b i = true then sd_w (sd_P ch b i) ch else sd_P ch b i - sd_w (sd_P ch b i) ch
theorem sd_walk {f : (Nat → Int) → Nat → Int} {s p : Nat} {ch v : Int} {N : Nat → Int} {n m : Nat} : ∀ i, i ≤ n → sd_L f s p ch v n N 0 1000000000 m = sd_L f s p ch v (n - i) (sd_M f p (Nat.testBit m) N i) (sd_S f s p (Nat.testBit m) N i) (sd_P ch (Nat.testBit m) i) (m / 2 ^ i) := by
  intro i
  induction i with
  | zero => intro _; simp [sd_M, sd_S, sd_P]
  | succ i ih =>
    intro hi
    rw [ih (by omega)]
    have e1 : n - i = (n - (i + 1)) + 1 := by omega
    rw [e1]
    have e2 : m / 2 ^ i / 2 = m / 2 ^ (i + 1) := by rw [Nat.div_div_eq_div_mul, Nat.pow_succ]
    have e3 : Nat.testBit (m / 2 ^ i) 0 = Nat.testBit m i := by
      rw [Nat.testBit_div_two_pow]
      simp
    have m1 : sd_M f p (Nat.testBit m) N (i + 1) = f (if Nat.testBit m i = true then sd_st p (sd_M f p (Nat.testBit m) N i) else sd_M f p (Nat.testBit m) N i) := rfl
    have m2 : sd_S f s p (Nat.testBit m) N (i + 1) = sd_S f s p (Nat.testBit m) N i + sv_lost (if Nat.testBit m i = true then sd_st p (sd_M f p (Nat.testBit m) N i) else sd_M f p (Nat.testBit m) N i) s := rfl
    have m3 : sd_P ch (Nat.testBit m) (i + 1) = if Nat.testBit m i = true then sd_w (sd_P ch (Nat.testBit m) i) ch else sd_P ch (Nat.testBit m) i - sd_w (sd_P ch (Nat.testBit m) i) ch := rfl
    show (if _ then _ else _) = _
    rw [e2, e3, m1, m2, m3]
    cases Nat.testBit m i <;> rfl
theorem sd_end {f : (Nat → Int) → Nat → Int} {s p : Nat} {ch v : Int} {N : Nat → Int} {n m : Nat} : sd_L f s p ch v n N 0 1000000000 m = if v ≤ sd_S f s p (Nat.testBit m) N n then sd_P ch (Nat.testBit m) n else 0 := by
  rw [sd_walk n (Nat.le_refl n), Nat.sub_self]
  rfl
theorem sd_w_rg {q ch : Int} (hq : 0 ≤ q ∧ q ≤ 1000000000) (hc : 0 ≤ ch ∧ ch ≤ 100) : (0 ≤ q * ch ∧ q * ch ≤ 100000000000) ∧ 0 ≤ sd_w q ch ∧ sd_w q ch ≤ q := by
  have h1 : 0 ≤ q * ch := Int.mul_nonneg hq.1 hc.1
  have h2 : q * ch ≤ q * 100 := Int.mul_le_mul_of_nonneg_left hc.2 hq.1
  unfold sd_w
  rw [Int.tdiv_eq_ediv_of_nonneg h1]
  exact ⟨⟨h1, by omega⟩, by omega, Int.ediv_le_of_le_mul (by omega) h2⟩
theorem sd_P_rg {ch : Int} {b : Nat → Bool} (hc : 0 ≤ ch ∧ ch ≤ 100) : ∀ i, 0 ≤ sd_P ch b i ∧ sd_P ch b i ≤ 1000000000 := by
  intro i
  induction i with
  | zero => unfold sd_P; omega
  | succ i ih =>
    have := (sd_w_rg ih hc).2
    unfold sd_P
    split <;> omega
theorem sd_T_rg {f : (Nat → Int) → Nat → Int} {s p : Nat} {ch v : Int} (hc : 0 ≤ ch ∧ ch ≤ 100) : ∀ k M l q, (0 ≤ q ∧ q ≤ 1000000000) → 0 ≤ sd_T f s p ch v k M l q ∧ sd_T f s p ch v k M l q ≤ q := by
  intro k
  induction k with
  | zero => intro M l q hq; unfold sd_T; split <;> omega
  | succ k ih =>
    intro M l q hq
    have hw := (sd_w_rg hq hc).2
    have h1 := ih (f M) (l + sv_lost M s) (q - sd_w q ch) (by omega)
    have h2 := ih (f (sd_st p M)) (l + sv_lost (sd_st p M) s) (sd_w q ch) (by omega)
    unfold sd_T
    omega
theorem sd_st_ok {s p : Nat} {M : Nat → Int} (h : sv_ok s M) (hp : p < s) (hs : s ≤ 8) : sv_ok s (sd_st p M) := by
  unfold sd_st
  split
  · obtain ⟨h1, h2⟩ := h
    refine ⟨fun j hj => ?_, ?_⟩
    · obtain ⟨q1, q2, q3, q4⟩ := h1 j hj
      unfold sw_beg
      refine ⟨?_, ?_, ?_, ?_⟩
      · rw [if_neg (by omega), if_neg (by omega)]; exact q1
      · by_cases c : j = p
        · rw [if_pos (by omega)]; omega
        · rw [if_neg (by omega), if_neg (by omega)]; exact q2
      · by_cases c : j = p
        · rw [if_neg (by omega), if_pos (by omega)]; omega
        · rw [if_neg (by omega), if_neg (by omega)]; exact q3
      · intro hj2
        have := q4 hj2
        rw [if_neg (by omega), if_neg (by omega), if_neg (by omega), if_neg (by omega)]
        exact this
    · unfold sw_beg
      simp (disch := omega) only [if_neg]
      exact h2
  · exact h
theorem sd_st_hi {p : Nat} {M : Nat → Int} {j : Nat} (hp : p < 8) (hj : 24 ≤ j) : sd_st p M j = M j := by
  unfold sd_st
  split
  · unfold sw_beg
    rw [if_neg (by omega), if_neg (by omega)]
  · rfl
theorem nb_wl {z : Int} (h : -9223372036854775808 ≤ z) (h2 : z < 9223372036854775808) : mm_wl z = z := by
  unfold mm_wl
  rw [Int.bmod_def]
  split <;> omega
theorem nb_ladd {x y : Int} (h : -9223372036854775808 ≤ x + y) (h2 : x + y < 9223372036854775808) : mm_laddl x y = x + y := nb_wl h h2
theorem nb_lsub {x y : Int} (h : -9223372036854775808 ≤ x - y) (h2 : x - y < 9223372036854775808) : mm_lsubl x y = x - y := nb_wl h h2
theorem nb_lmul {x y : Int} (h : -9223372036854775808 ≤ x * y) (h2 : x * y < 9223372036854775808) : mm_lmull x y = x * y := nb_wl h h2
def sa_odds (f : (Nat → Int) → Nat → Int) (s : Nat) (N : Nat → Int) (p x v ch : Int) : Int := if (0 ≤ p ∧ p < s) ∧ (0 ≤ x ∧ x ≤ 6) ∧ (0 ≤ v ∧ v ≤ 999) ∧ 0 ≤ ch ∧ ch ≤ 100 then sd_T f s p.toNat ch v x.toNat N 0 1000000000 else -1
section OD
variable {n c t u s d : Nat} {I L : mm_I} {P : mm_P} {D : Nat → Int} {B : Nat → Nat} {g v : Int} {lw : Option Nat} {ev : sv_E} {N : Nat → Int}
theorem sd_M_ok {p : Nat} {b : Nat → Bool} (h : sv_ok s N) (hp : p < s) (hs : s ≤ 8) (hg : 0 ≤ g ∧ g ≤ 5) : ∀ i, sv_ok s (sd_M (sw_live ev D B g s) p b N i) := by
  intro i
  induction i with
  | zero => exact h
  | succ i ih =>
    unfold sd_M
    split
    · exact sw_live_ok (sd_st_ok ih hp hs) hs hg
    · exact sw_live_ok ih hs hg
theorem sd_M_29 {p : Nat} {b : Nat → Bool} (hp : p < 8) : ∀ i, sd_M (sw_live ev D B g s) p b N i 29 = N 29 + i := by
  intro i
  induction i with
  | zero => unfold sd_M; omega
  | succ i ih =>
    unfold sd_M
    rw [sw_live_29]
    split
    · rw [sd_st_hi hp (by omega), ih]; omega
    · rw [ih]; omega
theorem sd_S_rg {p : Nat} {b : Nat → Bool} (h : sv_ok s N) (hp : p < s) (hs : s ≤ 8) (hg : 0 ≤ g ∧ g ≤ 5) : ∀ i : Nat, 0 ≤ sd_S (sw_live ev D B g s) s p b N i ∧ sd_S (sw_live ev D B g s) s p b N i ≤ i * 72 := by
  intro i
  induction i with
  | zero => unfold sd_S; omega
  | succ i ih =>
    have hok := sd_M_ok (D := D) (B := B) (ev := ev) (b := b) h hp hs hg i
    have h1 := sv_lost_rg hok hs
    have h2 := sv_lost_rg (sd_st_ok hok hp hs) hs
    unfold sd_S
    split <;> omega
theorem sq_cpart {m k : Nat} {ch : Int} (hm : m < 256) (hk : k ≤ 6) (hc : 0 ≤ ch ∧ ch ≤ 100) : mm_rn (d + 1) 136 [.inl ((m : Int)), .inl ((k : Int)), .inl ch] n I L P = some (some (.inr (.inl (sd_P ch (Nat.testBit m) k))), n, I, L, P) := by
  rw [eX11_partOf]
  simp (disch := (first | assumption | omega | exact nb_ix (by omega) (by assumption) (by omega) (by omega) | exact nb_ix (by omega) rfl (by omega) (by omega) | exact nb_ok (by omega) rfl | decide)) only [kX11_partOf, ↓if_pos, ↓if_neg, nb_add, nb_sub, nb_mul, Int.toNat_natCast, mm_kr_s, mm_kv_s, if_pos, if_neg, sq_tn, Int.toNat_zero, Int.reduceToNat, Int.reduceNeg, Nat.reduceAdd, Int.reduceAdd, Int.reduceEq, Int.reduceLT, Int.reduceLE, Int.zero_add, nb_ui_s, nb_ui_k, nb_ui_a, sp_min, sp_max, sp_bits]
  refine sq_loop3 (G := fun x => x = some (some (.inr (.inl (sd_P ch (Nat.testBit m) k))), n, I, L, P)) (fun i (x6 x7 : mm_V) (g6 : Option Int) => mm_E d 136 7 [.inl ((m : Int)), .inl ((k : Int)), .inl ch, mm_junk, mm_junk, .inl ((i : Nat)), x6, x7] [none, none, none, some (sd_P ch (Nat.testBit m) i), none, none, g6, none] [] n I L P) (fun _ _ _ _ => True) k (s0 := mm_junk) (t0 := mm_junk) (u0 := none) trivial ?_ ?_
  · intro i x6 x7 g6 hi _ ih
    have hr := sd_P_rg (b := Nat.testBit m) hc i
    obtain ⟨w1, w2⟩ := sd_w_rg hr hc
    have hb := nb_tst0 m hm i (by omega)
    have ew : mm_wl (Int.tdiv (sd_P ch (Nat.testBit m) i * ch) 100) = sd_w (sd_P ch (Nat.testBit m) i) ch := nb_wl (by show _ ≤ sd_w _ _; omega) (by show sd_w _ _ < _; omega)
    have e5 : sd_P ch (Nat.testBit m) (i + 1) = if Nat.testBit m i = true then sd_w (sd_P ch (Nat.testBit m) i) ch else sd_P ch (Nat.testBit m) i - sd_w (sd_P ch (Nat.testBit m) i) ch := rfl
    rw [e5] at ih
    show mm_E _ _ _ _ _ _ _ _ _ _ = _
    rw [hX11_partOf_7]
    cases hbt : Nat.testBit m i with
    | true =>
      rw [hbt] at hb
      rw [if_pos hbt] at ih
      simp (disch := (first | assumption | omega | exact nb_ix (by omega) (by assumption) (by omega) (by omega) | exact nb_ix (by omega) rfl (by omega) (by omega) | exact nb_ok (by omega) rfl | decide)) only [kX11_partOf, nb_lmul, nb_lsub, ew, hb, ↓if_pos, ↓if_neg, nb_add, nb_sub, nb_mul, Int.toNat_natCast, mm_kr_s, mm_kv_s, if_pos, if_neg, sq_tn, Int.toNat_zero, Int.reduceToNat, Int.reduceNeg, Nat.reduceAdd, Int.reduceAdd, Int.reduceEq, Int.reduceLT, Int.reduceLE, Int.zero_add, nb_ui_s, nb_ui_k, nb_ui_a, sp_min, sp_max, sp_bits]
      exact ih _ _ _ trivial
    | false =>
      rw [hbt] at hb
      rw [if_neg (by rw [hbt]; decide)] at ih
      simp (disch := (first | assumption | omega | exact nb_ix (by omega) (by assumption) (by omega) (by omega) | exact nb_ix (by omega) rfl (by omega) (by omega) | exact nb_ok (by omega) rfl | decide)) only [kX11_partOf, nb_lmul, nb_lsub, ew, hb, ↓if_pos, ↓if_neg, nb_add, nb_sub, nb_mul, Int.toNat_natCast, mm_kr_s, mm_kv_s, if_pos, if_neg, sq_tn, Int.toNat_zero, Int.reduceToNat, Int.reduceNeg, Nat.reduceAdd, Int.reduceAdd, Int.reduceEq, Int.reduceLT, Int.reduceLE, Int.zero_add, nb_ui_s, nb_ui_k, nb_ui_a, sp_min, sp_max, sp_bits]
      exact ih _ _ _ trivial
  · intro x6 x7 g6 _
    show mm_E _ _ _ _ _ _ _ _ _ _ = _
    rw [hX11_partOf_7]
    simp (disch := (first | assumption | omega | exact nb_ix (by omega) (by assumption) (by omega) (by omega) | exact nb_ix (by omega) rfl (by omega) (by omega) | exact nb_ok (by omega) rfl | decide)) only [kX11_partOf, ↓if_pos, ↓if_neg, nb_add, nb_sub, nb_mul, Int.toNat_natCast, mm_kr_s, mm_kv_s, if_pos, if_neg, sq_tn, Int.toNat_zero, Int.reduceToNat, Int.reduceNeg, Nat.reduceAdd, Int.reduceAdd, Int.reduceEq, Int.reduceLT, Int.reduceLE, Int.zero_add, nb_ui_s, nb_ui_k, nb_ui_a, sp_min, sp_max, sp_bits]
set_option maxHeartbeats 1000000 in
theorem sq_cfires {m k p : Nat} (hd : c ≤ d) (hP : sq_P n P t u) (hW : sq_CW n c P I t s D B g v lw ev) (hN : sq_cN I 40 N) (hok : sv_ok s N) (hh : N 29 ≤ 9999) (hp : p < s) (hm : m < 256) (hk : k ≤ 6) :
    sq_X (some (.inl (sd_S (sw_live ev D B g s) s p (Nat.testBit m) N k))) n L P (sq_cf [229, 230, 231, 232] I) (mm_rn (d + 7) 6 [.inr (.inr (some 228)), .inr (.inr (some 40)), .inr (.inr (some t)), .inr (.inr lw), .inl ((p : Int)), .inl ((k : Int)), .inl ((m : Int))] n I L P) := by
  have hs8 : s ≤ 8 := hW.2.1.2.1
  have hg5 := hW.2.2.2
  obtain ⟨hn, htu, _, _, _, hNt, _, hC, _⟩ := hP
  have hA9 := hNt 229 (by omega)
  have ok9 := hA9.ok
  rw [eX0_lostByFires]
  simp (disch := (first | assumption | omega | exact nb_ix (by omega) (by assumption) (by omega) (by omega) | exact nb_ix (by omega) rfl (by omega) (by omega) | exact nb_ok (by omega) rfl | decide)) only [kX0_lostByFires, hC, ↓if_pos, ↓if_neg, nb_add, nb_sub, nb_mul, Int.toNat_natCast, mm_kr_s, mm_kv_s, if_pos, if_neg, sq_tn, Int.toNat_zero, Int.reduceToNat, Int.reduceNeg, Nat.reduceAdd, Int.reduceAdd, Int.reduceEq, Int.reduceLT, Int.reduceLE, Int.zero_add, nb_ui_s, nb_ui_k, nb_ui_a, sp_min, sp_max, sp_bits]
  refine sq_kv (sq_ccopy (d := d + 5) hA9 (hNt 40 (by omega)) (by omega) hN) (fun J hJ => ?_)
  simp (disch := (first | assumption | omega | exact nb_ix (by omega) (by assumption) (by omega) (by omega) | exact nb_ix (by omega) rfl (by omega) (by omega) | exact nb_ok (by omega) rfl | decide)) only [kX0_lostByFires, hC, ↓if_pos, ↓if_neg, nb_add, nb_sub, nb_mul, Int.toNat_natCast, mm_kr_s, mm_kv_s, if_pos, if_neg, sq_tn, Int.toNat_zero, Int.reduceToNat, Int.reduceNeg, Nat.reduceAdd, Int.reduceAdd, Int.reduceEq, Int.reduceLT, Int.reduceLE, Int.zero_add, nb_ui_s, nb_ui_k, nb_ui_a, sp_min, sp_max, sp_bits]
  refine sq_loop (fun i (J : mm_I) => mm_E (d + 6) 6 14 [.inr (.inr (some 228)), .inr (.inr (some 40)), .inr (.inr (some t)), .inr (.inr lw), .inl ((p : Int)), .inl ((k : Int)), .inl ((m : Int)), .inl (sd_S (sw_live ev D B g s) s p (Nat.testBit m) N i), .inl ((i : Nat))] [] [] n J L P) (fun i J => sq_cN J 229 (sd_M (sw_live ev D B g s) p (Nat.testBit m) N i) ∧ sq_cf [229, 230, 231, 232] I J) k (s0 := J) ⟨hJ.1, sq_cf_of hJ.2 (by decide)⟩ ?_ ?_
  · intro i J hi ⟨h1, h2⟩ ih
    have hoki := sd_M_ok (ev := ev) (D := D) (B := B) (b := Nat.testBit m) hok hp hs8 hg5 i
    have h29 := sd_M_29 (ev := ev) (D := D) (B := B) (g := g) (s := s) (N := N) (b := Nat.testBit m) (show p < 8 by omega) i
    have hsr := sd_S_rg (ev := ev) (D := D) (B := B) (b := Nat.testBit m) hok hp hs8 hg5 i
    have hb := nb_tst0 m hm i (by omega)
    have e5 : sd_S (sw_live ev D B g s) s p (Nat.testBit m) N (i + 1) = sd_S (sw_live ev D B g s) s p (Nat.testBit m) N i + sv_lost (if Nat.testBit m i = true then sd_st p (sd_M (sw_live ev D B g s) p (Nat.testBit m) N i) else sd_M (sw_live ev D B g s) p (Nat.testBit m) N i) s := rfl
    have e6 : sd_M (sw_live ev D B g s) p (Nat.testBit m) N (i + 1) = sw_live ev D B g s (if Nat.testBit m i = true then sd_st p (sd_M (sw_live ev D B g s) p (Nat.testBit m) N i) else sd_M (sw_live ev D B g s) p (Nat.testBit m) N i) := rfl
    rw [e5, e6] at ih
    rw [hX0_lostByFires_14]
    -- the hour itself
    have hour : ∀ (J2 : mm_I) (M2 : Nat → Int), sv_ok s M2 → M2 29 = N 29 + i → sq_cN J2 229 M2 → sq_cf [229, 230, 231, 232] I J2 → (∀ s' : mm_I, sq_cN s' 229 (sw_live ev D B g s M2) ∧ sq_cf [229, 230, 231, 232] I s' → sq_X (some (.inl (sd_S (sw_live ev D B g s) s p (Nat.testBit m) N k))) n L P (sq_cf [229, 230, 231, 232] I) (mm_E (d + 6) 6 14 [.inr (.inr (some 228)), .inr (.inr (some 40)), .inr (.inr (some t)), .inr (.inr lw), .inl ((p : Int)), .inl ((k : Int)), .inl ((m : Int)), .inl (sd_S (sw_live ev D B g s) s p (Nat.testBit m) N i + sv_lost M2 s), .inl (((i + 1 : Nat) : Int))] [] [] n s' L P)) → sq_X (some (.inl (sd_S (sw_live ev D B g s) s p (Nat.testBit m) N k))) n L P (sq_cf [229, 230, 231, 232] I) (mm_kr (d + 6) 6 54 [.inr (.inr (some 228)), .inr (.inr (some 40)), .inr (.inr (some t)), .inr (.inr lw), .inl ((p : Int)), .inl ((k : Int)), .inl ((m : Int)), .inl (sd_S (sw_live ev D B g s) s p (Nat.testBit m) N i), .inl ((i : Nat))] [] [.inl (sd_S (sw_live ev D B g s) s p (Nat.testBit m) N i)] n (mm_rn (d + 6) 47 [.inr (.inr (some 229)), .inr (.inr (some t)), .inr (.inr lw)] n J2 L P)) := by
      intro J2 M2 ok2 h292 hN2 hc2 ih2
      have hW2 := sq_CW_keep hW hc2 (by decide)
      have lr := sv_lost_rg ok2 hs8
      refine sq_kr (sq_chour (d := d + 1) (by omega) (by omega) hA9 hW2.1 hW2.2.1 hW2.2.2.1 hN2 ok2 (by omega)) (fun Q hQ => ?_)
      simp (disch := (first | assumption | omega | exact nb_ix (by omega) (by assumption) (by omega) (by omega) | exact nb_ix (by omega) rfl (by omega) (by omega) | exact nb_ok (by omega) rfl | decide)) only [kX0_lostByFires, ↓if_pos, ↓if_neg, nb_add, nb_sub, nb_mul, Int.toNat_natCast, mm_kr_s, mm_kv_s, if_pos, if_neg, sq_tn, Int.toNat_zero, Int.reduceToNat, Int.reduceNeg, Nat.reduceAdd, Int.reduceAdd, Int.reduceEq, Int.reduceLT, Int.reduceLE, Int.zero_add, nb_ui_s, nb_ui_k, nb_ui_a, sp_min, sp_max, sp_bits]
      exact ih2 _ ⟨hQ.1, sq_cf_trans hc2 hQ.2 (fun _ h => h) (by decide)⟩
    cases hbt : Nat.testBit m i with
    | true =>
      rw [hbt] at hb
      simp only [hbt, if_true] at ih
      by_cases hz : sd_M (sw_live ev D B g s) p (Nat.testBit m) N i (16 + p) = 0
      · have est : sd_st p (sd_M (sw_live ev D B g s) p (Nat.testBit m) N i) = sw_beg (sd_M (sw_live ev D B g s) p (Nat.testBit m) N i) p 0 1 := if_pos hz
        simp (disch := (first | assumption | omega | exact nb_ix (by omega) (by assumption) (by omega) (by omega) | exact nb_ix (by omega) rfl (by omega) (by omega) | exact nb_ok (by omega) rfl | decide)) only [kX0_lostByFires, hC, hb, ↓if_pos, ↓if_neg, nb_add, nb_sub, nb_mul, Int.toNat_natCast, mm_kr_s, mm_kv_s, if_pos, if_neg, sq_tn, Int.toNat_zero, Int.reduceToNat, Int.reduceNeg, Nat.reduceAdd, Int.reduceAdd, Int.reduceEq, Int.reduceLT, Int.reduceLE, Int.zero_add, nb_ui_s, nb_ui_k, nb_ui_a, sp_min, sp_max, sp_bits]
        refine sq_kv (sq_cbeg (d := d + 4) (p := p) hA9 (by omega) h1 hz) (fun J2 hJ2 => ?_)
        simp (disch := (first | assumption | omega | exact nb_ix (by omega) (by assumption) (by omega) (by omega) | exact nb_ix (by omega) rfl (by omega) (by omega) | exact nb_ok (by omega) rfl | decide)) only [kX0_lostByFires, hC, ↓if_pos, ↓if_neg, nb_add, nb_sub, nb_mul, Int.toNat_natCast, mm_kr_s, mm_kv_s, if_pos, if_neg, sq_tn, Int.toNat_zero, Int.reduceToNat, Int.reduceNeg, Nat.reduceAdd, Int.reduceAdd, Int.reduceEq, Int.reduceLT, Int.reduceLE, Int.zero_add, nb_ui_s, nb_ui_k, nb_ui_a, sp_min, sp_max, sp_bits]
        refine hour J2 (sd_st p (sd_M (sw_live ev D B g s) p (Nat.testBit m) N i)) (sd_st_ok hoki hp hs8) (by rw [sd_st_hi (by omega) (by omega)]; exact h29) ?_ ?_ ih
        · rw [est]; exact hJ2.1
        · exact sq_cf_trans h2 (sq_cf_of hJ2.2 (by decide)) (fun _ h => h) (by decide)
      · have est : sd_st p (sd_M (sw_live ev D B g s) p (Nat.testBit m) N i) = sd_M (sw_live ev D B g s) p (Nat.testBit m) N i := if_neg hz
        have hbn := sq_cbegN (d := d + 4) (L := L) (p := p) (k := 0) (z := 1) hA9 (by omega) h1 hz
        rw [est] at ih
        simp (disch := (first | assumption | omega | exact nb_ix (by omega) (by assumption) (by omega) (by omega) | exact nb_ix (by omega) rfl (by omega) (by omega) | exact nb_ok (by omega) rfl | decide)) only [kX0_lostByFires, hC, hb, hbn, ↓if_pos, ↓if_neg, nb_add, nb_sub, nb_mul, Int.toNat_natCast, mm_kr_s, mm_kv_s, if_pos, if_neg, sq_tn, Int.toNat_zero, Int.reduceToNat, Int.reduceNeg, Nat.reduceAdd, Int.reduceAdd, Int.reduceEq, Int.reduceLT, Int.reduceLE, Int.zero_add, nb_ui_s, nb_ui_k, nb_ui_a, sp_min, sp_max, sp_bits]
        exact hour J _ hoki h29 h1 h2 ih
    | false =>
      rw [hbt] at hb
      simp only [hbt, Bool.false_eq_true, if_false] at ih
      simp (disch := (first | assumption | omega | exact nb_ix (by omega) (by assumption) (by omega) (by omega) | exact nb_ix (by omega) rfl (by omega) (by omega) | exact nb_ok (by omega) rfl | decide)) only [kX0_lostByFires, hC, hb, ↓if_pos, ↓if_neg, nb_add, nb_sub, nb_mul, Int.toNat_natCast, mm_kr_s, mm_kv_s, if_pos, if_neg, sq_tn, Int.toNat_zero, Int.reduceToNat, Int.reduceNeg, Nat.reduceAdd, Int.reduceAdd, Int.reduceEq, Int.reduceLT, Int.reduceLE, Int.zero_add, nb_ui_s, nb_ui_k, nb_ui_a, sp_min, sp_max, sp_bits]
      exact hour J _ hoki h29 h1 h2 ih
  · intro J ⟨h1, h2⟩
    rw [hX0_lostByFires_14]
    simp (disch := (first | assumption | omega | exact nb_ix (by omega) (by assumption) (by omega) (by omega) | exact nb_ix (by omega) rfl (by omega) (by omega) | exact nb_ok (by omega) rfl | decide)) only [kX0_lostByFires, ↓if_pos, ↓if_neg, nb_add, nb_sub, nb_mul, Int.toNat_natCast, mm_kr_s, mm_kv_s, if_pos, if_neg, sq_tn, Int.toNat_zero, Int.reduceToNat, Int.reduceNeg, Nat.reduceAdd, Int.reduceAdd, Int.reduceEq, Int.reduceLT, Int.reduceLE, Int.zero_add, nb_ui_s, nb_ui_k, nb_ui_a, sp_min, sp_max, sp_bits]
    exact sq_ret h2
set_option maxHeartbeats 2000000 in
theorem oc_odds (hd : c ≤ d) (hC : sq_CC n c P I t u s D B g v lw ev N) (p x w ch : Int) : sq_X (some (.inl (sa_odds (sw_live ev D B g s) s N p x w ch))) n L P (sq_cf sq_SC I) (mm_rn (d + 10) 135 [.inr (.inr (some 0)), .inl p, .inl x, .inl w, .inl ch] n I L P) := by
  obtain ⟨hP, hW, hLW, hN, hok, hh⟩ := hC
  have ok0 := sq_ok0 hP
  have hs : I t 0 = (s : Int) := hW.2.1.2.2.1
  have hs8 : s ≤ 8 := hW.2.1.2.1
  have hg5 := hW.2.2.2
  have hTP := hW.1
  have okt := hTP.ok
  have hC := hP.2.2.2.2.2.2.2.1
  have hPt := hP.2.2.2.2.2.2.1
  have hn := hP.1
  rw [eX11_odds]
  by_cases h : (0 ≤ p ∧ p < s) ∧ (0 ≤ x ∧ x ≤ 6) ∧ (0 ≤ w ∧ w ≤ 999) ∧ 0 ≤ ch ∧ ch ≤ 100
  · obtain ⟨k, rfl⟩ : ∃ k : Nat, x = (k : Int) := ⟨x.toNat, by omega⟩
    obtain ⟨q, rfl⟩ : ∃ k : Nat, p = (k : Int) := ⟨p.toNat, by omega⟩
    unfold sa_odds
    rw [if_pos h, Int.toNat_natCast, Int.toNat_natCast]
    obtain ⟨h1, h2, h3, h4⟩ := h
    have hk6 : 2 ^ k ≤ 64 := Nat.pow_le_pow_right (n := 2) (by omega) (show k ≤ 6 by omega)
    have esh := nb_shl0 k (by omega)
    have hTr := sd_T_rg (f := sw_live ev D B g s) (s := s) (p := q) (v := w) h4 k N 0 1000000000 (by omega)
    have hsum := sd_sum (f := sw_live ev D B g s) (s := s) (p := q) (ch := ch) (v := w) k N 0 1000000000
    rw [hsum] at hTr ⊢
    generalize 2 ^ k = Z at *
    simp (disch := (first | assumption | omega | exact nb_ix (by omega) (by assumption) (by omega) (by omega) | exact nb_ix (by omega) rfl (by omega) (by omega) | exact nb_ok (by omega) rfl | decide)) only [kX11_odds, sp_has hTP, hs, hPt, ↓if_pos, ↓if_neg, nb_add, nb_sub, nb_mul, Int.toNat_natCast, mm_kr_s, mm_kv_s, if_pos, if_neg, sq_tn, Int.toNat_zero, Int.reduceToNat, Int.reduceNeg, Nat.reduceAdd, Int.reduceAdd, Int.reduceEq, Int.reduceLT, Int.reduceLE, Int.zero_add, nb_ui_s, nb_ui_k, nb_ui_a, sp_min, sp_max, sp_bits]
    refine sq_loop3 (fun i (y : Option Int) (x8 x9 : mm_V × mm_I) => mm_E (d + 9) 135 52 [.inr (.inr (some 0)), .inl ((q : Int)), .inl ((k : Int)), .inl w, .inl ch, mm_junk, mm_junk, .inl ((i : Nat)), x8.1, x9.1] [none, none, none, none, none, some (sp_sum (sd_L (sw_live ev D B g s) s q ch w k N 0 1000000000) i), none, none, y, none] [] n x9.2 L P) (fun i _ _ x9 => sq_cf sq_SC I x9.2) Z (s0 := none) (t0 := (mm_junk, I)) (u0 := (mm_junk, I)) (sq_cf_refl _ _) ?_ ?_
    · intro i y x8 x9 hi hJ ih
      obtain ⟨x9, J⟩ := x9
      have hJ2 : sq_cf sq_SC I J := hJ
      clear hJ
      have hlr : ∀ j, 0 ≤ sd_L (sw_live ev D B g s) s q ch w k N 0 1000000000 j ∧ sd_L (sw_live ev D B g s) s q ch w k N 0 1000000000 j ≤ 1000000000 := by
        intro j
        rw [sd_end]
        have := sd_P_rg (b := Nat.testBit j) h4 k
        split <;> omega
      have hsr := sp_sum_rg (f := sd_L (sw_live ev D B g s) s q ch w k N 0 1000000000) (M := 1000000000) (by omega) i (fun j _ => hlr j)
      have hli := hlr i
      have hpart := sq_cpart (d := d + 8) (n := n) (I := J) (L := L) (P := P) (m := i) (k := k) (ch := ch) (by omega) (by omega) h4
      have hpr := sd_P_rg (b := Nat.testBit i) h4 k
      have e5 : sp_sum (sd_L (sw_live ev D B g s) s q ch w k N 0 1000000000) (i + 1) = sp_sum (sd_L (sw_live ev D B g s) s q ch w k N 0 1000000000) i + sd_L (sw_live ev D B g s) s q ch w k N 0 1000000000 i := rfl
      have hLi := sd_end (f := sw_live ev D B g s) (s := s) (p := q) (ch := ch) (v := w) (N := N) (n := k) (m := i)
      rw [hLi] at e5 hli
      rw [e5] at ih
      have j0 : J 0 = I 0 := sq_cf_ge hJ2 (by decide) (by omega)
      have ht13 := hW.2.1.1
      have hLWJ : sq_LW J lw := by
        unfold sq_LW
        rw [j0]
        exact hLW
      have hNJ : sq_cN J 40 N := by
        intro j hj
        rw [← hN j hj]
        unfold sq_rd
        rw [sq_cf_ge hJ2 (b := 40) (by decide) (by omega), sq_cf_ge hJ2 (b := 41) (by decide) (by omega), sq_cf_ge hJ2 (b := 42) (by decide) (by omega), sq_cf_ge hJ2 (b := 43) (by decide) (by omega)]
      have hWJ := sq_CW_keep hW hJ2 sq_SC_ge
      show sq_X _ _ _ _ _ (mm_E _ _ _ _ _ _ _ _ _ _)
      rw [hX11_odds_52]
      generalize sp_sum (sd_L (sw_live ev D B g s) s q ch w k N 0 1000000000) i = sm at *
      have hsm : sm ≤ 64000000000 := by omega
      by_cases hp0 : sd_P ch (Nat.testBit i) k = 0
      · have hz : (if w ≤ sd_S (sw_live ev D B g s) s q (Nat.testBit i) N k then sd_P ch (Nat.testBit i) k else 0) = 0 := by
          rw [hp0]; split <;> rfl
        rw [hz, Int.add_zero] at ih
        rw [hp0] at hpart
        simp (disch := (first | assumption | omega | exact nb_ix (by omega) (by assumption) (by omega) (by omega) | exact nb_ix (by omega) rfl (by omega) (by omega) | exact nb_ok (by omega) rfl | decide)) only [kX11_odds, esh, hpart, ↓if_pos, ↓if_neg, nb_add, nb_sub, nb_mul, Int.toNat_natCast, mm_kr_s, mm_kv_s, if_pos, if_neg, sq_tn, Int.toNat_zero, Int.reduceToNat, Int.reduceNeg, Nat.reduceAdd, Int.reduceAdd, Int.reduceEq, Int.reduceLT, Int.reduceLE, Int.zero_add, nb_ui_s, nb_ui_k, nb_ui_a, sp_min, sp_max, sp_bits]
        exact ih _ (_, J) (_, J) hJ2
      · have hp1 : 0 < sd_P ch (Nat.testBit i) k := by omega
        generalize hPP : sd_P ch (Nat.testBit i) k = pp at *
        have hp2 : ¬ pp < 0 := by omega
        simp (disch := (first | assumption | omega | exact nb_ix (by omega) (by assumption) (by omega) (by omega) | exact nb_ix (by omega) rfl (by omega) (by omega) | exact nb_ok (by omega) rfl | decide)) only [kX11_odds, esh, hpart, hC, hPt, sq_held hP hLWJ, ↓if_pos, ↓if_neg, nb_add, nb_sub, nb_mul, Int.toNat_natCast, mm_kr_s, mm_kv_s, if_pos, if_neg, sq_tn, Int.toNat_zero, Int.reduceToNat, Int.reduceNeg, Nat.reduceAdd, Int.reduceAdd, Int.reduceEq, Int.reduceLT, Int.reduceLE, Int.zero_add, nb_ui_s, nb_ui_k, nb_ui_a, sp_min, sp_max, sp_bits]
        refine sq_kr (sq_cfires (d := d + 2) (by omega) hP hWJ hNJ hok hh (show q < s by omega) (show i < 256 by omega) (by omega)) (fun K hK => ?_)
        have hKc : sq_cf sq_SC I K := sq_cf_trans hJ2 hK (fun _ h => h) (by decide)
        by_cases hw : w ≤ sd_S (sw_live ev D B g s) s q (Nat.testBit i) N k
        · rw [if_pos hw] at ih
          simp (disch := (first | assumption | omega | exact nb_ix (by omega) (by assumption) (by omega) (by omega) | exact nb_ix (by omega) rfl (by omega) (by omega) | exact nb_ok (by omega) rfl | decide)) only [kX11_odds, nb_ladd, ↓if_pos, ↓if_neg, nb_add, nb_sub, nb_mul, Int.toNat_natCast, mm_kr_s, mm_kv_s, if_pos, if_neg, sq_tn, Int.toNat_zero, Int.reduceToNat, Int.reduceNeg, Nat.reduceAdd, Int.reduceAdd, Int.reduceEq, Int.reduceLT, Int.reduceLE, Int.zero_add, nb_ui_s, nb_ui_k, nb_ui_a, sp_min, sp_max, sp_bits]
          exact ih _ (_, K) (_, K) hKc
        · rw [if_neg hw, Int.add_zero] at ih
          simp (disch := (first | assumption | omega | exact nb_ix (by omega) (by assumption) (by omega) (by omega) | exact nb_ix (by omega) rfl (by omega) (by omega) | exact nb_ok (by omega) rfl | decide)) only [kX11_odds, ↓if_pos, ↓if_neg, nb_add, nb_sub, nb_mul, Int.toNat_natCast, mm_kr_s, mm_kv_s, if_pos, if_neg, sq_tn, Int.toNat_zero, Int.reduceToNat, Int.reduceNeg, Nat.reduceAdd, Int.reduceAdd, Int.reduceEq, Int.reduceLT, Int.reduceLE, Int.zero_add, nb_ui_s, nb_ui_k, nb_ui_a, sp_min, sp_max, sp_bits]
          exact ih _ (_, K) (_, K) hKc
    · intro y x8 x9 hJ
      obtain ⟨x9, J⟩ := x9
      have hJ2 : sq_cf sq_SC I J := hJ
      show sq_X _ _ _ _ _ (mm_E _ _ _ _ _ _ _ _ _ _)
      rw [hX11_odds_52]
      generalize sp_sum (sd_L (sw_live ev D B g s) s q ch w k N 0 1000000000) Z = sm at *
      have ew : mm_w sm = sm := nb_w (by omega) (by omega)
      simp (disch := (first | assumption | omega | exact nb_ix (by omega) (by assumption) (by omega) (by omega) | exact nb_ix (by omega) rfl (by omega) (by omega) | exact nb_ok (by omega) rfl | decide)) only [kX11_odds, esh, ew, ↓if_pos, ↓if_neg, nb_add, nb_sub, nb_mul, Int.toNat_natCast, mm_kr_s, mm_kv_s, if_pos, if_neg, sq_tn, Int.toNat_zero, Int.reduceToNat, Int.reduceNeg, Nat.reduceAdd, Int.reduceAdd, Int.reduceEq, Int.reduceLT, Int.reduceLE, Int.zero_add, nb_ui_s, nb_ui_k, nb_ui_a, sp_min, sp_max, sp_bits]
      exact sq_ret hJ2
  · have : sa_odds (sw_live ev D B g s) s N p x w ch = -1 := if_neg h
    rw [this]
    by_cases p1 : 0 ≤ p ∧ p < (s : Int)
    · by_cases x1 : x < 0
      · simp (disch := (first | assumption | omega | exact nb_ix (by omega) (by assumption) (by omega) (by omega) | exact nb_ix (by omega) rfl (by omega) (by omega) | exact nb_ok (by omega) rfl | decide)) only [kX11_odds, sp_has hTP, hs, hPt, ↓if_pos, ↓if_neg, nb_add, nb_sub, nb_mul, Int.toNat_natCast, mm_kr_s, mm_kv_s, if_pos, if_neg, sq_tn, Int.toNat_zero, Int.reduceToNat, Int.reduceNeg, Nat.reduceAdd, Int.reduceAdd, Int.reduceEq, Int.reduceLT, Int.reduceLE, Int.zero_add, nb_ui_s, nb_ui_k, nb_ui_a, sp_min, sp_max, sp_bits]
        exact sq_ret (sq_cf_refl _ _)
      · by_cases x2 : 6 < x
        · simp (disch := (first | assumption | omega | exact nb_ix (by omega) (by assumption) (by omega) (by omega) | exact nb_ix (by omega) rfl (by omega) (by omega) | exact nb_ok (by omega) rfl | decide)) only [kX11_odds, sp_has hTP, hs, hPt, ↓if_pos, ↓if_neg, nb_add, nb_sub, nb_mul, Int.toNat_natCast, mm_kr_s, mm_kv_s, if_pos, if_neg, sq_tn, Int.toNat_zero, Int.reduceToNat, Int.reduceNeg, Nat.reduceAdd, Int.reduceAdd, Int.reduceEq, Int.reduceLT, Int.reduceLE, Int.zero_add, nb_ui_s, nb_ui_k, nb_ui_a, sp_min, sp_max, sp_bits]
          exact sq_ret (sq_cf_refl _ _)
        · by_cases w1 : w < 0
          · simp (disch := (first | assumption | omega | exact nb_ix (by omega) (by assumption) (by omega) (by omega) | exact nb_ix (by omega) rfl (by omega) (by omega) | exact nb_ok (by omega) rfl | decide)) only [kX11_odds, sp_has hTP, hs, hPt, ↓if_pos, ↓if_neg, nb_add, nb_sub, nb_mul, Int.toNat_natCast, mm_kr_s, mm_kv_s, if_pos, if_neg, sq_tn, Int.toNat_zero, Int.reduceToNat, Int.reduceNeg, Nat.reduceAdd, Int.reduceAdd, Int.reduceEq, Int.reduceLT, Int.reduceLE, Int.zero_add, nb_ui_s, nb_ui_k, nb_ui_a, sp_min, sp_max, sp_bits]
            exact sq_ret (sq_cf_refl _ _)
          · by_cases w2 : 999 < w
            · simp (disch := (first | assumption | omega | exact nb_ix (by omega) (by assumption) (by omega) (by omega) | exact nb_ix (by omega) rfl (by omega) (by omega) | exact nb_ok (by omega) rfl | decide)) only [kX11_odds, sp_has hTP, hs, hPt, ↓if_pos, ↓if_neg, nb_add, nb_sub, nb_mul, Int.toNat_natCast, mm_kr_s, mm_kv_s, if_pos, if_neg, sq_tn, Int.toNat_zero, Int.reduceToNat, Int.reduceNeg, Nat.reduceAdd, Int.reduceAdd, Int.reduceEq, Int.reduceLT, Int.reduceLE, Int.zero_add, nb_ui_s, nb_ui_k, nb_ui_a, sp_min, sp_max, sp_bits]
              exact sq_ret (sq_cf_refl _ _)
            · by_cases c1 : ch < 0
              · simp (disch := (first | assumption | omega | exact nb_ix (by omega) (by assumption) (by omega) (by omega) | exact nb_ix (by omega) rfl (by omega) (by omega) | exact nb_ok (by omega) rfl | decide)) only [kX11_odds, sp_has hTP, hs, hPt, ↓if_pos, ↓if_neg, nb_add, nb_sub, nb_mul, Int.toNat_natCast, mm_kr_s, mm_kv_s, if_pos, if_neg, sq_tn, Int.toNat_zero, Int.reduceToNat, Int.reduceNeg, Nat.reduceAdd, Int.reduceAdd, Int.reduceEq, Int.reduceLT, Int.reduceLE, Int.zero_add, nb_ui_s, nb_ui_k, nb_ui_a, sp_min, sp_max, sp_bits]
                exact sq_ret (sq_cf_refl _ _)
              · simp (disch := (first | assumption | omega | exact nb_ix (by omega) (by assumption) (by omega) (by omega) | exact nb_ix (by omega) rfl (by omega) (by omega) | exact nb_ok (by omega) rfl | decide)) only [kX11_odds, sp_has hTP, hs, hPt, ↓if_pos, ↓if_neg, nb_add, nb_sub, nb_mul, Int.toNat_natCast, mm_kr_s, mm_kv_s, if_pos, if_neg, sq_tn, Int.toNat_zero, Int.reduceToNat, Int.reduceNeg, Nat.reduceAdd, Int.reduceAdd, Int.reduceEq, Int.reduceLT, Int.reduceLE, Int.zero_add, nb_ui_s, nb_ui_k, nb_ui_a, sp_min, sp_max, sp_bits]
                exact sq_ret (sq_cf_refl _ _)
    · simp (disch := (first | assumption | omega | exact nb_ix (by omega) (by assumption) (by omega) (by omega) | exact nb_ix (by omega) rfl (by omega) (by omega) | exact nb_ok (by omega) rfl | decide)) only [kX11_odds, sp_has hTP, hs, hPt, ↓if_pos, ↓if_neg, nb_add, nb_sub, nb_mul, Int.toNat_natCast, mm_kr_s, mm_kv_s, if_pos, if_neg, sq_tn, Int.toNat_zero, Int.reduceToNat, Int.reduceNeg, Nat.reduceAdd, Int.reduceAdd, Int.reduceEq, Int.reduceLT, Int.reduceLE, Int.zero_add, nb_ui_s, nb_ui_k, nb_ui_a, sp_min, sp_max, sp_bits]
      exact sq_ret (sq_cf_refl _ _)
end OD
