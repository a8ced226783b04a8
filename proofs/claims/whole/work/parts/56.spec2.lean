/-! SPEC: an hour, step by step: what is taken, how sizes grow, where fire spreads -/
def sw_take (s : Nat) (N : Nat → Int) : Nat → Int := fun k => if k < s then N k - sv_tk N k else N k
def sw_grow (ev : sv_E) (D : Nat → Int) (B : Nat → Nat) (s : Nat) (N : Nat → Int) : Nat → Int := fun k => if 16 ≤ k ∧ k < 16 + s then sv_s1 ev D B N s (k - 16) else sw_take s N k
def sw_fr (B : Nat → Nat) (s : Nat) (N : Nat → Int) : Nat := sv_or (fun p => if N (8 + p) = 0 ∧ 5 ≤ N (16 + p) then B p else 0) s
def sw_new (B : Nat → Nat) (s : Nat) (N : Nat → Int) (p : Nat) : Bool := Nat.testBit (sw_fr B s N) p && (decide (N (16 + p) = 0) && decide (0 < N p))
def sw_spr (B : Nat → Nat) (s : Nat) (N : Nat → Int) : Nat → Int := fun k => if 8 ≤ k ∧ k < 8 + s ∧ sw_new B s N (k - 8) = true then 0 else if 16 ≤ k ∧ k < 16 + s ∧ sw_new B s N (k - 16) = true then 1 else N k
def sw_live (ev : sv_E) (D : Nat → Int) (B : Nat → Nat) (g : Int) (s : Nat) (N : Nat → Int) : Nat → Int := fun k => if k = 25 then g else if k = 28 then min 9999 (N 28 + sv_lost N s) else if k = 29 then N 29 + 1 else sw_spr B s (sw_grow ev D B s N) k
theorem sv_or_lt {f : Nat → Nat} {M : Nat} : ∀ k, (∀ j, j < k → f j < 2 ^ M) → sv_or f k < 2 ^ M := by
  intro k
  induction k with
  | zero => intro _; exact Nat.two_pow_pos M
  | succ k ih => intro h; exact Nat.or_lt_two_pow (ih (fun j hj => h j (by omega))) (h k (by omega))
theorem sw_fr_lt {B : Nat → Nat} {s : Nat} {N : Nat → Int} (hB : ∀ p, p < s → B p < 256) : sw_fr B s N < 256 := by
  refine sv_or_lt (M := 8) s (fun j hj => ?_)
  split
  · exact hB j hj
  · decide
theorem sv_tk_rg {s : Nat} {N : Nat → Int} (h : sv_ok s N) {p : Nat} (hp : p < 8) : 0 ≤ sv_tk N p ∧ sv_tk N p ≤ 9 ∧ sv_tk N p ≤ N p := by
  obtain ⟨⟨q1, q2⟩, _, ⟨q3, q4⟩, _⟩ := h.1 p hp
  unfold sv_tk
  omega
theorem sv_lost_rg {s : Nat} {N : Nat → Int} (h : sv_ok s N) (hs : s ≤ 8) : 0 ≤ sv_lost N s ∧ sv_lost N s ≤ 72 := by
  obtain ⟨r1, r2⟩ := sp_sum_rg (f := sv_tk N) (M := 9) (by omega) s (fun j hj => ⟨(sv_tk_rg h (by omega)).1, (sv_tk_rg h (by omega)).2.1⟩)
  unfold sv_lost
  omega
theorem sv_s1_rg (ev : sv_E) (D : Nat → Int) (B : Nat → Nat) (N : Nat → Int) (s p : Nat) : 0 ≤ sv_s1 ev D B N s p ∧ sv_s1 ev D B N s p ≤ 9 := by
  unfold sv_s1
  split <;> omega
theorem sw_grow_ok {ev : sv_E} {D : Nat → Int} {B : Nat → Nat} {s : Nat} {N : Nat → Int} (h : sv_ok s N) (hs : s ≤ 8) : sv_ok s (sw_grow ev D B s N) := by
  obtain ⟨h1, h2⟩ := h
  refine ⟨fun p hp => ?_, ?_⟩
  · obtain ⟨q1, q2, q3, q4⟩ := h1 p hp
    have tk := sv_tk_rg (s := s) ⟨h1, h2⟩ hp
    have z1 := sv_s1_rg ev D B N s p
    unfold sw_grow sw_take
    have e1 : 16 + p - 16 = p := by omega
    rw [e1]
    grind
  · unfold sw_grow sw_take
    grind
theorem sw_live_ok {ev : sv_E} {D : Nat → Int} {B : Nat → Nat} {g : Int} {s : Nat} {N : Nat → Int} (h : sv_ok s N) (hs : s ≤ 8) (hg : 0 ≤ g ∧ g ≤ 5) : sv_ok s (sw_live ev D B g s N) := by
  have h2 := sw_grow_ok (ev := ev) (D := D) (B := B) h hs
  have h3 := sv_lost_rg h hs
  have hN := h.2
  unfold sw_live
  revert h2
  generalize sw_grow ev D B s N = M
  intro h2
  obtain ⟨h2, h4⟩ := h2
  refine ⟨fun p hp => ?_, ?_⟩
  · obtain ⟨q1, q2, q3, q4⟩ := h2 p hp
    unfold sw_spr
    have e1 : 16 + p - 16 = p := by omega
    have e2 : 8 + p - 8 = p := by omega
    have c1 : ¬ p = 25 := by omega
    have c2 : ¬ p = 28 := by omega
    have c3 : ¬ p = 29 := by omega
    have c4 : ¬ 8 + p = 25 := by omega
    have c5 : ¬ 8 + p = 28 := by omega
    have c6 : ¬ 8 + p = 29 := by omega
    have c7 : ¬ 16 + p = 25 := by omega
    have c8 : ¬ 16 + p = 28 := by omega
    have c9 : ¬ 16 + p = 29 := by omega
    have c10 : ¬ 8 ≤ p := by omega
    have c11 : ¬ 16 ≤ p := by omega
    have c12 : ¬ 16 ≤ 8 + p := by omega
    have c13 : ¬ 16 + p < 8 + s := by omega
    simp only [c1, c2, c3, c4, c5, c6, c7, c8, c9, c10, c11, c12, c13, e1, e2, if_false, false_and, and_false]
    grind
  · unfold sw_spr
    grind
/-- bits: all of f but those of t -/
theorem sq_andn {f t : Nat} (hf : f < 256) : ∃ r : Nat, mm_and (f : Int) (mm_xor (t : Int) (-1)) = (r : Int) ∧ r < 256 ∧ ∀ i, Nat.testBit r i = (Nat.testBit f i && !Nat.testBit t i) := by
  have hb : ∀ i, Nat.testBit (f &&& (t ^^^ 255)) i = (Nat.testBit f i && !Nat.testBit t i) := by
    intro i
    rw [Nat.testBit_and, Nat.testBit_xor]
    have e255 : Nat.testBit 255 i = decide (i < 8) := Nat.testBit_two_pow_sub_one 8 i
    rw [e255]
    by_cases h8 : i < 8
    · simp [h8]
    · have : Nat.testBit f i = false := Nat.testBit_lt_two_pow (Nat.lt_of_lt_of_le hf (Nat.pow_le_pow_right (n := 2) (by omega) (show 8 ≤ i by omega)))
      simp [this]
  refine ⟨f &&& (t ^^^ 255), ?_, Nat.lt_of_le_of_lt Nat.and_le_left hf, hb⟩
  unfold mm_and mm_xor
  refine nb_ti _ _ (Nat.lt_of_le_of_lt Nat.and_le_left (by omega)) ?_
  rw [Int32.ofInt_toInt, Int32.toBitVec_and, Int32.toBitVec_xor, nb_bv, nb_bv]
  have e1 : (Int32.ofInt (-1)).toBitVec = BitVec.allOnes 32 := by decide
  rw [e1]
  apply BitVec.eq_of_getLsbD_eq
  intro i hi
  rw [BitVec.getLsbD_and, BitVec.getLsbD_xor, BitVec.getLsbD_ofNat, BitVec.getLsbD_ofNat, BitVec.getLsbD_ofNat, BitVec.getLsbD_allOnes, hb]
  simp [hi]
