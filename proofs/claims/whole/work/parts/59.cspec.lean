/-! the class's nights, town, law -/
def sq_rd (I : mm_I) (a j : Nat) : Int := if j < 8 then I (a + 1) j else if j < 16 then I (a + 2) (j - 8) else if j < 24 then I (a + 3) (j - 16) else I a (j - 21)
def sq_cN (I : mm_I) (a : Nat) (N : Nat → Int) : Prop := ∀ j, j < 30 → sq_rd I a j = N j
theorem sq_cN_iff {I : mm_I} {a : Nat} {N : Nat → Int} : sq_cN I a N ↔ (∀ p, p < 8 → I (a + 1) p = N p) ∧ (∀ p, p < 8 → I (a + 2) p = N (8 + p)) ∧ (∀ p, p < 8 → I (a + 3) p = N (16 + p)) ∧ I a 3 = N 24 ∧ I a 4 = N 25 ∧ I a 5 = N 26 ∧ I a 6 = N 27 ∧ I a 7 = N 28 ∧ I a 8 = N 29 := by
  constructor
  · intro h
    refine ⟨fun p hp => ?_, fun p hp => ?_, fun p hp => ?_, h 24 (by omega), h 25 (by omega), h 26 (by omega), h 27 (by omega), h 28 (by omega), h 29 (by omega)⟩
    · have := h p (by omega)
      unfold sq_rd at this
      rw [if_pos hp] at this
      exact this
    · have := h (8 + p) (by omega)
      unfold sq_rd at this
      rw [if_neg (by omega), if_pos (by omega), Nat.add_sub_cancel_left] at this
      exact this
    · have := h (16 + p) (by omega)
      unfold sq_rd at this
      rw [if_neg (by omega), if_neg (by omega), if_pos (by omega), Nat.add_sub_cancel_left] at this
      exact this
  · intro ⟨h1, h2, h3, h4, h5, h6, h7, h8, h9⟩ j hj
    unfold sq_rd
    by_cases c1 : j < 8
    · rw [if_pos c1]; exact h1 j c1
    · rw [if_neg c1]
      by_cases c2 : j < 16
      · rw [if_pos c2, h2 (j - 8) (by omega)]; congr 1; omega
      · rw [if_neg c2]
        by_cases c3 : j < 24
        · rw [if_pos c3, h3 (j - 16) (by omega)]; congr 1; omega
        · rw [if_neg c3]
          have : j = 24 ∨ j = 25 ∨ j = 26 ∨ j = 27 ∨ j = 28 ∨ j = 29 := by omega
          rcases this with e | e | e | e | e | e <;> subst e <;> assumption
/-- cells of the laws that every reckoning may write -/
def sq_LF : List Nat := [20, 22, 23, 24, 26, 27, 28, 30, 31, 32, 34, 35]
def sq_cf (l : List Nat) (I I' : mm_I) : Prop := (∀ b, b ∉ l → b ∉ sq_LF → I' b = I b) ∧ (∀ b, b ∈ [20, 24, 28, 32] → I' b 1 = I b 1)
theorem sq_cf_refl (l : List Nat) (I : mm_I) : sq_cf l I I := ⟨fun _ _ _ => rfl, fun _ _ => rfl⟩
theorem sq_cf_up {l : List Nat} {I I' : mm_I} {a k : Nat} {z : Int} (h : sq_cf l I I') (ha : a ∈ l) (h2 : 36 ≤ a) : sq_cf l I (mm_ui I' a k z) := by
  refine ⟨fun b hb hc => ?_, fun b hb => ?_⟩
  · have hne : b ≠ a := fun e => hb (by rw [e]; exact ha)
    rw [nb_ui_r hne]
    exact h.1 b hb hc
  · have : b ≠ a := by
      intro e
      subst e
      simp at hb
      omega
    rw [nb_ui_r this]
    exact h.2 b hb
theorem sq_cf_trans {l l1 l2 : List Nat} {I I1 I2 : mm_I} (h : sq_cf l1 I I1) (h2 : sq_cf l2 I1 I2) (s1 : ∀ b, b ∈ l1 → b ∈ l) (s2 : ∀ b, b ∈ l2 → b ∈ l) : sq_cf l I I2 := by
  refine ⟨fun b hb hc => ?_, fun b hb => ?_⟩
  · rw [h2.1 b (fun q => hb (s2 b q)) hc, h.1 b (fun q => hb (s1 b q)) hc]
  · rw [h2.2 b hb, h.2 b hb]
theorem sq_cf_sub {l l1 : List Nat} {I I1 : mm_I} (h : sq_cf l1 I I1) (s1 : ∀ b, b ∈ l1 → b ∈ l) : sq_cf l I I1 := ⟨fun b hb => h.1 b (fun q => hb (s1 b q)), h.2⟩
theorem sq_cf_ge {l : List Nat} {I I1 : mm_I} (h : sq_cf l I I1) {b : Nat} (hb : b ∉ l) (h2 : 36 ≤ b ∨ b < 20 ∨ b = 21 ∨ b = 25 ∨ b = 29 ∨ b = 33) : I1 b = I b := h.1 b hb (by unfold sq_LF; simp; omega)
/-- the class's law by its contract: what valueFor answers -/
def sq_CL (n c : Nat) (P : mm_P) (I : mm_I) (l : Nat) (e : sq_Ev) : Prop := ∀ (d : Nat) (I0 L : mm_I), c ≤ d → I0 (l + 1) = I (l + 1) → I0 l 1 = I l 1 → ∀ z k w a b h : Int, (0 ≤ z ∧ z ≤ 9999) → (0 ≤ k ∧ k ≤ 9999) → (0 ≤ w ∧ w ≤ 9999) → (0 ≤ a ∧ a ≤ 9999) → (0 ≤ b ∧ b ≤ 9999) → (0 ≤ h ∧ h ≤ 9999) →
  sq_X (some (.inl (e z k w a b h))) n L P (fun I' => sq_fr [l, l + 2, l + 3] I0 I' ∧ I' l 1 = I0 l 1) (mm_rn d 24 [.inr (.inr (some l)), .inl z, .inl k, .inl w, .inl a, .inl b, .inl h] n I0 L P)
/-- the law that holds, in the class -/
def sq_CH (n c : Nat) (P : mm_P) (I : mm_I) (lw : Option Nat) (ev : sv_E) : Prop := match lw, ev with
  | none, none => True
  | some l, some e => l ∈ [20, 24, 28, 32] ∧ mm_ok n l 3 ∧ sq_CL n c P I l e
  | _, _ => False
theorem sq_CH_keep {n c : Nat} {P : mm_P} {I I' : mm_I} {lw : Option Nat} {ev : sv_E} {l : List Nat} (h : sq_CH n c P I lw ev) (hf : sq_cf l I I') (hl : ∀ b, b ∈ l → 36 ≤ b) : sq_CH n c P I' lw ev := by
  unfold sq_CH at h ⊢
  cases lw with
  | none => cases ev with
    | none => trivial
    | some e => exact h
  | some a => cases ev with
    | none => exact h
    | some e =>
      obtain ⟨h1, h2, h3⟩ := h
      refine ⟨h1, h2, fun d I0 L hd e1 e2 => h3 d I0 L hd ?_ ?_⟩
      · rw [e1]
        refine sq_cf_ge hf (fun q => ?_) (by simp at h1; omega)
        have := hl _ q
        simp at h1
        omega
      · rw [e2]
        exact hf.2 a h1
/-- the class's town -/
def sq_CT (I : mm_I) (t s : Nat) (D : Nat → Int) (B : Nat → Nat) (g v : Int) : Prop := t ≤ 13 ∧ s ≤ 8 ∧ I t 0 = (s : Int) ∧ (∀ p q, p < s → q < s → I (t + 5) (8 * p + q) = D (8 * p + q)) ∧ (∀ k, 0 ≤ D k ∧ D k ≤ 99) ∧ (∀ p, p < s → I (t + 3) p = (B p : Int) ∧ B p < 256) ∧ (∀ p, p < s → I (t + 4) p = (sp_mask (fun o => decide (D (8 * p + o) ≤ v)) s : Nat)) ∧ I t 1 = g ∧ I t 2 = v
theorem sq_CT_keep {I I' : mm_I} {t s : Nat} {D : Nat → Int} {B : Nat → Nat} {g v : Int} {l : List Nat} (h : sq_CT I t s D B g v) (hf : sq_cf l I I') (hl : ∀ b, b ∈ l → 36 ≤ b) : sq_CT I' t s D B g v := by
  unfold sq_CT at h ⊢
  have e : ∀ k, k < 6 → I' (t + k) = I (t + k) := by
    intro k hk
    exact sq_cf_ge hf (fun q => by have := hl _ q; omega) (by omega)
  rw [e 3 (by omega), e 4 (by omega), e 5 (by omega), show I' t = I t from e 0 (by omega)]
  exact h
theorem sp_mask_ext {f g : Nat → Bool} {s : Nat} (h1 : ∀ p, p < s → f p = g p) : ∀ k, s ≤ k → (∀ p, s ≤ p → p < k → f p = false) → sp_mask f k = sp_mask g s := by
  have h0 : ∀ k, k ≤ s → sp_mask f k = sp_mask g k := by
    intro k
    induction k with
    | zero => intro _; rfl
    | succ k ih => intro hk; unfold sp_mask; rw [ih (by omega), h1 k (by omega)]
  intro k
  induction k with
  | zero =>
    intro hk _
    have : s = 0 := by omega
    subst this
    rfl
  | succ k ih =>
    intro hk h2
    by_cases hks : s = k + 1
    · subst hks; exact h0 _ (Nat.le_refl _)
    · have e : sp_mask f (k + 1) = sp_mask f k + (if f k = true then 2 ^ k else 0) := rfl
      rw [e, h2 k (by omega) (by omega)]
      simp only [Bool.false_eq_true, if_false, Nat.add_zero]
      exact ih (by omega) (fun p hp hk2 => h2 p hp (by omega))
theorem sp_mask_bit (f : Nat → Bool) : ∀ k i, Nat.testBit (sp_mask f k) i = (decide (i < k) && f i) := by
  intro k
  induction k with
  | zero => intro i; simp [sp_mask]
  | succ k ih =>
    intro i
    unfold sp_mask
    have hlt := sp_mask_lt f k
    by_cases hf : f k = true
    · rw [if_pos hf]
      rw [Nat.add_comm]
      by_cases hi : i = k
      · subst hi
        rw [Nat.testBit_two_pow_add_eq, ih]
        simp [hf]
      · by_cases hi2 : i < k
        · rw [Nat.testBit_two_pow_add_gt hi2, ih]
          simp [hi2, show i < k + 1 by omega]
        · have h3 : 2 ^ k + sp_mask f k < 2 ^ i := by
            have : 2 ^ (k + 1) ≤ 2 ^ i := Nat.pow_le_pow_right (by omega) (by omega)
            have e2 : 2 ^ (k + 1) = 2 ^ k + 2 ^ k := by rw [Nat.pow_succ]; omega
            omega
          rw [Nat.testBit_lt_two_pow h3]
          simp [show ¬ i < k + 1 by omega]
    · rw [if_neg hf, Nat.add_zero, ih]
      by_cases hi : i = k
      · subst hi; simp [hf]
      · by_cases hi2 : i < k
        · simp [hi2, show i < k + 1 by omega]
        · simp [hi2, show ¬ i < k + 1 by omega]
theorem sv_or_bit (f : Nat → Nat) : ∀ k i, Nat.testBit (sv_or f k) i = true ↔ ∃ p, p < k ∧ Nat.testBit (f p) i = true := by
  intro k
  induction k with
  | zero => intro i; simp [sv_or]
  | succ k ih =>
    intro i
    unfold sv_or
    rw [Nat.testBit_or, Bool.or_eq_true, ih]
    constructor
    · rintro (⟨p, h1, h2⟩ | h)
      · exact ⟨p, by omega, h2⟩
      · exact ⟨k, by omega, h⟩
    · rintro ⟨p, h1, h2⟩
      by_cases hp : p = k
      · subst hp; exact Or.inr h2
      · exact Or.inl ⟨p, by omega, h2⟩
