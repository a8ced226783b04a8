/-! towns: lanes and ways, as they are reckoned -/
def zsb (a b : Nat) : Nat := if Nat.testBit a b = true then a else a + 2 ^ b
def zBs (la : Nat → Int) : Nat → Nat → Nat
  | 0 => fun _ => 0
  | l + 1 => fun p => if p = (la (2 * l + 1)).toNat then zsb (zBs la l p) (la (2 * l)).toNat else if p = (la (2 * l)).toNat then zsb (zBs la l p) (la (2 * l + 1)).toNat else zBs la l p
def zlk (np : Nat) (la : Nat → Int) (l : Nat) : Prop := 0 ≤ la (2 * l) ∧ la (2 * l) < (np : Int) ∧ 0 ≤ la (2 * l + 1) ∧ la (2 * l + 1) < (np : Int) ∧ la (2 * l) ≠ la (2 * l + 1)
theorem zsb_t : ∀ a, a < 256 → ∀ b, b < 8 → zsb a b < 256 ∧ ∀ k, k < 8 → Nat.testBit (zsb a b) k = (Nat.testBit a k || decide (k = b)) := by decide +kernel
theorem zBs_lt {np : Nat} {la : Nat → Int} (hn : np ≤ 8) : ∀ m, (∀ l, l < m → zlk np la l) → ∀ p, zBs la m p < 256 := by
  intro m
  induction m with
  | zero => intro _ p; exact Nat.zero_lt_succ _
  | succ m ih =>
    intro h p
    have h1 := ih (fun l hl => h l (by omega)) p
    obtain ⟨a1, a2, a3, a4, a5⟩ := h m (by omega)
    show (if p = (la (2 * m + 1)).toNat then zsb (zBs la m p) (la (2 * m)).toNat else if p = (la (2 * m)).toNat then zsb (zBs la m p) (la (2 * m + 1)).toNat else zBs la m p) < 256
    split
    · exact (zsb_t _ h1 _ (by omega)).1
    · split
      · exact (zsb_t _ h1 _ (by omega)).1
      · exact h1
theorem zBs_bit {np : Nat} {la : Nat → Int} (hn : np ≤ 8) {m : Nat} (h : ∀ l, l < m + 1 → zlk np la l) {p o : Nat} (ho : o < 8) : Nat.testBit (zBs la (m + 1) p) o = (Nat.testBit (zBs la m p) o || decide ((p = (la (2 * m)).toNat ∧ o = (la (2 * m + 1)).toNat) ∨ (p = (la (2 * m + 1)).toNat ∧ o = (la (2 * m)).toNat))) := by
  have h1 := zBs_lt hn m (fun l hl => h l (by omega)) p
  obtain ⟨a1, a2, a3, a4, a5⟩ := h m (by omega)
  have hne : (la (2 * m)).toNat ≠ (la (2 * m + 1)).toNat := by omega
  show Nat.testBit (if p = (la (2 * m + 1)).toNat then zsb (zBs la m p) (la (2 * m)).toNat else if p = (la (2 * m)).toNat then zsb (zBs la m p) (la (2 * m + 1)).toNat else zBs la m p) o = _
  split
  · rename_i c
    rw [(zsb_t _ h1 _ (by omega)).2 o ho]
    congr 1
    have : ¬ p = (la (2 * m)).toNat := fun e => hne (by rw [← e, c])
    by_cases e : o = (la (2 * m)).toNat
    · rw [decide_eq_true e, decide_eq_true (Or.inr ⟨c, e⟩)]
    · rw [decide_eq_false e, decide_eq_false (by rintro (w | w); exact this w.1; exact e w.2)]
  · rename_i c
    split
    · rename_i c2
      rw [(zsb_t _ h1 _ (by omega)).2 o ho]
      congr 1
      by_cases e : o = (la (2 * m + 1)).toNat
      · rw [decide_eq_true e, decide_eq_true (Or.inl ⟨c2, e⟩)]
      · rw [decide_eq_false e, decide_eq_false (by rintro (w | w); exact e w.2; exact c w.1)]
    · rename_i c2
      rw [decide_eq_false (by rintro (w | w); exact c2 w.1; exact c w.1), Bool.or_false]
theorem zBs_sym {np : Nat} {la : Nat → Int} (hn : np ≤ 8) : ∀ m, (∀ l, l < m → zlk np la l) → ∀ p o, p < 8 → o < 8 → Nat.testBit (zBs la m p) o = Nat.testBit (zBs la m o) p := by
  intro m
  induction m with
  | zero => intro _ p o _ _; show Nat.testBit 0 o = Nat.testBit 0 p; rw [Nat.zero_testBit, Nat.zero_testBit]
  | succ m ih =>
    intro h p o hp ho
    rw [zBs_bit hn h ho, zBs_bit hn h hp, ih (fun l hl => h l (by omega)) p o hp ho]
    congr 1
    apply decide_eq_decide.mpr
    constructor
    · rintro (w | w)
      · exact Or.inr ⟨w.2, w.1⟩
      · exact Or.inl ⟨w.2, w.1⟩
    · rintro (w | w)
      · exact Or.inr ⟨w.2, w.1⟩
      · exact Or.inl ⟨w.2, w.1⟩
theorem zBs_in {np : Nat} {la : Nat → Int} (hn : np ≤ 8) : ∀ m, (∀ l, l < m → zlk np la l) → ∀ p o, o < 8 → (np ≤ p ∨ np ≤ o) → Nat.testBit (zBs la m p) o = false := by
  intro m
  induction m with
  | zero => intro _ p o _ _; show Nat.testBit 0 o = false; rw [Nat.zero_testBit]
  | succ m ih =>
    intro h p o ho hx
    obtain ⟨a1, a2, a3, a4, a5⟩ := h m (by omega)
    rw [zBs_bit hn h ho, ih (fun l hl => h l (by omega)) p o ho hx, Bool.false_or, decide_eq_false]
    rintro (w | w) <;> omega
/-- ways of no or one lane -/
def zD0 (B : Nat → Nat) (k : Nat) : Int := if k / 8 = k % 8 then 0 else if Nat.testBit (B (k / 8)) (k % 8) = true then 1 else 99
/-- ways over one place more -/
def zwb (by' : Nat) (D : Nat → Int) (k : Nat) : Int := min (D k) (D (8 * (k / 8) + by') + D (8 * by' + k % 8))
def zDi (B : Nat → Nat) : Nat → Nat → Int
  | 0 => zD0 B
  | b + 1 => zwb b (zDi B b)
theorem z8 {p o : Nat} (ho : o < 8) : (8 * p + o) / 8 = p ∧ (8 * p + o) % 8 = o := by omega
theorem zDi_rg (B : Nat → Nat) : ∀ b k, 0 ≤ zDi B b k ∧ zDi B b k ≤ 99 := by
  intro b
  induction b with
  | zero =>
    intro k
    show 0 ≤ zD0 B k ∧ zD0 B k ≤ 99
    unfold zD0
    split
    · decide
    · split <;> decide
  | succ b ih =>
    intro k
    show 0 ≤ min (zDi B b k) (zDi B b (8 * (k / 8) + b) + zDi B b (8 * b + k % 8)) ∧ min (zDi B b k) (zDi B b (8 * (k / 8) + b) + zDi B b (8 * b + k % 8)) ≤ 99
    have h1 := ih k
    have h2 := ih (8 * (k / 8) + b)
    have h3 := ih (8 * b + k % 8)
    omega
theorem zDi_dg (B : Nat → Nat) : ∀ b p, p < 8 → zDi B b (8 * p + p) = 0 := by
  intro b
  induction b with
  | zero =>
    intro p hp
    show zD0 B (8 * p + p) = 0
    unfold zD0
    rw [(z8 hp).1, (z8 hp).2, if_pos rfl]
  | succ b ih =>
    intro p hp
    show min (zDi B b (8 * p + p)) _ = 0
    rw [ih p hp]
    have h2 := zDi_rg B b (8 * ((8 * p + p) / 8) + b)
    have h3 := zDi_rg B b (8 * b + (8 * p + p) % 8)
    omega
theorem zst_e {b p o : Nat} {D : Nat → Int} (ho : o < 8) : zwb b D (8 * p + o) = min (D (8 * p + o)) (D (8 * p + b) + D (8 * b + o)) := by
  unfold zwb
  rw [(z8 ho).1, (z8 ho).2]
theorem zDi_sym {B : Nat → Nat} (hB : ∀ p o, p < 8 → o < 8 → Nat.testBit (B p) o = Nat.testBit (B o) p) : ∀ b, b ≤ 8 → ∀ p o, p < 8 → o < 8 → zDi B b (8 * p + o) = zDi B b (8 * o + p) := by
  intro b
  induction b with
  | zero =>
    intro _ p o hp ho
    show zD0 B (8 * p + o) = zD0 B (8 * o + p)
    unfold zD0
    rw [(z8 ho).1, (z8 ho).2, (z8 hp).1, (z8 hp).2, hB p o hp ho]
    by_cases e : p = o
    · rw [if_pos e, if_pos e.symm]
    · have e2 : ¬ o = p := fun q => e q.symm
      rw [if_neg e, if_neg e2]
  | succ b ih =>
    intro hb p o hp ho
    show zwb b (zDi B b) (8 * p + o) = zwb b (zDi B b) (8 * o + p)
    rw [zst_e ho, zst_e hp, ih (by omega) p o hp ho, ih (by omega) p b hp (by omega), ih (by omega) b o (by omega) ho, Int.add_comm]
theorem zDi_far {np : Nat} {B : Nat → Nat} (hB : ∀ p o, o < 8 → (np ≤ p ∨ np ≤ o) → Nat.testBit (B p) o = false) : ∀ b, b ≤ 8 → ∀ p o, p < 8 → o < 8 → p ≠ o → (np ≤ p ∨ np ≤ o) → zDi B b (8 * p + o) = 99 := by
  intro b
  induction b with
  | zero =>
    intro _ p o hp ho hne hx
    show zD0 B (8 * p + o) = 99
    unfold zD0
    rw [(z8 ho).1, (z8 ho).2, if_neg hne, hB p o ho hx]
    rfl
  | succ b ih =>
    intro hb p o hp ho hne hx
    show zwb b (zDi B b) (8 * p + o) = 99
    rw [zst_e ho, ih (by omega) p o hp ho hne hx]
    have h2 := zDi_rg B b (8 * p + b)
    have h3 := zDi_rg B b (8 * b + o)
    rcases hx with hx | hx
    · by_cases e : p = b
      · subst e
        rw [zDi_dg B p p hp, ih (by omega) p o hp ho hne (Or.inl hx)]
        decide
      · rw [ih (by omega) p b hp (by omega) e (Or.inl hx)] at h2 ⊢
        omega
    · by_cases e : b = o
      · subst e
        rw [zDi_dg B b b ho, ih (by omega) p b hp ho hne (Or.inr hx)]
        decide
      · rw [ih (by omega) b o (by omega) ho e (Or.inr hx)] at h3 ⊢
        omega
/-- places that are not there change nothing -/
theorem zDi_end {np : Nat} {B : Nat → Nat} (hB : ∀ p o, o < 8 → (np ≤ p ∨ np ≤ o) → Nat.testBit (B p) o = false) {b : Nat} (hb : np ≤ b) : ∀ m, b + m ≤ 8 → ∀ p o, p < np → o < np → zDi B (b + m) (8 * p + o) = zDi B b (8 * p + o) := by
  intro m
  induction m with
  | zero => intro _ p o _ _; rfl
  | succ m ih =>
    intro hm p o hp ho
    show zwb (b + m) (zDi B (b + m)) (8 * p + o) = _
    rw [zst_e (by omega), ih (by omega) p o hp ho, zDi_far hB (b + m) (by omega) p (b + m) (by omega) (by omega) (by omega) (Or.inr (by omega))]
    have h1 := zDi_rg B b (8 * p + o)
    have h2 := zDi_rg B (b + m) (8 * (b + m) + o)
    omega
/-- a row and a column stay while their own place is gone over -/
theorem zst_col {b : Nat} {B : Nat → Nat} (hb : b < 8) {p : Nat} (hp : p < 8) : zwb b (zDi B b) (8 * p + b) = zDi B b (8 * p + b) := by
  rw [zst_e hb, zDi_dg B b b hb]
  have h1 := zDi_rg B b (8 * p + b)
  omega
theorem zst_row {b : Nat} {B : Nat → Nat} (hb : b < 8) {o : Nat} (ho : o < 8) : zwb b (zDi B b) (8 * b + o) = zDi B b (8 * b + o) := by
  rw [zst_e ho, zDi_dg B b b hb]
  have h1 := zDi_rg B b (8 * b + o)
  omega
