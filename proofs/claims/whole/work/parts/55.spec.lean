/-! SPEC: one hour of a night. N: the night in the model's layout; s: how many places; D: the ways; B: who lies beside whom; g: the legs of an hour; ev: the law that holds, if any -/
abbrev sv_E : Type := Option (Int → Int → Int → Int → Int → Int → Int)
def sv_am (N : Nat → Int) (s : Nat) : Nat := sp_mask (fun q => decide (0 < N (16 + q))) s
def sv_tk (N : Nat → Int) (p : Nat) : Int := min (N p) (N (16 + p))
def sv_gr (ev : sv_E) (D : Nat → Int) (B : Nat → Nat) (N : Nat → Int) (s p : Nat) : Int := match ev with
  | some e => e (N (16 + p)) (N (8 + p)) (N p - sv_tk N p) (D (8 * (N 24).toNat + p)) (sp_pc (B p &&& sv_am N s)) (Int.tmod (N 29) 24)
  | none => if N (8 + p) = 0 then (if 0 < N p - sv_tk N p then 1 else -1) else if N (8 + p) = 1 ∧ 1 < D (8 * (N 24).toNat + p) then 1 else -1
def sv_s1 (ev : sv_E) (D : Nat → Int) (B : Nat → Nat) (N : Nat → Int) (s p : Nat) : Int :=
  if 0 < N (16 + p) then max 0 (min 9 (N (16 + p) + max (-9) (min 9 (sv_gr ev D B N s p)))) else 0
def sv_or (f : Nat → Nat) : Nat → Nat
  | 0 => 0
  | k + 1 => sv_or f k ||| f k
def sv_fr (ev : sv_E) (D : Nat → Int) (B : Nat → Nat) (N : Nat → Int) (s : Nat) : Nat := sv_or (fun p => if N (8 + p) = 0 ∧ 5 ≤ sv_s1 ev D B N s p then B p else 0) s
def sv_sp (ev : sv_E) (D : Nat → Int) (B : Nat → Nat) (N : Nat → Int) (s p : Nat) : Bool := Nat.testBit (sv_fr ev D B N s) p && decide (sv_s1 ev D B N s p = 0) && decide (0 < N p - sv_tk N p)
def sv_lost (N : Nat → Int) (s : Nat) : Int := sp_sum (sv_tk N) s
def sv_live (ev : sv_E) (D : Nat → Int) (B : Nat → Nat) (g : Int) (s : Nat) (N : Nat → Int) : Nat → Int := fun k =>
  if k < 8 then (if k < s then N k - sv_tk N k else N k)
  else if k < 16 then (if k - 8 < s ∧ sv_sp ev D B N s (k - 8) = true then 0 else N k)
  else if k < 24 then (if k - 16 < s then (if sv_sp ev D B N s (k - 16) = true then 1 else sv_s1 ev D B N s (k - 16)) else N k)
  else if k = 25 then g else if k = 28 then min 9999 (N 28 + sv_lost N s) else if k = 29 then N 29 + 1 else N k
/-- what a night keeps to -/
def sv_ok (s : Nat) (N : Nat → Int) : Prop := (∀ p, p < 8 → (0 ≤ N p ∧ N p ≤ 99) ∧ (0 ≤ N (8 + p) ∧ N (8 + p) ≤ 2) ∧ (0 ≤ N (16 + p) ∧ N (16 + p) ≤ 9) ∧ (s ≤ p → N p = 0 ∧ N (16 + p) = 0)) ∧ (0 ≤ N 24 ∧ (N 24 < s ∨ N 24 = 0)) ∧ (0 ≤ N 25 ∧ N 25 ≤ 5) ∧ (0 ≤ N 26 ∧ N 26 ≤ 3) ∧ (0 ≤ N 27 ∧ N 27 ≤ 999) ∧ (0 ≤ N 28 ∧ N 28 ≤ 9999) ∧ (0 ≤ N 29)
