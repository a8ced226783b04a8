/-! laws as rows of tokens (code, value): how they are worked out -/
def sx_bd (z : Int) : Int := max (-1000000) (min 1000000 z)
def sx_op (c : Nat) (a b : Int) : Int := if c = 2 then sx_bd (a + b) else if c = 3 then sx_bd (a - b) else if c = 4 then sx_bd (a * b) else if c = 5 then (if b = 0 then 0 else sx_bd (Int.tdiv a b)) else if c = 6 then (if a = b then 1 else 0) else if c = 7 then (if a < b then 1 else 0) else if c = 8 then (if b < a then 1 else 0) else if c = 10 then (if a ≠ 0 ∧ b ≠ 0 then 1 else 0) else (if a ≠ 0 ∨ b ≠ 0 then 1 else 0)
def sx_st (l : Nat → Int) (c : Nat) (v : Int) (st : List Int) : Option (List Int) :=
  if c = 0 then (if (0 ≤ v ∧ v ≤ 9999) ∧ st.length < 60 then some (v :: st) else none)
  else if c = 1 then (if (0 ≤ v ∧ v < 6) ∧ st.length < 60 then some (l v.toNat :: st) else none)
  else if c = 9 then (match st with
    | x :: s => if x = 0 ∨ x = 1 then some ((1 - x) :: s) else none
    | [] => none)
  else if c ≤ 11 then (match st with
    | b :: a :: s => if c ≤ 8 ∨ ((a = 0 ∨ a = 1) ∧ (b = 0 ∨ b = 1)) then some (sx_op c a b :: s) else none
    | _ => none)
  else none
def sx_ev (l : Nat → Int) : List (Nat × Int) → List Int → Option (List Int)
  | [], st => some st
  | t :: r, st => match sx_st l t.1 t.2 st with
    | some st' => sx_ev l r st'
    | none => none
def sx_rep (f : Nat → Int) : List Int → Prop
  | [] => True
  | x :: s => f s.length = x ∧ sx_rep f s
theorem sx_rep_up {f g : Nat → Int} : ∀ s : List Int, sx_rep f s → (∀ j, j < s.length → g j = f j) → sx_rep g s := by
  intro s
  induction s with
  | nil => intro _ _; trivial
  | cons x s ih =>
    intro h e
    refine ⟨?_, ih h.2 (fun j hj => e j (by simp; omega))⟩
    rw [e s.length (by simp)]
    exact h.1
def sx_in (st : List Int) : Prop := st.length ≤ 60 ∧ ∀ x, x ∈ st → -1000000 ≤ x ∧ x ≤ 1000000
theorem sx_bd_rg (z : Int) : -1000000 ≤ sx_bd z ∧ sx_bd z ≤ 1000000 := by unfold sx_bd; omega
theorem sx_op_rg (c : Nat) (a b : Int) : -1000000 ≤ sx_op c a b ∧ sx_op c a b ≤ 1000000 := by
  unfold sx_op
  have h1 := sx_bd_rg (a + b)
  have h2 := sx_bd_rg (a - b)
  have h3 := sx_bd_rg (a * b)
  have h4 := sx_bd_rg (Int.tdiv a b)
  repeat' split
  all_goals omega
theorem sx_st_in {l : Nat → Int} {c : Nat} {v : Int} {st st' : List Int} (hl : ∀ j, j < 6 → 0 ≤ l j ∧ l j ≤ 9999) (h : sx_in st) (e : sx_st l c v st = some st') : sx_in st' := by
  unfold sx_st at e
  split at e
  · split at e
    · rename_i h1
      cases e
      refine ⟨by simp; omega, fun x hx => ?_⟩
      simp at hx
      rcases hx with hx | hx
      · omega
      · exact h.2 x hx
    · cases e
  · split at e
    · split at e
      · rename_i h1
        cases e
        have := hl v.toNat (by omega)
        refine ⟨by simp; omega, fun x hx => ?_⟩
        simp at hx
        rcases hx with hx | hx
        · omega
        · exact h.2 x hx
      · cases e
    · split at e
      · split at e
        · split at e
          · rename_i x s h1
            cases e
            refine ⟨by have := h.1; simp at this ⊢; omega, fun y hy => ?_⟩
            simp at hy
            rcases hy with hy | hy
            · omega
            · exact h.2 y (by simp; exact Or.inr hy)
          · cases e
        · cases e
      · split at e
        · split at e
          · split at e
            · rename_i b a s h1
              cases e
              refine ⟨by have := h.1; simp at this ⊢; omega, fun y hy => ?_⟩
              simp at hy
              rcases hy with hy | hy
              · have := sx_op_rg c a b; omega
              · exact h.2 y (by simp; exact Or.inr (Or.inr hy))
            · cases e
          · cases e
        · cases e
/-- a token's sign in the class -/
def sx_enc (t : Nat × Int) : Int := if t.1 ≤ 1 then (t.1 : Int) + 16 * t.2 else if t.1 ≤ 8 then (t.1 : Int) else if t.1 = 9 then 11 else if t.1 = 10 then 9 else 10
def sx_cc (c : Nat) : Int := if c ≤ 8 then (c : Int) else if c = 9 then 11 else if c = 10 then 9 else 10
section TK
variable {n t u d : Nat} {I L : mm_I} {P : mm_P}
theorem sx_mulb {a b : Int} (ha : -1000000 ≤ a ∧ a ≤ 1000000) (hb : -1000000 ≤ b ∧ b ≤ 1000000) : -1000000000000 ≤ a * b ∧ a * b ≤ 1000000000000 := by
  have h1 : a.natAbs ≤ 1000000 := by omega
  have h2 : b.natAbs ≤ 1000000 := by omega
  have h3 : (a * b).natAbs ≤ 1000000 * 1000000 := by
    rw [Int.natAbs_mul]
    exact Nat.mul_le_mul h1 h2
  omega
theorem sx_divb {a b : Int} (ha : -1000000 ≤ a ∧ a ≤ 1000000) : -1000000 ≤ Int.tdiv a b ∧ Int.tdiv a b ≤ 1000000 := by
  have h : (Int.tdiv a b).natAbs ≤ a.natAbs := by
    rw [Int.natAbs_tdiv]
    exact Nat.div_le_self _ _
  omega
theorem sq_cjoint {c : Nat} {a b : Int} (hc : 2 ≤ c ∧ c ≤ 11 ∧ c ≠ 9) (ha : -1000000 ≤ a ∧ a ≤ 1000000) (hb : -1000000 ≤ b ∧ b ≤ 1000000) (h01 : c ≤ 8 ∨ ((a = 0 ∨ a = 1) ∧ (b = 0 ∨ b = 1))) : mm_rn (d + 1) 27 [.inl (sx_cc c), .inl a, .inl b] n I L P = some (some (.inl (sx_op c a b)), n, I, L, P) := by
  have hm := sx_mulb ha hb
  have hd := sx_divb (b := b) ha
  have fin : ∀ (z : Int) (l : List mm_V), -10000000000000 ≤ z ∧ z ≤ 10000000000000 → mm_E d 27 144 l [none, none, none, some z, none] [] n I L P = some (some (.inl (sx_bd z)), n, I, L, P) := by
    intro z l hz
    unfold sx_bd
    by_cases h1 : 1000000 < z
    · have e : max (-1000000) (min 1000000 z) = 1000000 := by omega
      rw [e]
      have h2 : ¬ z < 1000000 := by omega
      have h3 : ¬ z = 1000000 := by omega
      simp (disch := (first | assumption | omega | exact nb_ix (by omega) (by assumption) (by omega) (by omega) | exact nb_ix (by omega) rfl (by omega) (by omega) | exact nb_ok (by omega) rfl | decide)) only [kX3_joint, ↓if_pos, ↓if_neg, nb_add, nb_sub, nb_mul, Int.toNat_natCast, mm_kr_s, mm_kv_s, if_pos, if_neg, sq_tn, Int.toNat_zero, Int.reduceToNat, Int.reduceNeg, Nat.reduceAdd, Int.reduceAdd, Int.reduceEq, Int.reduceLT, Int.reduceLE, Int.zero_add, nb_ui_s, nb_ui_k, nb_ui_a, sp_min, sp_max, sp_bits]
    · by_cases h4 : z < -1000000
      · have e : max (-1000000) (min 1000000 z) = -1000000 := by omega
        rw [e]
        have h5 : z < 1000000 := by omega
        simp (disch := (first | assumption | omega | exact nb_ix (by omega) (by assumption) (by omega) (by omega) | exact nb_ix (by omega) rfl (by omega) (by omega) | exact nb_ok (by omega) rfl | decide)) only [kX3_joint, ↓if_pos, ↓if_neg, nb_add, nb_sub, nb_mul, Int.toNat_natCast, mm_kr_s, mm_kv_s, if_pos, if_neg, sq_tn, Int.toNat_zero, Int.reduceToNat, Int.reduceNeg, Nat.reduceAdd, Int.reduceAdd, Int.reduceEq, Int.reduceLT, Int.reduceLE, Int.zero_add, nb_ui_s, nb_ui_k, nb_ui_a, sp_min, sp_max, sp_bits]
      · have e : max (-1000000) (min 1000000 z) = z := by omega
        have ew : mm_w z = z := nb_w (by omega) (by omega)
        rw [e]
        by_cases h5 : z = 1000000
        · subst h5
          simp (disch := (first | assumption | omega | exact nb_ix (by omega) (by assumption) (by omega) (by omega) | exact nb_ix (by omega) rfl (by omega) (by omega) | exact nb_ok (by omega) rfl | decide)) only [kX3_joint, ew, ↓if_pos, ↓if_neg, nb_add, nb_sub, nb_mul, Int.toNat_natCast, mm_kr_s, mm_kv_s, if_pos, if_neg, sq_tn, Int.toNat_zero, Int.reduceToNat, Int.reduceNeg, Nat.reduceAdd, Int.reduceAdd, Int.reduceEq, Int.reduceLT, Int.reduceLE, Int.zero_add, nb_ui_s, nb_ui_k, nb_ui_a, sp_min, sp_max, sp_bits]
        · have h6 : z < 1000000 := by omega
          by_cases h7 : z = -1000000
          · subst h7
            simp (disch := (first | assumption | omega | exact nb_ix (by omega) (by assumption) (by omega) (by omega) | exact nb_ix (by omega) rfl (by omega) (by omega) | exact nb_ok (by omega) rfl | decide)) only [kX3_joint, ew, ↓if_pos, ↓if_neg, nb_add, nb_sub, nb_mul, Int.toNat_natCast, mm_kr_s, mm_kv_s, if_pos, if_neg, sq_tn, Int.toNat_zero, Int.reduceToNat, Int.reduceNeg, Nat.reduceAdd, Int.reduceAdd, Int.reduceEq, Int.reduceLT, Int.reduceLE, Int.zero_add, nb_ui_s, nb_ui_k, nb_ui_a, sp_min, sp_max, sp_bits]
          · have h8 : ¬ z < -1000000 := by omega
            simp (disch := (first | assumption | omega | exact nb_ix (by omega) (by assumption) (by omega) (by omega) | exact nb_ix (by omega) rfl (by omega) (by omega) | exact nb_ok (by omega) rfl | decide)) only [kX3_joint, ew, ↓if_pos, ↓if_neg, nb_add, nb_sub, nb_mul, Int.toNat_natCast, mm_kr_s, mm_kv_s, if_pos, if_neg, sq_tn, Int.toNat_zero, Int.reduceToNat, Int.reduceNeg, Nat.reduceAdd, Int.reduceAdd, Int.reduceEq, Int.reduceLT, Int.reduceLE, Int.zero_add, nb_ui_s, nb_ui_k, nb_ui_a, sp_min, sp_max, sp_bits]
  have fin01 : ∀ (z : Int) (l : List mm_V), (z = 0 ∨ z = 1) → mm_E d 27 144 l [none, none, none, some z, none] [] n I L P = some (some (.inl z), n, I, L, P) := by
    intro z l hz
    rw [fin z l (by omega)]
    unfold sx_bd
    rw [show max (-1000000) (min 1000000 z) = z by omega]
  rw [eX3_joint]
  have hcs : c = 2 ∨ c = 3 ∨ c = 4 ∨ c = 5 ∨ c = 6 ∨ c = 7 ∨ c = 8 ∨ c = 10 ∨ c = 11 := by omega
  rcases hcs with e | e | e | e | e | e | e | e | e
  · subst e
    rw [show sx_cc 2 = 2 from rfl]
    rw [show sx_op 2 a b = sx_bd (a + b) from rfl]
    have t := fin (a + b) [.inl 2, .inl a, .inl b, mm_junk, mm_junk] (by omega)
    simp (disch := (first | assumption | omega | exact nb_ix (by omega) (by assumption) (by omega) (by omega) | exact nb_ix (by omega) rfl (by omega) (by omega) | exact nb_ok (by omega) rfl | decide)) only [kX3_joint, nb_add, nb_sub, nb_lmul, Int.reduceEq, ↓reduceIte] at t
    simp (disch := (first | assumption | omega | exact nb_ix (by omega) (by assumption) (by omega) (by omega) | exact nb_ix (by omega) rfl (by omega) (by omega) | exact nb_ok (by omega) rfl | decide)) only [kX3_joint, nb_add, nb_sub, nb_lmul, Int.reduceEq, ↓reduceIte]
    exact t
  · subst e
    rw [show sx_cc 3 = 3 from rfl]
    rw [show sx_op 3 a b = sx_bd (a - b) from rfl]
    have t := fin (a - b) [.inl 3, .inl a, .inl b, mm_junk, mm_junk] (by omega)
    simp (disch := (first | assumption | omega | exact nb_ix (by omega) (by assumption) (by omega) (by omega) | exact nb_ix (by omega) rfl (by omega) (by omega) | exact nb_ok (by omega) rfl | decide)) only [kX3_joint, nb_add, nb_sub, nb_lmul, Int.reduceEq, ↓reduceIte] at t
    simp (disch := (first | assumption | omega | exact nb_ix (by omega) (by assumption) (by omega) (by omega) | exact nb_ix (by omega) rfl (by omega) (by omega) | exact nb_ok (by omega) rfl | decide)) only [kX3_joint, nb_add, nb_sub, nb_lmul, Int.reduceEq, ↓reduceIte]
    exact t
  · subst e
    rw [show sx_cc 4 = 4 from rfl]
    rw [show sx_op 4 a b = sx_bd (a * b) from rfl]
    have t := fin (a * b) [.inl 4, .inl a, .inl b, mm_junk, mm_junk] (by omega)
    simp (disch := (first | assumption | omega | exact nb_ix (by omega) (by assumption) (by omega) (by omega) | exact nb_ix (by omega) rfl (by omega) (by omega) | exact nb_ok (by omega) rfl | decide)) only [kX3_joint, nb_add, nb_sub, nb_lmul, Int.reduceEq, ↓reduceIte] at t
    simp (disch := (first | assumption | omega | exact nb_ix (by omega) (by assumption) (by omega) (by omega) | exact nb_ix (by omega) rfl (by omega) (by omega) | exact nb_ok (by omega) rfl | decide)) only [kX3_joint, nb_add, nb_sub, nb_lmul, Int.reduceEq, ↓reduceIte]
    exact t
  · subst e
    rw [show sx_cc 5 = 5 from rfl]
    rw [show sx_op 5 a b = if b = 0 then 0 else sx_bd (Int.tdiv a b) from rfl]
    by_cases hb0 : b = 0
    · rw [if_pos hb0, hb0]
      have t := fin01 0 [.inl 5, .inl a, .inl 0, mm_junk, mm_junk] (by omega)
      simp (disch := (first | assumption | omega | exact nb_ix (by omega) (by assumption) (by omega) (by omega) | exact nb_ix (by omega) rfl (by omega) (by omega) | exact nb_ok (by omega) rfl | decide)) only [kX3_joint, nb_add, nb_sub, nb_lmul, Int.reduceEq, ↓reduceIte] at t
      simp (disch := (first | assumption | omega | exact nb_ix (by omega) (by assumption) (by omega) (by omega) | exact nb_ix (by omega) rfl (by omega) (by omega) | exact nb_ok (by omega) rfl | decide)) only [kX3_joint, nb_add, nb_sub, nb_lmul, Int.reduceEq, ↓reduceIte]
      exact t
    · rw [if_neg hb0]
      have ew : mm_w (Int.tdiv a b) = Int.tdiv a b := nb_w (by omega) (by omega)
      have t := fin (Int.tdiv a b) [.inl 5, .inl a, .inl b, mm_junk, mm_junk] (by omega)
      simp (disch := (first | assumption | omega | exact nb_ix (by omega) (by assumption) (by omega) (by omega) | exact nb_ix (by omega) rfl (by omega) (by omega) | exact nb_ok (by omega) rfl | decide)) only [kX3_joint, nb_add, nb_sub, nb_lmul, Int.reduceEq, ↓reduceIte, ew] at t
      simp (disch := (first | assumption | omega | exact nb_ix (by omega) (by assumption) (by omega) (by omega) | exact nb_ix (by omega) rfl (by omega) (by omega) | exact nb_ok (by omega) rfl | decide)) only [kX3_joint, nb_add, nb_sub, nb_lmul, Int.reduceEq, ↓reduceIte, hb0, ew]
      exact t
  · subst e
    rw [show sx_cc 6 = 6 from rfl]
    rw [show sx_op 6 a b = if a = b then 1 else 0 from rfl]
    by_cases h : a = b
    · rw [if_pos h]
      have t := fin01 1 [.inl 6, .inl a, .inl b, mm_junk, mm_junk] (by omega)
      simp (disch := (first | assumption | omega | exact nb_ix (by omega) (by assumption) (by omega) (by omega) | exact nb_ix (by omega) rfl (by omega) (by omega) | exact nb_ok (by omega) rfl | decide)) only [kX3_joint, nb_add, nb_sub, nb_lmul, Int.reduceEq, ↓reduceIte] at t
      simp (disch := (first | assumption | omega | exact nb_ix (by omega) (by assumption) (by omega) (by omega) | exact nb_ix (by omega) rfl (by omega) (by omega) | exact nb_ok (by omega) rfl | decide)) only [kX3_joint, Int.reduceEq, ↓reduceIte, ↓if_pos h]
      exact t
    · rw [if_neg h]
      have t := fin01 0 [.inl 6, .inl a, .inl b, mm_junk, mm_junk] (by omega)
      simp (disch := (first | assumption | omega | exact nb_ix (by omega) (by assumption) (by omega) (by omega) | exact nb_ix (by omega) rfl (by omega) (by omega) | exact nb_ok (by omega) rfl | decide)) only [kX3_joint, nb_add, nb_sub, nb_lmul, Int.reduceEq, ↓reduceIte] at t
      simp (disch := (first | assumption | omega | exact nb_ix (by omega) (by assumption) (by omega) (by omega) | exact nb_ix (by omega) rfl (by omega) (by omega) | exact nb_ok (by omega) rfl | decide)) only [kX3_joint, Int.reduceEq, ↓reduceIte, ↓if_neg h]
      exact t
  · subst e
    rw [show sx_cc 7 = 7 from rfl]
    rw [show sx_op 7 a b = if a < b then 1 else 0 from rfl]
    by_cases h : a < b
    · rw [if_pos h]
      have hn : ¬ b ≤ a := by omega
      have t := fin01 1 [.inl 7, .inl a, .inl b, mm_junk, mm_junk] (by omega)
      simp (disch := (first | assumption | omega | exact nb_ix (by omega) (by assumption) (by omega) (by omega) | exact nb_ix (by omega) rfl (by omega) (by omega) | exact nb_ok (by omega) rfl | decide)) only [kX3_joint, nb_add, nb_sub, nb_lmul, Int.reduceEq, ↓reduceIte] at t
      simp (disch := (first | assumption | omega | exact nb_ix (by omega) (by assumption) (by omega) (by omega) | exact nb_ix (by omega) rfl (by omega) (by omega) | exact nb_ok (by omega) rfl | decide)) only [kX3_joint, Int.reduceEq, ↓reduceIte, ↓if_pos, ↓if_neg, hn]
      exact t
    · rw [if_neg h]
      have hn : b ≤ a := by omega
      have t := fin01 0 [.inl 7, .inl a, .inl b, mm_junk, mm_junk] (by omega)
      simp (disch := (first | assumption | omega | exact nb_ix (by omega) (by assumption) (by omega) (by omega) | exact nb_ix (by omega) rfl (by omega) (by omega) | exact nb_ok (by omega) rfl | decide)) only [kX3_joint, nb_add, nb_sub, nb_lmul, Int.reduceEq, ↓reduceIte] at t
      simp (disch := (first | assumption | omega | exact nb_ix (by omega) (by assumption) (by omega) (by omega) | exact nb_ix (by omega) rfl (by omega) (by omega) | exact nb_ok (by omega) rfl | decide)) only [kX3_joint, Int.reduceEq, ↓reduceIte, ↓if_pos, ↓if_neg, hn]
      exact t
  · subst e
    rw [show sx_cc 8 = 8 from rfl]
    rw [show sx_op 8 a b = if b < a then 1 else 0 from rfl]
    by_cases h : b < a
    · rw [if_pos h]
      have hn : ¬ a ≤ b := by omega
      have t := fin01 1 [.inl 8, .inl a, .inl b, mm_junk, mm_junk] (by omega)
      simp (disch := (first | assumption | omega | exact nb_ix (by omega) (by assumption) (by omega) (by omega) | exact nb_ix (by omega) rfl (by omega) (by omega) | exact nb_ok (by omega) rfl | decide)) only [kX3_joint, nb_add, nb_sub, nb_lmul, Int.reduceEq, ↓reduceIte] at t
      simp (disch := (first | assumption | omega | exact nb_ix (by omega) (by assumption) (by omega) (by omega) | exact nb_ix (by omega) rfl (by omega) (by omega) | exact nb_ok (by omega) rfl | decide)) only [kX3_joint, Int.reduceEq, ↓reduceIte, ↓if_pos, ↓if_neg, hn]
      exact t
    · rw [if_neg h]
      have hn : a ≤ b := by omega
      have t := fin01 0 [.inl 8, .inl a, .inl b, mm_junk, mm_junk] (by omega)
      simp (disch := (first | assumption | omega | exact nb_ix (by omega) (by assumption) (by omega) (by omega) | exact nb_ix (by omega) rfl (by omega) (by omega) | exact nb_ok (by omega) rfl | decide)) only [kX3_joint, nb_add, nb_sub, nb_lmul, Int.reduceEq, ↓reduceIte] at t
      simp (disch := (first | assumption | omega | exact nb_ix (by omega) (by assumption) (by omega) (by omega) | exact nb_ix (by omega) rfl (by omega) (by omega) | exact nb_ok (by omega) rfl | decide)) only [kX3_joint, Int.reduceEq, ↓reduceIte, ↓if_pos, ↓if_neg, hn]
      exact t
  · subst e
    rw [show sx_cc 10 = 9 from rfl]
    have hab : (a = 0 ∨ a = 1) ∧ (b = 0 ∨ b = 1) := by omega
    obtain ⟨ha1, hb1⟩ := hab
    rcases ha1 with ea | ea <;> rcases hb1 with eb | eb <;> subst ea <;> subst eb
    · rw [show sx_op 10 0 0 = 0 from rfl]
      have q : mm_and 0 0 = 0 := by decide
      have t := fin01 0 [.inl 9, .inl 0, .inl 0, mm_junk, mm_junk] (by omega)
      simp (disch := (first | assumption | omega | exact nb_ix (by omega) (by assumption) (by omega) (by omega) | exact nb_ix (by omega) rfl (by omega) (by omega) | exact nb_ok (by omega) rfl | decide)) only [kX3_joint, nb_add, nb_sub, nb_lmul, Int.reduceEq, ↓reduceIte] at t
      simp (disch := (first | assumption | omega | exact nb_ix (by omega) (by assumption) (by omega) (by omega) | exact nb_ix (by omega) rfl (by omega) (by omega) | exact nb_ok (by omega) rfl | decide)) only [kX3_joint, nb_add, nb_sub, nb_lmul, Int.reduceEq, ↓reduceIte, q]
      exact t
    · rw [show sx_op 10 0 1 = 0 from rfl]
      have q : mm_and 0 1 = 0 := by decide
      have t := fin01 0 [.inl 9, .inl 0, .inl 1, mm_junk, mm_junk] (by omega)
      simp (disch := (first | assumption | omega | exact nb_ix (by omega) (by assumption) (by omega) (by omega) | exact nb_ix (by omega) rfl (by omega) (by omega) | exact nb_ok (by omega) rfl | decide)) only [kX3_joint, nb_add, nb_sub, nb_lmul, Int.reduceEq, ↓reduceIte] at t
      simp (disch := (first | assumption | omega | exact nb_ix (by omega) (by assumption) (by omega) (by omega) | exact nb_ix (by omega) rfl (by omega) (by omega) | exact nb_ok (by omega) rfl | decide)) only [kX3_joint, nb_add, nb_sub, nb_lmul, Int.reduceEq, ↓reduceIte, q]
      exact t
    · rw [show sx_op 10 1 0 = 0 from rfl]
      have q : mm_and 1 0 = 0 := by decide
      have t := fin01 0 [.inl 9, .inl 1, .inl 0, mm_junk, mm_junk] (by omega)
      simp (disch := (first | assumption | omega | exact nb_ix (by omega) (by assumption) (by omega) (by omega) | exact nb_ix (by omega) rfl (by omega) (by omega) | exact nb_ok (by omega) rfl | decide)) only [kX3_joint, nb_add, nb_sub, nb_lmul, Int.reduceEq, ↓reduceIte] at t
      simp (disch := (first | assumption | omega | exact nb_ix (by omega) (by assumption) (by omega) (by omega) | exact nb_ix (by omega) rfl (by omega) (by omega) | exact nb_ok (by omega) rfl | decide)) only [kX3_joint, nb_add, nb_sub, nb_lmul, Int.reduceEq, ↓reduceIte, q]
      exact t
    · rw [show sx_op 10 1 1 = 1 from rfl]
      have q : mm_and 1 1 = 1 := by decide
      have t := fin01 1 [.inl 9, .inl 1, .inl 1, mm_junk, mm_junk] (by omega)
      simp (disch := (first | assumption | omega | exact nb_ix (by omega) (by assumption) (by omega) (by omega) | exact nb_ix (by omega) rfl (by omega) (by omega) | exact nb_ok (by omega) rfl | decide)) only [kX3_joint, nb_add, nb_sub, nb_lmul, Int.reduceEq, ↓reduceIte] at t
      simp (disch := (first | assumption | omega | exact nb_ix (by omega) (by assumption) (by omega) (by omega) | exact nb_ix (by omega) rfl (by omega) (by omega) | exact nb_ok (by omega) rfl | decide)) only [kX3_joint, nb_add, nb_sub, nb_lmul, Int.reduceEq, ↓reduceIte, q]
      exact t
  · subst e
    rw [show sx_cc 11 = 10 from rfl]
    have hab : (a = 0 ∨ a = 1) ∧ (b = 0 ∨ b = 1) := by omega
    obtain ⟨ha1, hb1⟩ := hab
    rcases ha1 with ea | ea <;> rcases hb1 with eb | eb <;> subst ea <;> subst eb
    · rw [show sx_op 11 0 0 = 0 from rfl]
      have q : mm_or 0 0 = 0 := by decide
      have t := fin01 0 [.inl 10, .inl 0, .inl 0, mm_junk, mm_junk] (by omega)
      simp (disch := (first | assumption | omega | exact nb_ix (by omega) (by assumption) (by omega) (by omega) | exact nb_ix (by omega) rfl (by omega) (by omega) | exact nb_ok (by omega) rfl | decide)) only [kX3_joint, nb_add, nb_sub, nb_lmul, Int.reduceEq, ↓reduceIte] at t
      simp (disch := (first | assumption | omega | exact nb_ix (by omega) (by assumption) (by omega) (by omega) | exact nb_ix (by omega) rfl (by omega) (by omega) | exact nb_ok (by omega) rfl | decide)) only [kX3_joint, nb_add, nb_sub, nb_lmul, Int.reduceEq, ↓reduceIte, q]
      exact t
    · rw [show sx_op 11 0 1 = 1 from rfl]
      have q : mm_or 0 1 = 1 := by decide
      have t := fin01 1 [.inl 10, .inl 0, .inl 1, mm_junk, mm_junk] (by omega)
      simp (disch := (first | assumption | omega | exact nb_ix (by omega) (by assumption) (by omega) (by omega) | exact nb_ix (by omega) rfl (by omega) (by omega) | exact nb_ok (by omega) rfl | decide)) only [kX3_joint, nb_add, nb_sub, nb_lmul, Int.reduceEq, ↓reduceIte] at t
      simp (disch := (first | assumption | omega | exact nb_ix (by omega) (by assumption) (by omega) (by omega) | exact nb_ix (by omega) rfl (by omega) (by omega) | exact nb_ok (by omega) rfl | decide)) only [kX3_joint, nb_add, nb_sub, nb_lmul, Int.reduceEq, ↓reduceIte, q]
      exact t
    · rw [show sx_op 11 1 0 = 1 from rfl]
      have q : mm_or 1 0 = 1 := by decide
      have t := fin01 1 [.inl 10, .inl 1, .inl 0, mm_junk, mm_junk] (by omega)
      simp (disch := (first | assumption | omega | exact nb_ix (by omega) (by assumption) (by omega) (by omega) | exact nb_ix (by omega) rfl (by omega) (by omega) | exact nb_ok (by omega) rfl | decide)) only [kX3_joint, nb_add, nb_sub, nb_lmul, Int.reduceEq, ↓reduceIte] at t
      simp (disch := (first | assumption | omega | exact nb_ix (by omega) (by assumption) (by omega) (by omega) | exact nb_ix (by omega) rfl (by omega) (by omega) | exact nb_ok (by omega) rfl | decide)) only [kX3_joint, nb_add, nb_sub, nb_lmul, Int.reduceEq, ↓reduceIte, q]
      exact t
    · rw [show sx_op 11 1 1 = 1 from rfl]
      have q : mm_or 1 1 = 1 := by decide
      have t := fin01 1 [.inl 10, .inl 1, .inl 1, mm_junk, mm_junk] (by omega)
      simp (disch := (first | assumption | omega | exact nb_ix (by omega) (by assumption) (by omega) (by omega) | exact nb_ix (by omega) rfl (by omega) (by omega) | exact nb_ok (by omega) rfl | decide)) only [kX3_joint, nb_add, nb_sub, nb_lmul, Int.reduceEq, ↓reduceIte] at t
      simp (disch := (first | assumption | omega | exact nb_ix (by omega) (by assumption) (by omega) (by omega) | exact nb_ix (by omega) rfl (by omega) (by omega) | exact nb_ok (by omega) rfl | decide)) only [kX3_joint, nb_add, nb_sub, nb_lmul, Int.reduceEq, ↓reduceIte, q]
      exact t
end TK
