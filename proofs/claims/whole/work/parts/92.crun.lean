/-! the class works tokens out -/
def sx_at (f : Nat → Int) : Nat → List (Nat × Int) → Prop
  | _, [] => True
  | i, t :: r => f i = sx_enc t ∧ sx_at f (i + 1) r
def sp_L (n : Nat) (P : mm_P) (a : Nat) : Prop := a + 3 < n ∧ mm_ty a = (3, 5) ∧ mm_ty (a + 1) = (20, 256) ∧ mm_ty (a + 2) = (20, 6) ∧ mm_ty (a + 3) = (20, 64) ∧ P a 0 = some (a + 1) ∧ P a 2 = some (a + 2) ∧ P a 3 = some (a + 3)
theorem sp_L.ok {n : Nat} {P : mm_P} {a : Nat} (h : sp_L n P a) : mm_ok n a 3 := ⟨by have := h.1; omega, by rw [h.2.1]⟩
theorem sq_P_L {n t u i : Nat} {P : mm_P} (hP : sq_P n P t u) (hi : i < 5) : sp_L n P (20 + 4 * i) := by
  obtain ⟨h1, h2, h3, h4⟩ := hP.2.2.2.2.2.2.2.2.1 i hi
  have hn := hP.1
  have ht : mm_ty (20 + 4 * i) = (3, 5) ∧ mm_ty (20 + 4 * i + 1) = (20, 256) ∧ mm_ty (20 + 4 * i + 2) = (20, 6) ∧ mm_ty (20 + 4 * i + 3) = (20, 64) := by
    have : i = 0 ∨ i = 1 ∨ i = 2 ∨ i = 3 ∨ i = 4 := by omega
    rcases this with e | e | e | e | e <;> subst e <;> decide
  refine ⟨by omega, ht.1, ht.2.1, ht.2.2.1, ht.2.2.2, ?_, ?_, ?_⟩
  · rw [h2]; congr 1; omega
  · rw [h3]; congr 1; omega
  · rw [h4]; congr 1; omega
section CR
variable {n d a : Nat} {I L : mm_I} {P : mm_P}
theorem sq_cpush {k : Nat} {v : Int} (hL : sp_L n P a) (hk : I a 4 = (k : Int)) (hk2 : k < 64) : mm_rn (d + 1) 25 [.inr (.inr (some a)), .inl v] n I L P = some (none, n, mm_ui (mm_ui I (a + 3) k v) a 4 ((k + 1 : Nat) : Int), L, P) := by
  have ok := hL.ok
  obtain ⟨a0, a1, a2, a3, a4, a5, a6, a7⟩ := hL
  have e64 : ((mm_ty (a + 3)).2 : Int) = 64 := by rw [a4]; rfl
  have e1 : (k : Int) + 1 = ((k + 1 : Nat) : Int) := by omega
  have ha : a ≠ a + 3 := by omega
  have hal : mm_ok n (a + 3) 20 := ⟨a0, by rw [a4]⟩
  rw [eX3_push]
  simp (disch := (first | assumption | omega | exact nb_ix (by omega) (by assumption) (by omega) (by omega) | exact nb_ix (by omega) rfl (by omega) (by omega) | exact nb_ok (by omega) rfl | decide)) only [kX3_push, a7, hk, e64, e1, ↓if_pos, ↓if_neg, nb_add, nb_sub, nb_mul, Int.toNat_natCast, mm_kr_s, mm_kv_s, if_pos, if_neg, sq_tn, Int.toNat_zero, Int.reduceToNat, Int.reduceNeg, Nat.reduceAdd, Int.reduceAdd, Int.reduceEq, Int.reduceLT, Int.reduceLE, Int.zero_add, nb_ui_s, nb_ui_k, nb_ui_a, sp_min, sp_max, sp_bits]
theorem sq_cpop {k : Nat} (hL : sp_L n P a) (hk : I a 4 = ((k + 1 : Nat) : Int)) (hk2 : k < 64) : mm_rn (d + 1) 26 [.inr (.inr (some a))] n I L P = some (some (.inl (I (a + 3) k)), n, mm_ui I a 4 (k : Int), L, P) := by
  have ok := hL.ok
  obtain ⟨a0, a1, a2, a3, a4, a5, a6, a7⟩ := hL
  have e1 : ((k + 1 : Nat) : Int) - 1 = (k : Int) := by omega
  have h0 : ¬ ((k + 1 : Nat) : Int) = 0 := by omega
  rw [eX3_pop]
  simp (disch := (first | assumption | omega | exact nb_ix (by omega) (by assumption) (by omega) (by omega) | exact nb_ix (by omega) rfl (by omega) (by omega) | exact nb_ok (by omega) rfl | decide)) only [kX3_pop, a7, hk, e1, ↓if_pos, ↓if_neg, nb_add, nb_sub, nb_mul, Int.toNat_natCast, mm_kr_s, mm_kv_s, if_pos, if_neg, sq_tn, Int.toNat_zero, Int.reduceToNat, Int.reduceNeg, Nat.reduceAdd, Int.reduceAdd, Int.reduceEq, Int.reduceLT, Int.reduceLE, Int.zero_add, nb_ui_s, nb_ui_k, nb_ui_a, sp_min, sp_max, sp_bits]
theorem sq_dec0 {v : Int} (h : 0 ≤ v ∧ v ≤ 9999) : mm_w (Int.tmod (sx_enc (0, v)) 16) = 0 ∧ mm_w (Int.tdiv (sx_enc (0, v)) 16) = v := by
  have e : sx_enc (0, v) = 16 * v := by unfold sx_enc; simp
  rw [e, Int.tmod_eq_emod_of_nonneg (by omega), Int.tdiv_eq_ediv_of_nonneg (by omega), nb_w (by omega) (by omega), nb_w (by omega) (by omega)]
  omega
theorem sq_dec1 {v : Int} (h : 0 ≤ v ∧ v < 6) : mm_w (Int.tmod (sx_enc (1, v)) 16) = 1 ∧ mm_w (Int.tdiv (sx_enc (1, v)) 16) = v := by
  have e : sx_enc (1, v) = 1 + 16 * v := by unfold sx_enc; simp
  rw [e, Int.tmod_eq_emod_of_nonneg (by omega), Int.tdiv_eq_ediv_of_nonneg (by omega), nb_w (by omega) (by omega), nb_w (by omega) (by omega)]
  omega
theorem sq_dec {c : Nat} {v : Int} (h : 2 ≤ c ∧ c ≤ 11) : mm_w (Int.tmod (sx_enc (c, v)) 16) = sx_cc c ∧ mm_w (Int.tdiv (sx_enc (c, v)) 16) = 0 := by
  have e : sx_enc (c, v) = sx_cc c := by
    unfold sx_enc sx_cc
    show (if c ≤ 1 then _ else if c ≤ 8 then _ else if c = 9 then _ else if c = 10 then _ else _) = _
    rw [if_neg (by omega)]
  rw [e]
  have : c = 2 ∨ c = 3 ∨ c = 4 ∨ c = 5 ∨ c = 6 ∨ c = 7 ∨ c = 8 ∨ c = 9 ∨ c = 10 ∨ c = 11 := by omega
  rcases this with e | e | e | e | e | e | e | e | e | e <;> subst e <;> decide
theorem sx_cc_ne {c : Nat} (h : 2 ≤ c ∧ c ≤ 11 ∧ c ≠ 9) : ¬ sx_cc c = 0 ∧ ¬ sx_cc c = 1 ∧ ¬ sx_cc c = 13 ∧ ¬ sx_cc c = 12 ∧ ¬ sx_cc c = 11 := by
  have : c = 2 ∨ c = 3 ∨ c = 4 ∨ c = 5 ∨ c = 6 ∨ c = 7 ∨ c = 8 ∨ c = 10 ∨ c = 11 := by omega
  rcases this with e | e | e | e | e | e | e | e | e <;> subst e <;> decide
set_option maxHeartbeats 4000000 in
theorem sq_crun {G : Option mm_A → Prop} {l : Nat → Int} {b1 b2 b3 b4 b5 b6 : mm_V} {len : Nat} (hL : sp_L n P a) (hl : ∀ j, j < 6 → 0 ≤ l j ∧ l j ≤ 9999) (hlen : len ≤ 256) : ∀ (toks : List (Nat × Int)) (i : Nat) (st st' : List Int) (J : mm_I) (x8 x9 x10 : mm_V), sx_ev l toks st = some st' → sx_in st → J a 4 = (st.length : Int) → sx_rep (J (a + 3)) st → (∀ j, j < 6 → J (a + 2) j = l j) → sx_at (J (a + 1)) i toks → J a 1 = (len : Int) → i + toks.length ≤ len →
    (∀ (J' : mm_I) (y8 y9 y10 : mm_V), J' a 4 = (st'.length : Int) → sx_rep (J' (a + 3)) st' → sx_in st' → (∀ b, b ≠ a → b ≠ a + 3 → J' b = J b) → (∀ j, j ≠ 4 → J' a j = J a j) → G (mm_E (d + 1) 24 53 [.inr (.inr (some a)), b1, b2, b3, b4, b5, b6, .inl (((i + toks.length : Nat) : Int)), y8, y9, y10] [] [] n J' L P)) → G (mm_E (d + 1) 24 53 [.inr (.inr (some a)), b1, b2, b3, b4, b5, b6, .inl ((i : Nat)), x8, x9, x10] [] [] n J L P) := by
  have ok := hL.ok
  have hL2 := hL
  obtain ⟨a0, a1, a2, a3, a4, a5, a6, a7⟩ := hL
  have e6 : ((mm_ty (a + 2)).2 : Int) = 6 := by rw [a3]; rfl
  have hal : mm_ok n (a + 2) 20 := ⟨by omega, by rw [a3]⟩
  intro toks
  induction toks with
  | nil =>
    intro i st st' J x8 x9 x10 he hin h4 hr hlt hat h1 hi k
    cases he
    exact k J x8 x9 x10 h4 hr hin (fun _ _ _ => rfl) (fun _ _ => rfl)
  | cons t r ih =>
    intro i st st' J x8 x9 x10 he hin h4 hr hlt hat h1 hi k
    obtain ⟨c, v⟩ := t
    obtain ⟨hat1, hat2⟩ := hat
    have hi2 : i + (r.length + 1) ≤ len := hi
    unfold sx_ev at he
    -- one step: to the loop's head with the stack st1
    have step : ∀ (st1 : List Int) (K : mm_I) (y8 y9 y10 : mm_V), sx_st l c v st = some st1 → K a 4 = (st1.length : Int) → sx_rep (K (a + 3)) st1 → (∀ b, b ≠ a → b ≠ a + 3 → K b = J b) → (∀ j, j ≠ 4 → K a j = J a j) → G (mm_E (d + 1) 24 53 [.inr (.inr (some a)), b1, b2, b3, b4, b5, b6, .inl ((i : Int) + 1), y8, y9, y10] [] [] n K L P) := by
      intro st1 K y8 y9 y10 hs k4 kr kb kj
      rw [show sx_st l (c, v).1 (c, v).2 st = sx_st l c v st from rfl, hs] at he
      refine ih (i + 1) st1 st' K y8 y9 y10 he (sx_st_in hl hin hs) k4 kr (fun j hj => by rw [kb (a + 2) (by omega) (by omega)]; exact hlt j hj) (by rw [kb (a + 1) (by omega) (by omega)]; exact hat2) (by rw [kj 1 (by decide)]; exact h1) (by omega) (fun J' z8 z9 z10 q1 q2 q3 q4 q5 => ?_)
      have e9 : i + 1 + r.length = i + ((c, v) :: r).length := by simp; omega
      rw [e9]
      refine k J' z8 z9 z10 q1 q2 q3 (fun b hb hb2 => by rw [q4 b hb hb2, kb b hb hb2]) (fun j hj => by rw [q5 j hj, kj j hj])
    rw [hX3_valueFor_53]
    by_cases c0 : c = 0
    · subst c0
      have hs : ∃ st1, sx_st l 0 v st = some st1 := by
        cases hq : sx_st l 0 v st with
        | none => rw [show sx_st l ((0, v) : Nat × Int).1 ((0, v) : Nat × Int).2 st = sx_st l 0 v st from rfl, hq] at he; cases he
        | some z => exact ⟨z, rfl⟩
      obtain ⟨st1, hs⟩ := hs
      have hs' := hs
      unfold sx_st at hs'
      rw [if_pos rfl] at hs'
      split at hs'
      · rename_i hv
        cases hs'
        obtain ⟨d1, d2⟩ := sq_dec0 hv.1
        have hp := sq_cpush (d := d) (L := L) (v := v) hL2 h4 (by omega)
        simp (disch := (first | assumption | omega | exact nb_ix (by omega) (by assumption) (by omega) (by omega) | exact nb_ix (by omega) rfl (by omega) (by omega) | exact nb_ok (by omega) rfl | decide)) only [kX3_valueFor, a5, h1, hat1, d1, d2, hp, ↓if_pos, ↓if_neg, nb_add, nb_sub, nb_mul, Int.toNat_natCast, mm_kr_s, mm_kv_s, if_pos, if_neg, sq_tn, Int.toNat_zero, Int.reduceToNat, Int.reduceNeg, Nat.reduceAdd, Int.reduceAdd, Int.reduceEq, Int.reduceLT, Int.reduceLE, Int.zero_add, nb_ui_s, nb_ui_k, nb_ui_a, sp_min, sp_max, sp_bits]
        refine step _ _ _ _ _ hs ?_ ?_ (fun b hb hb2 => ?_) (fun j hj => ?_)
        · rw [nb_ui_s]; rfl
        · rw [nb_ui_r (by omega)]
          refine ⟨by rw [nb_ui_s], sx_rep_up st hr (fun j hj => nb_ui_k (by omega))⟩
        · rw [nb_ui_r hb, nb_ui_r hb2]
        · rw [nb_ui_k hj, nb_ui_a (by omega)]
      · cases hs'
    · by_cases c1 : c = 1
      · subst c1
        have hs : ∃ st1, sx_st l 1 v st = some st1 := by
          cases hq : sx_st l 1 v st with
          | none => rw [show sx_st l ((1, v) : Nat × Int).1 ((1, v) : Nat × Int).2 st = sx_st l 1 v st from rfl, hq] at he; cases he
          | some z => exact ⟨z, rfl⟩
        obtain ⟨st1, hs⟩ := hs
        have hs' := hs
        unfold sx_st at hs'
        rw [if_neg (by decide), if_pos rfl] at hs'
        split at hs'
        · rename_i hv
          cases hs'
          obtain ⟨d1, d2⟩ := sq_dec1 hv.1
          obtain ⟨m, hm⟩ : ∃ m : Nat, v = (m : Int) := ⟨v.toNat, by omega⟩
          have d3 : mm_w (Int.tdiv (sx_enc (1, v)) 16) = (m : Int) := by rw [d2]; exact hm
          have hlm := hlt m (by omega)
          have hmn : v.toNat = m := by omega
          have hp := sq_cpush (d := d) (L := L) (v := l m) hL2 h4 (by omega)
          simp (disch := (first | assumption | omega | exact nb_ix (by omega) (by assumption) (by omega) (by omega) | exact nb_ix (by omega) rfl (by omega) (by omega) | exact nb_ok (by omega) rfl | decide)) only [kX3_valueFor, a5, a6, h1, hat1, d1, d3, e6, hlm, hp, ↓if_pos, ↓if_neg, nb_add, nb_sub, nb_mul, Int.toNat_natCast, mm_kr_s, mm_kv_s, if_pos, if_neg, sq_tn, Int.toNat_zero, Int.reduceToNat, Int.reduceNeg, Nat.reduceAdd, Int.reduceAdd, Int.reduceEq, Int.reduceLT, Int.reduceLE, Int.zero_add, nb_ui_s, nb_ui_k, nb_ui_a, sp_min, sp_max, sp_bits]
          rw [hmn] at hs
          refine step _ _ _ _ _ hs ?_ ?_ (fun b hb hb2 => ?_) (fun j hj => ?_)
          · rw [nb_ui_s]; rfl
          · rw [nb_ui_r (by omega)]
            refine ⟨by rw [nb_ui_s], sx_rep_up st hr (fun j hj => nb_ui_k (by omega))⟩
          · rw [nb_ui_r hb, nb_ui_r hb2]
          · rw [nb_ui_k hj, nb_ui_a (by omega)]
        · cases hs'
      · by_cases c9 : c = 9
        · subst c9
          obtain ⟨d1, d2⟩ := sq_dec (c := 9) (v := v) (by omega)
          have d1' : mm_w (Int.tmod (sx_enc (9, v)) 16) = 11 := d1
          cases st with
          | nil => cases he
          | cons x s =>
            have hs : sx_st l 9 v (x :: s) = if x = 0 ∨ x = 1 then some ((1 - x) :: s) else none := rfl
            by_cases hx : x = 0 ∨ x = 1
            · rw [if_pos hx] at hs
              have hsl : s.length < 60 := by have := hin.1; simp at this; omega
              have hpop := sq_cpop (d := d) (L := L) (k := s.length) hL2 h4 (by omega)
              rw [hr.1] at hpop
              have hp := sq_cpush (d := d) (n := n) (I := mm_ui J a 4 (s.length : Int)) (L := L) (P := P) (v := 1 - x) hL2 (by rw [nb_ui_s]) (by omega)
              simp (disch := (first | assumption | omega | exact nb_ix (by omega) (by assumption) (by omega) (by omega) | exact nb_ix (by omega) rfl (by omega) (by omega) | exact nb_ok (by omega) rfl | decide)) only [kX3_valueFor, a5, h1, hat1, d1', d2, hpop, hp, ↓if_pos, ↓if_neg, nb_add, nb_sub, nb_mul, Int.toNat_natCast, mm_kr_s, mm_kv_s, if_pos, if_neg, sq_tn, Int.toNat_zero, Int.reduceToNat, Int.reduceNeg, Nat.reduceAdd, Int.reduceAdd, Int.reduceEq, Int.reduceLT, Int.reduceLE, Int.zero_add, nb_ui_s, nb_ui_k, nb_ui_a, sp_min, sp_max, sp_bits]
              refine step _ _ _ _ _ hs ?_ ?_ (fun b hb hb2 => ?_) (fun j hj => ?_)
              · rw [nb_ui_s]; rfl
              · rw [nb_ui_r (by omega)]
                refine ⟨by rw [nb_ui_s], sx_rep_up s hr.2 (fun j hj => ?_)⟩
                rw [nb_ui_k (by omega), nb_ui_a (by omega)]
              · rw [nb_ui_r hb, nb_ui_r hb2, nb_ui_r hb]
              · rw [nb_ui_k hj, nb_ui_a (by omega), nb_ui_k hj]
            · rw [if_neg hx] at hs
              rw [show sx_st l ((9, v) : Nat × Int).1 ((9, v) : Nat × Int).2 (x :: s) = sx_st l 9 v (x :: s) from rfl, hs] at he
              cases he
        · by_cases c11 : c ≤ 11
          · obtain ⟨d1, d2⟩ := sq_dec (c := c) (v := v) (by omega)
            obtain ⟨n0, n1, n13, n12, n11⟩ := sx_cc_ne (c := c) (by omega)
            have hs0 : ∀ s, sx_st l c v s = (match s with
                | b :: a :: s => if c ≤ 8 ∨ ((a = 0 ∨ a = 1) ∧ (b = 0 ∨ b = 1)) then some (sx_op c a b :: s) else none
                | _ => none) := by
              intro s
              unfold sx_st
              rw [if_neg c0, if_neg c1, if_neg c9, if_pos c11]
              rcases s with _ | ⟨_, _ | ⟨_, _⟩⟩ <;> rfl
            cases st with
            | nil =>
              rw [show sx_st l ((c, v) : Nat × Int).1 ((c, v) : Nat × Int).2 [] = sx_st l c v [] from rfl, hs0] at he
              cases he
            | cons y s =>
              cases s with
              | nil =>
                rw [show sx_st l ((c, v) : Nat × Int).1 ((c, v) : Nat × Int).2 [y] = sx_st l c v [y] from rfl, hs0] at he
                cases he
              | cons x s =>
                have hs := hs0 (y :: x :: s)
                have hs2 : sx_st l c v (y :: x :: s) = if c ≤ 8 ∨ ((x = 0 ∨ x = 1) ∧ (y = 0 ∨ y = 1)) then some (sx_op c x y :: s) else none := hs
                by_cases hxy : c ≤ 8 ∨ ((x = 0 ∨ x = 1) ∧ (y = 0 ∨ y = 1))
                · rw [if_pos hxy] at hs2
                  have hsl : s.length < 59 := by have := hin.1; simp at this; omega
                  have hxr := hin.2 x (by simp)
                  have hyr := hin.2 y (by simp)
                  have hp1 := sq_cpop (d := d) (L := L) (k := s.length + 1) hL2 h4 (by omega)
                  have hr1 : J (a + 3) (s.length + 1) = y := hr.1
                  have hr2 : J (a + 3) s.length = x := hr.2.1
                  rw [hr1] at hp1
                  have hp2 := sq_cpop (d := d) (n := n) (I := mm_ui J a 4 ((s.length + 1 : Nat) : Int)) (L := L) (P := P) (k := s.length) hL2 (by rw [nb_ui_s]) (by omega)
                  rw [nb_ui_a (by omega), hr2] at hp2
                  have hjo := fun I => sq_cjoint (d := d) (n := n) (I := I) (L := L) (P := P) (c := c) (a := x) (b := y) (by omega) hxr hyr hxy
                  have hp := fun I (hI : I a 4 = ((s.length : Nat) : Int)) => sq_cpush (d := d) (n := n) (I := I) (L := L) (P := P) (v := sx_op c x y) hL2 hI (by omega)
                  have hp3 := hp (mm_ui (mm_ui J a 4 ((s.length + 1 : Nat) : Int)) a 4 (s.length : Int)) (by rw [nb_ui_s])
                  simp (disch := (first | assumption | omega | exact nb_ix (by omega) (by assumption) (by omega) (by omega) | exact nb_ix (by omega) rfl (by omega) (by omega) | exact nb_ok (by omega) rfl | decide)) only [kX3_valueFor, a5, h1, hat1, d1, d2, hp1, hp2, hjo, hp3, ↓if_pos, ↓if_neg, nb_add, nb_sub, nb_mul, Int.toNat_natCast, mm_kr_s, mm_kv_s, if_pos, if_neg, sq_tn, Int.toNat_zero, Int.reduceToNat, Int.reduceNeg, Nat.reduceAdd, Int.reduceAdd, Int.reduceEq, Int.reduceLT, Int.reduceLE, Int.zero_add, nb_ui_s, nb_ui_k, nb_ui_a, sp_min, sp_max, sp_bits]
                  refine step _ _ _ _ _ hs2 ?_ ?_ (fun b hb hb2 => ?_) (fun j hj => ?_)
                  · rw [nb_ui_s]; rfl
                  · rw [nb_ui_r (by omega)]
                    refine ⟨by rw [nb_ui_s], sx_rep_up s hr.2.2 (fun j hj => ?_)⟩
                    rw [nb_ui_k (by omega), nb_ui_a (by omega), nb_ui_a (by omega)]
                  · rw [nb_ui_r hb, nb_ui_r hb2, nb_ui_r hb, nb_ui_r hb]
                  · rw [nb_ui_k hj, nb_ui_a (by omega), nb_ui_k hj, nb_ui_k hj]
                · rw [if_neg hxy] at hs2
                  rw [show sx_st l ((c, v) : Nat × Int).1 ((c, v) : Nat × Int).2 (y :: x :: s) = sx_st l c v (y :: x :: s) from rfl, hs2] at he
                  cases he
          · have hs : sx_st l c v st = none := by
              unfold sx_st
              rw [if_neg c0, if_neg c1, if_neg c9, if_neg c11]
            rw [show sx_st l ((c, v) : Nat × Int).1 ((c, v) : Nat × Int).2 st = sx_st l c v st from rfl, hs] at he
            cases he
end CR
