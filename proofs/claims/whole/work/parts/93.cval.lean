/-! a law is a row of clauses (condition, sum); the class works it out -/
def sx_hd : Option (List Int) → Int
  | some (x :: _) => x
  | _ => 0
def sx_lv (l : Nat → Int) : List (List (Nat × Int) × List (Nat × Int)) → Int
  | [] => 0
  | t :: r => if t.1 = [] ∨ sx_hd (sx_ev l t.1 []) ≠ 0 then sx_hd (sx_ev l t.2 []) else sx_lv l r
def sx_okl (l : Nat → Int) : Prop := ∀ j, j < 6 → 0 ≤ l j ∧ l j ≤ 9999
def sx_okc (t : List (Nat × Int) × List (Nat × Int)) : Prop := ∀ l, sx_okl l → (t.1 = [] ∨ ∃ x, sx_ev l t.1 [] = some [x]) ∧ ∃ x, sx_ev l t.2 [] = some [x]
def sx_l (z k w a b h : Int) (j : Nat) : Int := if j = 0 then z else if j = 1 then k else if j = 2 then w else if j = 3 then a else if j = 4 then b else h
def sx_le (cls : List (List (Nat × Int) × List (Nat × Int))) : sq_Ev := fun z k w a b h => sx_lv (sx_l z k w a b h) cls
/-- the clauses' signs in the class's row, from i on, up to m -/
def sx_cl (f : Nat → Int) (m : Nat) : Nat → List (List (Nat × Int) × List (Nat × Int)) → Prop
  | i, [] => i = m
  | i, t :: r => if t.1 = [] then sx_at f i t.2 ∧ f (i + t.2.length) = 13 ∧ sx_cl f m (i + t.2.length + 1) r
      else sx_at f i t.1 ∧ f (i + t.1.length) = 12 + 16 * ((i + t.1.length + 1 + t.2.length + 1 : Nat) : Int) ∧ sx_at f (i + t.1.length + 1) t.2 ∧ f (i + t.1.length + 1 + t.2.length) = 13 ∧ sx_cl f m (i + t.1.length + 1 + t.2.length + 1) r
theorem sx_cl_le {f : Nat → Int} {m : Nat} : ∀ (cls : List (List (Nat × Int) × List (Nat × Int))) (i : Nat), sx_cl f m i cls → i ≤ m := by
  intro cls
  induction cls with
  | nil => intro i h; exact Nat.le_of_eq h
  | cons t r ih =>
    intro i h
    unfold sx_cl at h
    split at h
    · have := ih _ h.2.2; omega
    · have := ih _ h.2.2.2.2; omega
section CV
variable {n d a : Nat} {I L : mm_I} {P : mm_P}
theorem sq_dec13 : mm_w (Int.tmod 13 16) = 13 ∧ mm_w (Int.tdiv 13 16) = 0 := by decide
theorem sq_dec12 {t : Nat} (h : t ≤ 512) : mm_w (Int.tmod (12 + 16 * (t : Int)) 16) = 12 ∧ mm_w (Int.tdiv (12 + 16 * (t : Int)) 16) = (t : Int) := by
  rw [Int.tmod_eq_emod_of_nonneg (by omega), Int.tdiv_eq_ediv_of_nonneg (by omega), nb_w (by omega) (by omega), nb_w (by omega) (by omega)]
  omega
set_option maxHeartbeats 4000000 in
theorem sx_cval {l : Nat → Int} {b1 b2 b3 b4 b5 b6 : mm_V} {len : Nat} (hL : sp_L n P a) (hl : sx_okl l) (hlen : len ≤ 256) : ∀ (cls : List (List (Nat × Int) × List (Nat × Int))) (i : Nat) (J : mm_I) (x8 x9 x10 : mm_V), (∀ t, t ∈ cls → sx_okc t) → sx_cl (J (a + 1)) len i cls → J a 4 = 0 → (∀ j, j < 6 → J (a + 2) j = l j) → J a 1 = (len : Int) →
    sq_X (some (.inl (sx_lv l cls))) n L P (fun I' => (∀ b, b ≠ a → b ≠ a + 3 → I' b = J b) ∧ (∀ j, j ≠ 4 → I' a j = J a j)) (mm_E (d + 1) 24 53 [.inr (.inr (some a)), b1, b2, b3, b4, b5, b6, .inl ((i : Nat)), x8, x9, x10] [] [] n J L P) := by
  have ok := hL.ok
  have hL2 := hL
  obtain ⟨a0, a1, a2, a3, a4, a5, a6, a7⟩ := hL
  intro cls
  induction cls with
  | nil =>
    intro i J x8 x9 x10 hok hcl h4 hlt h1
    have hi : i = len := hcl
    rw [hX3_valueFor_53]
    have hle : (len : Int) ≤ (i : Int) := by omega
    simp (disch := (first | assumption | omega | exact nb_ix (by omega) (by assumption) (by omega) (by omega) | exact nb_ix (by omega) rfl (by omega) (by omega) | exact nb_ok (by omega) rfl | decide)) only [kX3_valueFor, h1, ↓if_pos, ↓if_neg, nb_add, nb_sub, nb_mul, Int.toNat_natCast, mm_kr_s, mm_kv_s, if_pos, if_neg, sq_tn, Int.toNat_zero, Int.reduceToNat, Int.reduceNeg, Nat.reduceAdd, Int.reduceAdd, Int.reduceEq, Int.reduceLT, Int.reduceLE, Int.zero_add, nb_ui_s, nb_ui_k, nb_ui_a, sp_min, sp_max, sp_bits]
    exact sq_ret ⟨fun _ _ _ => rfl, fun _ _ => rfl⟩
  | cons t r ih =>
    intro i J x8 x9 x10 hok hcl h4 hlt h1
    obtain ⟨cd, sm⟩ := t
    obtain ⟨oc, os⟩ := hok (cd, sm) (by simp) l hl
    obtain ⟨y, hy⟩ := os
    have hy' : sx_ev l sm [] = some [y] := hy
    -- a sum and its answer
    have fin : ∀ (k : Nat) (K : mm_I) (y8 y9 y10 : mm_V), sx_at (K (a + 1)) k sm → K (a + 1) (k + sm.length) = 13 → k + sm.length < len → K a 4 = 0 → (∀ j, j < 6 → K (a + 2) j = l j) → K a 1 = (len : Int) →
        sq_X (some (.inl y)) n L P (fun I' => (∀ b, b ≠ a → b ≠ a + 3 → I' b = K b) ∧ (∀ j, j ≠ 4 → I' a j = K a j)) (mm_E (d + 1) 24 53 [.inr (.inr (some a)), b1, b2, b3, b4, b5, b6, .inl ((k : Nat)), y8, y9, y10] [] [] n K L P) := by
      intro k K y8 y9 y10 hat h13 hlt2 k4 kl k1
      refine sq_crun hL2 hl hlen sm k [] [y] K y8 y9 y10 hy' ⟨by simp, fun x hx => by simp at hx⟩ k4 trivial kl hat k1 (by omega) (fun J' z8 z9 z10 q1 q2 q3 q4 q5 => ?_)
      have q6 : J' (a + 1) (k + sm.length) = 13 := by rw [q4 (a + 1) (by omega) (by omega)]; exact h13
      have q7 : J' a 1 = (len : Int) := by rw [q5 1 (by decide)]; exact k1
      rw [hX3_valueFor_53]
      obtain ⟨d1, d2⟩ := sq_dec13
      have hpop := sq_cpop (d := d) (n := n) (I := J') (L := L) (P := P) (k := 0) hL2 q1 (by omega)
      have q8 : J' (a + 3) 0 = y := q2.1
      rw [q8] at hpop
      have hne : ¬ (13 : Int) = 0 := by decide
      have hn1 : ¬ (13 : Int) = 1 := by decide
      simp (disch := (first | assumption | omega | exact nb_ix (by omega) (by assumption) (by omega) (by omega) | exact nb_ix (by omega) rfl (by omega) (by omega) | exact nb_ok (by omega) rfl | decide)) only [kX3_valueFor, a5, q7, q6, d1, d2, hpop, ↓if_pos, ↓if_neg, nb_add, nb_sub, nb_mul, Int.toNat_natCast, mm_kr_s, mm_kv_s, if_pos, if_neg, sq_tn, Int.toNat_zero, Int.reduceToNat, Int.reduceNeg, Nat.reduceAdd, Int.reduceAdd, Int.reduceEq, Int.reduceLT, Int.reduceLE, Int.zero_add, nb_ui_s, nb_ui_k, nb_ui_a, sp_min, sp_max, sp_bits]
      refine sq_ret ⟨fun b hb hb2 => ?_, fun j hj => ?_⟩
      · rw [nb_ui_r hb]; exact q4 b hb hb2
      · rw [nb_ui_k hj]; exact q5 j hj
    by_cases hc : cd = []
    · have hv : sx_lv l ((cd, sm) :: r) = y := by
        show (if cd = [] ∨ sx_hd (sx_ev l cd []) ≠ 0 then sx_hd (sx_ev l sm []) else sx_lv l r) = y
        rw [if_pos (Or.inl hc), hy']
        rfl
      rw [hv]
      unfold sx_cl at hcl
      rw [if_pos hc] at hcl
      obtain ⟨w1, w2, w3⟩ := hcl
      have w4 := sx_cl_le r _ w3
      exact fin i J x8 x9 x10 w1 w2 (by have : i + sm.length + 1 ≤ len := w4; omega) h4 hlt h1
    · obtain ⟨x, hx⟩ : ∃ x, sx_ev l cd [] = some [x] := by
        rcases oc with e | e
        · exact absurd e hc
        · exact e
      unfold sx_cl at hcl
      rw [if_neg hc] at hcl
      obtain ⟨w1, w2, w3, w4, w5⟩ := hcl
      have w6 := sx_cl_le r _ w5
      have w6' : i + cd.length + 1 + sm.length + 1 ≤ len := w6
      have w2' : J (a + 1) (i + cd.length) = 12 + 16 * ((i + cd.length + 1 + sm.length + 1 : Nat) : Int) := w2
      refine sq_crun hL2 hl hlen cd i [] [x] J x8 x9 x10 hx ⟨by simp, fun x hx => by simp at hx⟩ h4 trivial hlt w1 h1 (by omega) (fun J' z8 z9 z10 q1 q2 q3 q4 q5 => ?_)
      have q6 : J' (a + 1) (i + cd.length) = 12 + 16 * ((i + cd.length + 1 + sm.length + 1 : Nat) : Int) := by rw [q4 (a + 1) (by omega) (by omega)]; exact w2'
      have q7 : J' a 1 = (len : Int) := by rw [q5 1 (by decide)]; exact h1
      rw [hX3_valueFor_53]
      obtain ⟨d1, d2⟩ := sq_dec12 (t := i + cd.length + 1 + sm.length + 1) (by omega)
      clear w2 w2'
      generalize 12 + 16 * ((i + cd.length + 1 + sm.length + 1 : Nat) : Int) = sg at q6 d1 d2
      have hpop := sq_cpop (d := d) (n := n) (I := J') (L := L) (P := P) (k := 0) hL2 q1 (by omega)
      have q8 : J' (a + 3) 0 = x := q2.1
      rw [q8] at hpop
      have hz : mm_ui J' a 4 ((0 : Nat) : Int) a 4 = 0 := by rw [nb_ui_s]; rfl
      have hJa : ∀ b, b ≠ a → b ≠ a + 3 → mm_ui J' a 4 ((0 : Nat) : Int) b = J b := fun b hb hb2 => by rw [nb_ui_r hb]; exact q4 b hb hb2
      have hJj : ∀ j, j ≠ 4 → mm_ui J' a 4 ((0 : Nat) : Int) a j = J a j := fun j hj => by rw [nb_ui_k hj]; exact q5 j hj
      by_cases hx0 : x = 0
      · have hv : sx_lv l ((cd, sm) :: r) = sx_lv l r := by
          show (if cd = [] ∨ sx_hd (sx_ev l cd []) ≠ 0 then sx_hd (sx_ev l sm []) else sx_lv l r) = _
          rw [if_neg]
          rw [hx]
          rintro (e | e)
          · exact hc e
          · exact e hx0
        rw [hv]
        have e1 : ((i + cd.length + 1 + sm.length + 1 : Nat) : Int) - 1 + 1 = ((i + cd.length + 1 + sm.length + 1 : Nat) : Int) := by omega
        have hgt : ¬ ((i + cd.length + 1 + sm.length + 1 : Nat) : Int) ≤ ((i + cd.length : Nat) : Int) := by omega
        simp (disch := (first | assumption | omega | exact nb_ix (by omega) (by assumption) (by omega) (by omega) | exact nb_ix (by omega) rfl (by omega) (by omega) | exact nb_ok (by omega) rfl | decide)) only [kX3_valueFor, a5, q7, q6, d1, d2, hpop, e1, ↓if_pos, ↓if_neg, nb_add, nb_sub, nb_mul, Int.toNat_natCast, mm_kr_s, mm_kv_s, if_pos, if_neg, sq_tn, Int.toNat_zero, Int.reduceToNat, Int.reduceNeg, Nat.reduceAdd, Int.reduceAdd, Int.reduceEq, Int.reduceLT, Int.reduceLE, Int.zero_add, nb_ui_s, nb_ui_k, nb_ui_a, sp_min, sp_max, sp_bits]
        refine sq_mono (ih (i + cd.length + 1 + sm.length + 1) _ _ _ _ (fun t ht => hok t (by simp; exact Or.inr ht)) (by rw [hJa (a + 1) (by omega) (by omega)]; exact w5) hz (fun j hj => by rw [hJa (a + 2) (by omega) (by omega)]; exact hlt j hj) (by rw [hJj 1 (by decide)]; exact h1)) (fun I' hI => ⟨fun b hb hb2 => ?_, fun j hj => ?_⟩)
        · rw [hI.1 b hb hb2, hJa b hb hb2]
        · rw [hI.2 j hj, hJj j hj]
      · have hv : sx_lv l ((cd, sm) :: r) = y := by
          show (if cd = [] ∨ sx_hd (sx_ev l cd []) ≠ 0 then sx_hd (sx_ev l sm []) else sx_lv l r) = _
          rw [hx, hy']
          exact if_pos (Or.inr hx0)
        rw [hv]
        have e1 : ((i + cd.length : Nat) : Int) + 1 = ((i + cd.length + 1 : Nat) : Int) := by omega
        simp (disch := (first | assumption | omega | exact nb_ix (by omega) (by assumption) (by omega) (by omega) | exact nb_ix (by omega) rfl (by omega) (by omega) | exact nb_ok (by omega) rfl | decide)) only [kX3_valueFor, a5, q7, q6, d1, d2, hpop, e1, ↓if_pos, ↓if_neg, nb_add, nb_sub, nb_mul, Int.toNat_natCast, mm_kr_s, mm_kv_s, if_pos, if_neg, sq_tn, Int.toNat_zero, Int.reduceToNat, Int.reduceNeg, Nat.reduceAdd, Int.reduceAdd, Int.reduceEq, Int.reduceLT, Int.reduceLE, Int.zero_add, nb_ui_s, nb_ui_k, nb_ui_a, sp_min, sp_max, sp_bits]
        refine sq_mono (fin (i + cd.length + 1) _ _ _ _ (by rw [hJa (a + 1) (by omega) (by omega)]; exact w3) (by rw [hJa (a + 1) (by omega) (by omega)]; exact w4) w6' hz (fun j hj => by rw [hJa (a + 2) (by omega) (by omega)]; exact hlt j hj) (by rw [hJj 1 (by decide)]; exact h1)) (fun I' hI => ⟨fun b hb hb2 => ?_, fun j hj => ?_⟩)
        · rw [hI.1 b hb hb2, hJa b hb hb2]
        · rw [hI.2 j hj, hJj j hj]
set_option maxHeartbeats 4000000 in
theorem sq_claw {cls : List (List (Nat × Int) × List (Nat × Int))} {len : Nat} (hL : sp_L n P a) (hok : ∀ t, t ∈ cls → sx_okc t) (hlen : len ≤ 256) (h1 : I a 1 = (len : Int)) (hcl : sx_cl (I (a + 1)) len 0 cls) : sq_CL n 2 P I a (sx_le cls) := by
  intro d I0 L hd r1 r2 z k w x y h hz hk hw hx hy hh
  obtain ⟨e, rfl⟩ : ∃ e, d = e + 2 := ⟨d - 2, by omega⟩
  have ok := hL.ok
  have hL2 := hL
  obtain ⟨a0, a1, a2, a3, a4, a5, a6, a7⟩ := hL
  rw [eX3_valueFor]
  have c0 : ((0 : Nat) : Int) = 0 := rfl
  have ix : ∀ j : Int, 0 ≤ j → j < 6 → mm_ix n (a + 2) 20 j := fun j h0 h6 => nb_ix (by omega) a3 h0 (by omega)
  have i0 := ix 0 (by decide) (by decide)
  have i1 := ix 1 (by decide) (by decide)
  have i2 := ix 2 (by decide) (by decide)
  have i3 := ix 3 (by decide) (by decide)
  have i4 := ix 4 (by decide) (by decide)
  have i5 := ix 5 (by decide) (by decide)
  simp (disch := (first | assumption | omega | exact nb_ix (by omega) (by assumption) (by omega) (by omega) | exact nb_ix (by omega) rfl (by omega) (by omega) | exact nb_ok (by omega) rfl | decide)) only [kX3_valueFor, a6, ↓if_pos, ↓if_neg, nb_add, nb_sub, nb_mul, Int.toNat_natCast, mm_kr_s, mm_kv_s, if_pos, if_neg, sq_tn, Int.toNat_zero, Int.reduceToNat, Int.reduceNeg, Nat.reduceAdd, Int.reduceAdd, Int.reduceEq, Int.reduceLT, Int.reduceLE, Int.zero_add, nb_ui_s, nb_ui_k, nb_ui_a, sp_min, sp_max, sp_bits]
  refine sq_mono (sx_cval (l := sx_l z k w x y h) (len := len) hL2 ?_ hlen cls 0 _ _ _ _ hok ?_ ?_ ?_ ?_) ?_
  · intro j hj
    unfold sx_l
    repeat' split
    all_goals omega
  · rw [nb_ui_r (by omega), nb_ui_r (by omega), nb_ui_r (by omega), nb_ui_r (by omega), nb_ui_r (by omega), nb_ui_r (by omega), nb_ui_r (by omega), r1]
    exact hcl
  · rw [nb_ui_s]
  · intro j hj
    have hj2 : j = 0 ∨ j = 1 ∨ j = 2 ∨ j = 3 ∨ j = 4 ∨ j = 5 := by omega
    rw [nb_ui_r (by omega)]
    rcases hj2 with e | e | e | e | e | e <;> subst e <;> simp [mm_ui, sx_l]
  · rw [nb_ui_k (by decide), nb_ui_a (by omega), nb_ui_a (by omega), nb_ui_a (by omega), nb_ui_a (by omega), nb_ui_a (by omega), nb_ui_a (by omega), r2]
    exact h1
  · intro I' hI
    refine ⟨fun b hb => ?_, ?_⟩
    · simp at hb
      rw [hI.1 b hb.1 hb.2.2, nb_ui_r hb.1, nb_ui_r hb.2.1, nb_ui_r hb.2.1, nb_ui_r hb.2.1, nb_ui_r hb.2.1, nb_ui_r hb.2.1, nb_ui_r hb.2.1]
    · rw [hI.2 1 (by decide), nb_ui_k (by decide), nb_ui_a (by omega), nb_ui_a (by omega), nb_ui_a (by omega), nb_ui_a (by omega), nb_ui_a (by omega), nb_ui_a (by omega)]
end CV
