/-! the model works tokens and clauses out -/
def sx_mt (I : mm_I) : Nat → List (Nat × Int) → Prop
  | _, [] => True
  | i, t :: r => I 241 i = (t.1 : Int) ∧ I 242 i = t.2 ∧ sx_mt I (i + 1) r
section MR
variable {n d : Nat} {I L : mm_I} {P : mm_P}
set_option maxHeartbeats 4000000 in
theorem sx_mrun {G : Option mm_A → Prop} {l : Nat → Int} {x E : Nat} {b2 z3 : Int} (hM : sp_M n P) (hl : sx_okl l) (hx : x < 5) (hz3 : (520 * x + z3 : Int) = (E : Int)) (hz30 : 0 ≤ z3 ∧ z3 ≤ 520) : ∀ (toks : List (Nat × Int)) (i : Nat) (st st' : List Int) (J : mm_I), sx_ev l toks st = some st' → sx_in st → sx_rep (J 249) st → (∀ j, j < 6 → J 248 j = l j) → sx_mt J i toks → i + toks.length ≤ E →
    (∀ (J' : mm_I), sx_rep (J' 249) st' → sx_in st' → (∀ b, b ≠ 249 → J' b = J b) → G (mm_E (d + 3) 176 12 [.inr (.inr (some 239)), .inl (x : Int), .inl b2, .inl z3, .inl (st'.length : Int), .inl (((i + toks.length : Nat) : Int))] [] [] n J' L P)) → G (mm_E (d + 3) 176 12 [.inr (.inr (some 239)), .inl (x : Int), .inl b2, .inl z3, .inl (st.length : Int), .inl ((i : Nat))] [] [] n J L P) := by
  have ok := hM.ok
  obtain ⟨hn, g1, g6, g7, g8, g9, g10, g11, g12, g15, g16, g17⟩ := hM
  have hE : E ≤ 2600 := by omega
  intro toks
  induction toks with
  | nil =>
    intro i st st' J he hin hr hlt hat hi k
    cases he
    exact k J hr hin (fun _ _ => rfl)
  | cons t r ih =>
    intro i st st' J he hin hr hlt hat hi k
    obtain ⟨c, v⟩ := t
    obtain ⟨hat1, hat2, hat3⟩ := hat
    have hat1' : J 241 i = (c : Int) := hat1
    have hat2' : J 242 i = v := hat2
    have hi2 : i + (r.length + 1) ≤ E := hi
    unfold sx_ev at he
    have keep : ∀ (K : mm_I) (toks : List (Nat × Int)) (i : Nat), (∀ b, b ≠ 249 → K b = J b) → sx_mt J i toks → sx_mt K i toks := by
      intro K toks
      induction toks with
      | nil => intro _ _ _; trivial
      | cons t r ih2 =>
        intro i hb h
        exact ⟨by rw [hb 241 (by decide)]; exact h.1, by rw [hb 242 (by decide)]; exact h.2.1, ih2 (i + 1) hb h.2.2⟩
    have step : ∀ (st1 : List Int) (K : mm_I), sx_st l c v st = some st1 → sx_rep (K 249) st1 → (∀ b, b ≠ 249 → K b = J b) → G (mm_E (d + 3) 176 12 [.inr (.inr (some 239)), .inl (x : Int), .inl b2, .inl z3, .inl (st1.length : Int), .inl ((i : Int) + 1)] [] [] n K L P) := by
      intro st1 K hs kr kb
      rw [show sx_st l (c, v).1 (c, v).2 st = sx_st l c v st from rfl, hs] at he
      refine ih (i + 1) st1 st' K he (sx_st_in hl hin hs) kr (fun j hj => by rw [kb 248 (by decide)]; exact hlt j hj) (keep K r (i + 1) kb hat3) (by omega) (fun J' q2 q3 q4 => ?_)
      have e9 : i + 1 + r.length = i + ((c, v) :: r).length := by simp; omega
      rw [e9]
      refine k J' q2 q3 (fun b hb => by rw [q4 b hb, kb b hb])
    rw [hX12_workOut_12]
    have hlt0 : ¬ (520 * (x : Int) + z3) ≤ (i : Int) := by omega
    by_cases c0 : c = 0
    · subst c0
      cases hq : sx_st l 0 v st with
      | none => rw [show sx_st l ((0, v) : Nat × Int).1 ((0, v) : Nat × Int).2 st = sx_st l 0 v st from rfl, hq] at he; cases he
      | some st1 =>
        have hs' := hq
        unfold sx_st at hs'
        rw [if_pos rfl] at hs'
        split at hs'
        · rename_i hv
          cases hs'
          have hc : J 241 i = 0 := hat1'
          simp (disch := (first | assumption | omega | exact nb_ix (by omega) (by assumption) (by omega) (by omega) | exact nb_ix (by omega) rfl (by omega) (by omega) | exact nb_ok (by omega) rfl | decide)) only [kX12_workOut, g6, g7, g15, g16, hc, hat2', ↓if_pos, ↓if_neg, nb_add, nb_sub, nb_mul, Int.toNat_natCast, mm_kr_s, mm_kv_s, if_pos, if_neg, sq_tn, Int.toNat_zero, Int.reduceToNat, Int.reduceNeg, Nat.reduceAdd, Int.reduceAdd, Int.reduceEq, Int.reduceLT, Int.reduceLE, Int.zero_add, nb_ui_s, nb_ui_k, nb_ui_a, sp_min, sp_max, sp_bits]
          refine step _ _ hq ?_ (fun b hb => ?_)
          · refine ⟨by rw [nb_ui_s], sx_rep_up st hr (fun j hj => nb_ui_k (by omega))⟩
          · rw [nb_ui_r hb]
        · cases hs'
    · by_cases c1 : c = 1
      · subst c1
        cases hq : sx_st l 1 v st with
        | none => rw [show sx_st l ((1, v) : Nat × Int).1 ((1, v) : Nat × Int).2 st = sx_st l 1 v st from rfl, hq] at he; cases he
        | some st1 =>
          have hs' := hq
          unfold sx_st at hs'
          rw [if_neg (by decide), if_pos rfl] at hs'
          split at hs'
          · rename_i hv
            cases hs'
            obtain ⟨m, hm⟩ : ∃ m : Nat, v = (m : Int) := ⟨v.toNat, by omega⟩
            have hlm := hlt m (by omega)
            have hmn : v.toNat = m := by omega
            have hc : J 241 i = 1 := hat1'
            have hat4 : J 242 i = (m : Int) := by rw [hat2', hm]
            simp (disch := (first | assumption | omega | exact nb_ix (by omega) (by assumption) (by omega) (by omega) | exact nb_ix (by omega) rfl (by omega) (by omega) | exact nb_ok (by omega) rfl | decide)) only [kX12_workOut, g6, g7, g15, g16, hc, hat4, hlm, ↓if_pos, ↓if_neg, nb_add, nb_sub, nb_mul, Int.toNat_natCast, mm_kr_s, mm_kv_s, if_pos, if_neg, sq_tn, Int.toNat_zero, Int.reduceToNat, Int.reduceNeg, Nat.reduceAdd, Int.reduceAdd, Int.reduceEq, Int.reduceLT, Int.reduceLE, Int.zero_add, nb_ui_s, nb_ui_k, nb_ui_a, sp_min, sp_max, sp_bits]
            rw [hmn] at hq
            refine step _ _ hq ?_ (fun b hb => ?_)
            · refine ⟨by rw [nb_ui_s], sx_rep_up st hr (fun j hj => nb_ui_k (by omega))⟩
            · rw [nb_ui_r hb]
          · cases hs'
      · by_cases c9 : c = 9
        · subst c9
          cases st with
          | nil => cases he
          | cons y s =>
            have hs : sx_st l 9 v (y :: s) = if y = 0 ∨ y = 1 then some ((1 - y) :: s) else none := rfl
            by_cases hy : y = 0 ∨ y = 1
            · rw [if_pos hy] at hs
              have hsl : s.length < 60 := by have := hin.1; simp at this; omega
              have hc : J 241 i = 9 := hat1'
              have hr1 : J 249 s.length = y := hr.1
              have e1 : (((y :: s).length : Nat) : Int) - 1 = (s.length : Int) := by simp
              have e2 : (y :: s).length = s.length + 1 := rfl
              simp (disch := (first | assumption | omega | exact nb_ix (by omega) (by assumption) (by omega) (by omega) | exact nb_ix (by omega) rfl (by omega) (by omega) | exact nb_ok (by omega) rfl | decide)) only [kX12_workOut, g6, g7, g15, g16, hc, e1, hr1, ↓if_pos, ↓if_neg, nb_add, nb_sub, nb_mul, Int.toNat_natCast, mm_kr_s, mm_kv_s, if_pos, if_neg, sq_tn, Int.toNat_zero, Int.reduceToNat, Int.reduceNeg, Nat.reduceAdd, Int.reduceAdd, Int.reduceEq, Int.reduceLT, Int.reduceLE, Int.zero_add, nb_ui_s, nb_ui_k, nb_ui_a, sp_min, sp_max, sp_bits]
              refine step ((1 - y) :: s) _ hs ?_ (fun b hb => ?_)
              · refine ⟨by rw [nb_ui_s], sx_rep_up s hr.2 (fun j hj => nb_ui_k (by omega))⟩
              · rw [nb_ui_r hb]
            · rw [if_neg hy] at hs
              rw [show sx_st l ((9, v) : Nat × Int).1 ((9, v) : Nat × Int).2 (y :: s) = sx_st l 9 v (y :: s) from rfl, hs] at he
              cases he
        · by_cases c11 : c ≤ 11
          · have hs0 : ∀ s, sx_st l c v s = (match s with
                | b :: a :: s => if c ≤ 8 ∨ ((a = 0 ∨ a = 1) ∧ (b = 0 ∨ b = 1)) then some (sx_op c a b :: s) else none
                | _ => none) := by
              intro s
              unfold sx_st
              rw [if_neg c0, if_neg c1, if_neg c9, if_pos c11]
              rcases s with _ | ⟨_, _ | ⟨_, _⟩⟩ <;> rfl
            cases st with
            | nil =>
              rw [show sx_st l ((c, v) : Nat × Int).1 ((c, v) : Nat × Int).2 [] = sx_st l c v [] from rfl, hs0] at he
              cases he
            | cons y s =>
              cases s with
              | nil =>
                rw [show sx_st l ((c, v) : Nat × Int).1 ((c, v) : Nat × Int).2 [y] = sx_st l c v [y] from rfl, hs0] at he
                cases he
              | cons w s =>
                have hs2 : sx_st l c v (y :: w :: s) = if c ≤ 8 ∨ ((w = 0 ∨ w = 1) ∧ (y = 0 ∨ y = 1)) then some (sx_op c w y :: s) else none := hs0 (y :: w :: s)
                by_cases hxy : c ≤ 8 ∨ ((w = 0 ∨ w = 1) ∧ (y = 0 ∨ y = 1))
                · rw [if_pos hxy] at hs2
                  have hsl : s.length < 59 := by have := hin.1; simp at this; omega
                  have hwr := hin.2 w (by simp)
                  have hyr := hin.2 y (by simp)
                  have hr1 : J 249 (s.length + 1) = y := hr.1
                  have hr2 : J 249 s.length = w := hr.2.1
                  have e1 : (((y :: w :: s).length : Nat) : Int) + -1 = ((s.length + 1 : Nat) : Int) := by simp; omega
                  have e2 : ((s.length + 1 : Nat) : Int) - 1 = (s.length : Int) := by omega
                  have e3 : (y :: w :: s).length = s.length + 2 := rfl
                  have e4 : (sx_op c w y :: s).length = s.length + 1 := rfl
                  have hw := sq_mworked (d := d) (n := n) (I := J) (L := L) (P := P) (c := c) (a := w) (b := y) (by omega) hwr hyr
                  have n0 : ¬ (c : Int) = 0 := by omega
                  have n1 : ¬ (c : Int) = 1 := by omega
                  have n9 : ¬ (c : Int) = 9 := by omega
                  simp (disch := (first | assumption | omega | exact nb_ix (by omega) (by assumption) (by omega) (by omega) | exact nb_ix (by omega) rfl (by omega) (by omega) | exact nb_ok (by omega) rfl | decide)) only [kX12_workOut, g6, g7, g15, g16, hat1', e1, e2, hr1, hr2, hw, ↓if_pos, ↓if_neg, nb_add, nb_sub, nb_mul, Int.toNat_natCast, mm_kr_s, mm_kv_s, if_pos, if_neg, sq_tn, Int.toNat_zero, Int.reduceToNat, Int.reduceNeg, Nat.reduceAdd, Int.reduceAdd, Int.reduceEq, Int.reduceLT, Int.reduceLE, Int.zero_add, nb_ui_s, nb_ui_k, nb_ui_a, sp_min, sp_max, sp_bits]
                  refine step _ _ hs2 ?_ (fun b hb => ?_)
                  · refine ⟨by rw [nb_ui_s], sx_rep_up s hr.2.2 (fun j hj => nb_ui_k (by omega))⟩
                  · rw [nb_ui_r hb]
                · rw [if_neg hxy] at hs2
                  rw [show sx_st l ((c, v) : Nat × Int).1 ((c, v) : Nat × Int).2 (y :: w :: s) = sx_st l c v (y :: w :: s) from rfl, hs2] at he
                  cases he
          · have hs : sx_st l c v st = none := by
              unfold sx_st
              rw [if_neg c0, if_neg c1, if_neg c9, if_neg c11]
            rw [show sx_st l ((c, v) : Nat × Int).1 ((c, v) : Nat × Int).2 st = sx_st l c v st from rfl, hs] at he
            cases he
theorem sx_mwork {l : Nat → Int} {x q m : Nat} {toks : List (Nat × Int)} {y : Int} (hM : sp_M n P) (hl : sx_okl l) (hx : x < 5) (hm : q + toks.length = m) (hm2 : m ≤ 520) (hlt : ∀ j, j < 6 → I 248 j = l j) (hat : sx_mt I (520 * x + q) toks) (hv : sx_ev l toks [] = some [y]) : sq_X (some (.inl y)) n L P (sq_fr [249] I) (mm_rn (d + 4) 176 [.inr (.inr (some 239)), .inl ((x : Int)), .inl ((q : Int)), .inl ((m : Int))] n I L P) := by
  have ok := hM.ok
  have hM2 := hM
  obtain ⟨hn, g1, g6, g7, g8, g9, g10, g11, g12, g15, g16, g17⟩ := hM
  rw [eX12_workOut]
  have e1 : 520 * (x : Int) + (q : Int) = ((520 * x + q : Nat) : Int) := by omega
  simp (disch := (first | assumption | omega | exact nb_ix (by omega) (by assumption) (by omega) (by omega) | exact nb_ix (by omega) rfl (by omega) (by omega) | exact nb_ok (by omega) rfl | decide)) only [kX12_workOut, e1, ↓if_pos, ↓if_neg, nb_add, nb_sub, nb_mul, Int.toNat_natCast, mm_kr_s, mm_kv_s, if_pos, if_neg, sq_tn, Int.toNat_zero, Int.reduceToNat, Int.reduceNeg, Nat.reduceAdd, Int.reduceAdd, Int.reduceEq, Int.reduceLT, Int.reduceLE, Int.zero_add, nb_ui_s, nb_ui_k, nb_ui_a, sp_min, sp_max, sp_bits]
  refine sx_mrun (E := 520 * x + m) (z3 := (m : Int)) (l := l) hM2 hl hx (by omega) (by omega) toks (520 * x + q) [] [y] I hv ⟨by simp, fun z hz => by simp at hz⟩ trivial hlt hat (by omega) (fun J' q2 q3 q4 => ?_)
  rw [hX12_workOut_12]
  have q5 : J' 249 0 = y := q2.1
  have hle : 520 * (x : Int) + (m : Int) ≤ ((520 * x + q + toks.length : Nat) : Int) := by omega
  simp (disch := (first | assumption | omega | exact nb_ix (by omega) (by assumption) (by omega) (by omega) | exact nb_ix (by omega) rfl (by omega) (by omega) | exact nb_ok (by omega) rfl | decide)) only [kX12_workOut, g16, q5, ↓if_pos, ↓if_neg, nb_add, nb_sub, nb_mul, Int.toNat_natCast, mm_kr_s, mm_kv_s, if_pos, if_neg, sq_tn, Int.toNat_zero, Int.reduceToNat, Int.reduceNeg, Nat.reduceAdd, Int.reduceAdd, Int.reduceEq, Int.reduceLT, Int.reduceLE, Int.zero_add, nb_ui_s, nb_ui_k, nb_ui_a, sp_min, sp_max, sp_bits]
  exact sq_ret (fun b hb => q4 b (by simpa using hb))
/-- the clauses in the model's rows -/
def sx_ml (I : mm_I) (x : Nat) : Nat → Nat → List (List (Nat × Int) × List (Nat × Int)) → Prop
  | _, _, [] => True
  | j, q, t :: r => I 245 (140 * x + j) = (q : Int) ∧ I 246 (140 * x + j) = ((q + t.1.length : Nat) : Int) ∧ I 247 (140 * x + j) = ((q + t.1.length + t.2.length : Nat) : Int) ∧ sx_mt I (520 * x + q) t.1 ∧ sx_mt I (520 * x + (q + t.1.length)) t.2 ∧ q + t.1.length + t.2.length ≤ 520 ∧ sx_ml I x (j + 1) (q + t.1.length + t.2.length) r
theorem sx_mt_keep {K J : mm_I} (h1 : K 241 = J 241) (h2 : K 242 = J 242) : ∀ (toks : List (Nat × Int)) (i : Nat), sx_mt J i toks → sx_mt K i toks := by
  intro toks
  induction toks with
  | nil => intro _ _; trivial
  | cons t r ih =>
    intro i h
    exact ⟨by rw [h1]; exact h.1, by rw [h2]; exact h.2.1, ih (i + 1) h.2.2⟩
theorem sx_ml_keep {K J : mm_I} {x : Nat} (h : ∀ b, 241 ≤ b → b ≤ 247 → K b = J b) : ∀ (cls : List (List (Nat × Int) × List (Nat × Int))) (j q : Nat), sx_ml J x j q cls → sx_ml K x j q cls := by
  intro cls
  induction cls with
  | nil => intro _ _ _; trivial
  | cons t r ih =>
    intro j q w
    obtain ⟨w1, w2, w3, w4, w5, w6, w7⟩ := w
    exact ⟨by rw [h 245 (by decide) (by decide)]; exact w1, by rw [h 246 (by decide) (by decide)]; exact w2, by rw [h 247 (by decide) (by decide)]; exact w3, sx_mt_keep (h 241 (by decide) (by decide)) (h 242 (by decide) (by decide)) _ _ w4, sx_mt_keep (h 241 (by decide) (by decide)) (h 242 (by decide) (by decide)) _ _ w5, w6, ih _ _ w7⟩
set_option maxHeartbeats 4000000 in
theorem sx_mval {l : Nat → Int} {x N : Nat} (hM : sp_M n P) (hl : sx_okl l) (hx : x < 5) (hN : N ≤ 140) : ∀ (cls : List (List (Nat × Int) × List (Nat × Int))) (j q : Nat) (J : mm_I), (∀ t, t ∈ cls → sx_okc t) → sx_ml J x j q cls → j + cls.length = N → J 244 x = (N : Int) → (∀ j, j < 6 → J 248 j = l j) →
    sq_X (some (.inl (sx_lv l cls))) n L P (sq_fr [249] J) (mm_E (d + 4) 177 6 [.inr (.inr (some 239)), .inl ((x : Int)), .inl (((140 * x + j : Nat) : Int))] [] [] n J L P) := by
  have ok := hM.ok
  have hM2 := hM
  obtain ⟨hn, g1, g6, g7, g8, g9, g10, g11, g12, g15, g16, g17⟩ := hM
  intro cls
  induction cls with
  | nil =>
    intro j q J hok hml hj hc hlt
    rw [hX12_worthOf_6]
    have hle : 140 * (x : Int) + (N : Int) ≤ ((140 * x + j : Nat) : Int) := by simp at hj; omega
    simp (disch := (first | assumption | omega | exact nb_ix (by omega) (by assumption) (by omega) (by omega) | exact nb_ix (by omega) rfl (by omega) (by omega) | exact nb_ok (by omega) rfl | decide)) only [kX12_worthOf, g9, hc, ↓if_pos, ↓if_neg, nb_add, nb_sub, nb_mul, Int.toNat_natCast, mm_kr_s, mm_kv_s, if_pos, if_neg, sq_tn, Int.toNat_zero, Int.reduceToNat, Int.reduceNeg, Nat.reduceAdd, Int.reduceAdd, Int.reduceEq, Int.reduceLT, Int.reduceLE, Int.zero_add, nb_ui_s, nb_ui_k, nb_ui_a, sp_min, sp_max, sp_bits]
    exact sq_ret (sq_fr_refl _ _)
  | cons t r ih =>
    intro j q J hok hml hj hc hlt
    obtain ⟨cd, sm⟩ := t
    obtain ⟨oc, y, hy⟩ := hok (cd, sm) (by simp) l hl
    have hy' : sx_ev l sm [] = some [y] := hy
    obtain ⟨w1, w2, w3, w4, w5, w6, w7⟩ := hml
    have w2' : J 246 (140 * x + j) = ((q + cd.length : Nat) : Int) := w2
    have w3' : J 247 (140 * x + j) = ((q + cd.length + sm.length : Nat) : Int) := w3
    have w6' : q + cd.length + sm.length ≤ 520 := w6
    have hj2 : j + (r.length + 1) = N := hj
    have hgt : ¬ 140 * (x : Int) + (N : Int) ≤ ((140 * x + j : Nat) : Int) := by omega
    rw [hX12_worthOf_6]
    by_cases hcd : cd = []
    · have hv : sx_lv l ((cd, sm) :: r) = y := by
        show (if cd = [] ∨ sx_hd (sx_ev l cd []) ≠ 0 then sx_hd (sx_ev l sm []) else sx_lv l r) = y
        rw [if_pos (Or.inl hcd), hy']
        rfl
      rw [hv]
      have heq : (q : Int) = ((q + cd.length : Nat) : Int) := by rw [hcd]; rfl
      simp (disch := (first | assumption | omega | exact nb_ix (by omega) (by assumption) (by omega) (by omega) | exact nb_ix (by omega) rfl (by omega) (by omega) | exact nb_ok (by omega) rfl | decide)) only [kX12_worthOf, g9, g10, g11, g12, hc, w1, w2', w3', ↓if_pos, ↓if_neg, nb_add, nb_sub, nb_mul, Int.toNat_natCast, mm_kr_s, mm_kv_s, if_pos, if_neg, sq_tn, Int.toNat_zero, Int.reduceToNat, Int.reduceNeg, Nat.reduceAdd, Int.reduceAdd, Int.reduceEq, Int.reduceLT, Int.reduceLE, Int.zero_add, nb_ui_s, nb_ui_k, nb_ui_a, sp_min, sp_max, sp_bits]
      refine sq_kr (sx_mwork hM2 hl hx rfl w6' hlt w5 hy') (fun K hK => ?_)
      simp (disch := (first | assumption | omega | exact nb_ix (by omega) (by assumption) (by omega) (by omega) | exact nb_ix (by omega) rfl (by omega) (by omega) | exact nb_ok (by omega) rfl | decide)) only [kX12_worthOf, ↓if_pos, ↓if_neg, nb_add, nb_sub, nb_mul, Int.toNat_natCast, mm_kr_s, mm_kv_s, if_pos, if_neg, sq_tn, Int.toNat_zero, Int.reduceToNat, Int.reduceNeg, Nat.reduceAdd, Int.reduceAdd, Int.reduceEq, Int.reduceLT, Int.reduceLE, Int.zero_add, nb_ui_s, nb_ui_k, nb_ui_a, sp_min, sp_max, sp_bits]
      exact sq_ret hK
    · obtain ⟨z, hz⟩ : ∃ z, sx_ev l cd [] = some [z] := by
        rcases oc with e | e
        · exact absurd e hcd
        · exact e
      have hne : ¬ (q : Int) = ((q + cd.length : Nat) : Int) := by
        have : cd.length ≠ 0 := fun e => hcd (List.length_eq_zero_iff.mp e)
        omega
      simp (disch := (first | assumption | omega | exact nb_ix (by omega) (by assumption) (by omega) (by omega) | exact nb_ix (by omega) rfl (by omega) (by omega) | exact nb_ok (by omega) rfl | decide)) only [kX12_worthOf, g9, g10, g11, g12, hc, w1, w2', w3', ↓if_pos, ↓if_neg, nb_add, nb_sub, nb_mul, Int.toNat_natCast, mm_kr_s, mm_kv_s, if_pos, if_neg, sq_tn, Int.toNat_zero, Int.reduceToNat, Int.reduceNeg, Nat.reduceAdd, Int.reduceAdd, Int.reduceEq, Int.reduceLT, Int.reduceLE, Int.zero_add, nb_ui_s, nb_ui_k, nb_ui_a, sp_min, sp_max, sp_bits]
      refine sq_kr (sx_mwork hM2 hl hx rfl (by omega) hlt w4 hz) (fun K hK => ?_)
      have kk : ∀ b, b ≠ 249 → K b = J b := fun b hb => hK b (by simpa using hb)
      have k2 : K 246 (140 * x + j) = ((q + cd.length : Nat) : Int) := by rw [kk 246 (by decide)]; exact w2
      have k3 : K 247 (140 * x + j) = ((q + cd.length + sm.length : Nat) : Int) := by rw [kk 247 (by decide)]; exact w3
      have kl : ∀ j, j < 6 → K 248 j = l j := fun j hj => by rw [kk 248 (by decide)]; exact hlt j hj
      by_cases hz0 : z = 0
      · have hv : sx_lv l ((cd, sm) :: r) = sx_lv l r := by
          show (if cd = [] ∨ sx_hd (sx_ev l cd []) ≠ 0 then sx_hd (sx_ev l sm []) else sx_lv l r) = _
          rw [if_neg]
          rw [hz]
          rintro (e | e)
          · exact hcd e
          · exact e hz0
        rw [hv]
        have e1 : ((140 * x + j : Nat) : Int) + 1 = ((140 * x + (j + 1) : Nat) : Int) := by omega
        simp (disch := (first | assumption | omega | exact nb_ix (by omega) (by assumption) (by omega) (by omega) | exact nb_ix (by omega) rfl (by omega) (by omega) | exact nb_ok (by omega) rfl | decide)) only [kX12_worthOf, e1, ↓if_pos, ↓if_neg, nb_add, nb_sub, nb_mul, Int.toNat_natCast, mm_kr_s, mm_kv_s, if_pos, if_neg, sq_tn, Int.toNat_zero, Int.reduceToNat, Int.reduceNeg, Nat.reduceAdd, Int.reduceAdd, Int.reduceEq, Int.reduceLT, Int.reduceLE, Int.zero_add, nb_ui_s, nb_ui_k, nb_ui_a, sp_min, sp_max, sp_bits]
        refine sq_mono (ih (j + 1) _ K (fun t ht => hok t (by simp; exact Or.inr ht)) (sx_ml_keep (fun b hb hb2 => kk b (by omega)) _ _ _ w7) (by omega) (by rw [kk 244 (by decide)]; exact hc) kl) (fun I' hI => sq_fr_trans hK hI (fun _ h => h) (fun _ h => h))
      · have hv : sx_lv l ((cd, sm) :: r) = y := by
          show (if cd = [] ∨ sx_hd (sx_ev l cd []) ≠ 0 then sx_hd (sx_ev l sm []) else sx_lv l r) = _
          rw [hz, hy']
          exact if_pos (Or.inr hz0)
        rw [hv]
        simp (disch := (first | assumption | omega | exact nb_ix (by omega) (by assumption) (by omega) (by omega) | exact nb_ix (by omega) rfl (by omega) (by omega) | exact nb_ok (by omega) rfl | decide)) only [kX12_worthOf, g11, g12, k2, k3, ↓if_pos, ↓if_neg, nb_add, nb_sub, nb_mul, Int.toNat_natCast, mm_kr_s, mm_kv_s, if_pos, if_neg, sq_tn, Int.toNat_zero, Int.reduceToNat, Int.reduceNeg, Nat.reduceAdd, Int.reduceAdd, Int.reduceEq, Int.reduceLT, Int.reduceLE, Int.zero_add, nb_ui_s, nb_ui_k, nb_ui_a, sp_min, sp_max, sp_bits]
        refine sq_kr (sx_mwork hM2 hl hx rfl w6' kl (sx_mt_keep (kk 241 (by decide)) (kk 242 (by decide)) _ _ w5) hy') (fun K2 hK2 => ?_)
        simp (disch := (first | assumption | omega | exact nb_ix (by omega) (by assumption) (by omega) (by omega) | exact nb_ix (by omega) rfl (by omega) (by omega) | exact nb_ok (by omega) rfl | decide)) only [kX12_worthOf, ↓if_pos, ↓if_neg, nb_add, nb_sub, nb_mul, Int.toNat_natCast, mm_kr_s, mm_kv_s, if_pos, if_neg, sq_tn, Int.toNat_zero, Int.reduceToNat, Int.reduceNeg, Nat.reduceAdd, Int.reduceAdd, Int.reduceEq, Int.reduceLT, Int.reduceLE, Int.zero_add, nb_ui_s, nb_ui_k, nb_ui_a, sp_min, sp_max, sp_bits]
        exact sq_ret (sq_fr_trans hK hK2 (fun _ h => h) (fun _ h => h))
/-- a law in the model's rows x -/
def rm_law (I : mm_I) (x : Nat) (cls : List (List (Nat × Int) × List (Nat × Int))) : Prop := I 244 x = (cls.length : Int) ∧ cls.length ≤ 140 ∧ sx_ml I x 0 0 cls ∧ (∀ t, t ∈ cls → sx_okc t)
/-- a law in the class's cell a -/
def rc_law (I : mm_I) (a : Nat) (cls : List (List (Nat × Int) × List (Nat × Int))) : Prop := ∃ len : Nat, len ≤ 256 ∧ I a 1 = (len : Int) ∧ sx_cl (I (a + 1)) len 0 cls ∧ (∀ t, t ∈ cls → sx_okc t)
theorem rc_law_CL {a : Nat} {cls : List (List (Nat × Int) × List (Nat × Int))} (hL : sp_L n P a) (h : rc_law I a cls) : sq_CL n 2 P I a (sx_le cls) := by
  obtain ⟨len, h1, h2, h3, h4⟩ := h
  exact sq_claw hL h4 h1 h2 h3
theorem rm_law_ML {x : Nat} {cls : List (List (Nat × Int) × List (Nat × Int))} (hM : sp_M n P) (hx : x < 5) (h : rm_law I x cls) : sq_ML n 5 P I (x : Int) (sx_le cls) := by
  obtain ⟨h1, h2, h3, h4⟩ := h
  intro d I0 L hd hb hr
  obtain ⟨e, rfl⟩ : ∃ e, d = e + 5 := ⟨d - 5, by omega⟩
  rw [eX12_worthOf]
  have e1 : 140 * (x : Int) = ((140 * x + 0 : Nat) : Int) := by omega
  simp (disch := (first | assumption | omega | exact nb_ix (by omega) (by assumption) (by omega) (by omega) | exact nb_ix (by omega) rfl (by omega) (by omega) | exact nb_ok (by omega) rfl | decide)) only [kX12_worthOf, e1, ↓if_pos, ↓if_neg, nb_add, nb_sub, nb_mul, Int.toNat_natCast, mm_kr_s, mm_kv_s, if_pos, if_neg, sq_tn, Int.toNat_zero, Int.reduceToNat, Int.reduceNeg, Nat.reduceAdd, Int.reduceAdd, Int.reduceEq, Int.reduceLT, Int.reduceLE, Int.zero_add, nb_ui_s, nb_ui_k, nb_ui_a, sp_min, sp_max, sp_bits]
  have hl : sx_okl (sx_l (I0 248 0) (I0 248 1) (I0 248 2) (I0 248 3) (I0 248 4) (I0 248 5)) := by
    intro j hj
    have r0 := hr 0 (by decide)
    have r1 := hr 1 (by decide)
    have r2 := hr 2 (by decide)
    have r3 := hr 3 (by decide)
    have r4 := hr 4 (by decide)
    have r5 := hr 5 (by decide)
    unfold sx_l
    repeat' split
    all_goals omega
  refine sx_mval hM hl hx h2 cls 0 0 I0 h4 (sx_ml_keep hb _ _ _ h3) (by omega) (by rw [hb 244 (by decide) (by decide)]; exact h1) ?_
  intro j hj
  have hj2 : j = 0 ∨ j = 1 ∨ j = 2 ∨ j = 3 ∨ j = 4 ∨ j = 5 := by omega
  rcases hj2 with e | e | e | e | e | e <;> subst e <;> rfl
end MR
