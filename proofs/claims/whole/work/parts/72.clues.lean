/-! which trouble it was: spec -/
def sw_all (Q : Nat → Bool) : Nat → Bool
  | 0 => true
  | k + 1 => sw_all Q k && Q k
theorem sw_all_iff {Q : Nat → Bool} : ∀ k, sw_all Q k = true ↔ ∀ i, i < k → Q i = true := by
  intro k
  induction k with
  | zero => simp [sw_all]
  | succ k ih =>
    unfold sw_all
    rw [Bool.and_eq_true, ih]
    constructor
    · intro ⟨h1, h2⟩ i hi
      by_cases c : i = k
      · rw [c]; exact h2
      · exact h1 i (by omega)
    · intro h
      exact ⟨fun i hi => h i (by omega), h k (by omega)⟩
def sw_cl (f : (Nat → Int) → Nat → Int) (T : Nat → Int) (cp ch : Nat → Nat) (cm co : Nat → Int) (i : Nat) : Bool := decide ((if cm i ≤ sw_it f (ch i) T (cp i) then (1 : Int) else 0) = co i)
def sw_F (f : (Nat → Int) → Nat → Int) (s : Nat) (W : Nat → Int) (g : Int) (M : Nat → Int) (ck : Nat) (cp ch : Nat → Nat) (cm co : Nat → Int) (cd : Nat) : Bool := sw_all (sw_cl f (sw_T0 s W g M cd) cp ch cm co) ck
def sw_cd (k : Nat) : Nat := 100 * (k / 27) + 10 * (k % 27 / 9) + k % 27 % 9 + 1
def sw_pl (F : Nat → Bool) (x : Int) : List Nat → Nat → Int
  | [], f => if x = -1 then (f : Int) else -1
  | cd :: l, f => if F cd = true then (if (f : Int) = x then (cd : Int) else sw_pl F x l (f + 1)) else sw_pl F x l f
theorem sw_pl_low {F : Nat → Bool} {x : Int} (hx : x < -1) : ∀ l f, sw_pl F x l f = -1 := by
  intro l
  induction l with
  | nil => intro f; unfold sw_pl; rw [if_neg (by omega)]
  | cons a l ih =>
    intro f
    unfold sw_pl
    have hne : ¬ (f : Int) = x := by omega
    rw [ih, ih, if_neg hne]
    split <;> rfl
theorem sw_pl_filter {F C : Nat → Bool} {x : Int} : ∀ l f, sw_pl (fun c => C c && F c) x l f = sw_pl F x (l.filter C) f := by
  intro l
  induction l with
  | nil => intro f; rfl
  | cons a l ih =>
    intro f
    cases hc : C a with
    | true =>
      rw [List.filter_cons_of_pos hc]
      unfold sw_pl
      rw [ih, ih, hc, Bool.true_and]
    | false =>
      rw [List.filter_cons_of_neg (by rw [hc]; decide)]
      show (if (C a && F a) = true then _ else sw_pl _ x l f) = _
      rw [hc, Bool.false_and, if_neg (by decide), ih]
theorem sw_codes : ∀ s, s < 9 → (List.range' 0 (100 * s)).filter (sw_isC s) = (List.range' 0 (27 * s)).map sw_cd := by decide +kernel
def sw_ct (F : Nat → Bool) (wv : Nat → Nat → Int) (l : List Nat) (h : Nat) (w : Nat) : Nat := (l.filter (fun c => F c && decide (wv c h = (w : Int)))).length
theorem sw_ct_snoc {F : Nat → Bool} {wv : Nat → Nat → Int} {l : List Nat} {c h w : Nat} : sw_ct F wv (l ++ [c]) h w = sw_ct F wv l h w + (if F c = true ∧ wv c h = (w : Int) then 1 else 0) := by
  unfold sw_ct
  rw [List.filter_append, List.length_append]
  congr 1
  by_cases hc : F c = true ∧ wv c h = (w : Int)
  · rw [if_pos hc, List.filter_cons_of_pos (by simp [hc.1, hc.2])]
    rfl
  · rw [if_neg hc, List.filter_cons_of_neg (by simpa using hc)]
    rfl
theorem sw_ct_filter {F C : Nat → Bool} {wv : Nat → Nat → Int} {l : List Nat} {h w : Nat} : sw_ct (fun c => C c && F c) wv l h w = sw_ct F wv (l.filter C) h w := by
  unfold sw_ct
  rw [List.filter_filter]
  congr 2
  funext c
  have : ∀ a b c : Bool, (a && b && c) = (b && c && a) := by decide
  exact this _ _ _
theorem sw_ct_le {F : Nat → Bool} {wv : Nat → Nat → Int} {l : List Nat} {h w : Nat} : sw_ct F wv l h w ≤ l.length := List.length_filter_le _ _
def sw_cn (F : Nat → Bool) (l : List Nat) : Nat := (l.filter F).length
theorem sw_cn_snoc {F : Nat → Bool} {l : List Nat} {c : Nat} : sw_cn F (l ++ [c]) = sw_cn F l + (if F c = true then 1 else 0) := by
  unfold sw_cn
  rw [List.filter_append, List.length_append]
  congr 1
  by_cases hc : F c = true
  · rw [if_pos hc, List.filter_cons_of_pos hc]; rfl
  · rw [if_neg hc, List.filter_cons_of_neg hc]; rfl
theorem sw_cn_filter {F C : Nat → Bool} {l : List Nat} : sw_cn (fun c => C c && F c) l = sw_cn F (l.filter C) := by
  unfold sw_cn
  rw [List.filter_filter]
  congr 2
  funext c
  cases C c <;> simp
theorem sw_cn_le {F : Nat → Bool} {l : List Nat} : sw_cn F l ≤ l.length := List.length_filter_le _ _
def sw_mx (f : Nat → Int) : Nat → Int
  | 0 => 0
  | k + 1 => max (sw_mx f k) (f k)
theorem sw_mx_congr {f g : Nat → Int} : ∀ k, (∀ j, j < k → f j = g j) → sw_mx f k = sw_mx g k := by
  intro k
  induction k with
  | zero => intro _; rfl
  | succ k ih => intro h; unfold sw_mx; rw [ih (fun j hj => h j (by omega)), h k (by omega)]
theorem sw_mx_rg {f : Nat → Int} {M : Int} (hM : 0 ≤ M) : ∀ k, (∀ j, j < k → 0 ≤ f j ∧ f j ≤ M) → 0 ≤ sw_mx f k ∧ sw_mx f k ≤ M := by
  intro k
  induction k with
  | zero => intro _; exact ⟨Int.le_refl _, hM⟩
  | succ k ih =>
    intro h
    have h1 := ih (fun j hj => h j (by omega))
    have h2 := h k (by omega)
    unfold sw_mx
    omega
theorem sw_mx_ge {f : Nat → Int} : ∀ k j, j < k → f j ≤ sw_mx f k := by
  intro k
  induction k with
  | zero => intro j hj; omega
  | succ k ih =>
    intro j hj
    unfold sw_mx
    by_cases c : j = k
    · rw [c]; omega
    · have := ih j (by omega); omega
theorem sw_bst_snd (A : Nat → Int) : ∀ k, (sw_bst A k).2 = A (sw_bst A k).1 := by
  intro k
  induction k with
  | zero => rfl
  | succ k ih =>
    unfold sw_bst
    split
    · rfl
    · exact ih
theorem sw_bst_le (A : Nat → Int) : ∀ k, (sw_bst A k).1 ≤ k := by
  intro k
  induction k with
  | zero => exact Nat.le_refl _
  | succ k ih =>
    unfold sw_bst
    split
    · exact Nat.le_refl _
    · omega
/-- what a question at a place tells: how alike the worths are at each hour -/
def sw_ak (F : Nat → Bool) (wv : Nat → Nat → Int) (l : List Nat) (i : Nat) : Int := sw_mx (fun w => (sw_ct F wv l (i + 1) w : Int)) 100
def sa_ask (F : Nat → Bool) (wv : Nat → Nat → Int) (l : List Nat) : Int := if sw_cn F l = 0 then -1 else (((sw_bst (sw_ak F wv l) 11).1 + 1 : Nat) : Int)
theorem sq_d27 {a : Nat} (h : a < 2147483648) : mm_w (Int.tdiv (a : Int) 27) = ((a / 27 : Nat) : Int) := by
  rw [Int.tdiv_eq_ediv_of_nonneg (by omega), nb_w (by omega) (by omega)]; omega
theorem sq_m27 {a : Nat} (h : a < 2147483648) : mm_w (Int.tmod (a : Int) 27) = ((a % 27 : Nat) : Int) := by
  rw [Int.tmod_eq_emod_of_nonneg (by omega), nb_w (by omega) (by omega)]; omega
theorem sq_d9 {a : Nat} (h : a < 2147483648) : mm_w (Int.tdiv (a : Int) 9) = ((a / 9 : Nat) : Int) := by
  rw [Int.tdiv_eq_ediv_of_nonneg (by omega), nb_w (by omega) (by omega)]; omega
theorem sq_m9 {a : Nat} (h : a < 2147483648) : mm_w (Int.tmod (a : Int) 9) = ((a % 9 : Nat) : Int) := by
  rw [Int.tmod_eq_emod_of_nonneg (by omega), nb_w (by omega) (by omega)]; omega
theorem sq_d100 {a : Nat} (h : a < 2147483648) : mm_w (Int.tdiv (a : Int) 100) = ((a / 100 : Nat) : Int) := by
  rw [Int.tdiv_eq_ediv_of_nonneg (by omega), nb_w (by omega) (by omega)]; omega
theorem sq_d10 {a : Nat} (h : a < 2147483648) : mm_w (Int.tdiv (a : Int) 10) = ((a / 10 : Nat) : Int) := by
  rw [Int.tdiv_eq_ediv_of_nonneg (by omega), nb_w (by omega) (by omega)]; omega
theorem sq_m10 {a : Nat} (h : a < 2147483648) : mm_w (Int.tmod (a : Int) 10) = ((a % 10 : Nat) : Int) := by
  rw [Int.tmod_eq_emod_of_nonneg (by omega), nb_w (by omega) (by omega)]; omega
theorem sw_cd_p (k : Nat) : sw_cd k / 100 = k / 27 ∧ sw_cd k / 10 % 10 = k % 27 / 9 ∧ sw_cd k % 10 = k % 27 % 9 + 1 := by
  unfold sw_cd
  omega
theorem sw_cd_C {k s : Nat} (h : k < 27 * s) : sw_isC s (sw_cd k) = true := by
  obtain ⟨h1, h2, h3⟩ := sw_cd_p k
  unfold sw_isC
  rw [h1, h2, h3]
  simp
  omega
/-- the clues: their bounds, in the class, in the model -/
def sq_ck (s ck : Nat) (cp ch : Nat → Nat) (cm co : Nat → Int) : Prop := ck ≤ 10 ∧ ∀ i, i < ck → cp i < s ∧ (1 ≤ ch i ∧ ch i ≤ 20) ∧ (0 ≤ cm i ∧ cm i ≤ 99) ∧ (co i = 0 ∨ co i = 1)
def sq_CK (I : mm_I) (ck : Nat) (cp ch : Nat → Nat) (cm co : Nat → Int) : Prop := I 218 4 = (ck : Int) ∧ ∀ i, i < ck → I 219 i = (cp i : Int) ∧ I 220 i = (ch i : Int) ∧ I 221 i = cm i ∧ I 222 i = co i
def sq_MK (I : mm_I) (ck : Nat) (cp ch : Nat → Nat) (cm co : Nat → Int) : Prop := I 239 42 = (ck : Int) ∧ ∀ i, i < ck → I 262 i = (cp i : Int) ∧ I 263 i = (ch i : Int) ∧ I 264 i = cm i ∧ I 265 i = co i
theorem sw_u27_ok {s : Nat} {N : Nat → Int} {cn : Int} (h : sv_ok s N) (hc : 0 ≤ cn ∧ cn ≤ 999) : sv_ok s (sw_u27 N cn) := by
  obtain ⟨h1, h2⟩ := h
  refine ⟨fun p hp => ?_, ?_⟩
  · rw [sw_u27_o (by omega), sw_u27_o (by omega), sw_u27_o (by omega)]
    exact h1 p hp
  · rw [sw_u27_o (j := 24) (by omega), sw_u27_o (j := 25) (by omega), sw_u27_o (j := 26) (by omega), sw_u27_o (j := 28) (by omega), sw_u27_o (j := 29) (by omega)]
    have : sw_u27 N cn 27 = cn := rfl
    rw [this]
    exact ⟨h2.1, h2.2.1, h2.2.2.1, hc, h2.2.2.2.2⟩
section CK
variable {n c t u s d ck : Nat} {I L : mm_I} {P : mm_P} {D : Nat → Int} {B : Nat → Nat} {g v cn : Int} {lw : Option Nat} {ev : sv_E} {N W M cm co T : Nat → Int} {cp ch : Nat → Nat}
theorem sq_chold {h : Nat} (hP : sq_P n P t u) (hs8 : s ≤ 8) (hc : sq_ck s ck cp ch cm co) (hK : sq_CK I ck cp ch cm co) (hN : sq_cN I 223 T) : mm_rn (d + 3) 16 [.inr (.inr (some 218)), .inl ((h : Int))] n I L P = some (some (.inl (if sw_all (fun i => decide (ch i = h → (if cm i ≤ T (cp i) then (1 : Int) else 0) = co i)) ck = true then 1 else 0)), n, I, L, P) := by
  have hC := hP.2.2.2.2.2.2.2.1
  have hn := hP.1
  have hA := hP.2.2.2.2.2.1 223 (by omega)
  have okA := hA.ok
  have n1 := (sq_cN_iff.1 hN).1
  obtain ⟨k1, k2⟩ := hK
  obtain ⟨c1, c2⟩ := hc
  rw [eX2_holdsBehind]
  simp (disch := (first | assumption | omega | exact nb_ix (by omega) (by assumption) (by omega) (by omega) | exact nb_ix (by omega) rfl (by omega) (by omega) | exact nb_ok (by omega) rfl | decide)) only [kX2_holdsBehind, nb_add, nb_sub, nb_mul, Int.toNat_natCast, mm_kr_s, mm_kv_s, if_pos, if_neg, sq_tn, Int.toNat_zero, Int.reduceToNat, Int.reduceNeg, Nat.reduceAdd, Int.reduceAdd, Int.reduceEq, Int.reduceLT, Int.reduceLE, Int.zero_add, nb_ui_s, nb_ui_k, nb_ui_a, sp_min, sp_max, sp_bits]
  refine sq_loop (G := fun x => x = _) (fun k (_ : Unit) => mm_E (d + 2) 16 2 [.inr (.inr (some 218)), .inl ((h : Int)), .inl ((k : Nat))] [] [] n I L P) (fun k _ => sw_all (fun i => decide (ch i = h → (if cm i ≤ T (cp i) then (1 : Int) else 0) = co i)) k = true) ck (s0 := ()) rfl ?_ ?_
  · intro k _ hk h1 ih
    obtain ⟨b1, b2, b3, b4⟩ := k2 k hk
    obtain ⟨d1, d2, d3, d4⟩ := c2 k hk
    have hw := n1 (cp k) (by omega)
    have hwi := sp_worthIn (d := d) (I := I) (L := L) hA (show cp k < 8 by omega)
    have goon : (ch k = h → (if cm k ≤ T (cp k) then (1 : Int) else 0) = co k) → sw_all (fun i => decide (ch i = h → (if cm i ≤ T (cp i) then (1 : Int) else 0) = co i)) (k + 1) = true := by
      intro hh
      unfold sw_all
      rw [h1, decide_eq_true hh]
      rfl
    have stop : ¬ (ch k = h → (if cm k ≤ T (cp k) then (1 : Int) else 0) = co k) → ¬ sw_all (fun i => decide (ch i = h → (if cm i ≤ T (cp i) then (1 : Int) else 0) = co i)) ck = true := by
      intro hh h2
      rw [sw_all_iff] at h2
      exact hh (of_decide_eq_true (h2 k hk))
    show mm_E _ _ _ _ _ _ _ _ _ _ = _
    rw [hX2_holdsBehind_2]
    by_cases e1 : ch k = h
    · have e1' : (ch k : Int) = (h : Int) := by omega
      by_cases e2 : cm k ≤ T (cp k)
      · by_cases e3 : co k = 1
        · have := ih () (goon (fun _ => by rw [if_pos e2, e3]))
          simp (disch := (first | assumption | omega | exact nb_ix (by omega) (by assumption) (by omega) (by omega) | exact nb_ix (by omega) rfl (by omega) (by omega) | exact nb_ok (by omega) rfl | decide)) only [kX2_holdsBehind, hC, k1, b1, b2, b3, b4, hwi, hw, e3, nb_add, nb_sub, nb_mul, Int.toNat_natCast, mm_kr_s, mm_kv_s, if_pos, if_neg, sq_tn, Int.toNat_zero, Int.reduceToNat, Int.reduceNeg, Nat.reduceAdd, Int.reduceAdd, Int.reduceEq, Int.reduceLT, Int.reduceLE, Int.zero_add, nb_ui_s, nb_ui_k, nb_ui_a, sp_min, sp_max, sp_bits]
          exact this
        · have hst := stop (by rw [if_pos e2]; intro q; exact e3 (q e1).symm)
          rw [if_neg hst]
          have e4 : co k = 0 := by omega
          simp (disch := (first | assumption | omega | exact nb_ix (by omega) (by assumption) (by omega) (by omega) | exact nb_ix (by omega) rfl (by omega) (by omega) | exact nb_ok (by omega) rfl | decide)) only [kX2_holdsBehind, hC, k1, b1, b2, b3, b4, hwi, hw, e4, nb_add, nb_sub, nb_mul, Int.toNat_natCast, mm_kr_s, mm_kv_s, if_pos, if_neg, sq_tn, Int.toNat_zero, Int.reduceToNat, Int.reduceNeg, Nat.reduceAdd, Int.reduceAdd, Int.reduceEq, Int.reduceLT, Int.reduceLE, Int.zero_add, nb_ui_s, nb_ui_k, nb_ui_a, sp_min, sp_max, sp_bits]
      · by_cases e3 : co k = 1
        · have hst := stop (by rw [if_neg e2, e3]; intro q; exact absurd (q e1) (by decide))
          rw [if_neg hst]
          simp (disch := (first | assumption | omega | exact nb_ix (by omega) (by assumption) (by omega) (by omega) | exact nb_ix (by omega) rfl (by omega) (by omega) | exact nb_ok (by omega) rfl | decide)) only [kX2_holdsBehind, hC, k1, b1, b2, b3, b4, hwi, hw, e3, nb_add, nb_sub, nb_mul, Int.toNat_natCast, mm_kr_s, mm_kv_s, if_pos, if_neg, sq_tn, Int.toNat_zero, Int.reduceToNat, Int.reduceNeg, Nat.reduceAdd, Int.reduceAdd, Int.reduceEq, Int.reduceLT, Int.reduceLE, Int.zero_add, nb_ui_s, nb_ui_k, nb_ui_a, sp_min, sp_max, sp_bits]
        · have e4 : co k = 0 := by omega
          have := ih () (goon (fun _ => by rw [if_neg e2, e4]))
          simp (disch := (first | assumption | omega | exact nb_ix (by omega) (by assumption) (by omega) (by omega) | exact nb_ix (by omega) rfl (by omega) (by omega) | exact nb_ok (by omega) rfl | decide)) only [kX2_holdsBehind, hC, k1, b1, b2, b3, b4, hwi, hw, e4, nb_add, nb_sub, nb_mul, Int.toNat_natCast, mm_kr_s, mm_kv_s, if_pos, if_neg, sq_tn, Int.toNat_zero, Int.reduceToNat, Int.reduceNeg, Nat.reduceAdd, Int.reduceAdd, Int.reduceEq, Int.reduceLT, Int.reduceLE, Int.zero_add, nb_ui_s, nb_ui_k, nb_ui_a, sp_min, sp_max, sp_bits]
          exact this
    · have e1' : ¬ (ch k : Int) = (h : Int) := by omega
      have := ih () (goon (fun q => absurd q e1))
      simp (disch := (first | assumption | omega | exact nb_ix (by omega) (by assumption) (by omega) (by omega) | exact nb_ix (by omega) rfl (by omega) (by omega) | exact nb_ok (by omega) rfl | decide)) only [kX2_holdsBehind, hC, k1, b1, b2, nb_add, nb_sub, nb_mul, Int.toNat_natCast, mm_kr_s, mm_kv_s, if_pos, if_neg, sq_tn, Int.toNat_zero, Int.reduceToNat, Int.reduceNeg, Nat.reduceAdd, Int.reduceAdd, Int.reduceEq, Int.reduceLT, Int.reduceLE, Int.zero_add, nb_ui_s, nb_ui_k, nb_ui_a, sp_min, sp_max, sp_bits]
      exact this
  · intro _ h1
    show mm_E _ _ _ _ _ _ _ _ _ _ = _
    rw [hX2_holdsBehind_2, if_pos h1]
    simp (disch := (first | assumption | omega | exact nb_ix (by omega) (by assumption) (by omega) (by omega) | exact nb_ix (by omega) rfl (by omega) (by omega) | exact nb_ok (by omega) rfl | decide)) only [kX2_holdsBehind, k1, nb_add, nb_sub, nb_mul, Int.toNat_natCast, mm_kr_s, mm_kv_s, if_pos, if_neg, sq_tn, Int.toNat_zero, Int.reduceToNat, Int.reduceNeg, Nat.reduceAdd, Int.reduceAdd, Int.reduceEq, Int.reduceLT, Int.reduceLE, Int.zero_add, nb_ui_s, nb_ui_k, nb_ui_a, sp_min, sp_max, sp_bits]
theorem sq_csort {k : Nat} (hP : sq_P n P t u) (hW : sq_CW n c P I t s D B g v lw ev) (hcn : I t 3 = cn) (hWt : ∀ p, p < s → I (t + 1) p = W p) (hk : k < 27 * s) : sq_X none n L P (fun I' => sq_cN I' 223 (sw_u27 (sw_T0 s W g M (sw_cd k)) cn) ∧ sq_fr [223, 224, 225, 226] I I') (mm_rn (d + 3) 14 [.inr (.inr (some 218)), .inr (.inr (some t)), .inl ((k : Int))] n I L P) := by
  have hC := hP.2.2.2.2.2.2.2.1
  have hn := hP.1
  have hA := hP.2.2.2.2.2.1 223 (by omega)
  obtain ⟨hTP, hT, _, _⟩ := hW
  have hs8 := hT.2.1
  have q1 : k < 2147483648 := by omega
  have q2 : k % 27 < 2147483648 := by omega
  have okA := hA.ok
  rw [eX2_startSort]
  simp (disch := (first | assumption | omega | exact nb_ix (by omega) (by assumption) (by omega) (by omega) | exact nb_ix (by omega) rfl (by omega) (by omega) | exact nb_ok (by omega) rfl | decide)) only [kX2_startSort, hC, sq_d27, sq_m27, sq_d9, sq_m9, nb_add, nb_sub, nb_mul, Int.toNat_natCast, mm_kr_s, mm_kv_s, if_pos, if_neg, sq_tn, Int.toNat_zero, Int.reduceToNat, Int.reduceNeg, Nat.reduceAdd, Int.reduceAdd, Int.reduceEq, Int.reduceLT, Int.reduceLE, Int.zero_add, nb_ui_s, nb_ui_k, nb_ui_a, sp_min, sp_max, sp_bits]
  refine sq_kv (sq_ctold (d := d + 1) (M := M) (by omega) hA hTP hT.1 hs8 hT.2.2.1 hT.2.2.2.2.2.2.2.1 hcn hWt) (fun J hJ => ?_)
  have hz : sw_told s W g cn M (16 + k / 27) = 0 := by
    unfold sw_told
    rw [if_neg (by omega), if_neg (by omega), if_neg (by omega), if_neg (by omega), if_pos (by omega)]
  have e1 : ((k % 27 % 9 : Nat) : Int) + 1 = ((k % 27 % 9 + 1 : Nat) : Int) := by omega
  simp (disch := (first | assumption | omega | exact nb_ix (by omega) (by assumption) (by omega) (by omega) | exact nb_ix (by omega) rfl (by omega) (by omega) | exact nb_ok (by omega) rfl | decide)) only [kX2_startSort, hC, sq_d27, sq_m27, sq_d9, sq_m9, e1, nb_add, nb_sub, nb_mul, Int.toNat_natCast, mm_kr_s, mm_kv_s, if_pos, if_neg, sq_tn, Int.toNat_zero, Int.reduceToNat, Int.reduceNeg, Nat.reduceAdd, Int.reduceAdd, Int.reduceEq, Int.reduceLT, Int.reduceLE, Int.zero_add, nb_ui_s, nb_ui_k, nb_ui_a, sp_min, sp_max, sp_bits]
  refine sq_kv (sq_cbeg (d := d) (p := k / 27) hA (by omega) hJ.1 hz) (fun K hK => ?_)
  simp (disch := (first | assumption | omega | exact nb_ix (by omega) (by assumption) (by omega) (by omega) | exact nb_ix (by omega) rfl (by omega) (by omega) | exact nb_ok (by omega) rfl | decide)) only [kX2_startSort, nb_add, nb_sub, nb_mul, Int.toNat_natCast, mm_kr_s, mm_kv_s, if_pos, if_neg, sq_tn, Int.toNat_zero, Int.reduceToNat, Int.reduceNeg, Nat.reduceAdd, Int.reduceAdd, Int.reduceEq, Int.reduceLT, Int.reduceLE, Int.zero_add, nb_ui_s, nb_ui_k, nb_ui_a, sp_min, sp_max, sp_bits]
  refine sq_ret ⟨fun j hj => ?_, sq_fr_trans hJ.2 hK.2 (fun _ h => h) (by simp)⟩
  rw [hK.1 j hj]
  obtain ⟨h1, h2, h3⟩ := sw_cd_p k
  unfold sw_T0
  rw [h1, h2, h3]
  unfold sw_beg sw_u27 sw_told
  have : k / 27 < 8 := by omega
  generalize k / 27 = q at *
  by_cases hj27 : j = 27
  · subst hj27
    rw [if_neg (by omega), if_neg (by omega), if_neg (by omega), if_neg (by omega), if_neg (by omega), if_pos rfl, if_pos rfl]
  · simp only [hj27, if_false]
set_option maxHeartbeats 2000000 in
theorem sq_cfits {k : Nat} (hd : c ≤ d) (hP : sq_P n P t u) (hW : sq_CW n c P I t s D B g v lw ev) (hcn : I t 3 = cn) (hWt : ∀ p, p < s → I (t + 1) p = W p) (hWr : ∀ p, p < s → 0 ≤ W p ∧ W p ≤ 99) (hcr : 0 ≤ cn ∧ cn ≤ 999) (hc : sq_ck s ck cp ch cm co) (hK : sq_CK I ck cp ch cm co) (hk : k < 27 * s) :
    sq_X (some (.inl (if sw_F (sw_live ev D B g s) s W g M ck cp ch cm co (sw_cd k) = true then 1 else 0))) n L P (sq_cf [223, 224, 225, 226] I) (mm_rn (d + 6) 15 [.inr (.inr (some 218)), .inr (.inr (some t)), .inr (.inr lw), .inl ((k : Int))] n I L P) := by
  have hC := hP.2.2.2.2.2.2.2.1
  have hn := hP.1
  have hA := hP.2.2.2.2.2.1 223 (by omega)
  have okA := hA.ok
  have hs8 := hW.2.1.2.1
  have hg5 := hW.2.2.2
  obtain ⟨k1, k2⟩ := hK
  have hc0 := hc
  obtain ⟨c1, c2⟩ := hc
  have hok := sw_T0_ok (M := M) (cd := sw_cd k) hs8 hWr hg5 (sw_cd_C hk)
  have h29 : sw_T0 s W g M (sw_cd k) 29 = 0 := by
    obtain ⟨h1, h2, h3⟩ := sw_cd_p k
    unfold sw_T0 sw_beg
    rw [h1, if_neg (by omega), if_neg (by omega)]
    rfl
  rw [eX2_fitsAll]
  simp (disch := (first | assumption | omega | exact nb_ix (by omega) (by assumption) (by omega) (by omega) | exact nb_ix (by omega) rfl (by omega) (by omega) | exact nb_ok (by omega) rfl | decide)) only [kX2_fitsAll, nb_add, nb_sub, nb_mul, Int.toNat_natCast, mm_kr_s, mm_kv_s, if_pos, if_neg, sq_tn, Int.toNat_zero, Int.reduceToNat, Int.reduceNeg, Nat.reduceAdd, Int.reduceAdd, Int.reduceEq, Int.reduceLT, Int.reduceLE, Int.zero_add, nb_ui_s, nb_ui_k, nb_ui_a, sp_min, sp_max, sp_bits]
  have lat := sw_mx_rg (f := fun i => (ch i : Int)) (M := 20) (by omega) ck (fun j hj => by have := (c2 j hj).2.1; omega)
  have latge := sw_mx_ge (f := fun i => (ch i : Int)) ck
  refine sq_for (fun i => mm_E (d + 5) 15 6 [.inr (.inr (some 218)), .inr (.inr (some t)), .inr (.inr lw), .inl ((k : Int)), .inl (sw_mx (fun i => (ch i : Int)) i), .inl ((i : Nat))] [] [] n I L P) ck (fun i hi => ?_) ?_
  · obtain ⟨b1, b2, b3, b4⟩ := k2 i hi
    have e4 : sw_mx (fun i => (ch i : Int)) (i + 1) = max (sw_mx (fun i => (ch i : Int)) i) (ch i : Int) := rfl
    rw [hX2_fitsAll_6, e4]
    simp (disch := (first | assumption | omega | exact nb_ix (by omega) (by assumption) (by omega) (by omega) | exact nb_ix (by omega) rfl (by omega) (by omega) | exact nb_ok (by omega) rfl | decide)) only [kX2_fitsAll, hC, k1, b2, nb_add, nb_sub, nb_mul, Int.toNat_natCast, mm_kr_s, mm_kv_s, if_pos, if_neg, sq_tn, Int.toNat_zero, Int.reduceToNat, Int.reduceNeg, Nat.reduceAdd, Int.reduceAdd, Int.reduceEq, Int.reduceLT, Int.reduceLE, Int.zero_add, nb_ui_s, nb_ui_k, nb_ui_a, sp_min, sp_max, sp_bits]
    rfl
  generalize sw_mx (fun i => (ch i : Int)) ck = la at *
  obtain ⟨m, rfl⟩ : ∃ m : Nat, la = (m : Int) := ⟨la.toNat, by omega⟩
  rw [hX2_fitsAll_6]
  simp (disch := (first | assumption | omega | exact nb_ix (by omega) (by assumption) (by omega) (by omega) | exact nb_ix (by omega) rfl (by omega) (by omega) | exact nb_ok (by omega) rfl | decide)) only [kX2_fitsAll, k1, nb_add, nb_sub, nb_mul, Int.toNat_natCast, mm_kr_s, mm_kv_s, if_pos, if_neg, sq_tn, Int.toNat_zero, Int.reduceToNat, Int.reduceNeg, Nat.reduceAdd, Int.reduceAdd, Int.reduceEq, Int.reduceLT, Int.reduceLE, Int.zero_add, nb_ui_s, nb_ui_k, nb_ui_a, sp_min, sp_max, sp_bits]
  refine sq_kv (sq_csort (d := d + 2) (M := M) hP hW hcn hWt hk) (fun J0 hJ0 => ?_)
  simp (disch := (first | assumption | omega | exact nb_ix (by omega) (by assumption) (by omega) (by omega) | exact nb_ix (by omega) rfl (by omega) (by omega) | exact nb_ok (by omega) rfl | decide)) only [kX2_fitsAll, nb_add, nb_sub, nb_mul, Int.toNat_natCast, mm_kr_s, mm_kv_s, if_pos, if_neg, sq_tn, Int.toNat_zero, Int.reduceToNat, Int.reduceNeg, Nat.reduceAdd, Int.reduceAdd, Int.reduceEq, Int.reduceLT, Int.reduceLE, Int.zero_add, nb_ui_s, nb_ui_k, nb_ui_a, sp_min, sp_max, sp_bits]
  refine sq_loop (fun i (J : mm_I) => mm_E (d + 5) 15 44 [.inr (.inr (some 218)), .inr (.inr (some t)), .inr (.inr lw), .inl ((k : Int)), .inl ((m : Int)), .inl (((i + 1 : Nat) : Int))] [] [] n J L P) (fun i J => sq_cN J 223 (sw_it (sw_live ev D B g s) i (sw_u27 (sw_T0 s W g M (sw_cd k)) cn)) ∧ sq_cf [223, 224, 225, 226] I J ∧ (∀ j, j < ck → ch j ≤ i → sw_cl (sw_live ev D B g s) (sw_T0 s W g M (sw_cd k)) cp ch cm co j = true)) m (s0 := J0) ⟨hJ0.1, sq_cf_of hJ0.2 (by decide), fun j hj hj2 => by have := (c2 j hj).2.1; omega⟩ ?_ ?_
  · intro i J hi ⟨h1, h2, h3⟩ ih
    have hW2 := sq_CW_keep hW h2 (by decide)
    have hoki := sw_it_ok (ev := ev) (D := D) (B := B) (sw_u27_ok hok hcr) hs8 hg5 i
    have h29i := sw_it_29 (ev := ev) (D := D) (B := B) (g := g) (s := s) (N := sw_u27 (sw_T0 s W g M (sw_cd k)) cn) i
    rw [sw_u27_o (by omega), h29] at h29i
    rw [hX2_fitsAll_44]
    simp (disch := (first | assumption | omega | exact nb_ix (by omega) (by assumption) (by omega) (by omega) | exact nb_ix (by omega) rfl (by omega) (by omega) | exact nb_ok (by omega) rfl | decide)) only [kX2_fitsAll, hC, nb_add, nb_sub, nb_mul, Int.toNat_natCast, mm_kr_s, mm_kv_s, if_pos, if_neg, sq_tn, Int.toNat_zero, Int.reduceToNat, Int.reduceNeg, Nat.reduceAdd, Int.reduceAdd, Int.reduceEq, Int.reduceLT, Int.reduceLE, Int.zero_add, nb_ui_s, nb_ui_k, nb_ui_a, sp_min, sp_max, sp_bits]
    refine sq_kr (sq_chour hd (by omega) hA hW2.1 hW2.2.1 hW2.2.2.1 h1 hoki (by omega)) (fun K hK => ?_)
    have hKc : sq_cf [223, 224, 225, 226] I K := sq_cf_trans h2 hK.2 (fun _ h => h) (fun _ h => h)
    have hKK : sq_CK K ck cp ch cm co := by
      unfold sq_CK
      rw [sq_cf_ge hKc (b := 218) (by decide) (by omega), sq_cf_ge hKc (b := 219) (by decide) (by omega), sq_cf_ge hKc (b := 220) (by decide) (by omega), sq_cf_ge hKc (b := 221) (by decide) (by omega), sq_cf_ge hKc (b := 222) (by decide) (by omega)]
      exact ⟨k1, k2⟩
    have hho := sq_chold (d := d + 2) (L := L) (h := i + 1) hP hs8 hc0 hKK hK.1
    have hcl : ∀ j, j < ck → ch j = i + 1 → (((if cm j ≤ sw_live ev D B g s (sw_it (sw_live ev D B g s) i (sw_u27 (sw_T0 s W g M (sw_cd k)) cn)) (cp j) then (1 : Int) else 0) = co j) ↔ sw_cl (sw_live ev D B g s) (sw_T0 s W g M (sw_cd k)) cp ch cm co j = true) := by
      intro j hj hcj
      have e1 : sw_live ev D B g s (sw_it (sw_live ev D B g s) i (sw_u27 (sw_T0 s W g M (sw_cd k)) cn)) = sw_u27 (sw_it (sw_live ev D B g s) (i + 1) (sw_T0 s W g M (sw_cd k))) cn := sw_it_27 hs8 (i + 1)
      rw [e1, sw_u27_o (by have := (c2 j hj).1; omega)]
      unfold sw_cl
      rw [hcj, decide_eq_true_iff]
    by_cases hall : sw_all (fun j => decide (ch j = i + 1 → (if cm j ≤ sw_live ev D B g s (sw_it (sw_live ev D B g s) i (sw_u27 (sw_T0 s W g M (sw_cd k)) cn)) (cp j) then (1 : Int) else 0) = co j)) ck = true
    · rw [if_pos hall] at hho
      have hall2 := (sw_all_iff ck).1 hall
      simp (disch := (first | assumption | omega | exact nb_ix (by omega) (by assumption) (by omega) (by omega) | exact nb_ix (by omega) rfl (by omega) (by omega) | exact nb_ok (by omega) rfl | decide)) only [kX2_fitsAll, hho, nb_add, nb_sub, nb_mul, Int.toNat_natCast, mm_kr_s, mm_kv_s, if_pos, if_neg, sq_tn, Int.toNat_zero, Int.reduceToNat, Int.reduceNeg, Nat.reduceAdd, Int.reduceAdd, Int.reduceEq, Int.reduceLT, Int.reduceLE, Int.zero_add, nb_ui_s, nb_ui_k, nb_ui_a, sp_min, sp_max, sp_bits]
      refine ih _ ⟨hK.1, hKc, fun j hj hj2 => ?_⟩
      by_cases hcj : ch j = i + 1
      · exact (hcl j hj hcj).1 (of_decide_eq_true (hall2 j hj) hcj)
      · exact h3 j hj (by omega)
    · rw [if_neg hall] at hho
      have hF : ¬ sw_F (sw_live ev D B g s) s W g M ck cp ch cm co (sw_cd k) = true := by
        intro hF
        apply hall
        rw [sw_all_iff]
        intro j hj
        rw [decide_eq_true_iff]
        intro hcj
        unfold sw_F at hF
        exact (hcl j hj hcj).2 ((sw_all_iff ck).1 hF j hj)
      rw [if_neg hF]
      simp (disch := (first | assumption | omega | exact nb_ix (by omega) (by assumption) (by omega) (by omega) | exact nb_ix (by omega) rfl (by omega) (by omega) | exact nb_ok (by omega) rfl | decide)) only [kX2_fitsAll, hho, nb_add, nb_sub, nb_mul, Int.toNat_natCast, mm_kr_s, mm_kv_s, if_pos, if_neg, sq_tn, Int.toNat_zero, Int.reduceToNat, Int.reduceNeg, Nat.reduceAdd, Int.reduceAdd, Int.reduceEq, Int.reduceLT, Int.reduceLE, Int.zero_add, nb_ui_s, nb_ui_k, nb_ui_a, sp_min, sp_max, sp_bits]
      exact sq_ret hKc
  · intro J ⟨h1, h2, h3⟩
    have hF : sw_F (sw_live ev D B g s) s W g M ck cp ch cm co (sw_cd k) = true := by
      unfold sw_F
      rw [sw_all_iff]
      intro j hj
      exact h3 j hj (by have := latge j hj; omega)
    rw [if_pos hF, hX2_fitsAll_44]
    simp (disch := (first | assumption | omega | exact nb_ix (by omega) (by assumption) (by omega) (by omega) | exact nb_ix (by omega) rfl (by omega) (by omega) | exact nb_ok (by omega) rfl | decide)) only [kX2_fitsAll, nb_add, nb_sub, nb_mul, Int.toNat_natCast, mm_kr_s, mm_kv_s, if_pos, if_neg, sq_tn, Int.toNat_zero, Int.reduceToNat, Int.reduceNeg, Nat.reduceAdd, Int.reduceAdd, Int.reduceEq, Int.reduceLT, Int.reduceLE, Int.zero_add, nb_ui_s, nb_ui_k, nb_ui_a, sp_min, sp_max, sp_bits]
    exact sq_ret h2
def sa_fits (F : Nat → Bool) (s : Nat) (x : Int) : Int := if 0 < s ∧ -1 ≤ x then sw_pl F x ((List.range' 0 (27 * s)).map sw_cd) 0 else -1
set_option maxHeartbeats 1000000 in
theorem sq_cfitting {x : Int} (hd : c ≤ d) (hP : sq_P n P t u) (hW : sq_CW n c P I t s D B g v lw ev) (hcn : I t 3 = cn) (hWt : ∀ p, p < s → I (t + 1) p = W p) (hWr : ∀ p, p < s → 0 ≤ W p ∧ W p ≤ 99) (hcr : 0 ≤ cn ∧ cn ≤ 999) (hc : sq_ck s ck cp ch cm co) (hK : sq_CK I ck cp ch cm co) :
    sq_X (some (.inl (sw_pl (sw_F (sw_live ev D B g s) s W g M ck cp ch cm co) x ((List.range' 0 (27 * s)).map sw_cd) 0))) n L P (sq_cf [223, 224, 225, 226] I) (mm_rn (d + 7) 13 [.inr (.inr (some 218)), .inr (.inr (some t)), .inr (.inr lw), .inl x] n I L P) := by
  have hC := hP.2.2.2.2.2.2.2.1
  have hn := hP.1
  have hs8 := hW.2.1.2.1
  have ht13 := hW.2.1.1
  have hs : I t 0 = (s : Int) := hW.2.1.2.2.1
  have okt := hW.1.ok
  rw [eX2_fitting]
  simp (disch := (first | assumption | omega | exact nb_ix (by omega) (by assumption) (by omega) (by omega) | exact nb_ix (by omega) rfl (by omega) (by omega) | exact nb_ok (by omega) rfl | decide)) only [kX2_fitting, nb_add, nb_sub, nb_mul, Int.toNat_natCast, mm_kr_s, mm_kv_s, if_pos, if_neg, sq_tn, Int.toNat_zero, Int.reduceToNat, Int.reduceNeg, Nat.reduceAdd, Int.reduceAdd, Int.reduceEq, Int.reduceLT, Int.reduceLE, Int.zero_add, nb_ui_s, nb_ui_k, nb_ui_a, sp_min, sp_max, sp_bits]
  refine sq_loop3 (fun k (f : Nat) (x6 : mm_V) (J : mm_I) => mm_E (d + 6) 13 6 [.inr (.inr (some 218)), .inr (.inr (some t)), .inr (.inr lw), .inl x, .inl ((f : Int)), .inl ((k : Nat)), x6] [] [] n J L P) (fun k f _ J => sq_cf [223, 224, 225, 226] I J ∧ f ≤ k ∧ sw_pl (sw_F (sw_live ev D B g s) s W g M ck cp ch cm co) x ((List.range' 0 (27 * s)).map sw_cd) 0 = sw_pl (sw_F (sw_live ev D B g s) s W g M ck cp ch cm co) x ((List.range' k (27 * s - k)).map sw_cd) f) (27 * s) (s0 := 0) (t0 := mm_junk) (u0 := I) ⟨sq_cf_refl _ _, Nat.le_refl _, rfl⟩ ?_ ?_
  · intro k f x6 J hk ⟨h1, h2, h3⟩ ih
    have hW2 := sq_CW_keep hW h1 (by decide)
    have et : J t = I t := sq_cf_ge h1 (by simp; omega) (by omega)
    have et1 : J (t + 1) = I (t + 1) := sq_cf_ge h1 (by simp; omega) (by omega)
    have hKJ : sq_CK J ck cp ch cm co := by
      unfold sq_CK
      rw [sq_cf_ge h1 (b := 218) (by decide) (by omega), sq_cf_ge h1 (b := 219) (by decide) (by omega), sq_cf_ge h1 (b := 220) (by decide) (by omega), sq_cf_ge h1 (b := 221) (by decide) (by omega), sq_cf_ge h1 (b := 222) (by decide) (by omega)]
      exact hK
    have er : List.range' k (27 * s - k) = k :: List.range' (k + 1) (27 * s - (k + 1)) := by
      rw [show 27 * s - k = (27 * s - (k + 1)) + 1 by omega, List.range'_succ]
    rw [er, List.map_cons] at h3
    have q1 : k < 2147483648 := by omega
    have q2 : k % 27 < 2147483648 := by omega
    rw [hX2_fitting_6]
    simp (disch := (first | assumption | omega | exact nb_ix (by omega) (by assumption) (by omega) (by omega) | exact nb_ix (by omega) rfl (by omega) (by omega) | exact nb_ok (by omega) rfl | decide)) only [kX2_fitting, et, hs, nb_add, nb_sub, nb_mul, Int.toNat_natCast, mm_kr_s, mm_kv_s, if_pos, if_neg, sq_tn, Int.toNat_zero, Int.reduceToNat, Int.reduceNeg, Nat.reduceAdd, Int.reduceAdd, Int.reduceEq, Int.reduceLT, Int.reduceLE, Int.zero_add, nb_ui_s, nb_ui_k, nb_ui_a, sp_min, sp_max, sp_bits]
    refine sq_kr (sq_cfits (M := M) hd hP hW2 (by rw [et]; exact hcn) (by rw [et1]; exact hWt) hWr hcr hc hKJ hk) (fun K hKf => ?_)
    have hKc : sq_cf [223, 224, 225, 226] I K := sq_cf_trans h1 hKf (fun _ h => h) (fun _ h => h)
    by_cases hF : sw_F (sw_live ev D B g s) s W g M ck cp ch cm co (sw_cd k) = true
    · have h4 : ∀ l, sw_pl (sw_F (sw_live ev D B g s) s W g M ck cp ch cm co) x (sw_cd k :: l) f = if (f : Int) = x then (sw_cd k : Int) else sw_pl (sw_F (sw_live ev D B g s) s W g M ck cp ch cm co) x l (f + 1) := by
        intro l
        show (if _ = true then _ else _) = _
        rw [if_pos hF]
      rw [h4] at h3
      by_cases hfx : (f : Int) = x
      · rw [if_pos hfx] at h3
        have e5 : 100 * ((k / 27 : Nat) : Int) + 10 * ((k % 27 / 9 : Nat) : Int) + ((k % 27 % 9 : Nat) : Int) + 1 = (sw_cd k : Int) := by
          unfold sw_cd
          omega
        have hfx2 : ¬ ((f : Int) ≠ x) := by omega
        simp (disch := (first | assumption | omega | exact nb_ix (by omega) (by assumption) (by omega) (by omega) | exact nb_ix (by omega) rfl (by omega) (by omega) | exact nb_ok (by omega) rfl | decide)) only [kX2_fitting, hF, sq_d27, sq_m27, sq_d9, sq_m9, e5, nb_add, nb_sub, nb_mul, Int.toNat_natCast, mm_kr_s, mm_kv_s, if_pos, if_neg, sq_tn, Int.toNat_zero, Int.reduceToNat, Int.reduceNeg, Nat.reduceAdd, Int.reduceAdd, Int.reduceEq, Int.reduceLT, Int.reduceLE, Int.zero_add, nb_ui_s, nb_ui_k, nb_ui_a, sp_min, sp_max, sp_bits]
        exact sq_ret2 (by rw [h3]) hKc
      · rw [if_neg hfx] at h3
        simp (disch := (first | assumption | omega | exact nb_ix (by omega) (by assumption) (by omega) (by omega) | exact nb_ix (by omega) rfl (by omega) (by omega) | exact nb_ok (by omega) rfl | decide)) only [kX2_fitting, hF, nb_add, nb_sub, nb_mul, Int.toNat_natCast, mm_kr_s, mm_kv_s, if_pos, if_neg, sq_tn, Int.toNat_zero, Int.reduceToNat, Int.reduceNeg, Nat.reduceAdd, Int.reduceAdd, Int.reduceEq, Int.reduceLT, Int.reduceLE, Int.zero_add, nb_ui_s, nb_ui_k, nb_ui_a, sp_min, sp_max, sp_bits]
        exact ih (f + 1) _ _ ⟨hKc, by omega, h3⟩
    · have h4 : ∀ l, sw_pl (sw_F (sw_live ev D B g s) s W g M ck cp ch cm co) x (sw_cd k :: l) f = sw_pl (sw_F (sw_live ev D B g s) s W g M ck cp ch cm co) x l f := by
        intro l
        show (if _ = true then _ else _) = _
        rw [if_neg hF]
      rw [h4] at h3
      simp (disch := (first | assumption | omega | exact nb_ix (by omega) (by assumption) (by omega) (by omega) | exact nb_ix (by omega) rfl (by omega) (by omega) | exact nb_ok (by omega) rfl | decide)) only [kX2_fitting, hF, nb_add, nb_sub, nb_mul, Int.toNat_natCast, mm_kr_s, mm_kv_s, if_pos, if_neg, sq_tn, Int.toNat_zero, Int.reduceToNat, Int.reduceNeg, Nat.reduceAdd, Int.reduceAdd, Int.reduceEq, Int.reduceLT, Int.reduceLE, Int.zero_add, nb_ui_s, nb_ui_k, nb_ui_a, sp_min, sp_max, sp_bits]
      exact ih f _ _ ⟨hKc, by omega, h3⟩
  · intro f x6 J ⟨h1, h2, h3⟩
    have et : J t = I t := sq_cf_ge h1 (by simp; omega) (by omega)
    rw [Nat.sub_self] at h3
    have h4 : sw_pl (sw_F (sw_live ev D B g s) s W g M ck cp ch cm co) x ((List.range' (27 * s) 0).map sw_cd) f = if x = -1 then (f : Int) else -1 := rfl
    rw [h4] at h3
    have e27 : ((27 * s : Nat) : Int) = (s : Int) * 27 := by omega
    rw [hX2_fitting_6]
    by_cases hx : x = -1
    · rw [if_pos hx] at h3
      simp (disch := (first | assumption | omega | exact nb_ix (by omega) (by assumption) (by omega) (by omega) | exact nb_ix (by omega) rfl (by omega) (by omega) | exact nb_ok (by omega) rfl | decide)) only [kX2_fitting, et, hs, e27, nb_add, nb_sub, nb_mul, Int.toNat_natCast, mm_kr_s, mm_kv_s, if_pos, if_neg, sq_tn, Int.toNat_zero, Int.reduceToNat, Int.reduceNeg, Nat.reduceAdd, Int.reduceAdd, Int.reduceEq, Int.reduceLT, Int.reduceLE, Int.zero_add, nb_ui_s, nb_ui_k, nb_ui_a, sp_min, sp_max, sp_bits]
      exact sq_ret2 (by rw [h3]) h1
    · rw [if_neg hx] at h3
      simp (disch := (first | assumption | omega | exact nb_ix (by omega) (by assumption) (by omega) (by omega) | exact nb_ix (by omega) rfl (by omega) (by omega) | exact nb_ok (by omega) rfl | decide)) only [kX2_fitting, et, hs, e27, nb_add, nb_sub, nb_mul, Int.toNat_natCast, mm_kr_s, mm_kv_s, if_pos, if_neg, sq_tn, Int.toNat_zero, Int.reduceToNat, Int.reduceNeg, Nat.reduceAdd, Int.reduceAdd, Int.reduceEq, Int.reduceLT, Int.reduceLE, Int.zero_add, nb_ui_s, nb_ui_k, nb_ui_a, sp_min, sp_max, sp_bits]
      exact sq_ret2 (by rw [h3]) h1
theorem oc_fits (hd : c ≤ d) (hC : sq_CC n c P I t u s D B g v lw ev N) (hcn : I t 3 = cn) (hWt : ∀ p, p < s → I (t + 1) p = W p) (hWr : ∀ p, p < s → 0 ≤ W p ∧ W p ≤ 99) (hcr : 0 ≤ cn ∧ cn ≤ 999) (hc : sq_ck s ck cp ch cm co) (hK : sq_CK I ck cp ch cm co) (x : Int) : sq_X (some (.inl (sa_fits (sw_F (sw_live ev D B g s) s W g M ck cp ch cm co) s x))) n L P (sq_cf sq_SC I) (mm_rn (d + 10) 127 [.inr (.inr (some 0)), .inl x] n I L P) := by
  obtain ⟨hP, hW, hLW, hN, hok, hh⟩ := hC
  have ok0 := sq_ok0 hP
  have hs : I t 0 = (s : Int) := hW.2.1.2.2.1
  have hC := hP.2.2.2.2.2.2.2.1
  have hPt := hP.2.2.2.2.2.2.1
  have hn := hP.1
  rw [eX11_fits]
  by_cases h0 : s = 0
  · have : sa_fits (sw_F (sw_live ev D B g s) s W g M ck cp ch cm co) s x = -1 := if_neg (by omega)
    rw [this]
    simp (disch := (first | assumption | omega | exact nb_ix (by omega) (by assumption) (by omega) (by omega) | exact nb_ix (by omega) rfl (by omega) (by omega) | exact nb_ok (by omega) rfl | decide)) only [kX11_fits, sq_noTown hP hs, nb_add, nb_sub, nb_mul, Int.toNat_natCast, mm_kr_s, mm_kv_s, if_pos, if_neg, sq_tn, Int.toNat_zero, Int.reduceToNat, Int.reduceNeg, Nat.reduceAdd, Int.reduceAdd, Int.reduceEq, Int.reduceLT, Int.reduceLE, Int.zero_add, nb_ui_s, nb_ui_k, nb_ui_a, sp_min, sp_max, sp_bits]
    exact sq_ret (sq_cf_refl _ _)
  · have e1 : sa_fits (sw_F (sw_live ev D B g s) s W g M ck cp ch cm co) s x = sw_pl (sw_F (sw_live ev D B g s) s W g M ck cp ch cm co) x ((List.range' 0 (27 * s)).map sw_cd) 0 := by
      unfold sa_fits
      by_cases hx : -1 ≤ x
      · rw [if_pos ⟨by omega, hx⟩]
      · rw [if_neg (by omega), sw_pl_low (by omega)]
    rw [e1]
    simp (disch := (first | assumption | omega | exact nb_ix (by omega) (by assumption) (by omega) (by omega) | exact nb_ix (by omega) rfl (by omega) (by omega) | exact nb_ok (by omega) rfl | decide)) only [kX11_fits, sq_noTown hP hs, hC, hPt, sq_held hP hLW, nb_add, nb_sub, nb_mul, Int.toNat_natCast, mm_kr_s, mm_kv_s, if_pos, if_neg, sq_tn, Int.toNat_zero, Int.reduceToNat, Int.reduceNeg, Nat.reduceAdd, Int.reduceAdd, Int.reduceEq, Int.reduceLT, Int.reduceLE, Int.zero_add, nb_ui_s, nb_ui_k, nb_ui_a, sp_min, sp_max, sp_bits]
    refine sq_kr (sq_cfitting (d := d + 2) (M := M) (by omega) hP hW hcn hWt hWr hcr hc hK) (fun J hJ => ?_)
    simp (disch := (first | assumption | omega | exact nb_ix (by omega) (by assumption) (by omega) (by omega) | exact nb_ix (by omega) rfl (by omega) (by omega) | exact nb_ok (by omega) rfl | decide)) only [kX11_fits, nb_add, nb_sub, nb_mul, Int.toNat_natCast, mm_kr_s, mm_kv_s, if_pos, if_neg, sq_tn, Int.toNat_zero, Int.reduceToNat, Int.reduceNeg, Nat.reduceAdd, Int.reduceAdd, Int.reduceEq, Int.reduceLT, Int.reduceLE, Int.zero_add, nb_ui_s, nb_ui_k, nb_ui_a, sp_min, sp_max, sp_bits]
    exact sq_ret (sq_cf_sub hJ (by decide))
end CK
