/-! shares; which places -/
theorem sp_sum_ext {f g : Nat → Int} {s : Nat} : ∀ k, s ≤ k → (∀ p, p < s → f p = g p) → (∀ p, s ≤ p → p < k → f p = 0) → sp_sum f k = sp_sum g s := by
  intro k
  induction k with
  | zero =>
    intro h _ _
    have : s = 0 := by omega
    subst this
    rfl
  | succ k ih =>
    intro h h1 h2
    by_cases c : s = k + 1
    · subst c
      exact sp_sum_congr _ h1
    · show sp_sum f k + f k = _
      rw [ih (by omega) h1 (fun p a b => h2 p a (by omega)), h2 k (by omega) (by omega), Int.add_zero]
theorem sw_Wall {N : Nat → Int} {s : Nat} : sw_W N s (2 ^ s - 1) = sp_sum N s := by
  unfold sw_W
  refine sp_sum_congr s (fun p hp => ?_)
  rw [if_pos (by rw [Nat.testBit_two_pow_sub_one]; exact decide_eq_true hp)]
def sa_shares (N : Nat → Int) (s : Nat) (p x : Int) : Int := if (0 ≤ p ∧ p < s) ∧ 0 ≤ x ∧ x ≤ 999 then (if sp_sum N s = 0 then 0 else Int.tdiv (x * N p.toNat) (sp_sum N s)) else -1
def sm_rk (D K N : Nat → Int) (B : Nat → Nat) (w : Int) (p : Nat) : Int := if w = 0 then N p else if w = 1 then K p else if w = 2 then (sp_pc (B p) : Int) else if w = 3 then D (8 * (N 24).toNat + p) else N (16 + p)
def sm_top (f : Nat → Int) : Nat → Nat
  | 0 => 0
  | k + 1 => if f (sm_top f k) < f (k + 1) then k + 1 else sm_top f k
theorem sm_top_le (f : Nat → Int) : ∀ k, sm_top f k ≤ k := by
  intro k
  induction k with
  | zero => exact Nat.le_refl _
  | succ k ih => unfold sm_top; split <;> omega
def sm_of (N : Nat → Int) (s : Nat) (w : Int) : Nat := sp_mask (fun p => decide (0 < N (16 + p)) && decide (N (8 + p) = w)) s
def sm_ru (N : Nat → Int) (s : Nat) : Nat := sp_mask (fun p => decide (N p = 0)) s
def sm_fst (D : Nat → Int) (p : Nat) : Bool := sw_all (fun o => decide (99 ≤ D (8 * p + o))) p
def sm_pt (D : Nat → Int) (s : Nat) : Int := sp_sum (fun p => if sm_fst D p = true then 1 else 0) s
def sa_most (D K N : Nat → Int) (B : Nat → Nat) (v : Int) (s : Nat) (w : Int) : Int := if 0 < s ∧ 0 ≤ w ∧ w ≤ 12 then
    (if w ≤ 3 then (sm_top (sm_rk D K N B w) (s - 1) : Nat)
     else if w = 4 then (sv_am N s : Nat)
     else if w = 5 then (sw_V D v s (N 24).toNat : Nat)
     else if w ≤ 8 then (sm_of N s (w - 6) : Nat)
     else if w = 9 then (sm_ru N s : Nat)
     else if w = 10 then (if sv_am N s = 0 then -1 else (sm_top (sm_rk D K N B 10) (s - 1) : Nat))
     else if w = 11 then sp_sum N s
     else sm_pt D s)
  else -1
section MO
variable {n c t u s d : Nat} {I L : mm_I} {P : mm_P} {D : Nat → Int} {B : Nat → Nat} {g v : Int} {lw : Option Nat} {ev : sv_E} {N K : Nat → Int}
theorem sq_call8 (hC : sq_CC n c P I t u s D B g v lw ev N) : mm_rn (d + 1) 44 [.inr (.inr (some 40))] n I L P = some (some (.inl (sp_sum N s)), n, I, L, P) := by
  obtain ⟨hP, hW, hLW, hN, hok, hh⟩ := hC
  have n1 := (sq_cN_iff.1 hN).1
  have hs8 : s ≤ 8 := hW.2.1.2.1
  rw [sp_all (hP.2.2.2.2.2.1 40 (by omega)) (fun p hp => by rw [n1 p hp]; exact (hok.1 p hp).1)]
  rw [sp_sum_ext (g := N) (s := s) 8 hs8 (fun p hp => n1 p (by omega)) (fun p a b => by rw [n1 p b]; exact ((hok.1 p b).2.2.2 a).1)]
theorem sq_sh {x N : Int} {A : Int} (hx : 0 ≤ x ∧ x ≤ 999) (hN : 0 ≤ N ∧ N ≤ 99) (hA : 0 < A) : 0 ≤ x * N ∧ x * N ≤ 98901 ∧ mm_w (Int.tdiv (x * N) A) = Int.tdiv (x * N) A := by
  have h1 : 0 ≤ x * N := Int.mul_nonneg hx.1 hN.1
  have h2 : x * N ≤ 98901 := by
    have := Int.mul_le_mul hx.2 hN.2 hN.1 (show (0 : Int) ≤ 999 by omega)
    omega
  refine ⟨h1, h2, ?_⟩
  rw [Int.tdiv_eq_ediv_of_nonneg h1]
  have h3 : 0 ≤ x * N / A := Int.ediv_nonneg h1 (by omega)
  have h4 : x * N / A ≤ x * N := Int.ediv_le_self _ h1
  exact nb_w (by omega) (by omega)
theorem oc_shares (hC : sq_CC n c P I t u s D B g v lw ev N) (p x : Int) : mm_rn (d + 10) 137 [.inr (.inr (some 0)), .inl p, .inl x] n I L P = some (some (.inl (sa_shares N s p x)), n, I, L, P) := by
  have h44 := sq_call8 (d := d + 8) (L := L) hC
  obtain ⟨hP, hW, hLW, hN, hok, hh⟩ := hC
  have ok0 := sq_ok0 hP
  have hs : I t 0 = (s : Int) := hW.2.1.2.2.1
  have hs8 : s ≤ 8 := hW.2.1.2.1
  have hTP := hW.1
  have okt := hTP.ok
  have hC := hP.2.2.2.2.2.2.2.1
  have hPt := hP.2.2.2.2.2.2.1
  have hn := hP.1
  have hA := hP.2.2.2.2.2.1 40 (by omega)
  have ok40 := hA.ok
  obtain ⟨a0, a1, a2, a3, a4, a5, a6, a7⟩ := hA
  rw [eX11_shares]
  by_cases h : (0 ≤ p ∧ p < s) ∧ 0 ≤ x ∧ x ≤ 999
  · obtain ⟨q, rfl⟩ : ∃ k : Nat, p = (k : Int) := ⟨p.toNat, by omega⟩
    unfold sa_shares
    rw [if_pos h, Int.toNat_natCast]
    have h1 := h.1
    have eq := (sq_cN_iff.1 hN).1 q (by omega)
    have hall := (sp_sum_rg (f := N) (M := 99) (by omega) s (fun j hj => (hok.1 j (by omega)).1)).1
    by_cases h0 : sp_sum N s = 0
    · simp (disch := (first | assumption | omega | exact nb_ix (by omega) (by assumption) (by omega) (by omega) | exact nb_ix (by omega) rfl (by omega) (by omega) | exact nb_ok (by omega) rfl | decide)) only [kX11_shares, sp_has hTP, hs, hPt, hC, h44, nb_add, nb_sub, nb_mul, Int.toNat_natCast, mm_kr_s, mm_kv_s, if_pos, if_neg, sq_tn, Int.toNat_zero, Int.reduceToNat, Int.reduceNeg, Nat.reduceAdd, Int.reduceAdd, Int.reduceEq, Int.reduceLT, Int.reduceLE, Int.zero_add, nb_ui_s, nb_ui_k, nb_ui_a, sp_min, sp_max, sp_bits]
    · obtain ⟨x1, x2, x3⟩ := sq_sh h.2 (hok.1 q (by omega)).1 (show 0 < sp_sum N s by omega)
      simp (disch := (first | assumption | omega | exact nb_ix (by omega) (by assumption) (by omega) (by omega) | exact nb_ix (by omega) rfl (by omega) (by omega) | exact nb_ok (by omega) rfl | decide)) only [kX11_shares, sp_has hTP, hs, hPt, hC, h44, a5, eq, x3, nb_add, nb_sub, nb_mul, Int.toNat_natCast, mm_kr_s, mm_kv_s, if_pos, if_neg, sq_tn, Int.toNat_zero, Int.reduceToNat, Int.reduceNeg, Nat.reduceAdd, Int.reduceAdd, Int.reduceEq, Int.reduceLT, Int.reduceLE, Int.zero_add, nb_ui_s, nb_ui_k, nb_ui_a, sp_min, sp_max, sp_bits]
  · have : sa_shares N s p x = -1 := if_neg h
    rw [this]
    by_cases h1 : 0 ≤ p ∧ p < (s : Int)
    · by_cases h2 : x < 0
      · simp (disch := (first | assumption | omega | exact nb_ix (by omega) (by assumption) (by omega) (by omega) | exact nb_ix (by omega) rfl (by omega) (by omega) | exact nb_ok (by omega) rfl | decide)) only [kX11_shares, sp_has hTP, hs, hPt, nb_add, nb_sub, nb_mul, Int.toNat_natCast, mm_kr_s, mm_kv_s, if_pos, if_neg, sq_tn, Int.toNat_zero, Int.reduceToNat, Int.reduceNeg, Nat.reduceAdd, Int.reduceAdd, Int.reduceEq, Int.reduceLT, Int.reduceLE, Int.zero_add, nb_ui_s, nb_ui_k, nb_ui_a, sp_min, sp_max, sp_bits]
      · simp (disch := (first | assumption | omega | exact nb_ix (by omega) (by assumption) (by omega) (by omega) | exact nb_ix (by omega) rfl (by omega) (by omega) | exact nb_ok (by omega) rfl | decide)) only [kX11_shares, sp_has hTP, hs, hPt, nb_add, nb_sub, nb_mul, Int.toNat_natCast, mm_kr_s, mm_kv_s, if_pos, if_neg, sq_tn, Int.toNat_zero, Int.reduceToNat, Int.reduceNeg, Nat.reduceAdd, Int.reduceAdd, Int.reduceEq, Int.reduceLT, Int.reduceLE, Int.zero_add, nb_ui_s, nb_ui_k, nb_ui_a, sp_min, sp_max, sp_bits]
    · simp (disch := (first | assumption | omega | exact nb_ix (by omega) (by assumption) (by omega) (by omega) | exact nb_ix (by omega) rfl (by omega) (by omega) | exact nb_ok (by omega) rfl | decide)) only [kX11_shares, sp_has hTP, hs, hPt, nb_add, nb_sub, nb_mul, Int.toNat_natCast, mm_kr_s, mm_kv_s, if_pos, if_neg, sq_tn, Int.toNat_zero, Int.reduceToNat, Int.reduceNeg, Nat.reduceAdd, Int.reduceAdd, Int.reduceEq, Int.reduceLT, Int.reduceLE, Int.zero_add, nb_ui_s, nb_ui_k, nb_ui_a, sp_min, sp_max, sp_bits]
theorem om_shares (hC : sq_MM n c P I s D B g v ev N) (p x : Int) : mm_rn (d + 10) 253 [.inr (.inr (some 239)), .inl p, .inl x] n I L P = some (some (.inl (sa_shares N s p x)), n, I, L, P) := by
  obtain ⟨hW, hN, hok, hh⟩ := hC
  have hM := hW.1
  have ok := hW.1.ok
  have hs : I 239 26 = (s : Int) := hW.2.1.2.1
  have hs8 : s ≤ 8 := hW.2.1.1
  have his := sp_isSpot (d := d + 7) (L := L) hM p (I := I) (by omega)
  rw [hs] at his
  have hNr : ∀ p, p < s → 0 ≤ N p ∧ N p ≤ 99 := fun p hp => (hok.1 p (by omega)).1
  rw [eX12_shares]
  by_cases h : (0 ≤ p ∧ p < s) ∧ 0 ≤ x ∧ x ≤ 999
  · obtain ⟨q, rfl⟩ : ∃ k : Nat, p = (k : Int) := ⟨p.toNat, by omega⟩
    unfold sa_shares
    rw [if_pos h, Int.toNat_natCast]
    have h1 := h.1
    have h2 := h.2
    have eq := hN q (by omega)
    have hall := (sp_sum_rg (f := N) (M := 99) (by omega) s hNr).1
    have hwa := sq_mworth (d := d + 7) (L := L) (m := 2 ^ s - 1) hM hs8 hs hN hNr (by have := sp_pow8 hs8; omega)
    rw [sw_Wall] at hwa
    obtain ⟨A, hA⟩ : ∃ A, 2 ^ s = A + 1 := ⟨2 ^ s - 1, by have := Nat.two_pow_pos s; omega⟩
    have hA8 := sp_pow8 hs8
    have e1 := nb_shl0 s (by omega)
    rw [hA] at e1 hwa hA8
    rw [show A + 1 - 1 = A by omega] at hwa
    have eA : ((A + 1 : Nat) : Int) - 1 = (A : Int) := by omega
    clear hA
    obtain ⟨hn, hP⟩ := hM
    by_cases h0 : sp_sum N s = 0
    · rw [h0] at hwa
      simp (disch := (first | assumption | omega | exact nb_ix (by omega) (by assumption) (by omega) (by omega) | exact nb_ix (by omega) rfl (by omega) (by omega) | exact nb_ok (by omega) rfl | decide)) only [kX12_shares, his, sp_min2, hs, e1, eA, hwa, nb_add, nb_sub, nb_mul, Int.toNat_natCast, mm_kr_s, mm_kv_s, if_pos, if_neg, sq_tn, Int.toNat_zero, Int.reduceToNat, Int.reduceNeg, Nat.reduceAdd, Int.reduceAdd, Int.reduceEq, Int.reduceLT, Int.reduceLE, Int.zero_add, nb_ui_s, nb_ui_k, nb_ui_a, sp_min, sp_max, sp_bits]
    · obtain ⟨x1, x2, x3⟩ := sq_sh h.2 (hok.1 q (by omega)).1 (show 0 < sp_sum N s by omega)
      simp (disch := (first | assumption | omega | exact nb_ix (by omega) (by assumption) (by omega) (by omega) | exact nb_ix (by omega) rfl (by omega) (by omega) | exact nb_ok (by omega) rfl | decide)) only [kX12_shares, his, sp_min2, hs, e1, eA, hwa, hP, eq, x3, nb_add, nb_sub, nb_mul, Int.toNat_natCast, mm_kr_s, mm_kv_s, if_pos, if_neg, sq_tn, Int.toNat_zero, Int.reduceToNat, Int.reduceNeg, Nat.reduceAdd, Int.reduceAdd, Int.reduceEq, Int.reduceLT, Int.reduceLE, Int.zero_add, nb_ui_s, nb_ui_k, nb_ui_a, sp_min, sp_max, sp_bits]
  · have : sa_shares N s p x = -1 := if_neg h
    rw [this]
    by_cases h1 : 0 ≤ p ∧ p < (s : Int)
    · have h2 : ¬ (0 ≤ x ∧ x ≤ 999) := fun z => h ⟨h1, z⟩
      simp (disch := (first | assumption | omega | exact nb_ix (by omega) (by assumption) (by omega) (by omega) | exact nb_ix (by omega) rfl (by omega) (by omega) | exact nb_ok (by omega) rfl | decide)) only [kX12_shares, his, sp_min2, nb_add, nb_sub, nb_mul, Int.toNat_natCast, mm_kr_s, mm_kv_s, if_pos, if_neg, sq_tn, Int.toNat_zero, Int.reduceToNat, Int.reduceNeg, Nat.reduceAdd, Int.reduceAdd, Int.reduceEq, Int.reduceLT, Int.reduceLE, Int.zero_add, nb_ui_s, nb_ui_k, nb_ui_a, sp_min, sp_max, sp_bits]
    · simp (disch := (first | assumption | omega | exact nb_ix (by omega) (by assumption) (by omega) (by omega) | exact nb_ix (by omega) rfl (by omega) (by omega) | exact nb_ok (by omega) rfl | decide)) only [kX12_shares, his, sp_min2, nb_add, nb_sub, nb_mul, Int.toNat_natCast, mm_kr_s, mm_kv_s, if_pos, if_neg, sq_tn, Int.toNat_zero, Int.reduceToNat, Int.reduceNeg, Nat.reduceAdd, Int.reduceAdd, Int.reduceEq, Int.reduceLT, Int.reduceLE, Int.zero_add, nb_ui_s, nb_ui_k, nb_ui_a, sp_min, sp_max, sp_bits]
theorem sq_crank {p : Nat} {w : Int} (hC : sq_CC n c P I t u s D B g v lw ev N) (hKr : ∀ p, p < s → I (t + 2) p = K p) (hp : p < s) : mm_rn (d + 3) 140 [.inr (.inr (some 0)), .inl w, .inl ((p : Int))] n I L P = some (some (.inl (sm_rk D K N B w p)), n, I, L, P) := by
  obtain ⟨hP, hW, hLW, hN, hok, hh⟩ := hC
  have ok0 := sq_ok0 hP
  have hs8 : s ≤ 8 := hW.2.1.2.1
  have hTP := hW.1
  have okt := hTP.ok
  have hC := hP.2.2.2.2.2.2.2.1
  have hPt := hP.2.2.2.2.2.2.1
  have hn := hP.1
  have hA := hP.2.2.2.2.2.1 40 (by omega)
  have ok40 := hA.ok
  obtain ⟨a0, a1, a2, a3, a4, a5, a6, a7⟩ := hA
  obtain ⟨t0, t1, t2, t3, t4, t5, t6, t7, t8, t9, t10, t11⟩ := hTP
  obtain ⟨n1, n2, n3, nf3, nf⟩ := sq_cN_iff.1 hN
  obtain ⟨q, hq⟩ : ∃ q : Nat, N 24 = (q : Int) := ⟨(N 24).toNat, by have := hok.2.1; omega⟩
  have hqs : q < s := by have := hok.2.1; omega
  have hqn : (N 24).toNat = q := by omega
  have e3 : I 40 3 = (q : Int) := by rw [← hq]; exact nf3
  have wa := sp_way (d := d) (I := I) (L := L) hW.1 hW.2.1.2.2.1 hs8 hqs hp
  rw [hW.2.1.2.2.2.1 q p hqs hp] at wa
  have e1 := n1 p (by omega)
  have e16 := n3 p (by omega)
  have ek := hKr p hp
  obtain ⟨b1, b2⟩ := hW.2.1.2.2.2.2.2.1 p hp
  rw [eX11_rankOf]
  unfold sm_rk
  rw [hqn]
  by_cases w0 : w = 0
  · simp (disch := (first | assumption | omega | exact nb_ix (by omega) (by assumption) (by omega) (by omega) | exact nb_ix (by omega) rfl (by omega) (by omega) | exact nb_ok (by omega) rfl | decide)) only [kX11_rankOf, hPt, hC, a5, e1, nb_add, nb_sub, nb_mul, Int.toNat_natCast, mm_kr_s, mm_kv_s, if_pos, if_neg, sq_tn, Int.toNat_zero, Int.reduceToNat, Int.reduceNeg, Nat.reduceAdd, Int.reduceAdd, Int.reduceEq, Int.reduceLT, Int.reduceLE, Int.zero_add, nb_ui_s, nb_ui_k, nb_ui_a, sp_min, sp_max, sp_bits]
  · by_cases w1 : w = 1
    · simp (disch := (first | assumption | omega | exact nb_ix (by omega) (by assumption) (by omega) (by omega) | exact nb_ix (by omega) rfl (by omega) (by omega) | exact nb_ok (by omega) rfl | decide)) only [kX11_rankOf, hPt, hC, t8, ek, nb_add, nb_sub, nb_mul, Int.toNat_natCast, mm_kr_s, mm_kv_s, if_pos, if_neg, sq_tn, Int.toNat_zero, Int.reduceToNat, Int.reduceNeg, Nat.reduceAdd, Int.reduceAdd, Int.reduceEq, Int.reduceLT, Int.reduceLE, Int.zero_add, nb_ui_s, nb_ui_k, nb_ui_a, sp_min, sp_max, sp_bits]
    · by_cases w2 : w = 2
      · simp (disch := (first | assumption | omega | exact nb_ix (by omega) (by assumption) (by omega) (by omega) | exact nb_ix (by omega) rfl (by omega) (by omega) | exact nb_ok (by omega) rfl | decide)) only [kX11_rankOf, hPt, hC, t9, b1, nb_add, nb_sub, nb_mul, Int.toNat_natCast, mm_kr_s, mm_kv_s, if_pos, if_neg, sq_tn, Int.toNat_zero, Int.reduceToNat, Int.reduceNeg, Nat.reduceAdd, Int.reduceAdd, Int.reduceEq, Int.reduceLT, Int.reduceLE, Int.zero_add, nb_ui_s, nb_ui_k, nb_ui_a, sp_min, sp_max, sp_bits]
      · by_cases w3 : w = 3
        · simp (disch := (first | assumption | omega | exact nb_ix (by omega) (by assumption) (by omega) (by omega) | exact nb_ix (by omega) rfl (by omega) (by omega) | exact nb_ok (by omega) rfl | decide)) only [kX11_rankOf, hPt, hC, e3, wa, nb_add, nb_sub, nb_mul, Int.toNat_natCast, mm_kr_s, mm_kv_s, if_pos, if_neg, sq_tn, Int.toNat_zero, Int.reduceToNat, Int.reduceNeg, Nat.reduceAdd, Int.reduceAdd, Int.reduceEq, Int.reduceLT, Int.reduceLE, Int.zero_add, nb_ui_s, nb_ui_k, nb_ui_a, sp_min, sp_max, sp_bits]
        · simp (disch := (first | assumption | omega | exact nb_ix (by omega) (by assumption) (by omega) (by omega) | exact nb_ix (by omega) rfl (by omega) (by omega) | exact nb_ok (by omega) rfl | decide)) only [kX11_rankOf, hPt, hC, a7, e16, nb_add, nb_sub, nb_mul, Int.toNat_natCast, mm_kr_s, mm_kv_s, if_pos, if_neg, sq_tn, Int.toNat_zero, Int.reduceToNat, Int.reduceNeg, Nat.reduceAdd, Int.reduceAdd, Int.reduceEq, Int.reduceLT, Int.reduceLE, Int.zero_add, nb_ui_s, nb_ui_k, nb_ui_a, sp_min, sp_max, sp_bits]
theorem sq_ctop {w : Int} (hC : sq_CC n c P I t u s D B g v lw ev N) (hKr : ∀ p, p < s → I (t + 2) p = K p) (hs1 : 0 < s) : mm_rn (d + 4) 139 [.inr (.inr (some 0)), .inl w] n I L P = some (some (.inl ((sm_top (sm_rk D K N B w) (s - 1) : Nat))), n, I, L, P) := by
  have hrk := fun p hp => sq_crank (d := d) (L := L) (w := w) (p := p) hC hKr hp
  obtain ⟨hP, hW, hLW, hN, hok, hh⟩ := hC
  have ok0 := sq_ok0 hP
  have hs : I t 0 = (s : Int) := hW.2.1.2.2.1
  have hs8 : s ≤ 8 := hW.2.1.2.1
  have okt := hW.1.ok
  have hPt := hP.2.2.2.2.2.2.1
  rw [eX11_topPlace]
  simp (disch := (first | assumption | omega | exact nb_ix (by omega) (by assumption) (by omega) (by omega) | exact nb_ix (by omega) rfl (by omega) (by omega) | exact nb_ok (by omega) rfl | decide)) only [kX11_topPlace, nb_add, nb_sub, nb_mul, Int.toNat_natCast, mm_kr_s, mm_kv_s, if_pos, if_neg, sq_tn, Int.toNat_zero, Int.reduceToNat, Int.reduceNeg, Nat.reduceAdd, Int.reduceAdd, Int.reduceEq, Int.reduceLT, Int.reduceLE, Int.zero_add, nb_ui_s, nb_ui_k, nb_ui_a, sp_min, sp_max, sp_bits]
  refine Eq.trans (nb_loop (fun k => mm_E (d + 3) 139 4 [.inr (.inr (some 0)), .inl w, .inl ((sm_top (sm_rk D K N B w) k : Nat)), .inl (((k + 1 : Nat) : Int))] [] [] n I L P) (s - 1) (fun k hk => ?_)) ?_
  · have hle := sm_top_le (sm_rk D K N B w) k
    have r1 := hrk (k + 1) (by omega)
    have r2 := hrk (sm_top (sm_rk D K N B w) k) (by omega)
    have e5 : sm_top (sm_rk D K N B w) (k + 1) = if sm_rk D K N B w (sm_top (sm_rk D K N B w) k) < sm_rk D K N B w (k + 1) then k + 1 else sm_top (sm_rk D K N B w) k := rfl
    show mm_E _ _ _ _ _ _ _ _ _ _ = mm_E _ _ _ _ _ _ _ _ _ _
    rw [hX11_topPlace_4, e5]
    by_cases hlt : sm_rk D K N B w (sm_top (sm_rk D K N B w) k) < sm_rk D K N B w (k + 1)
    · rw [if_pos hlt]
      simp (disch := (first | assumption | omega | exact nb_ix (by omega) (by assumption) (by omega) (by omega) | exact nb_ix (by omega) rfl (by omega) (by omega) | exact nb_ok (by omega) rfl | decide)) only [kX11_topPlace, hPt, hs, r1, r2, nb_add, nb_sub, nb_mul, Int.toNat_natCast, mm_kr_s, mm_kv_s, if_pos, if_neg, sq_tn, Int.toNat_zero, Int.reduceToNat, Int.reduceNeg, Nat.reduceAdd, Int.reduceAdd, Int.reduceEq, Int.reduceLT, Int.reduceLE, Int.zero_add, nb_ui_s, nb_ui_k, nb_ui_a, sp_min, sp_max, sp_bits]
      rfl
    · rw [if_neg hlt]
      simp (disch := (first | assumption | omega | exact nb_ix (by omega) (by assumption) (by omega) (by omega) | exact nb_ix (by omega) rfl (by omega) (by omega) | exact nb_ok (by omega) rfl | decide)) only [kX11_topPlace, hPt, hs, r1, r2, nb_add, nb_sub, nb_mul, Int.toNat_natCast, mm_kr_s, mm_kv_s, if_pos, if_neg, sq_tn, Int.toNat_zero, Int.reduceToNat, Int.reduceNeg, Nat.reduceAdd, Int.reduceAdd, Int.reduceEq, Int.reduceLT, Int.reduceLE, Int.zero_add, nb_ui_s, nb_ui_k, nb_ui_a, sp_min, sp_max, sp_bits]
      rfl
  · rw [hX11_topPlace_4]
    simp (disch := (first | assumption | omega | exact nb_ix (by omega) (by assumption) (by omega) (by omega) | exact nb_ix (by omega) rfl (by omega) (by omega) | exact nb_ok (by omega) rfl | decide)) only [kX11_topPlace, hPt, hs, nb_add, nb_sub, nb_mul, Int.toNat_natCast, mm_kr_s, mm_kv_s, if_pos, if_neg, sq_tn, Int.toNat_zero, Int.reduceToNat, Int.reduceNeg, Nat.reduceAdd, Int.reduceAdd, Int.reduceEq, Int.reduceLT, Int.reduceLE, Int.zero_add, nb_ui_s, nb_ui_k, nb_ui_a, sp_min, sp_max, sp_bits]
theorem sq_cof {w : Int} (hC : sq_CC n c P I t u s D B g v lw ev N) : mm_rn (d + 2) 43 [.inr (.inr (some 40)), .inl w] n I L P = some (some (.inl ((sm_of N s w : Nat))), n, I, L, P) := by
  obtain ⟨hP, hW, hLW, hN, hok, hh⟩ := hC
  have hs8 : s ≤ 8 := hW.2.1.2.1
  have hn := hP.1
  have hA := hP.2.2.2.2.2.1 40 (by omega)
  have ok40 := hA.ok
  have n2 := (sq_cN_iff.1 hN).2.1
  have etr := sq_ctroub (d := d) (L := L) hA hs8 hN hok
  obtain ⟨a0, a1, a2, a3, a4, a5, a6, a7⟩ := hA
  rw [eX5_troublesOf]
  simp (disch := (first | assumption | omega | exact nb_ix (by omega) (by assumption) (by omega) (by omega) | exact nb_ix (by omega) rfl (by omega) (by omega) | exact nb_ok (by omega) rfl | decide)) only [kX5_troublesOf, etr, nb_add, nb_sub, nb_mul, Int.toNat_natCast, mm_kr_s, mm_kv_s, if_pos, if_neg, sq_tn, Int.toNat_zero, Int.reduceToNat, Int.reduceNeg, Nat.reduceAdd, Int.reduceAdd, Int.reduceEq, Int.reduceLT, Int.reduceLE, Int.zero_add, nb_ui_s, nb_ui_k, nb_ui_a, sp_min, sp_max, sp_bits]
  have e0 : sv_am N s = sp_mask (fun p => decide (0 < N (16 + p)) && (decide (8 ≤ p + 8) && decide (0 ≤ p → p < 0 → N (8 + p) = w))) s := by
    unfold sv_am
    refine sp_mask_congr (fun p hp => ?_)
    simp
  have key := nb_loop (fun k => mm_E (d + 1) 43 7 [.inr (.inr (some 40)), .inl w, .inl ((sp_mask (fun p => decide (0 < N (16 + p)) && decide (p < k → N (8 + p) = w)) s : Nat)), .inl ((k : Nat))] [] [] n I L P) 8 (fun k hk => by
    have e8 := n2 k hk
    have hlt : sp_mask (fun p => decide (0 < N (16 + p)) && decide (p < k → N (8 + p) = w)) s < 256 := Nat.lt_of_lt_of_le (sp_mask_lt _ s) (sp_pow8 hs8)
    have hsh := nb_shl0 k (by omega)
    obtain ⟨r, hr1, hr2, hr3⟩ := sq_andn (f := sp_mask (fun p => decide (0 < N (16 + p)) && decide (p < k → N (8 + p) = w)) s) (t := 2 ^ k) hlt
    rw [← hsh] at hr1
    show mm_E _ _ _ _ _ _ _ _ _ _ = mm_E _ _ _ _ _ _ _ _ _ _
    rw [hX5_troublesOf_7]
    by_cases hw : N (8 + k) = w
    · have e9 : sp_mask (fun p => decide (0 < N (16 + p)) && decide (p < k + 1 → N (8 + p) = w)) s = sp_mask (fun p => decide (0 < N (16 + p)) && decide (p < k → N (8 + p) = w)) s := by
        refine sp_mask_congr (fun p hp => ?_)
        congr 1
        apply decide_eq_decide.2
        constructor
        · intro h1 h2; exact h1 (by omega)
        · intro h1 h2
          by_cases hpk : p = k
          · rw [hpk]; exact hw
          · exact h1 (by omega)
      rw [e9]
      generalize sp_mask (fun p => decide (0 < N (16 + p)) && decide (p < k → N (8 + p) = w)) s = z
      simp (disch := (first | assumption | omega | exact nb_ix (by omega) (by assumption) (by omega) (by omega) | exact nb_ix (by omega) rfl (by omega) (by omega) | exact nb_ok (by omega) rfl | decide)) only [kX5_troublesOf, a6, e8, nb_add, nb_sub, nb_mul, Int.toNat_natCast, mm_kr_s, mm_kv_s, if_pos, if_neg, sq_tn, Int.toNat_zero, Int.reduceToNat, Int.reduceNeg, Nat.reduceAdd, Int.reduceAdd, Int.reduceEq, Int.reduceLT, Int.reduceLE, Int.zero_add, nb_ui_s, nb_ui_k, nb_ui_a, sp_min, sp_max, sp_bits]
      rfl
    · have e9 : sp_mask (fun p => decide (0 < N (16 + p)) && decide (p < k + 1 → N (8 + p) = w)) s = r := by
        apply Nat.eq_of_testBit_eq
        intro i
        rw [hr3, sp_mask_bit, sp_mask_bit]
        by_cases hik : i = k
        · subst hik
          rw [Nat.testBit_two_pow_self]
          simp [hw]
        · rw [Nat.testBit_two_pow_of_ne (fun e => hik e.symm)]
          simp only [Bool.not_false, Bool.and_true]
          congr 2
          apply decide_eq_decide.2
          constructor
          · intro h1 h2; exact h1 (by omega)
          · intro h1 h2; exact h1 (by omega)
      rw [e9]
      clear hr3 e9
      simp (disch := (first | assumption | omega | exact nb_ix (by omega) (by assumption) (by omega) (by omega) | exact nb_ix (by omega) rfl (by omega) (by omega) | exact nb_ok (by omega) rfl | decide)) only [kX5_troublesOf, a6, e8, hr1, nb_add, nb_sub, nb_mul, Int.toNat_natCast, mm_kr_s, mm_kv_s, if_pos, if_neg, sq_tn, Int.toNat_zero, Int.reduceToNat, Int.reduceNeg, Nat.reduceAdd, Int.reduceAdd, Int.reduceEq, Int.reduceLT, Int.reduceLE, Int.zero_add, nb_ui_s, nb_ui_k, nb_ui_a, sp_min, sp_max, sp_bits]
      rfl)
  have e1 : sp_mask (fun p => decide (0 < N (16 + p)) && decide (p < 0 → N (8 + p) = w)) s = sv_am N s := by
    unfold sv_am
    refine sp_mask_congr (fun p hp => ?_)
    simp
  have e2 : sp_mask (fun p => decide (0 < N (16 + p)) && decide (p < 8 → N (8 + p) = w)) s = sm_of N s w := by
    unfold sm_of
    refine sp_mask_congr (fun p hp => ?_)
    congr 1
    apply decide_eq_decide.2
    constructor
    · intro h1; exact h1 (by omega)
    · intro h1 _; exact h1
  simp only [e1, e2] at key
  refine Eq.trans key ?_
  rw [hX5_troublesOf_7]
  simp (disch := (first | assumption | omega | exact nb_ix (by omega) (by assumption) (by omega) (by omega) | exact nb_ix (by omega) rfl (by omega) (by omega) | exact nb_ok (by omega) rfl | decide)) only [kX5_troublesOf, nb_add, nb_sub, nb_mul, Int.toNat_natCast, mm_kr_s, mm_kv_s, if_pos, if_neg, sq_tn, Int.toNat_zero, Int.reduceToNat, Int.reduceNeg, Nat.reduceAdd, Int.reduceAdd, Int.reduceEq, Int.reduceLT, Int.reduceLE, Int.zero_add, nb_ui_s, nb_ui_k, nb_ui_a, sp_min, sp_max, sp_bits]
theorem sq_cruins (hC : sq_CC n c P I t u s D B g v lw ev N) : mm_rn (d + 2) 141 [.inr (.inr (some 0))] n I L P = some (some (.inl ((sm_ru N s : Nat))), n, I, L, P) := by
  obtain ⟨hP, hW, hLW, hN, hok, hh⟩ := hC
  have ok0 := sq_ok0 hP
  have hs : I t 0 = (s : Int) := hW.2.1.2.2.1
  have hs8 : s ≤ 8 := hW.2.1.2.1
  have okt := hW.1.ok
  have hC := hP.2.2.2.2.2.2.2.1
  have hPt := hP.2.2.2.2.2.2.1
  have hn := hP.1
  have hA := hP.2.2.2.2.2.1 40 (by omega)
  have ok40 := hA.ok
  have n1 := (sq_cN_iff.1 hN).1
  obtain ⟨a0, a1, a2, a3, a4, a5, a6, a7⟩ := hA
  rw [eX11_ruins]
  simp (disch := (first | assumption | omega | exact nb_ix (by omega) (by assumption) (by omega) (by omega) | exact nb_ix (by omega) rfl (by omega) (by omega) | exact nb_ok (by omega) rfl | decide)) only [kX11_ruins, nb_add, nb_sub, nb_mul, Int.toNat_natCast, mm_kr_s, mm_kv_s, if_pos, if_neg, sq_tn, Int.toNat_zero, Int.reduceToNat, Int.reduceNeg, Nat.reduceAdd, Int.reduceAdd, Int.reduceEq, Int.reduceLT, Int.reduceLE, Int.zero_add, nb_ui_s, nb_ui_k, nb_ui_a, sp_min, sp_max, sp_bits]
  refine Eq.trans (nb_loop (fun k => mm_E (d + 1) 141 4 [.inr (.inr (some 0)), .inl ((sp_mask (fun p => decide (N p = 0)) k : Nat)), .inl ((k : Nat))] [] [] n I L P) s (fun k hk => ?_)) ?_
  · have h1 := n1 k (by omega)
    have hob := sp_orbit (sp_mask_lt (fun p => decide (N p = 0)) k) (by omega)
    have e4 : sp_mask (fun p => decide (N p = 0)) (k + 1) = sp_mask (fun p => decide (N p = 0)) k + (if decide (N k = 0) = true then 2 ^ k else 0) := rfl
    show mm_E _ _ _ _ _ _ _ _ _ _ = mm_E _ _ _ _ _ _ _ _ _ _
    rw [hX11_ruins_4, e4]
    by_cases c1 : N k = 0
    · simp (disch := (first | assumption | omega | exact nb_ix (by omega) (by assumption) (by omega) (by omega) | exact nb_ix (by omega) rfl (by omega) (by omega) | exact nb_ok (by omega) rfl | decide)) only [kX11_ruins, hPt, hC, hs, a5, h1, hob, decide_eq_true c1, nb_add, nb_sub, nb_mul, Int.toNat_natCast, mm_kr_s, mm_kv_s, if_pos, if_neg, sq_tn, Int.toNat_zero, Int.reduceToNat, Int.reduceNeg, Nat.reduceAdd, Int.reduceAdd, Int.reduceEq, Int.reduceLT, Int.reduceLE, Int.zero_add, nb_ui_s, nb_ui_k, nb_ui_a, sp_min, sp_max, sp_bits]
      rfl
    · simp (disch := (first | assumption | omega | exact nb_ix (by omega) (by assumption) (by omega) (by omega) | exact nb_ix (by omega) rfl (by omega) (by omega) | exact nb_ok (by omega) rfl | decide)) only [kX11_ruins, hPt, hC, hs, a5, h1, decide_eq_false c1, nb_add, nb_sub, nb_mul, Int.toNat_natCast, mm_kr_s, mm_kv_s, if_pos, if_neg, sq_tn, Int.toNat_zero, Int.reduceToNat, Int.reduceNeg, Nat.reduceAdd, Int.reduceAdd, Int.reduceEq, Int.reduceLT, Int.reduceLE, Int.zero_add, nb_ui_s, nb_ui_k, nb_ui_a, sp_min, sp_max, sp_bits]
      rfl
  · rw [hX11_ruins_4]
    simp (disch := (first | assumption | omega | exact nb_ix (by omega) (by assumption) (by omega) (by omega) | exact nb_ix (by omega) rfl (by omega) (by omega) | exact nb_ok (by omega) rfl | decide)) only [kX11_ruins, hPt, hs, nb_add, nb_sub, nb_mul, Int.toNat_natCast, mm_kr_s, mm_kv_s, if_pos, if_neg, sq_tn, Int.toNat_zero, Int.reduceToNat, Int.reduceNeg, Nat.reduceAdd, Int.reduceAdd, Int.reduceEq, Int.reduceLT, Int.reduceLE, Int.zero_add, nb_ui_s, nb_ui_k, nb_ui_a, sp_min, sp_max, sp_bits]
    rfl
theorem sq_cparts (hTP : sp_T n P t) (hT : sq_CT I t s D B g v) (hsym : ∀ p q, p < s → q < s → D (8 * p + q) = D (8 * q + p)) : mm_rn (d + 3) 70 [.inr (.inr (some t))] n I L P = some (some (.inl (sm_pt D s)), n, I, L, P) := by
  have okt := hTP.ok
  have hs : I t 0 = (s : Int) := hT.2.2.1
  have hs8 : s ≤ 8 := hT.2.1
  rw [eX9_parts]
  simp (disch := (first | assumption | omega | exact nb_ix (by omega) (by assumption) (by omega) (by omega) | exact nb_ix (by omega) rfl (by omega) (by omega) | exact nb_ok (by omega) rfl | decide)) only [kX9_parts, nb_add, nb_sub, nb_mul, Int.toNat_natCast, mm_kr_s, mm_kv_s, if_pos, if_neg, sq_tn, Int.toNat_zero, Int.reduceToNat, Int.reduceNeg, Nat.reduceAdd, Int.reduceAdd, Int.reduceEq, Int.reduceLT, Int.reduceLE, Int.zero_add, nb_ui_s, nb_ui_k, nb_ui_a, sp_min, sp_max, sp_bits]
  have hcr : ∀ k, k ≤ s → 0 ≤ sp_sum (fun p => if sm_fst D p = true then (1 : Int) else 0) k ∧ sp_sum (fun p => if sm_fst D p = true then (1 : Int) else 0) k ≤ k * 1 := fun k _ => sp_sum_rg (by omega) k (fun j _ => by split <;> omega)
  refine sq_loop2 (G := fun x => x = some (some (.inl (sm_pt D s)), n, I, L, P)) (fun k (x3 x4 : mm_V) => mm_E (d + 2) 70 4 [.inr (.inr (some t)), .inl (sp_sum (fun p => if sm_fst D p = true then (1 : Int) else 0) k), .inl ((k : Nat)), x3, x4] [] [] n I L P) (fun _ _ _ => True) s (s0 := mm_junk) (t0 := mm_junk) trivial ?_ ?_
  · intro k x3 x4 hk _ ih
    show mm_E _ _ _ _ _ _ _ _ _ _ = _
    rw [hX9_parts_4]
    simp (disch := (first | assumption | omega | exact nb_ix (by omega) (by assumption) (by omega) (by omega) | exact nb_ix (by omega) rfl (by omega) (by omega) | exact nb_ok (by omega) rfl | decide)) only [kX9_parts, hs, nb_add, nb_sub, nb_mul, Int.toNat_natCast, mm_kr_s, mm_kv_s, if_pos, if_neg, sq_tn, Int.toNat_zero, Int.reduceToNat, Int.reduceNeg, Nat.reduceAdd, Int.reduceAdd, Int.reduceEq, Int.reduceLT, Int.reduceLE, Int.zero_add, nb_ui_s, nb_ui_k, nb_ui_a, sp_min, sp_max, sp_bits]
    refine Eq.trans (nb_loop (fun o => mm_E (d + 2) 70 17 [.inr (.inr (some t)), .inl (sp_sum (fun p => if sm_fst D p = true then (1 : Int) else 0) k), .inl ((k : Nat)), .inl (if sw_all (fun o => decide (99 ≤ D (8 * k + o))) o = true then 1 else 0), .inl ((o : Nat))] [] [] n I L P) k (fun o ho => ?_)) ?_
    · have wa := sp_way (d := d) (I := I) (L := L) hTP hs hs8 (show o < s by omega) hk
      rw [hT.2.2.2.1 o k (by omega) hk, hsym o k (by omega) hk] at wa
      have e5 : sw_all (fun o => decide (99 ≤ D (8 * k + o))) (o + 1) = (sw_all (fun o => decide (99 ≤ D (8 * k + o))) o && decide (99 ≤ D (8 * k + o))) := rfl
      show mm_E _ _ _ _ _ _ _ _ _ _ = mm_E _ _ _ _ _ _ _ _ _ _
      rw [hX9_parts_17, e5]
      by_cases h9 : 99 ≤ D (8 * k + o)
      · rw [decide_eq_true h9, Bool.and_true]
        simp (disch := (first | assumption | omega | exact nb_ix (by omega) (by assumption) (by omega) (by omega) | exact nb_ix (by omega) rfl (by omega) (by omega) | exact nb_ok (by omega) rfl | decide)) only [kX9_parts, wa, nb_add, nb_sub, nb_mul, Int.toNat_natCast, mm_kr_s, mm_kv_s, if_pos, if_neg, sq_tn, Int.toNat_zero, Int.reduceToNat, Int.reduceNeg, Nat.reduceAdd, Int.reduceAdd, Int.reduceEq, Int.reduceLT, Int.reduceLE, Int.zero_add, nb_ui_s, nb_ui_k, nb_ui_a, sp_min, sp_max, sp_bits]
        rfl
      · rw [decide_eq_false h9, Bool.and_false, if_neg (show ¬ false = true by decide)]
        simp (disch := (first | assumption | omega | exact nb_ix (by omega) (by assumption) (by omega) (by omega) | exact nb_ix (by omega) rfl (by omega) (by omega) | exact nb_ok (by omega) rfl | decide)) only [kX9_parts, wa, nb_add, nb_sub, nb_mul, Int.toNat_natCast, mm_kr_s, mm_kv_s, if_pos, if_neg, sq_tn, Int.toNat_zero, Int.reduceToNat, Int.reduceNeg, Nat.reduceAdd, Int.reduceAdd, Int.reduceEq, Int.reduceLT, Int.reduceLE, Int.zero_add, nb_ui_s, nb_ui_k, nb_ui_a, sp_min, sp_max, sp_bits]
        rfl
    · have hf : sw_all (fun o => decide (99 ≤ D (8 * k + o))) k = sm_fst D k := rfl
      have hr := hcr k (by omega)
      have e6 : sp_sum (fun p => if sm_fst D p = true then (1 : Int) else 0) (k + 1) = sp_sum (fun p => if sm_fst D p = true then (1 : Int) else 0) k + (if sm_fst D k = true then 1 else 0) := rfl
      rw [hX9_parts_17, hf]
      rw [e6] at ih
      by_cases hf2 : sm_fst D k = true
      · rw [if_pos hf2] at ih ⊢
        simp (disch := (first | assumption | omega | exact nb_ix (by omega) (by assumption) (by omega) (by omega) | exact nb_ix (by omega) rfl (by omega) (by omega) | exact nb_ok (by omega) rfl | decide)) only [kX9_parts, nb_add, nb_sub, nb_mul, Int.toNat_natCast, mm_kr_s, mm_kv_s, if_pos, if_neg, sq_tn, Int.toNat_zero, Int.reduceToNat, Int.reduceNeg, Nat.reduceAdd, Int.reduceAdd, Int.reduceEq, Int.reduceLT, Int.reduceLE, Int.zero_add, nb_ui_s, nb_ui_k, nb_ui_a, sp_min, sp_max, sp_bits]
        exact ih _ _ trivial
      · rw [if_neg hf2] at ih ⊢
        rw [Int.add_zero] at ih
        simp (disch := (first | assumption | omega | exact nb_ix (by omega) (by assumption) (by omega) (by omega) | exact nb_ix (by omega) rfl (by omega) (by omega) | exact nb_ok (by omega) rfl | decide)) only [kX9_parts, nb_add, nb_sub, nb_mul, Int.toNat_natCast, mm_kr_s, mm_kv_s, if_pos, if_neg, sq_tn, Int.toNat_zero, Int.reduceToNat, Int.reduceNeg, Nat.reduceAdd, Int.reduceAdd, Int.reduceEq, Int.reduceLT, Int.reduceLE, Int.zero_add, nb_ui_s, nb_ui_k, nb_ui_a, sp_min, sp_max, sp_bits]
        exact ih _ _ trivial
  · intro x3 x4 _
    show mm_E _ _ _ _ _ _ _ _ _ _ = _
    rw [hX9_parts_4]
    simp (disch := (first | assumption | omega | exact nb_ix (by omega) (by assumption) (by omega) (by omega) | exact nb_ix (by omega) rfl (by omega) (by omega) | exact nb_ok (by omega) rfl | decide)) only [kX9_parts, hs, nb_add, nb_sub, nb_mul, Int.toNat_natCast, mm_kr_s, mm_kv_s, if_pos, if_neg, sq_tn, Int.toNat_zero, Int.reduceToNat, Int.reduceNeg, Nat.reduceAdd, Int.reduceAdd, Int.reduceEq, Int.reduceLT, Int.reduceLE, Int.zero_add, nb_ui_s, nb_ui_k, nb_ui_a, sp_min, sp_max, sp_bits]
    rfl
set_option maxHeartbeats 1000000 in
theorem oc_most (hC : sq_CC n c P I t u s D B g v lw ev N) (hKr : ∀ p, p < s → I (t + 2) p = K p) (hsym : ∀ p q, p < s → q < s → D (8 * p + q) = D (8 * q + p)) (w : Int) : mm_rn (d + 10) 138 [.inr (.inr (some 0)), .inl w] n I L P = some (some (.inl (sa_most D K N B v s w)), n, I, L, P) := by
  have hCC := hC
  obtain ⟨hP, hW, hLW, hN, hok, hh⟩ := hC
  have ok0 := sq_ok0 hP
  have hs : I t 0 = (s : Int) := hW.2.1.2.2.1
  have hs8 : s ≤ 8 := hW.2.1.2.1
  have okt := hW.1.ok
  have hC := hP.2.2.2.2.2.2.2.1
  have hPt := hP.2.2.2.2.2.2.1
  have hn := hP.1
  have hA := hP.2.2.2.2.2.1 40 (by omega)
  have ok40 := hA.ok
  rw [eX11_most]
  by_cases h0 : s = 0
  · have : sa_most D K N B v s w = -1 := if_neg (by omega)
    rw [this]
    simp (disch := (first | assumption | omega | exact nb_ix (by omega) (by assumption) (by omega) (by omega) | exact nb_ix (by omega) rfl (by omega) (by omega) | exact nb_ok (by omega) rfl | decide)) only [kX11_most, sq_noTown hP hs, ↓if_pos, ↓if_neg, nb_add, nb_sub, nb_mul, Int.toNat_natCast, mm_kr_s, mm_kv_s, if_pos, if_neg, sq_tn, Int.toNat_zero, Int.reduceToNat, Int.reduceNeg, Nat.reduceAdd, Int.reduceAdd, Int.reduceEq, Int.reduceLT, Int.reduceLE, Int.zero_add, nb_ui_s, nb_ui_k, nb_ui_a, sp_min, sp_max, sp_bits]
  by_cases hw : ¬ (0 ≤ w ∧ w ≤ 12)
  · have : sa_most D K N B v s w = -1 := if_neg (fun z => hw z.2)
    rw [this]
    simp (disch := (first | assumption | omega | exact nb_ix (by omega) (by assumption) (by omega) (by omega) | exact nb_ix (by omega) rfl (by omega) (by omega) | exact nb_ok (by omega) rfl | decide)) only [kX11_most, sq_noTown hP hs, ↓if_pos, ↓if_neg, nb_add, nb_sub, nb_mul, Int.toNat_natCast, mm_kr_s, mm_kv_s, if_pos, if_neg, sq_tn, Int.toNat_zero, Int.reduceToNat, Int.reduceNeg, Nat.reduceAdd, Int.reduceAdd, Int.reduceEq, Int.reduceLT, Int.reduceLE, Int.zero_add, nb_ui_s, nb_ui_k, nb_ui_a, sp_min, sp_max, sp_bits]
  have hw2 : 0 ≤ w ∧ w ≤ 12 := Decidable.not_not.1 hw
  clear hw
  unfold sa_most
  rw [if_pos ⟨by omega, hw2⟩]
  have htop := fun w => sq_ctop (d := d + 5) (L := L) (w := w) hCC hKr (by omega)
  have etr := sq_ctroub (d := d + 8) (L := L) hA hs8 hN hok
  have hof := fun w => sq_cof (d := d + 7) (L := L) (w := w) hCC
  have hru := sq_cruins (d := d + 7) (L := L) hCC
  have hal := sq_call8 (d := d + 8) (L := L) hCC
  have hpt := sq_cparts (d := d + 6) (L := L) hW.1 hW.2.1 hsym
  obtain ⟨q, hq⟩ : ∃ q : Nat, N 24 = (q : Int) := ⟨(N 24).toNat, by have := hok.2.1; omega⟩
  have hqs : q < s := by have := hok.2.1; omega
  have hqn : (N 24).toNat = q := by omega
  have e3 : I 40 3 = (q : Int) := by rw [← hq]; exact (sq_cN_iff.1 hN).2.2.2.1
  have hV : I (t + 4) q = (sw_V D v s q : Nat) := hW.2.1.2.2.2.2.2.2.1 q hqs
  have hvo := sp_viewOf (d := d + 7) (I := I) (L := L) hW.1 hs hs8 hqs
  obtain ⟨t0, t1, t2, t3, t4, t5, t6, t7, t8, t9, t10, t11⟩ := hW.1
  rw [hqn]
  have hcs : w = 0 ∨ w = 1 ∨ w = 2 ∨ w = 3 ∨ w = 4 ∨ w = 5 ∨ w = 6 ∨ w = 7 ∨ w = 8 ∨ w = 9 ∨ w = 10 ∨ w = 11 ∨ w = 12 := by omega
  rcases hcs with e | e | e | e | e | e | e | e | e | e | e | e | e
  · subst e; simp (disch := (first | assumption | omega | exact nb_ix (by omega) (by assumption) (by omega) (by omega) | exact nb_ix (by omega) rfl (by omega) (by omega) | exact nb_ok (by omega) rfl | decide)) only [kX11_most, sq_noTown hP hs, htop, ↓if_pos, ↓if_neg, nb_add, nb_sub, nb_mul, Int.toNat_natCast, mm_kr_s, mm_kv_s, if_pos, if_neg, sq_tn, Int.toNat_zero, Int.reduceToNat, Int.reduceNeg, Nat.reduceAdd, Int.reduceAdd, Int.reduceEq, Int.reduceLT, Int.reduceLE, Int.zero_add, nb_ui_s, nb_ui_k, nb_ui_a, sp_min, sp_max, sp_bits]
  · subst e; simp (disch := (first | assumption | omega | exact nb_ix (by omega) (by assumption) (by omega) (by omega) | exact nb_ix (by omega) rfl (by omega) (by omega) | exact nb_ok (by omega) rfl | decide)) only [kX11_most, sq_noTown hP hs, htop, ↓if_pos, ↓if_neg, nb_add, nb_sub, nb_mul, Int.toNat_natCast, mm_kr_s, mm_kv_s, if_pos, if_neg, sq_tn, Int.toNat_zero, Int.reduceToNat, Int.reduceNeg, Nat.reduceAdd, Int.reduceAdd, Int.reduceEq, Int.reduceLT, Int.reduceLE, Int.zero_add, nb_ui_s, nb_ui_k, nb_ui_a, sp_min, sp_max, sp_bits]
  · subst e; simp (disch := (first | assumption | omega | exact nb_ix (by omega) (by assumption) (by omega) (by omega) | exact nb_ix (by omega) rfl (by omega) (by omega) | exact nb_ok (by omega) rfl | decide)) only [kX11_most, sq_noTown hP hs, htop, ↓if_pos, ↓if_neg, nb_add, nb_sub, nb_mul, Int.toNat_natCast, mm_kr_s, mm_kv_s, if_pos, if_neg, sq_tn, Int.toNat_zero, Int.reduceToNat, Int.reduceNeg, Nat.reduceAdd, Int.reduceAdd, Int.reduceEq, Int.reduceLT, Int.reduceLE, Int.zero_add, nb_ui_s, nb_ui_k, nb_ui_a, sp_min, sp_max, sp_bits]
  · subst e; simp (disch := (first | assumption | omega | exact nb_ix (by omega) (by assumption) (by omega) (by omega) | exact nb_ix (by omega) rfl (by omega) (by omega) | exact nb_ok (by omega) rfl | decide)) only [kX11_most, sq_noTown hP hs, htop, ↓if_pos, ↓if_neg, nb_add, nb_sub, nb_mul, Int.toNat_natCast, mm_kr_s, mm_kv_s, if_pos, if_neg, sq_tn, Int.toNat_zero, Int.reduceToNat, Int.reduceNeg, Nat.reduceAdd, Int.reduceAdd, Int.reduceEq, Int.reduceLT, Int.reduceLE, Int.zero_add, nb_ui_s, nb_ui_k, nb_ui_a, sp_min, sp_max, sp_bits]
  · subst e; simp (disch := (first | assumption | omega | exact nb_ix (by omega) (by assumption) (by omega) (by omega) | exact nb_ix (by omega) rfl (by omega) (by omega) | exact nb_ok (by omega) rfl | decide)) only [kX11_most, sq_noTown hP hs, hC, etr, ↓if_pos, ↓if_neg, nb_add, nb_sub, nb_mul, Int.toNat_natCast, mm_kr_s, mm_kv_s, if_pos, if_neg, sq_tn, Int.toNat_zero, Int.reduceToNat, Int.reduceNeg, Nat.reduceAdd, Int.reduceAdd, Int.reduceEq, Int.reduceLT, Int.reduceLE, Int.zero_add, nb_ui_s, nb_ui_k, nb_ui_a, sp_min, sp_max, sp_bits]
  · subst e; simp (disch := (first | assumption | omega | exact nb_ix (by omega) (by assumption) (by omega) (by omega) | exact nb_ix (by omega) rfl (by omega) (by omega) | exact nb_ok (by omega) rfl | decide)) only [kX11_most, sq_noTown hP hs, hC, hPt, e3, hvo, hV, ↓if_pos, ↓if_neg, nb_add, nb_sub, nb_mul, Int.toNat_natCast, mm_kr_s, mm_kv_s, if_pos, if_neg, sq_tn, Int.toNat_zero, Int.reduceToNat, Int.reduceNeg, Nat.reduceAdd, Int.reduceAdd, Int.reduceEq, Int.reduceLT, Int.reduceLE, Int.zero_add, nb_ui_s, nb_ui_k, nb_ui_a, sp_min, sp_max, sp_bits]
  · subst e; simp (disch := (first | assumption | omega | exact nb_ix (by omega) (by assumption) (by omega) (by omega) | exact nb_ix (by omega) rfl (by omega) (by omega) | exact nb_ok (by omega) rfl | decide)) only [kX11_most, sq_noTown hP hs, hC, hof, Int.reduceSub, ↓if_pos, ↓if_neg, nb_add, nb_sub, nb_mul, Int.toNat_natCast, mm_kr_s, mm_kv_s, if_pos, if_neg, sq_tn, Int.toNat_zero, Int.reduceToNat, Int.reduceNeg, Nat.reduceAdd, Int.reduceAdd, Int.reduceEq, Int.reduceLT, Int.reduceLE, Int.zero_add, nb_ui_s, nb_ui_k, nb_ui_a, sp_min, sp_max, sp_bits]
  · subst e; simp (disch := (first | assumption | omega | exact nb_ix (by omega) (by assumption) (by omega) (by omega) | exact nb_ix (by omega) rfl (by omega) (by omega) | exact nb_ok (by omega) rfl | decide)) only [kX11_most, sq_noTown hP hs, hC, hof, Int.reduceSub, ↓if_pos, ↓if_neg, nb_add, nb_sub, nb_mul, Int.toNat_natCast, mm_kr_s, mm_kv_s, if_pos, if_neg, sq_tn, Int.toNat_zero, Int.reduceToNat, Int.reduceNeg, Nat.reduceAdd, Int.reduceAdd, Int.reduceEq, Int.reduceLT, Int.reduceLE, Int.zero_add, nb_ui_s, nb_ui_k, nb_ui_a, sp_min, sp_max, sp_bits]
  · subst e; simp (disch := (first | assumption | omega | exact nb_ix (by omega) (by assumption) (by omega) (by omega) | exact nb_ix (by omega) rfl (by omega) (by omega) | exact nb_ok (by omega) rfl | decide)) only [kX11_most, sq_noTown hP hs, hC, hof, Int.reduceSub, ↓if_pos, ↓if_neg, nb_add, nb_sub, nb_mul, Int.toNat_natCast, mm_kr_s, mm_kv_s, if_pos, if_neg, sq_tn, Int.toNat_zero, Int.reduceToNat, Int.reduceNeg, Nat.reduceAdd, Int.reduceAdd, Int.reduceEq, Int.reduceLT, Int.reduceLE, Int.zero_add, nb_ui_s, nb_ui_k, nb_ui_a, sp_min, sp_max, sp_bits]
  · subst e; simp (disch := (first | assumption | omega | exact nb_ix (by omega) (by assumption) (by omega) (by omega) | exact nb_ix (by omega) rfl (by omega) (by omega) | exact nb_ok (by omega) rfl | decide)) only [kX11_most, sq_noTown hP hs, hru, ↓if_pos, ↓if_neg, nb_add, nb_sub, nb_mul, Int.toNat_natCast, mm_kr_s, mm_kv_s, if_pos, if_neg, sq_tn, Int.toNat_zero, Int.reduceToNat, Int.reduceNeg, Nat.reduceAdd, Int.reduceAdd, Int.reduceEq, Int.reduceLT, Int.reduceLE, Int.zero_add, nb_ui_s, nb_ui_k, nb_ui_a, sp_min, sp_max, sp_bits]
  · subst e
    by_cases ha : sv_am N s = 0
    · rw [ha] at etr
      have etr2 : mm_rn (d + 8 + 1) 42 [.inr (.inr (some 40))] n I L P = some (some (.inl 0), n, I, L, P) := etr
      simp (disch := (first | assumption | omega | exact nb_ix (by omega) (by assumption) (by omega) (by omega) | exact nb_ix (by omega) rfl (by omega) (by omega) | exact nb_ok (by omega) rfl | decide)) only [kX11_most, sq_noTown hP hs, hC, etr2, ↓if_pos, ↓if_neg, nb_add, nb_sub, nb_mul, Int.toNat_natCast, mm_kr_s, mm_kv_s, if_pos, if_neg, sq_tn, Int.toNat_zero, Int.reduceToNat, Int.reduceNeg, Nat.reduceAdd, Int.reduceAdd, Int.reduceEq, Int.reduceLT, Int.reduceLE, Int.zero_add, nb_ui_s, nb_ui_k, nb_ui_a, sp_min, sp_max, sp_bits]
    · have ha2 : ¬ (sv_am N s : Int) = 0 := by omega
      simp (disch := (first | assumption | omega | exact nb_ix (by omega) (by assumption) (by omega) (by omega) | exact nb_ix (by omega) rfl (by omega) (by omega) | exact nb_ok (by omega) rfl | decide)) only [kX11_most, sq_noTown hP hs, hC, etr, htop, ↓if_pos, ↓if_neg, nb_add, nb_sub, nb_mul, Int.toNat_natCast, mm_kr_s, mm_kv_s, if_pos, if_neg, sq_tn, Int.toNat_zero, Int.reduceToNat, Int.reduceNeg, Nat.reduceAdd, Int.reduceAdd, Int.reduceEq, Int.reduceLT, Int.reduceLE, Int.zero_add, nb_ui_s, nb_ui_k, nb_ui_a, sp_min, sp_max, sp_bits]
  · subst e; simp (disch := (first | assumption | omega | exact nb_ix (by omega) (by assumption) (by omega) (by omega) | exact nb_ix (by omega) rfl (by omega) (by omega) | exact nb_ok (by omega) rfl | decide)) only [kX11_most, sq_noTown hP hs, hC, hal, ↓if_pos, ↓if_neg, nb_add, nb_sub, nb_mul, Int.toNat_natCast, mm_kr_s, mm_kv_s, if_pos, if_neg, sq_tn, Int.toNat_zero, Int.reduceToNat, Int.reduceNeg, Nat.reduceAdd, Int.reduceAdd, Int.reduceEq, Int.reduceLT, Int.reduceLE, Int.zero_add, nb_ui_s, nb_ui_k, nb_ui_a, sp_min, sp_max, sp_bits]
  · subst e; simp (disch := (first | assumption | omega | exact nb_ix (by omega) (by assumption) (by omega) (by omega) | exact nb_ix (by omega) rfl (by omega) (by omega) | exact nb_ok (by omega) rfl | decide)) only [kX11_most, sq_noTown hP hs, hPt, hpt, ↓if_pos, ↓if_neg, nb_add, nb_sub, nb_mul, Int.toNat_natCast, mm_kr_s, mm_kv_s, if_pos, if_neg, sq_tn, Int.toNat_zero, Int.reduceToNat, Int.reduceNeg, Nat.reduceAdd, Int.reduceAdd, Int.reduceEq, Int.reduceLT, Int.reduceLE, Int.zero_add, nb_ui_s, nb_ui_k, nb_ui_a, sp_min, sp_max, sp_bits]
end MO
