/-! hours on hours; worlds of both halves -/
def sw_it (f : (Nat → Int) → Nat → Int) : Nat → (Nat → Int) → Nat → Int
  | 0, N => N
  | k + 1, N => f (sw_it f k N)
def sw_sm (f : (Nat → Int) → Nat → Int) (s k : Nat) (N : Nat → Int) : Int := sp_sum (fun i => sv_lost (sw_it f i N) s) k
def sw_m (D : Nat → Int) (v : Int) (s : Nat) (N : Nat → Int) : Nat := sv_am N s &&& sp_mask (fun o => decide (D (8 * (N 24).toNat + o) ≤ v)) s
def sw_hush (D : Nat → Int) (v : Int) (s : Nat) (N : Nat → Int) : Nat → Int := fun j => if 16 ≤ j ∧ j < 24 ∧ Nat.testBit (sw_m D v s N) (j - 16) = true then 0 else N j
def sw_bst (A : Nat → Int) : Nat → Nat × Int
  | 0 => (0, A 0)
  | k + 1 => if A (k + 1) < (sw_bst A k).2 then (k + 1, A (k + 1)) else sw_bst A k
def sw_first (Q : Nat → Bool) : Nat → Nat → Int
  | 0, _ => -1
  | k + 1, i => if Q i = true then (i : Int) else sw_first Q k (i + 1)
theorem sw_live_29 {ev : sv_E} {D : Nat → Int} {B : Nat → Nat} {g : Int} {s : Nat} {N : Nat → Int} : sw_live ev D B g s N 29 = N 29 + 1 := by
  unfold sw_live
  rfl
theorem sw_live_hi {ev : sv_E} {D : Nat → Int} {B : Nat → Nat} {g : Int} {s : Nat} {N : Nat → Int} (hs : s ≤ 8) {j : Nat} (hj : 30 ≤ j) : sw_live ev D B g s N j = N j := by
  unfold sw_live sw_spr sw_grow
  rw [if_neg (by omega), if_neg (by omega), if_neg (by omega), if_neg (by omega), if_neg (by omega), if_neg (by omega), sw_take_ge (by omega)]
theorem sw_it_ok {ev : sv_E} {D : Nat → Int} {B : Nat → Nat} {g : Int} {s : Nat} {N : Nat → Int} (h : sv_ok s N) (hs : s ≤ 8) (hg : 0 ≤ g ∧ g ≤ 5) : ∀ k, sv_ok s (sw_it (sw_live ev D B g s) k N)
  | 0 => h
  | k + 1 => sw_live_ok (sw_it_ok h hs hg k) hs hg
theorem sw_it_29 {ev : sv_E} {D : Nat → Int} {B : Nat → Nat} {g : Int} {s : Nat} {N : Nat → Int} : ∀ k, sw_it (sw_live ev D B g s) k N 29 = N 29 + k
  | 0 => by simp [sw_it]
  | k + 1 => by
    show sw_live ev D B g s (sw_it (sw_live ev D B g s) k N) 29 = _
    rw [sw_live_29, sw_it_29 k]
    omega
theorem sw_it_hi {ev : sv_E} {D : Nat → Int} {B : Nat → Nat} {g : Int} {s : Nat} {N : Nat → Int} (hs : s ≤ 8) {j : Nat} (hj : 30 ≤ j) : ∀ k, sw_it (sw_live ev D B g s) k N j = N j
  | 0 => rfl
  | k + 1 => by
    show sw_live ev D B g s (sw_it (sw_live ev D B g s) k N) j = _
    rw [sw_live_hi hs hj, sw_it_hi hs hj k]
theorem sw_sm_rg {ev : sv_E} {D : Nat → Int} {B : Nat → Nat} {g : Int} {s : Nat} {N : Nat → Int} (h : sv_ok s N) (hs : s ≤ 8) (hg : 0 ≤ g ∧ g ≤ 5) (k : Nat) : 0 ≤ sw_sm (sw_live ev D B g s) s k N ∧ sw_sm (sw_live ev D B g s) s k N ≤ k * 72 :=
  sp_sum_rg (by omega) k (fun j _ => sv_lost_rg (sw_it_ok h hs hg j) hs)
theorem sw_hush_ok {D : Nat → Int} {v : Int} {s : Nat} {N : Nat → Int} (h : sv_ok s N) : sv_ok s (sw_hush D v s N) := by
  obtain ⟨h1, h2⟩ := h
  refine ⟨fun p hp => ?_, ?_⟩
  · obtain ⟨q1, q2, q3, q4⟩ := h1 p hp
    unfold sw_hush
    grind
  · unfold sw_hush
    grind
theorem sw_hush_hi {D : Nat → Int} {v : Int} {s : Nat} {N : Nat → Int} {j : Nat} (h : 24 ≤ j) : sw_hush D v s N j = N j := by
  unfold sw_hush
  rw [if_neg (by omega)]
theorem sw_m_lt {D : Nat → Int} {v : Int} {s : Nat} {N : Nat → Int} (hs : s ≤ 8) : sw_m D v s N < 256 := Nat.lt_of_le_of_lt Nat.and_le_left (sv_am_lt hs)
theorem sw_m_bit {D : Nat → Int} {v : Int} {s : Nat} {N : Nat → Int} {i : Nat} (h : Nat.testBit (sw_m D v s N) i = true) : i < s := by
  unfold sw_m sv_am at h
  rw [Nat.testBit_and, sp_mask_bit] at h
  simp at h
  exact h.1.1
def sq_CW (n c : Nat) (P : mm_P) (I : mm_I) (t s : Nat) (D : Nat → Int) (B : Nat → Nat) (g v : Int) (lw : Option Nat) (ev : sv_E) : Prop := sp_T n P t ∧ sq_CT I t s D B g v ∧ sq_CH n c P I lw ev ∧ 0 ≤ g ∧ g ≤ 5
theorem sq_CW_keep {n c t s : Nat} {P : mm_P} {I I' : mm_I} {D : Nat → Int} {B : Nat → Nat} {g v : Int} {lw : Option Nat} {ev : sv_E} {l : List Nat} (h : sq_CW n c P I t s D B g v lw ev) (hf : sq_cf l I I') (hl : ∀ b, b ∈ l → 36 ≤ b) : sq_CW n c P I' t s D B g v lw ev :=
  ⟨h.1, sq_CT_keep h.2.1 hf hl, sq_CH_keep h.2.2.1 hf hl, h.2.2.2⟩
theorem sq_CW_keepf {n c t s : Nat} {P : mm_P} {I I' : mm_I} {D : Nat → Int} {B : Nat → Nat} {g v : Int} {lw : Option Nat} {ev : sv_E} {l : List Nat} (h : sq_CW n c P I t s D B g v lw ev) (hf : sq_fr l I I') (hl : ∀ b, b ∈ l → 36 ≤ b) : sq_CW n c P I' t s D B g v lw ev := by
  refine sq_CW_keep (l := l) h ⟨fun b hb _ => hf b hb, fun b hb => ?_⟩ hl
  rw [hf b (fun q => by have := hl b q; simp at hb; omega)]
theorem sq_cf_of {l : List Nat} {I I' : mm_I} (hf : sq_fr l I I') (hl : ∀ b, b ∈ l → 36 ≤ b) : sq_cf l I I' := by
  refine ⟨fun b hb _ => hf b hb, fun b hb => ?_⟩
  rw [hf b (fun q => by have := hl b q; simp at hb; omega)]
def sq_MW (n c : Nat) (P : mm_P) (I : mm_I) (s : Nat) (D : Nat → Int) (B : Nat → Nat) (g v : Int) (ev : sv_E) : Prop := sp_M n P ∧ sq_MT I s D B g v ∧ sq_MH n c P I ev ∧ 0 ≤ g ∧ g ≤ 5
theorem sq_MW_keep {n c s : Nat} {P : mm_P} {I I' : mm_I} {D : Nat → Int} {B : Nat → Nat} {g v : Int} {ev : sv_E} (h : sq_MW n c P I s D B g v ev) (h1 : I' 239 26 = I 239 26) (h2 : I' 239 29 = I 239 29) (h3 : ∀ b, b ∈ [241, 242, 243, 244, 245, 246, 247, 253, 255, 256] → I' b = I b) : sq_MW n c P I' s D B g v ev := by
  obtain ⟨a1, a2, a3, a4⟩ := h
  refine ⟨a1, ?_, ?_, a4⟩
  · unfold sq_MT at a2 ⊢
    rw [h1, h3 253 (by decide), h3 255 (by decide), h3 256 (by decide)]
    exact a2
  · unfold sq_MH at a3 ⊢
    rw [h2]
    cases ev with
    | none => exact a3
    | some e =>
      refine ⟨a3.1, fun d I0 L hd e1 => a3.2 d I0 L hd (fun b q1 q2 => ?_)⟩
      rw [e1 b q1 q2]
      refine h3 b ?_
      have : b = 241 ∨ b = 242 ∨ b = 243 ∨ b = 244 ∨ b = 245 ∨ b = 246 ∨ b = 247 := by omega
      rcases this with e | e | e | e | e | e | e <;> subst e <;> decide
theorem sq_MW_keepf {n c s : Nat} {P : mm_P} {I I' : mm_I} {D : Nat → Int} {B : Nat → Nat} {g v : Int} {ev : sv_E} {l : List Nat} (h : sq_MW n c P I s D B g v ev) (hf : sq_fr l I I') (hl : ∀ b, b ∈ l → (b = 248 ∨ b = 249 ∨ b = 257 ∨ b = 259 ∨ b = 261 ∨ b = 266 ∨ b = 267 ∨ b = 260 ∨ b = 258)) : sq_MW n c P I' s D B g v ev := by
  have h2 : ∀ b, b ∈ [239, 241, 242, 243, 244, 245, 246, 247, 253, 255, 256] → I' b = I b := by
    intro b hb
    refine hf b (fun q => ?_)
    have := hl b q
    simp at hb
    omega
  exact sq_MW_keep h (by rw [h2 239 (by decide)]) (by rw [h2 239 (by decide)]) (fun b hb => h2 b (List.mem_cons_of_mem _ hb))
/-! the class: a copy, a cry, hours -/
theorem sq_ccopy {n a b d : Nat} {I L : mm_I} {P : mm_P} {N : Nat → Int} (hA : sp_N n P a) (hB : sp_N n P b) (hab : a + 3 < b ∨ b + 3 < a) (hN : sq_cN I b N) : sq_X none n L P (fun I' => sq_cN I' a N ∧ sq_fr [a, a + 1, a + 2, a + 3] I I') (mm_rn (d + 1) 41 [.inr (.inr (some a)), .inr (.inr (some b))] n I L P) := by
  refine ⟨_, sp_copy hA hB hab, fun j hj => ?_, fun c hc => ?_⟩
  · rw [← hN j hj]
    unfold sq_rd sp_cp
    grind
  · simp at hc
    funext j
    unfold sp_cp
    rw [if_neg (by omega), if_neg (by omega), if_neg (by omega), if_neg (by omega)]
theorem sq_ctroub {n a s d : Nat} {I L : mm_I} {P : mm_P} {N : Nat → Int} (hA : sp_N n P a) (hs : s ≤ 8) (hN : sq_cN I a N) (hok : sv_ok s N) : mm_rn (d + 1) 42 [.inr (.inr (some a))] n I L P = some (some (.inl ((sv_am N s : Nat))), n, I, L, P) := by
  have n3 := (sq_cN_iff.1 hN).2.2.1
  have ham : sp_mask (fun q => decide (0 < I (a + 3) q)) 8 = sv_am N s := by
    unfold sv_am
    refine sp_mask_ext (fun p hp => by rw [n3 p (by omega)]) 8 hs (fun p h1 h2 => ?_)
    rw [n3 p h2, ((hok.1 p h2).2.2.2 h1).2]
    rfl
  rw [sp_troubles hA, ham]
theorem sq_ccry {n c a t s d : Nat} {I L : mm_I} {P : mm_P} {D : Nat → Int} {B : Nat → Nat} {g v : Int} {lw : Option Nat} {ev : sv_E} {N : Nat → Int} (hA : sp_N n P a) (hW : sq_CW n c P I t s D B g v lw ev) (hs1 : 0 < s) (hN : sq_cN I a N) (hok : sv_ok s N) : sq_X (some (.inl ((sp_pc (sw_m D v s N) : Nat)))) n L P (fun I' => sq_cN I' a (sw_hush D v s N) ∧ sq_fr [a + 3] I I') (mm_rn (d + 3) 46 [.inr (.inr (some a)), .inr (.inr (some t))] n I L P) := by
  obtain ⟨hTP, hT, hH, hg5⟩ := hW
  obtain ⟨ht13, hs8, hs, hD, hDr, hB, hV, hg, hv⟩ := hT
  obtain ⟨n1, n2, n3, nf3, nf⟩ := sq_cN_iff.1 hN
  obtain ⟨q, hq⟩ : ∃ q : Nat, N 24 = (q : Int) := ⟨(N 24).toNat, by have := hok.2.1; omega⟩
  have hqs : q < s := by have := hok.2.1; omega
  have hqn : (N 24).toNat = q := by omega
  have ham : sp_mask (fun q => decide (0 < I (a + 3) q)) 8 = sv_am N s := by
    unfold sv_am
    refine sp_mask_ext (fun p hp => by rw [n3 p (by omega)]) 8 hs8 (fun p h1 h2 => ?_)
    rw [n3 p h2, ((hok.1 p h2).2.2.2 h1).2]
    rfl
  refine ⟨_, sp_cry (p := q) hA hTP hs hs8 hqs (by rw [nf3, hq]) (hV q hqs) (m := sw_m D v s N) ?_, ?_, ?_⟩
  · rw [ham]
    unfold sw_m
    rw [hqn]
  · rw [sq_cN_iff]
    simp (disch := omega) only [sp_row_o, sp_row_s]
    unfold sp_hush0
    refine ⟨fun p hp => ?_, fun p hp => ?_, fun p hp => ?_, ?_⟩
    · rw [n1 p hp]; unfold sw_hush; rw [if_neg (by omega)]
    · rw [n2 p hp]; unfold sw_hush; rw [if_neg (by omega)]
    · rw [n3 p hp]
      unfold sw_hush
      rw [Nat.add_sub_cancel_left]
      grind
    · simp (disch := omega) only [sw_hush_hi]
      exact ⟨nf3, nf⟩
  · intro b hb
    simp at hb
    funext j
    exact sp_row_o hb
set_option maxHeartbeats 1000000 in
theorem sq_cpass {n c a t s d k : Nat} {I L : mm_I} {P : mm_P} {D : Nat → Int} {B : Nat → Nat} {g v : Int} {lw : Option Nat} {ev : sv_E} {N : Nat → Int} (hd : c ≤ d) (ha : 36 ≤ a) (hA : sp_N n P a) (hW : sq_CW n c P I t s D B g v lw ev) (hN : sq_cN I a N) (hok : sv_ok s N) (hh : N 29 ≤ 100000) (hk : k ≤ 100) :
    sq_X (some (.inl (sw_sm (sw_live ev D B g s) s k N))) n L P (fun I' => sq_cN I' a (sw_it (sw_live ev D B g s) k N) ∧ sq_cf [a, a + 1, a + 2, a + 3] I I') (mm_rn (d + 6) 2 [.inr (.inr (some a)), .inr (.inr (some t)), .inr (.inr lw), .inl ((k : Int))] n I L P) := by
  have oka := hA.ok
  have hs8 : s ≤ 8 := hW.2.1.2.1
  have hg5 := hW.2.2.2
  have hge : ∀ b, b ∈ [a, a + 1, a + 2, a + 3] → 36 ≤ b := by
    intro b hb
    simp at hb
    omega
  rw [eX0_passHours]
  simp (disch := (first | assumption | omega | exact nb_ix (by omega) (by assumption) (by omega) (by omega) | exact nb_ix (by omega) rfl (by omega) (by omega) | exact nb_ok (by omega) rfl | decide)) only [kX0_passHours, nb_add, nb_sub, nb_mul, Int.toNat_natCast, mm_kr_s, mm_kv_s, if_pos, if_neg, sq_tn, Int.toNat_zero, Int.reduceToNat, Int.reduceNeg, Nat.reduceAdd, Int.reduceAdd, Int.reduceEq, Int.reduceLT, Int.reduceLE, Int.zero_add, nb_ui_s, nb_ui_k, nb_ui_a, sp_min, sp_max, sp_bits]
  refine sq_loop (fun i (J : mm_I) => mm_E (d + 5) 2 6 [.inr (.inr (some a)), .inr (.inr (some t)), .inr (.inr lw), .inl ((k : Int)), .inl (sw_sm (sw_live ev D B g s) s i N), .inl ((i : Nat))] [] [] n J L P) (fun i J => sq_cN J a (sw_it (sw_live ev D B g s) i N) ∧ sq_cf [a, a + 1, a + 2, a + 3] I J) k (s0 := I) ⟨hN, sq_cf_refl _ _⟩ ?_ ?_
  · intro i J hi ⟨h1, h2⟩ ih
    have lr := sw_sm_rg (ev := ev) (D := D) (B := B) hok hs8 hg5 i
    have lr2 := sv_lost_rg (sw_it_ok (ev := ev) (D := D) (B := B) hok hs8 hg5 i) hs8
    have hW2 := sq_CW_keep hW h2 hge
    have e4 : sw_sm (sw_live ev D B g s) s i N + sv_lost (sw_it (sw_live ev D B g s) i N) s = sw_sm (sw_live ev D B g s) s (i + 1) N := rfl
    rw [hX0_passHours_6]
    simp (disch := (first | assumption | omega | exact nb_ix (by omega) (by assumption) (by omega) (by omega) | exact nb_ix (by omega) rfl (by omega) (by omega) | exact nb_ok (by omega) rfl | decide)) only [kX0_passHours, nb_add, nb_sub, nb_mul, Int.toNat_natCast, mm_kr_s, mm_kv_s, if_pos, if_neg, sq_tn, Int.toNat_zero, Int.reduceToNat, Int.reduceNeg, Nat.reduceAdd, Int.reduceAdd, Int.reduceEq, Int.reduceLT, Int.reduceLE, Int.zero_add, nb_ui_s, nb_ui_k, nb_ui_a, sp_min, sp_max, sp_bits]
    refine sq_kr (sq_chour hd ha hA hW2.1 hW2.2.1 hW2.2.2.1 h1 (sw_it_ok hok hs8 hg5 i) (by rw [sw_it_29]; omega)) (fun K hK => ?_)
    simp (disch := (first | assumption | omega | exact nb_ix (by omega) (by assumption) (by omega) (by omega) | exact nb_ix (by omega) rfl (by omega) (by omega) | exact nb_ok (by omega) rfl | decide)) only [kX0_passHours, e4, nb_add, nb_sub, nb_mul, Int.toNat_natCast, mm_kr_s, mm_kv_s, if_pos, if_neg, sq_tn, Int.toNat_zero, Int.reduceToNat, Int.reduceNeg, Nat.reduceAdd, Int.reduceAdd, Int.reduceEq, Int.reduceLT, Int.reduceLE, Int.zero_add, nb_ui_s, nb_ui_k, nb_ui_a, sp_min, sp_max, sp_bits]
    exact ih _ ⟨hK.1, sq_cf_trans h2 hK.2 (by simp) (by simp)⟩
  · intro J h
    rw [hX0_passHours_6]
    simp (disch := (first | assumption | omega | exact nb_ix (by omega) (by assumption) (by omega) (by omega) | exact nb_ix (by omega) rfl (by omega) (by omega) | exact nb_ok (by omega) rfl | decide)) only [kX0_passHours, nb_add, nb_sub, nb_mul, Int.toNat_natCast, mm_kr_s, mm_kv_s, if_pos, if_neg, sq_tn, Int.toNat_zero, Int.reduceToNat, Int.reduceNeg, Nat.reduceAdd, Int.reduceAdd, Int.reduceEq, Int.reduceLT, Int.reduceLE, Int.zero_add, nb_ui_s, nb_ui_k, nb_ui_a, sp_min, sp_max, sp_bits]
    exact sq_ret h
