/-! a night as told, a trouble begun in it; coins don't count in hours -/
def sw_told (s : Nat) (W : Nat → Int) (g cn : Int) (M : Nat → Int) : Nat → Int := fun j => if j < 8 then (if j < s then W j else 0) else if j = 25 then g else if j = 26 then 3 else if j = 27 then cn else if j < 30 then 0 else M j
def sw_beg (N : Nat → Int) (p : Nat) (k z : Int) : Nat → Int := fun j => if j = 8 + p then k else if j = 16 + p then z else N j
def sw_u27 (N : Nat → Int) (x : Int) : Nat → Int := fun j => if j = 27 then x else N j
theorem sw_u27_o {N : Nat → Int} {x : Int} {j : Nat} (h : j ≠ 27) : sw_u27 N x j = N j := if_neg h
theorem sp_mask_congr {f g : Nat → Bool} {s : Nat} (h : ∀ p, p < s → f p = g p) : sp_mask f s = sp_mask g s := sp_mask_ext h s (Nat.le_refl s) (fun p h1 h2 => by omega)
theorem sv_or_congr {f g : Nat → Nat} : ∀ k, (∀ j, j < k → f j = g j) → sv_or f k = sv_or g k := by
  intro k
  induction k with
  | zero => intro _; rfl
  | succ k ih => intro h; unfold sv_or; rw [ih (fun j hj => h j (by omega)), h k (by omega)]
theorem sw_live_27 {ev : sv_E} {D : Nat → Int} {B : Nat → Nat} {g : Int} {s : Nat} {N : Nat → Int} {x : Int} (hs : s ≤ 8) : sw_live ev D B g s (sw_u27 N x) = sw_u27 (sw_live ev D B g s N) x := by
  have am : sv_am (sw_u27 N x) s = sv_am N s := by
    unfold sv_am
    exact sp_mask_congr (fun p hp => by rw [sw_u27_o (by omega)])
  have tk : ∀ p, p < 8 → sv_tk (sw_u27 N x) p = sv_tk N p := by
    intro p hp
    unfold sv_tk
    rw [sw_u27_o (by omega), sw_u27_o (by omega)]
  have gr : ∀ p, p < 8 → sv_gr ev D B (sw_u27 N x) s p = sv_gr ev D B N s p := by
    intro p hp
    unfold sv_gr
    rw [am, tk p hp, sw_u27_o (j := 16 + p) (by omega), sw_u27_o (j := 8 + p) (by omega), sw_u27_o (j := p) (by omega), sw_u27_o (j := 24) (by omega), sw_u27_o (j := 29) (by omega)]
  have s1 : ∀ p, p < 8 → sv_s1 ev D B (sw_u27 N x) s p = sv_s1 ev D B N s p := by
    intro p hp
    unfold sv_s1
    rw [gr p hp, sw_u27_o (j := 16 + p) (by omega)]
  have gw : sw_grow ev D B s (sw_u27 N x) = sw_u27 (sw_grow ev D B s N) x := by
    funext j
    by_cases hj : j = 27
    · subst hj
      unfold sw_grow sw_take sw_u27
      rw [if_neg (by omega), if_neg (by omega), if_pos rfl, if_pos rfl]
    · rw [sw_u27_o hj]
      unfold sw_grow
      by_cases c : 16 ≤ j ∧ j < 16 + s
      · rw [if_pos c, if_pos c, s1 _ (by omega)]
      · rw [if_neg c, if_neg c]
        unfold sw_take
        by_cases c2 : j < s
        · rw [if_pos c2, if_pos c2, tk j (by omega), sw_u27_o hj]
        · rw [if_neg c2, if_neg c2, sw_u27_o hj]
  have lost : sv_lost (sw_u27 N x) s = sv_lost N s := by
    unfold sv_lost
    exact sp_sum_congr s (fun p hp => tk p (by omega))
  have fr : ∀ M : Nat → Int, sw_fr B s (sw_u27 M x) = sw_fr B s M := by
    intro M
    unfold sw_fr
    exact sv_or_congr s (fun p hp => by rw [sw_u27_o (j := 16 + p) (by omega), sw_u27_o (j := 8 + p) (by omega)])
  have nw : ∀ (M : Nat → Int) p, p < 8 → sw_new B s (sw_u27 M x) p = sw_new B s M p := by
    intro M p hp
    unfold sw_new
    rw [fr, sw_u27_o (j := 16 + p) (by omega), sw_u27_o (j := p) (by omega)]
  funext j
  unfold sw_live
  rw [gw, lost, sw_u27_o (j := 28) (by omega), sw_u27_o (j := 29) (by omega)]
  by_cases hj : j = 27
  · subst hj
    unfold sw_spr sw_u27
    simp
    omega
  · rw [sw_u27_o hj]
    by_cases c1 : j = 25
    · rw [if_pos c1, if_pos c1]
    · rw [if_neg c1, if_neg c1]
      by_cases c2 : j = 28
      · rw [if_pos c2, if_pos c2]
      · rw [if_neg c2, if_neg c2]
        by_cases c3 : j = 29
        · rw [if_pos c3, if_pos c3]
        · rw [if_neg c3, if_neg c3]
          unfold sw_spr
          rw [sw_u27_o hj]
          by_cases c4 : 8 ≤ j ∧ j < 8 + s
          · rw [nw _ (j - 8) (by omega)]
            have c5 : ¬ (16 ≤ j ∧ j < 16 + s ∧ sw_new B s (sw_u27 (sw_grow ev D B s N) x) (j - 16) = true) := by omega
            have c6 : ¬ (16 ≤ j ∧ j < 16 + s ∧ sw_new B s (sw_grow ev D B s N) (j - 16) = true) := by omega
            rw [if_neg c5, if_neg c6]
          · have h8 : ∀ b : Bool, ¬ (8 ≤ j ∧ j < 8 + s ∧ b = true) := fun b q => c4 ⟨q.1, q.2.1⟩
            rw [if_neg (h8 _), if_neg (h8 _)]
            by_cases c7 : 16 ≤ j ∧ j < 16 + s
            · rw [nw _ (j - 16) (by omega)]
            · have h16 : ∀ b : Bool, ¬ (16 ≤ j ∧ j < 16 + s ∧ b = true) := fun b q => c7 ⟨q.1, q.2.1⟩
              rw [if_neg (h16 _), if_neg (h16 _)]
theorem sw_it_27 {ev : sv_E} {D : Nat → Int} {B : Nat → Nat} {g : Int} {s : Nat} {N : Nat → Int} {x : Int} (hs : s ≤ 8) : ∀ k, sw_it (sw_live ev D B g s) k (sw_u27 N x) = sw_u27 (sw_it (sw_live ev D B g s) k N) x
  | 0 => rfl
  | k + 1 => by
    show sw_live ev D B g s (sw_it (sw_live ev D B g s) k (sw_u27 N x)) = _
    rw [sw_it_27 hs k, sw_live_27 hs]
    rfl
/-- the night of a code, as told but for one trouble -/
def sw_T0 (s : Nat) (W : Nat → Int) (g : Int) (M : Nat → Int) (cd : Nat) : Nat → Int := sw_beg (sw_told s W g 0 M) (cd / 100) ((cd / 10 % 10 : Nat) : Int) ((cd % 10 : Nat) : Int)
def sw_isC (s cd : Nat) : Bool := decide (cd / 100 < s) && (decide (cd / 10 % 10 ≤ 2) && decide (0 < cd % 10))
theorem sw_T0_ok {s : Nat} {W : Nat → Int} {g : Int} {M : Nat → Int} {cd : Nat} (hs : s ≤ 8) (hW : ∀ p, p < s → 0 ≤ W p ∧ W p ≤ 99) (hg : 0 ≤ g ∧ g ≤ 5) (hc : sw_isC s cd = true) : sv_ok s (sw_T0 s W g M cd) := by
  unfold sw_isC at hc
  simp at hc
  obtain ⟨c1, c2, c3⟩ := hc
  have c4 : cd % 10 ≤ 9 := by omega
  unfold sw_T0
  generalize cd / 100 = q at *
  generalize cd / 10 % 10 = k at *
  generalize cd % 10 = z at *
  have lo : ∀ j, (j < 8 ∨ 24 ≤ j) → sw_beg (sw_told s W g 0 M) q (k : Int) (z : Int) j = sw_told s W g 0 M j := by
    intro j hj
    unfold sw_beg
    rw [if_neg (by omega), if_neg (by omega)]
  have kd : ∀ p, p < 8 → sw_beg (sw_told s W g 0 M) q (k : Int) (z : Int) (8 + p) = if p = q then (k : Int) else 0 := by
    intro p hp
    unfold sw_beg sw_told
    by_cases h : p = q
    · rw [if_pos (by omega), if_pos h]
    · rw [if_neg (by omega), if_neg (by omega), if_neg (by omega), if_neg (by omega), if_neg (by omega), if_neg (by omega), if_pos (by omega), if_neg h]
  have zd : ∀ p, p < 8 → sw_beg (sw_told s W g 0 M) q (k : Int) (z : Int) (16 + p) = if p = q then (z : Int) else 0 := by
    intro p hp
    unfold sw_beg sw_told
    by_cases h : p = q
    · rw [if_neg (by omega), if_pos (by omega), if_pos h]
    · rw [if_neg (by omega), if_neg (by omega), if_neg (by omega), if_neg (by omega), if_neg (by omega), if_neg (by omega), if_pos (by omega), if_neg h]
  refine ⟨fun p hp => ?_, ?_⟩
  · rw [lo p (by omega), kd p hp, zd p hp]
    have h1 : sw_told s W g 0 M p = if p < s then W p else 0 := by
      unfold sw_told
      rw [if_pos hp]
    rw [h1]
    have := hW p
    split <;> split <;> omega
  · rw [lo 24 (by omega), lo 25 (by omega), lo 26 (by omega), lo 27 (by omega), lo 28 (by omega), lo 29 (by omega)]
    have e24 : sw_told s W g 0 M 24 = 0 := rfl
    have e25 : sw_told s W g 0 M 25 = g := rfl
    have e26 : sw_told s W g 0 M 26 = 3 := rfl
    have e27 : sw_told s W g 0 M 27 = 0 := rfl
    have e28 : sw_told s W g 0 M 28 = 0 := rfl
    have e29 : sw_told s W g 0 M 29 = 0 := rfl
    rw [e24, e25, e26, e27, e28, e29]
    omega
section TO
variable {n c t u s d : Nat} {I L : mm_I} {P : mm_P} {D : Nat → Int} {B : Nat → Nat} {g v : Int} {lw : Option Nat} {ev : sv_E} {N W M : Nat → Int}
theorem sq_ctold {a : Nat} {cn : Int} (ha : 36 ≤ a) (hA : sp_N n P a) (hTP : sp_T n P t) (ht : t ≤ 13) (hs8 : s ≤ 8) (hs : I t 0 = (s : Int)) (hg : I t 1 = g) (hcn : I t 3 = cn) (hW : ∀ p, p < s → I (t + 1) p = W p) : sq_X none n L P (fun I' => sq_cN I' a (sw_told s W g cn M) ∧ sq_fr [a, a + 1, a + 2, a + 3] I I') (mm_rn (d + 1) 40 [.inr (.inr (some a)), .inr (.inr (some t))] n I L P) := by
  have oka := hA.ok
  have okt := hTP.ok
  obtain ⟨a0, a1, a2, a3, a4, a5, a6, a7⟩ := hA
  obtain ⟨t0, t1, t2, t3, t4, t5, t6, t7, t8, t9, t10, t11⟩ := hTP
  rw [eX5_beAsTold]
  simp (disch := (first | assumption | omega | exact nb_ix (by omega) (by assumption) (by omega) (by omega) | exact nb_ix (by omega) rfl (by omega) (by omega) | exact nb_ok (by omega) rfl | decide)) only [kX5_beAsTold, nb_add, nb_sub, nb_mul, Int.toNat_natCast, mm_kr_s, mm_kv_s, if_pos, if_neg, sq_tn, Int.toNat_zero, Int.reduceToNat, Int.reduceNeg, Nat.reduceAdd, Int.reduceAdd, Int.reduceEq, Int.reduceLT, Int.reduceLE, Int.zero_add, nb_ui_s, nb_ui_k, nb_ui_a, sp_min, sp_max, sp_bits]
  refine sq_loop (fun i (J : mm_I) => mm_E d 40 2 [.inr (.inr (some a)), .inr (.inr (some t)), .inl ((i : Nat))] [] [] n J L P) (fun i J => (∀ p, p < i → J (a + 1) p = (if p < s then W p else 0) ∧ J (a + 2) p = 0 ∧ J (a + 3) p = 0) ∧ sq_fr [a, a + 1, a + 2, a + 3] I J) 8 (s0 := I) ⟨fun p hp => by omega, sq_fr_refl _ _⟩ ?_ ?_
  · intro i J hi ⟨h1, h2⟩ ih
    have et : J t = I t := h2 t (by simp; omega)
    have et1 : J (t + 1) = I (t + 1) := h2 (t + 1) (by simp; omega)
    rw [hX5_beAsTold_2]
    by_cases hc : i < s
    · have hw := hW i hc
      simp (disch := (first | assumption | omega | exact nb_ix (by omega) (by assumption) (by omega) (by omega) | exact nb_ix (by omega) rfl (by omega) (by omega) | exact nb_ok (by omega) rfl | decide)) only [kX5_beAsTold, a5, a6, a7, t7, et, et1, hs, hw, nb_add, nb_sub, nb_mul, Int.toNat_natCast, mm_kr_s, mm_kv_s, if_pos, if_neg, sq_tn, Int.toNat_zero, Int.reduceToNat, Int.reduceNeg, Nat.reduceAdd, Int.reduceAdd, Int.reduceEq, Int.reduceLT, Int.reduceLE, Int.zero_add, nb_ui_s, nb_ui_k, nb_ui_a, sp_min, sp_max, sp_bits]
      refine ih _ ⟨fun p hp => ?_, sq_fr_up (sq_fr_up (sq_fr_up h2 (by simp)) (by simp)) (by simp)⟩
      by_cases hpi : p = i
      · subst hpi
        simp [mm_ui, hc]
      · have := h1 p (by omega)
        simp [mm_ui, hpi]
        exact this
    · simp (disch := (first | assumption | omega | exact nb_ix (by omega) (by assumption) (by omega) (by omega) | exact nb_ix (by omega) rfl (by omega) (by omega) | exact nb_ok (by omega) rfl | decide)) only [kX5_beAsTold, a5, a6, a7, t7, et, et1, hs, nb_add, nb_sub, nb_mul, Int.toNat_natCast, mm_kr_s, mm_kv_s, if_pos, if_neg, sq_tn, Int.toNat_zero, Int.reduceToNat, Int.reduceNeg, Nat.reduceAdd, Int.reduceAdd, Int.reduceEq, Int.reduceLT, Int.reduceLE, Int.zero_add, nb_ui_s, nb_ui_k, nb_ui_a, sp_min, sp_max, sp_bits]
      refine ih _ ⟨fun p hp => ?_, sq_fr_up (sq_fr_up (sq_fr_up h2 (by simp)) (by simp)) (by simp)⟩
      by_cases hpi : p = i
      · subst hpi
        simp [mm_ui, hc]
      · have := h1 p (by omega)
        simp [mm_ui, hpi]
        exact this
  · intro J ⟨h1, h2⟩
    have et : J t = I t := h2 t (by simp; omega)
    rw [hX5_beAsTold_2]
    simp (disch := (first | assumption | omega | exact nb_ix (by omega) (by assumption) (by omega) (by omega) | exact nb_ix (by omega) rfl (by omega) (by omega) | exact nb_ok (by omega) rfl | decide)) only [kX5_beAsTold, et, hg, hcn, nb_add, nb_sub, nb_mul, Int.toNat_natCast, mm_kr_s, mm_kv_s, if_pos, if_neg, sq_tn, Int.toNat_zero, Int.reduceToNat, Int.reduceNeg, Nat.reduceAdd, Int.reduceAdd, Int.reduceEq, Int.reduceLT, Int.reduceLE, Int.zero_add, nb_ui_s, nb_ui_k, nb_ui_a, sp_min, sp_max, sp_bits]
    refine sq_ret ⟨?_, ?_⟩
    · rw [sq_cN_iff]
      simp (disch := omega) only [nb_ui_a]
      refine ⟨fun p hp => ?_, fun p hp => ?_, fun p hp => ?_, ?_⟩
      · rw [(h1 p hp).1]; unfold sw_told; rw [if_pos hp]
      · rw [(h1 p hp).2.1]; unfold sw_told; rw [if_neg (by omega), if_neg (by omega), if_neg (by omega), if_neg (by omega), if_pos (by omega)]
      · rw [(h1 p hp).2.2]; unfold sw_told; rw [if_neg (by omega), if_neg (by omega), if_neg (by omega), if_neg (by omega), if_pos (by omega)]
      · simp [mm_ui, sw_told]
    · refine sq_fr_up (sq_fr_up (sq_fr_up (sq_fr_up (sq_fr_up (sq_fr_up h2 ?_) ?_) ?_) ?_) ?_) ?_ <;> simp
theorem sq_mtold (hM : sp_M n P) (hs8 : s ≤ 8) (hs : I 239 26 = (s : Int)) (hg : I 253 0 = g) (hW : ∀ p, p < s → I 254 (2 * p) = W p) (hN : ∀ j, 30 ≤ j → j < 211 → I 257 j = N j) : sq_X none n L P (fun I' => sq_mN I' (sw_told s W g 0 N) ∧ sq_fr [257] I I') (mm_rn (d + 1) 187 [.inr (.inr (some 239))] n I L P) := by
  have ok := hM.ok
  obtain ⟨hn, hP⟩ := hM
  rw [eX12_layTold]
  simp (disch := (first | assumption | omega | exact nb_ix (by omega) (by assumption) (by omega) (by omega) | exact nb_ix (by omega) rfl (by omega) (by omega) | exact nb_ok (by omega) rfl | decide)) only [kX12_layTold, nb_add, nb_sub, nb_mul, Int.toNat_natCast, mm_kr_s, mm_kv_s, if_pos, if_neg, sq_tn, Int.toNat_zero, Int.reduceToNat, Int.reduceNeg, Nat.reduceAdd, Int.reduceAdd, Int.reduceEq, Int.reduceLT, Int.reduceLE, Int.zero_add, nb_ui_s, nb_ui_k, nb_ui_a, sp_min, sp_max, sp_bits]
  refine sq_loop (fun i (J : mm_I) => mm_E d 187 2 [.inr (.inr (some 239)), .inl ((i : Nat))] [] [] n J L P) (fun i J => (∀ j, j < i → J 257 j = 0) ∧ (∀ j, 30 ≤ j → J 257 j = I 257 j) ∧ sq_fr [257] I J) 30 (s0 := I) ⟨fun p hp => by omega, fun _ _ => rfl, sq_fr_refl _ _⟩ ?_ ?_
  · intro i J hi ⟨h1, h3, h2⟩ ih
    rw [hX12_layTold_2]
    simp (disch := (first | assumption | omega | exact nb_ix (by omega) (by assumption) (by omega) (by omega) | exact nb_ix (by omega) rfl (by omega) (by omega) | exact nb_ok (by omega) rfl | decide)) only [kX12_layTold, hP, nb_add, nb_sub, nb_mul, Int.toNat_natCast, mm_kr_s, mm_kv_s, if_pos, if_neg, sq_tn, Int.toNat_zero, Int.reduceToNat, Int.reduceNeg, Nat.reduceAdd, Int.reduceAdd, Int.reduceEq, Int.reduceLT, Int.reduceLE, Int.zero_add, nb_ui_s, nb_ui_k, nb_ui_a, sp_min, sp_max, sp_bits]
    refine ih _ ⟨fun j hj => ?_, fun j hj => ?_, sq_fr_up h2 (by simp)⟩
    · by_cases hji : j = i
      · subst hji; rw [nb_ui_s]
      · rw [nb_ui_k hji]; exact h1 j (by omega)
    · rw [nb_ui_k (by omega)]; exact h3 j hj
  intro J0 ⟨h1, h3, h2⟩
  rw [hX12_layTold_2]
  simp (disch := (first | assumption | omega | exact nb_ix (by omega) (by assumption) (by omega) (by omega) | exact nb_ix (by omega) rfl (by omega) (by omega) | exact nb_ok (by omega) rfl | decide)) only [kX12_layTold, nb_add, nb_sub, nb_mul, Int.toNat_natCast, mm_kr_s, mm_kv_s, if_pos, if_neg, sq_tn, Int.toNat_zero, Int.reduceToNat, Int.reduceNeg, Nat.reduceAdd, Int.reduceAdd, Int.reduceEq, Int.reduceLT, Int.reduceLE, Int.zero_add, nb_ui_s, nb_ui_k, nb_ui_a, sp_min, sp_max, sp_bits]
  refine sq_loop (fun i (J : mm_I) => mm_E d 187 23 [.inr (.inr (some 239)), .inl ((i : Nat))] [] [] n J L P) (fun i J => (∀ j, j < 30 → J 257 j = if j < i then W j else 0) ∧ (∀ j, 30 ≤ j → J 257 j = I 257 j) ∧ sq_fr [257] I J) s (s0 := J0) ⟨fun j hj => by rw [if_neg (by omega)]; exact h1 j hj, h3, h2⟩ ?_ ?_
  · intro i J hi ⟨k1, k3, k2⟩ ih
    have e239 : J 239 = I 239 := k2 239 (by decide)
    have e254 : J 254 = I 254 := k2 254 (by decide)
    have hw := hW i hi
    have e5 : (2 * (i : Int) + 0).toNat = 2 * i := by omega
    have e6 : (2 * (i : Int)).toNat = 2 * i := by omega
    rw [hX12_layTold_23]
    simp (disch := (first | assumption | omega | exact nb_ix (by omega) (by assumption) (by omega) (by omega) | exact nb_ix (by omega) rfl (by omega) (by omega) | exact nb_ok (by omega) rfl | decide)) only [kX12_layTold, hP, e239, e254, hs, e5, e6, Int.add_zero, hw, nb_add, nb_sub, nb_mul, Int.toNat_natCast, mm_kr_s, mm_kv_s, if_pos, if_neg, sq_tn, Int.toNat_zero, Int.reduceToNat, Int.reduceNeg, Nat.reduceAdd, Int.reduceAdd, Int.reduceEq, Int.reduceLT, Int.reduceLE, Int.zero_add, nb_ui_s, nb_ui_k, nb_ui_a, sp_min, sp_max, sp_bits]
    refine ih _ ⟨fun j hj => ?_, fun j hj => ?_, sq_fr_up k2 (by simp)⟩
    · by_cases hji : j = i
      · subst hji; rw [nb_ui_s, if_pos (by omega)]
      · rw [nb_ui_k hji, k1 j hj]
        by_cases c : j < i
        · rw [if_pos c, if_pos (by omega)]
        · rw [if_neg c, if_neg (by omega)]
    · rw [nb_ui_k (by omega)]; exact k3 j hj
  · intro J ⟨k1, k3, k2⟩
    have e239 : J 239 = I 239 := k2 239 (by decide)
    have e253 : J 253 = I 253 := k2 253 (by decide)
    rw [hX12_layTold_23]
    simp (disch := (first | assumption | omega | exact nb_ix (by omega) (by assumption) (by omega) (by omega) | exact nb_ix (by omega) rfl (by omega) (by omega) | exact nb_ok (by omega) rfl | decide)) only [kX12_layTold, hP, e239, e253, hs, hg, nb_add, nb_sub, nb_mul, Int.toNat_natCast, mm_kr_s, mm_kv_s, if_pos, if_neg, sq_tn, Int.toNat_zero, Int.reduceToNat, Int.reduceNeg, Nat.reduceAdd, Int.reduceAdd, Int.reduceEq, Int.reduceLT, Int.reduceLE, Int.zero_add, nb_ui_s, nb_ui_k, nb_ui_a, sp_min, sp_max, sp_bits]
    refine sq_ret ⟨fun j hj => ?_, sq_fr_up (sq_fr_up k2 (by simp)) (by simp)⟩
    by_cases c : j < 30
    · have := k1 j c
      unfold mm_ui sw_told
      grind
    · have := k3 j (by omega)
      have := hN j (by omega) hj
      unfold mm_ui sw_told
      grind
theorem sq_mbeg {p : Nat} {k z : Int} (hM : sp_M n P) (hp : p < 8) (hN : sq_mN I N) : sq_X none n L P (fun I' => sq_mN I' (sw_beg N p k z) ∧ sq_fr [257] I I') (mm_rn (d + 1) 214 [.inr (.inr (some 239)), .inl ((p : Int)), .inl k, .inl z] n I L P) := by
  have ok := hM.ok
  obtain ⟨hn, hP⟩ := hM
  rw [eX12_beginNow]
  simp (disch := (first | assumption | omega | exact nb_ix (by omega) (by assumption) (by omega) (by omega) | exact nb_ix (by omega) rfl (by omega) (by omega) | exact nb_ok (by omega) rfl | decide)) only [kX12_beginNow, hP, nb_add, nb_sub, nb_mul, Int.toNat_natCast, mm_kr_s, mm_kv_s, if_pos, if_neg, sq_tn, Int.toNat_zero, Int.reduceToNat, Int.reduceNeg, Nat.reduceAdd, Int.reduceAdd, Int.reduceEq, Int.reduceLT, Int.reduceLE, Int.zero_add, nb_ui_s, nb_ui_k, nb_ui_a, sp_min, sp_max, sp_bits]
  refine sq_ret ⟨fun j hj => ?_, sq_fr_up (sq_fr_up (sq_fr_refl _ _) (by simp)) (by simp)⟩
  have := hN j hj
  unfold mm_ui sw_beg
  grind
theorem sq_cbeg {a p : Nat} {k z : Int} (hA : sp_N n P a) (hp : p < 8) (hN : sq_cN I a N) (hz : N (16 + p) = 0) : sq_X none n L P (fun I' => sq_cN I' a (sw_beg N p k z) ∧ sq_fr [a + 2, a + 3] I I') (mm_rn (d + 2) 45 [.inr (.inr (some a)), .inl ((p : Int)), .inl k, .inl z] n I L P) := by
  have e3 : I (a + 3) p = 0 := by rw [(sq_cN_iff.1 hN).2.2.1 p hp]; exact hz
  rw [sp_start (d := d) hA hp, if_pos e3]
  refine sq_ret ⟨fun j hj => ?_, sq_fr_up (sq_fr_up (sq_fr_refl _ _) (by simp)) (by simp)⟩
  have := hN j hj
  unfold sw_beg
  rw [← this]
  unfold sq_rd mm_ui
  grind
theorem sq_cbegN {a p : Nat} {k z : Int} (hA : sp_N n P a) (hp : p < 8) (hN : sq_cN I a N) (hz : ¬ N (16 + p) = 0) : mm_rn (d + 2) 45 [.inr (.inr (some a)), .inl ((p : Int)), .inl k, .inl z] n I L P = some (none, n, I, L, P) := by
  have e3 : ¬ I (a + 3) p = 0 := by rw [(sq_cN_iff.1 hN).2.2.1 p hp]; exact hz
  rw [sp_start (d := d) hA hp, if_neg e3]
end TO
