/-! towns: both take what was read -/
theorem nb_up_s {P : mm_P} {a k : Nat} {r : Option Nat} : mm_up P a k r a k = r := if_pos ⟨rfl, rfl⟩
theorem nb_up_k {P : mm_P} {a k j : Nat} {r : Option Nat} (h : j ≠ k) : mm_up P a k r a j = P a j := if_neg (fun q => h q.2)
theorem nb_up_a {P : mm_P} {a b k j : Nat} {r : Option Nat} (h : b ≠ a) : mm_up P a k r b j = P b j := if_neg (fun q => h q.1)
theorem nb_up_r {P : mm_P} {a b k : Nat} {r : Option Nat} (h : b ≠ a) : mm_up P a k r b = P b := funext fun _ => nb_up_a h
/-- the town and its draft change places -/
def zsw (P : mm_P) (t u : Nat) : mm_P := mm_up (mm_up P 0 2 (some u)) 0 3 (some t)
theorem zsw_r {P : mm_P} {t u b : Nat} (h : b ≠ 0) : zsw P t u b = P b := by unfold zsw; rw [nb_up_r h, nb_up_r h]
theorem zsw_k {P : mm_P} {t u j : Nat} (h : j ≠ 2) (h2 : j ≠ 3) : zsw P t u 0 j = P 0 j := by unfold zsw; rw [nb_up_k h2, nb_up_k h]
theorem sq_P_swap {n t u : Nat} {P : mm_P} (h : sq_P n P t u) : sq_P n (zsw P t u) u t := by
  obtain ⟨h1, h2, h3, h4, h5, h6, h7, h8, h9, h10⟩ := h
  have hr : ∀ b, b ≠ 0 → zsw P t u b = P b := fun b hb => zsw_r hb
  have hk : ∀ j, j ≠ 2 → j ≠ 3 → zsw P t u 0 j = P 0 j := fun j a b => zsw_k a b
  have e2 : zsw P t u 0 2 = some u := by unfold zsw; rw [nb_up_k (by decide), nb_up_s]
  have e3 : zsw P t u 0 3 = some t := by unfold zsw; rw [nb_up_s]
  have ht : ∀ a, a ≠ 0 → sp_T n P a → sp_T n (zsw P t u) a := fun a ha q => by unfold sp_T at q ⊢; rw [hr a ha]; exact q
  have hN : ∀ a, a ≠ 0 → sp_N n P a → sp_N n (zsw P t u) a := fun a ha q => by unfold sp_N at q ⊢; rw [hr a ha]; exact q
  refine ⟨h1, by omega, by unfold sp_M at h3 ⊢; rw [hr 239 (by decide)]; exact h3, ht u (by omega) h5, ht t (by omega) h4, fun a ha => hN a (by omega) (h6 a ha), ⟨e2, e3⟩, ?_, fun i hi => ?_, fun i hi => ?_⟩
  · rw [hk 0 (by decide) (by decide), hk 1 (by decide) (by decide), hk 4 (by decide) (by decide), hk 8 (by decide) (by decide), hk 9 (by decide) (by decide), hk 10 (by decide) (by decide), hk 11 (by decide) (by decide), hk 12 (by decide) (by decide), hk 14 (by decide) (by decide), hk 15 (by decide) (by decide), hk 16 (by decide) (by decide), hk 17 (by decide) (by decide), hr 1 (by decide), hr 3 (by decide), hr 44 (by decide), hr 214 (by decide), hr 48 (by decide), hr 218 (by decide), hr 228 (by decide)]
    exact h8
  · rw [hr 19 (by decide), hr (20 + 4 * i) (by omega)]; exact h9 i hi
  · rw [hr 49 (by decide)]; exact h10 i hi
section TK
variable {n t u s nl ck : Nat} {P : mm_P} {I I' L : mm_I} {D W K NI cm co rf : Nat → Int} {B cp ch : Nat → Nat} {g v cn hl kf pe : Int} {es : Nat → rL} {x : sT} {LgI : Nat → Nat → Int} {tp : (Nat → Int) × Nat} {ru pl la : Nat → Int} {np nn : Nat}
/-- the night as told -/
def zN0 (np : Nat) (pl ru : Nat → Int) : Nat → Int := sw_told np (fun p => pl (2 * p)) (ru 0) (ru 2) (fun _ => 0)
theorem zts_rg (h : zts ru 0 np pl nn la) : (1 ≤ ru 0 ∧ ru 0 ≤ 5) ∧ (0 ≤ ru 1 ∧ ru 1 ≤ 4) ∧ (0 ≤ ru 2 ∧ ru 2 ≤ 99) ∧ (∀ p, p < np → 1 ≤ pl (2 * p) ∧ pl (2 * p) ≤ 99) ∧ (∀ p, p < np → 0 ≤ pl (2 * p + 1) ∧ pl (2 * p + 1) ≤ 9) := by
  obtain ⟨h1, h2, h3, h4, h5, h6⟩ := h
  exact ⟨h4 0 (by decide), h4 1 (by decide), h4 2 (by decide), fun p hp => h5 p hp 0 (by decide), fun p hp => h5 p hp 1 (by decide)⟩
theorem zN0_T (h : zts ru 0 np pl nn la) (hn : 2 ≤ np) (H : Nat → Nat → Int) (nx : Nat) (Lg : Nat → Nat → Int) : rs_T np (zN0 np pl ru, 0, H, nx, Lg) := by
  obtain ⟨g1, g2, g3, g4, g5⟩ := zts_rg h
  have e : ∀ j, 8 ≤ j → j ≠ 25 → j ≠ 26 → j ≠ 27 → zN0 np pl ru j = 0 := fun j a1 a2 a3 a4 => by
    unfold zN0 sw_told
    rw [if_neg (by omega), if_neg a2, if_neg a3, if_neg a4]
    split <;> rfl
  have ew : ∀ p, p < 8 → zN0 np pl ru p = if p < np then pl (2 * p) else 0 := fun p hp => by unfold zN0 sw_told; rw [if_pos hp]
  have e5 : zN0 np pl ru 25 = ru 0 := rfl
  have e6 : zN0 np pl ru 26 = 3 := rfl
  have e7 : zN0 np pl ru 27 = ru 2 := rfl
  refine ⟨⟨fun p hp => ?_, ?_, ?_, ?_, ?_, ?_, ?_⟩, ?_, ⟨?_, ?_, fun k w hk hw => ?_⟩, Nat.zero_le _, fun i hi => absurd hi (Nat.not_lt_zero i), fun i hi => absurd hi (Nat.not_lt_zero i)⟩
  · show (0 ≤ zN0 np pl ru p ∧ zN0 np pl ru p ≤ 99) ∧ (0 ≤ zN0 np pl ru (8 + p) ∧ zN0 np pl ru (8 + p) ≤ 2) ∧ (0 ≤ zN0 np pl ru (16 + p) ∧ zN0 np pl ru (16 + p) ≤ 9) ∧ (np ≤ p → zN0 np pl ru p = 0 ∧ zN0 np pl ru (16 + p) = 0)
    rw [ew p hp, e (8 + p) (by omega) (by omega) (by omega) (by omega), e (16 + p) (by omega) (by omega) (by omega) (by omega)]
    by_cases c : p < np
    · rw [if_pos c]; have := g4 p c; exact ⟨by omega, by omega, by omega, fun q => by omega⟩
    · rw [if_neg c]; exact ⟨by omega, by omega, by omega, fun _ => ⟨rfl, rfl⟩⟩
  · show 0 ≤ zN0 np pl ru 24 ∧ (zN0 np pl ru 24 < np ∨ zN0 np pl ru 24 = 0)
    rw [e 24 (by decide) (by decide) (by decide) (by decide)]; omega
  · show 0 ≤ zN0 np pl ru 25 ∧ zN0 np pl ru 25 ≤ 5
    rw [e5]; omega
  · show 0 ≤ zN0 np pl ru 26 ∧ zN0 np pl ru 26 ≤ 3
    rw [e6]; decide
  · show 0 ≤ zN0 np pl ru 27 ∧ zN0 np pl ru 27 ≤ 999
    rw [e7]; omega
  · show 0 ≤ zN0 np pl ru 28 ∧ zN0 np pl ru 28 ≤ 9999
    rw [e 28 (by decide) (by decide) (by decide) (by decide)]; decide
  · show 0 ≤ zN0 np pl ru 29
    rw [e 29 (by decide) (by decide) (by decide) (by decide)]; decide
  · show zN0 np pl ru 29 ≤ 9999
    rw [e 29 (by decide) (by decide) (by decide) (by decide)]; decide
  · show 0 ≤ zN0 np pl ru 29
    rw [e 29 (by decide) (by decide) (by decide) (by decide)]; decide
  · show zN0 np pl ru 30 = min 60 (zN0 np pl ru 29)
    rw [e 29 (by decide) (by decide) (by decide) (by decide), e 30 (by decide) (by decide) (by decide) (by decide)]; decide
  · have hk' : k < (zN0 np pl ru 30).toNat := hk
    rw [e 30 (by decide) (by decide) (by decide) (by decide)] at hk'
    exact absurd hk' (Nat.not_lt_zero k)
/-- the state behind a town told -/
def zσ (ru : Nat → Int) (np : Nat) (pl : Nat → Int) (nn : Nat) (la : Nat → Int) : rS → rS
  | (s, D, B, g, v, W, K, cn, nl, hl, es, x, kf, NI, LgI, ck, cp, ch, cm, co, tp, pe, rf) => (np, zDi (zBs la nn) 8, zBs la nn, ru 0, ru 1, fun p => pl (2 * p), fun p => pl (2 * p + 1), ru 2, nl, hl, es, (zN0 np pl ru, 0, x.2.2.1, x.2.2.2.1, x.2.2.2.2), 0, NI, LgI, 0, cp, ch, cm, co, (tp.1, 0), pe, rf)
theorem zσ_RS (h : zts ru 0 np pl nn la) (hw : zwh np nn la) (hS : RS (s, D, B, g, v, W, K, cn, nl, hl, es, x, kf, NI, LgI, ck, cp, ch, cm, co, tp, pe, rf)) : RS (zσ ru np pl nn la (s, D, B, g, v, W, K, cn, nl, hl, es, x, kf, NI, LgI, ck, cp, ch, cm, co, tp, pe, rf)) := by
  obtain ⟨g1, g2, g3, g4, g5⟩ := zts_rg h
  have hnp := h.2.1
  refine ⟨⟨hnp, zDi_rg _ 8, zBs_lt hnp nn hw.2, by omega, by omega, fun p hp => by have := g4 p hp; show 0 ≤ pl (2 * p) ∧ pl (2 * p) ≤ 99; omega, g5, by omega, fun p q hp hq => zDi_sym (zBs_sym hnp nn hw.2) 8 (Nat.le_refl 8) p q (by omega) (by omega), fun p hp => zDi_dg _ 8 p (by omega)⟩, hS.2.1, zN0_T h hw.1 _ _ _, ⟨Or.inl rfl, fun q => absurd q (by decide)⟩, ⟨Nat.zero_le _, fun i hi => absurd hi (Nat.not_lt_zero i)⟩, ⟨Nat.zero_le _, fun i hi => absurd hi (Nat.not_lt_zero i)⟩⟩
set_option maxHeartbeats 8000000 in
/-- the class takes it -/
theorem zK_class {d : Nat} (hc : RC n P I t u (s, D, B, g, v, W, K, cn, nl, hl, es, x, kf, NI, LgI, ck, cp, ch, cm, co, tp, pe, rf)) (hS : RS (s, D, B, g, v, W, K, cn, nl, hl, es, x, kf, NI, LgI, ck, cp, ch, cm, co, tp, pe, rf)) (h : zts ru 0 np pl nn la) (hw : zwh np nn la) {J : mm_I} (f : zFc u I J) (hT : zTd u J ru np pl nn la) : sq_X (some (.inl ((np : Int)))) n L (zsw P t u) (fun I' => RC n (zsw P t u) I' u t (zσ ru np pl nn la (s, D, B, g, v, W, K, cn, nl, hl, es, x, kf, NI, LgI, ck, cp, ch, cm, co, tp, pe, rf)) ∧ ∀ b, 239 ≤ b → I' b = I b) (mm_E (d + 1) 89 15 [.inr (.inr (some 0)), mm_junk] [] [.inl 1] n J L P) := by
  have hP := hc.1
  have hn := hP.1
  have hPs := sq_P_swap hP
  have ht := (RC_t hc)
  have ht1 := hP.2.1
  have hnl : nl ≤ 4 := hS.2.1.1
  have hcJ := RC_zFc hc hS f
  have pp := hPs.2.2.2.2.2.2.2.1
  have q0 := pp.1
  have q8 := pp.2.2.2.1
  have q10 := pp.2.2.2.2.2.1
  have q14 := pp.2.2.2.2.2.2.2.2.1
  have q2 := hPs.2.2.2.2.2.2.1.1
  have r2 := hP.2.2.2.2.2.2.1.1
  have r3 := hP.2.2.2.2.2.2.1.2
  have hTu := hPs.2.2.2.1
  have okT := hTu.ok
  have hN40 := hPs.2.2.2.2.2.1 40 (by decide)
  obtain ⟨z0, z1, z2, z3, z4, z5⟩ := hT
  have ez : mm_up (mm_up P 0 2 (some u)) 0 3 (some t) = zsw P t u := rfl
  simp (disch := (first | assumption | omega | exact nb_ix (by omega) (by assumption) (by omega) (by omega) | exact nb_ix (by omega) rfl (by omega) (by omega) | exact nb_ok (by omega) rfl | decide)) only [kX11_takeTown, r2, r3, nb_up_k, ez, q0, q8, q2, ↓if_pos, ↓if_neg, nb_add, nb_sub, nb_mul, Int.toNat_natCast, mm_kr_s, mm_kv_s, if_pos, if_neg, sq_tn, Int.toNat_zero, Int.reduceToNat, Int.reduceNeg, Nat.reduceAdd, Int.reduceAdd, Int.reduceEq, Int.reduceLT, Int.reduceLE, Int.zero_add, nb_ui_s, nb_ui_k, nb_ui_a, sp_min, sp_max, sp_bits]
  refine sq_kv (sq_ctold (d := d) (L := L) (s := np) (W := fun p => pl (2 * p)) (g := ru 0) (cn := ru 2) (M := fun _ => 0) (by decide) hN40 hTu (by omega) h.2.1 (by rw [nb_ui_a (by omega)]; exact z0) (by rw [nb_ui_a (by omega)]; exact z1) (by rw [nb_ui_a (by omega)]; exact z3) (fun p hp => by rw [nb_ui_a (by omega)]; exact (z4 p hp).1)) (fun G hG => ?_)
  obtain ⟨hN, hF⟩ := hG
  have e : ∀ b, b ≠ 1 → b ≠ 40 → b ≠ 41 → b ≠ 42 → b ≠ 43 → G b = J b := fun b a1 a2 a3 a4 a5 => by rw [hF b (by simp only [List.mem_cons, List.not_mem_nil, or_false]; omega), nb_ui_r a1]
  have gu : G u 0 = (np : Int) := by rw [e u (by omega) (by omega) (by omega) (by omega) (by omega)]; exact z0
  simp (disch := (first | assumption | omega | exact nb_ix (by omega) (by assumption) (by omega) (by omega) | exact nb_ix (by omega) rfl (by omega) (by omega) | exact nb_ok (by omega) rfl | decide)) only [kX11_takeTown, q10, q14, q2, gu, ↓if_pos, ↓if_neg, nb_add, nb_sub, nb_mul, Int.toNat_natCast, mm_kr_s, mm_kv_s, if_pos, if_neg, sq_tn, Int.toNat_zero, Int.reduceToNat, Int.reduceNeg, Nat.reduceAdd, Int.reduceAdd, Int.reduceEq, Int.reduceLT, Int.reduceLE, Int.zero_add, nb_ui_s, nb_ui_k, nb_ui_a, sp_min, sp_max, sp_bits]
  have e' : ∀ b, b ≠ 0 → b ≠ 48 → b ≠ 218 → mm_ui (mm_ui (mm_ui G 48 2 0) 0 13 0) 218 4 0 b = G b := fun b a1 a2 a3 => by rw [nb_ui_r a3, nb_ui_r a1, nb_ui_r a2]
  have k0 : ∀ j, j ≠ 13 → mm_ui (mm_ui (mm_ui G 48 2 0) 0 13 0) 218 4 0 0 j = J 0 j := fun j hj => by rw [nb_ui_a (by decide), nb_ui_k hj, nb_ui_a (by decide), e 0 (by omega) (by omega) (by omega) (by omega) (by omega)]
  have hfin : ∀ b, b ≠ 0 → b ≠ 48 → b ≠ 218 → b ≠ 1 → b ≠ 40 → b ≠ 41 → b ≠ 42 → b ≠ 43 → mm_ui (mm_ui (mm_ui G 48 2 0) 0 13 0) 218 4 0 b = J b := fun b a1 a2 a3 a4 a5 a6 a7 a8 => by rw [e' b a1 a2 a3, e b a4 a5 a6 a7 a8]
  refine sq_ret ⟨?_, fun b hb => by rw [hfin b (by omega) (by omega) (by omega) (by omega) (by omega) (by omega) (by omega) (by omega)]; exact hcJ.2 b hb⟩
  obtain ⟨c1, c2, c3, c4, c5, c6, c7, c8, c9⟩ := hcJ.1
  have hB := zBs_lt h.2.1 nn hw.2
  refine ⟨hPs, ⟨⟨by omega, h.2.1, ?_, fun p q hp hq => ?_, zDi_rg _ 8, fun p hp => ⟨?_, hB p⟩, fun p hp => ?_, ?_, ?_⟩, fun p hp => ⟨?_, ?_⟩, ?_⟩, rc_laws_k c3 (k0 5 (by decide)) (k0 6 (by decide)) (fun i hi => ⟨by rw [hfin _ (by omega) (by omega) (by omega) (by omega) (by omega) (by omega) (by omega) (by omega)], hfin _ (by omega) (by omega) (by omega) (by omega) (by omega) (by omega) (by omega) (by omega)⟩), ⟨?_, ⟨?_, c4.2.1.2.1, ?_, Nat.zero_le _, fun i hi => absurd hi (Nat.not_lt_zero i)⟩, fun hh w a1 a2 a3 => ?_⟩, ⟨?_, Or.inl rfl, fun q => absurd q (by decide)⟩, ⟨?_, fun i hi => absurd hi (Nat.not_lt_zero i)⟩, ⟨?_, fun i hi => absurd hi (Nat.not_lt_zero i)⟩, ?_, fun k hk => ?_⟩
  · rw [hfin u (by omega) (by omega) (by omega) (by omega) (by omega) (by omega) (by omega) (by omega)]; exact z0
  · rw [hfin (u + 5) (by omega) (by omega) (by omega) (by omega) (by omega) (by omega) (by omega) (by omega)]; exact z5 p q hp hq
  · rw [hfin (u + 3) (by omega) (by omega) (by omega) (by omega) (by omega) (by omega) (by omega) (by omega)]; exact (z4 p hp).2.2.1
  · rw [hfin (u + 4) (by omega) (by omega) (by omega) (by omega) (by omega) (by omega) (by omega) (by omega)]; exact (z4 p hp).2.2.2
  · rw [hfin u (by omega) (by omega) (by omega) (by omega) (by omega) (by omega) (by omega) (by omega)]; exact z1
  · rw [hfin u (by omega) (by omega) (by omega) (by omega) (by omega) (by omega) (by omega) (by omega)]; exact z2
  · rw [hfin (u + 1) (by omega) (by omega) (by omega) (by omega) (by omega) (by omega) (by omega) (by omega)]; exact (z4 p hp).1
  · rw [hfin (u + 2) (by omega) (by omega) (by omega) (by omega) (by omega) (by omega) (by omega) (by omega)]; exact (z4 p hp).2.1
  · rw [hfin u (by omega) (by omega) (by omega) (by omega) (by omega) (by omega) (by omega) (by omega)]; exact z3
  · exact sq_cN_k hN (fun b a1 a2 => e' b (by omega) (by omega) (by omega))
  · rw [nb_ui_a (by decide), nb_ui_a (by decide), nb_ui_k (by decide), e 48 (by decide) (by decide) (by decide) (by decide) (by decide)]; exact c4.2.1.1
  · rw [nb_ui_a (by decide), nb_ui_a (by decide), nb_ui_s]; rfl
  · have a2' : hh < (zN0 np pl ru 29).toNat := a2
    have e29 : zN0 np pl ru 29 = 0 := rfl
    rw [e29] at a2'
    exact absurd a2' (Nat.not_lt_zero hh)
  · rw [nb_ui_a (by decide), nb_ui_s]
  · rw [nb_ui_s]; rfl
  · rw [e' 1 (by decide) (by decide) (by decide), hF 1 (by decide), nb_ui_s]; rfl
  · rw [k0 7 (by decide)]; exact c8
  · rw [hfin 238 (by omega) (by omega) (by omega) (by omega) (by omega) (by omega) (by omega) (by omega)]; exact c9 k hk
end TK
