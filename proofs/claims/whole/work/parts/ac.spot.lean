/-! spot: answers and throws alike -/
theorem zq_kr {d y nx : Nat} {lv : List mm_V} {ll : List (Option Int)} {st : List mm_V} {n n' : Nat} {v : mm_V} {I L : mm_I} {P : mm_P} (h : n ≤ n') : mm_kr d y nx lv ll st n (some (some v, n', I, L, P)) = mm_E d y nx lv ll (v :: st) n' I L P := by
  show (if n ≤ n' then _ else _) = _
  rw [if_pos h]
theorem sq_P_mono {n n' t u : Nat} {P : mm_P} (h : sq_P n P t u) (hn : n ≤ n') : sq_P n' P t u := by
  obtain ⟨h1, h2, h3, h4, h5, h6, h7⟩ := h
  have hT : ∀ a, sp_T n P a → sp_T n' P a := fun a q => ⟨by have := q.1; omega, q.2⟩
  exact ⟨by omega, h2, ⟨by have := h3.1; omega, h3.2⟩, hT t h4, hT u h5, fun a ha => ⟨by have := (h6 a ha).1; omega, (h6 a ha).2⟩, h7⟩
theorem RR_mono {n n' : Nat} {P : mm_P} {I : mm_I} (h : RR n P I) (hn : n ≤ n') : RR n' P I := by
  obtain ⟨t, u, σ, h1, h2, h3, h4⟩ := h
  obtain ⟨s, D, B, g, v, W, K, cn, nl, hl, es, x, kf, NI, LgI, ck, cp, ch, cm, co, tp, pe, rf⟩ := σ
  refine ⟨t, u, (s, D, B, g, v, W, K, cn, nl, hl, es, x, kf, NI, LgI, ck, cp, ch, cm, co, tp, pe, rf), ⟨sq_P_mono h1.1 hn, h1.2⟩, ⟨⟨by have := h2.1.1; omega, h2.1.2⟩, h2.2⟩, h3, h4⟩
theorem RR_n {n : Nat} {P : mm_P} {I : mm_I} (h : RR n P I) : 270 ≤ n := by
  obtain ⟨t, u, σ, h1, h2, h3, h4⟩ := h
  exact (RC_t h1).2.2.1
theorem RR_f0 {n : Nat} {P : mm_P} {I : mm_I} {z : Int} (h : RR n P I) : RR n P (mm_ui I 239 0 z) := by
  obtain ⟨t, u, σ, h1, h2, h3, h4⟩ := h
  refine ⟨t, u, σ, RC_lo h1 h3 (fun b hb => nb_ui_r (by omega)), RM_fr h2 ⟨fun j hj => nb_ui_k (by omega), fun b a1 a2 => nb_ui_r (by omega), fun b a1 a2 a3 => nb_ui_r (by omega), fun j _ => nb_ui_a (by decide), nb_ui_r (by decide), fun b a1 a2 => nb_ui_r (by omega), nb_ui_r (by decide)⟩, h3, h4.fr (fun b b1 b2 => nb_ui_r (by omega))⟩
theorem pr_281 {d n : Nat} {I L I' L' : mm_I} {P P' : mm_P} {p w z : Int} {n' : Nat} (hn : 270 ≤ n) (h : mm_rn d 93 [.inr (.inr (some 0)), .inl p, .inl w] n I L P = some (some (.inl z), n', I', L', P')) : mm_rn (d + 1) 281 [.inr (.inr (some 0)), .inl p, .inl w, .inr (.inr (some 269))] n I L P = some (some (.inl 0), n', I', mm_ui L' 269 0 z, P') := by
  show mm_prim (mm_rn d) 281 [.inr (.inr (some 0)), .inl p, .inl w, .inr (.inr (some 269))] n I L P = _
  unfold mm_prim
  rw [if_neg (by decide)]
  have hc : (0 < n ∧ (mm_ty 0).1 = 11) ∧ 269 < n ∧ (mm_ty 269).1 = 22 := ⟨⟨by omega, by decide +kernel⟩, by omega, by decide +kernel⟩
  simp only [if_pos hc]
  have hy : mm_ySpot = 93 := rfl
  rw [hy, h]
theorem pr_281t {d n : Nat} {I L I' L' : mm_I} {P P' : mm_P} {p w : Int} {n' : Nat} (hn : 270 ≤ n) (h : mm_rn d 93 [.inr (.inr (some 0)), .inl p, .inl w] n I L P = some (some (.inr (.inr (some 66666666))), n', I', L', P')) : mm_rn (d + 1) 281 [.inr (.inr (some 0)), .inl p, .inl w, .inr (.inr (some 269))] n I L P = some (some (.inl 1), n', I', L', P') := by
  show mm_prim (mm_rn d) 281 [.inr (.inr (some 0)), .inl p, .inl w, .inr (.inr (some 269))] n I L P = _
  unfold mm_prim
  rw [if_neg (by decide)]
  have hc : (0 < n ∧ (mm_ty 0).1 = 11) ∧ 269 < n ∧ (mm_ty 269).1 = 22 := ⟨⟨by omega, by decide +kernel⟩, by omega, by decide +kernel⟩
  simp only [if_pos hc]
  have hy : mm_ySpot = 93 := rfl
  rw [hy, h]
  first | rfl | simp
theorem zm_thrown {d n : Nat} {I L : mm_I} {P : mm_P} {k : Int} (ok : mm_ok n 239 12) (h : I 239 0 = k) : mm_rn (d + 1) 148 [.inr (.inr (some 239))] n I L P = some (some (.inl k), n, I, L, P) := by
  rw [eX12_thrown]
  simp (disch := (first | assumption | omega | exact nb_ix (by omega) (by assumption) (by omega) (by omega) | exact nb_ix (by omega) rfl (by omega) (by omega) | exact nb_ok (by omega) rfl | decide)) only [kX12_thrown, h, ↓if_pos, ↓if_neg, nb_add, nb_sub, nb_mul, Int.toNat_natCast, mm_kr_s, mm_kv_s, if_pos, if_neg, sq_tn, Int.toNat_zero, Int.reduceToNat, Int.reduceNeg, Nat.reduceAdd, Int.reduceAdd, Int.reduceEq, Int.reduceLT, Int.reduceLE, Int.zero_add, nb_ui_s, nb_ui_k, nb_ui_a, sp_min, sp_max, sp_bits]
theorem J_spot (p w : Int) : ∀ (d n : Nat) (P : mm_P) (I L : mm_I), 60 ≤ d → RR n P I → ∃ (k b : Int) (n' : Nat) (I2 L1 : mm_I), (k = 0 ∨ k = 1) ∧ n ≤ n' ∧ n' ≤ n + 1 ∧ mm_rn d 281 [.inr (.inr (some 0)), .inl p, .inl w, .inr (.inr (some 269))] n I L P = some (some (.inl k), n', I, L1, P) ∧ mm_rn d 201 [.inr (.inr (some 239)), .inl p, .inl w] n' I L1 P = some (some (.inl b), n', I2, L1, P) ∧ mm_rn d 148 [.inr (.inr (some 239))] n' I2 L1 P = some (some (.inl k), n', I2, L1, P) ∧ (k = 0 → L1 269 0 = b) ∧ RR n' P I2 ∧ (∀ b, 270 ≤ b → I2 b = I b) := by
  intro d n P I L hd hR
  have hn := RR_n hR
  have hR0 := hR
  obtain ⟨t, u, σ, hc, hm, hs, hz⟩ := hR
  obtain ⟨s, D, B, g, v, W, K, cn, nl, hl, es, x, kf, NI, LgI, ck, cp, ch, cm, co, tp, pe, rf⟩ := σ
  obtain ⟨lw, hC⟩ := CC_of hc hs
  obtain ⟨e, rfl⟩ : ∃ e, d = e + 11 := ⟨d - 11, by omega⟩
  obtain ⟨c1, c2⟩ := oc_spot (d := e) (L := L) hC (fun p hp => (hc.2.1.2.1 p hp).2) p w
  have ok : ∀ m, n ≤ m → mm_ok m 239 12 := fun m h => ⟨by omega, by decide +kernel⟩
  by_cases hr : (0 ≤ p ∧ p < (s : Int)) ∧ 0 ≤ w ∧ w ≤ 4
  · obtain ⟨m1, m2⟩ := om_spot (d := e + 1) (L := mm_ui L 269 0 (sa_spot B K x.1 p.toNat w)) (MM_of hm hs) (fun p hp => (hm.2.1.2.1 p hp).2) p w
    refine ⟨0, _, n, _, _, Or.inl rfl, Nat.le_refl n, by omega, pr_281 (d := e + 10) hn (c1 hr), m1 hr, zm_thrown (d := e + 10) (ok n (Nat.le_refl n)) nb_ui_s, fun _ => nb_ui_s, RR_f0 hR0, fun b hb => nb_ui_r (by omega)⟩
  · have hR1 : RR (n + 1) P I := RR_mono hR0 (by omega)
    have hm1 : RM (n + 1) P I (s, D, B, g, v, W, K, cn, nl, hl, es, x, kf, NI, LgI, ck, cp, ch, cm, co, tp, pe, rf) := ⟨⟨by have := hm.1.1; omega, hm.1.2⟩, hm.2⟩
    obtain ⟨m1, m2⟩ := om_spot (d := e + 1) (L := L) (MM_of hm1 hs) (fun p hp => (hm1.2.1.2.1 p hp).2) p w
    refine ⟨1, _, n + 1, _, _, Or.inr rfl, by omega, by omega, pr_281t (d := e + 10) hn (c2 hr), m2 hr, zm_thrown (d := e + 10) (ok (n + 1) (by omega)) nb_ui_s, fun q => absurd q (by decide), RR_f0 hR1, fun b hb => nb_ui_r (by omega)⟩
