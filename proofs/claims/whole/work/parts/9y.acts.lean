/-! acts: both do them alike -/
section AT
variable {s : Nat} {N : Nat → Int}
theorem rw_walk {B : Nat → Nat} {x : Int} (h : sv_ok s N) (hr : ra_walk s B N x = -1) : sv_ok s (rN_walk N x) ∧ rN_walk N x 29 = N 29 ∧ ∀ j, 30 ≤ j → rN_walk N x j = N j := by
  have e : ∀ j, j ≠ 24 → j ≠ 25 → rN_walk N x j = N j := fun j h1 h2 => by unfold rN_walk; rw [if_neg h1, if_neg h2]
  have e4 : rN_walk N x 24 = x := rfl
  have e5 : rN_walk N x 25 = N 25 - 1 := rfl
  unfold ra_walk at hr
  have c1 : 0 ≤ x ∧ x < s := Classical.byContradiction fun w => by rw [if_pos w] at hr; exact absurd hr (by decide)
  rw [if_neg (by simpa using c1)] at hr
  have c3 : ¬ N 25 < 1 := by
    intro w
    rw [if_pos w] at hr
    split at hr
    · exact absurd hr (by decide)
    · exact absurd hr (by decide)
  obtain ⟨h1, h2, h3, h4, h5, h6, h7⟩ := h
  refine ⟨⟨fun p hp => ?_, ?_, ?_, ?_, ?_, ?_, ?_⟩, e 29 (by decide) (by decide), fun j hj => e j (by omega) (by omega)⟩
  · rw [e p (by omega) (by omega), e (8 + p) (by omega) (by omega), e (16 + p) (by omega) (by omega)]; exact h1 p hp
  · rw [e4]; omega
  · rw [e5]; omega
  · rw [e 26 (by decide) (by decide)]; exact h4
  · rw [e 27 (by decide) (by decide)]; exact h5
  · rw [e 28 (by decide) (by decide)]; exact h6
  · rw [e 29 (by decide) (by decide)]; exact h7
theorem rw_cry0 (h : sv_ok s N) : sv_ok s (rN_cry0 N) := by
  have e : ∀ j, j ≠ 26 → rN_cry0 N j = N j := fun j h1 => by unfold rN_cry0; rw [if_neg h1]
  have e6 : rN_cry0 N 26 = 0 := rfl
  obtain ⟨h1, h2, h3, h4, h5, h6, h7⟩ := h
  refine ⟨fun p hp => ?_, ?_, ?_, ?_, ?_, ?_, ?_⟩
  · rw [e p (by omega), e (8 + p) (by omega), e (16 + p) (by omega)]; exact h1 p hp
  · rw [e 24 (by decide)]; exact h2
  · rw [e 25 (by decide)]; exact h3
  · rw [e6]; decide
  · rw [e 27 (by decide)]; exact h5
  · rw [e 28 (by decide)]; exact h6
  · rw [e 29 (by decide)]; exact h7
theorem rw_cry {D : Nat → Int} {v : Int} (h : sv_ok s N) : sv_ok s (sw_hush D v s (rN_cry0 N)) ∧ sw_hush D v s (rN_cry0 N) 29 = N 29 ∧ ∀ j, 30 ≤ j → sw_hush D v s (rN_cry0 N) j = N j := by
  have e : ∀ j, j ≠ 26 → rN_cry0 N j = N j := fun j h1 => by unfold rN_cry0; rw [if_neg h1]
  exact ⟨sw_hush_ok (rw_cry0 h), by rw [sw_hush_hi (by decide), e 29 (by decide)], fun j hj => by rw [sw_hush_hi (by omega), e j (by omega)]⟩
theorem rw_whi (h : sv_ok s N) (hs8 : s ≤ 8) (hr : ra_whi s N = -1) : sv_ok s (rN_whi N) ∧ rN_whi N 29 = N 29 ∧ ∀ j, 30 ≤ j → rN_whi N j = N j := by
  obtain ⟨h1, h2, h3, h4, h5, h6, h7⟩ := h
  unfold ra_whi at hr
  have c1 : ¬ s = 0 := fun w => by rw [if_pos w] at hr; exact absurd hr (by decide)
  rw [if_neg c1] at hr
  have c2 : ¬ N (16 + (N 24).toNat) < 1 := fun w => by rw [if_pos w] at hr; exact absurd hr (by decide)
  rw [if_neg c2] at hr
  have c3 : ¬ N 26 < 1 := fun w => by rw [if_pos w] at hr; exact absurd hr (by decide)
  have hq : (N 24).toNat < s := by omega
  have e : ∀ j, j ≠ 26 → j ≠ 16 + (N 24).toNat → rN_whi N j = N j := fun j a1 a2 => by unfold rN_whi; rw [if_neg a1, if_neg a2]
  have e6 : rN_whi N 26 = N 26 - 1 := rfl
  have eq : rN_whi N (16 + (N 24).toNat) = max 0 (N (16 + (N 24).toNat) - 3) := by unfold rN_whi; rw [if_neg (by omega), if_pos rfl]
  refine ⟨⟨fun p hp => ?_, ?_, ?_, ?_, ?_, ?_, ?_⟩, e 29 (by omega) (by omega), fun j hj => e j (by omega) (by omega)⟩
  · rw [e p (by omega) (by omega), e (8 + p) (by omega) (by omega)]
    have := h1 p hp
    by_cases c : p = (N 24).toNat
    · rw [c, eq]
      rw [c] at this
      refine ⟨this.1, this.2.1, by omega, fun w => by omega⟩
    · rw [e (16 + p) (by omega) (by omega)]; exact this
  · rw [e 24 (by omega) (by omega)]; exact h2
  · rw [e 25 (by omega) (by omega)]; exact h3
  · rw [e6]; omega
  · rw [e 27 (by omega) (by omega)]; exact h5
  · rw [e 28 (by omega) (by omega)]; exact h6
  · rw [e 29 (by omega) (by omega)]; exact h7
theorem rw_heir (h : sv_ok s N) (hr : ra_heir s N = -1) : sv_ok s (rN_heir N) ∧ rN_heir N 29 = N 29 ∧ ∀ j, 30 ≤ j → rN_heir N j = N j := by
  obtain ⟨h1, h2, h3, h4, h5, h6, h7⟩ := h
  unfold ra_heir at hr
  have c1 : ¬ s = 0 := fun w => by rw [if_pos w] at hr; exact absurd hr (by decide)
  rw [if_neg c1] at hr
  have c2 : ¬ 3 ≤ N 26 := fun w => by rw [if_pos w] at hr; exact absurd hr (by decide)
  rw [if_neg c2] at hr
  have c3 : ¬ N 27 < 5 := fun w => by rw [if_pos w] at hr; exact absurd hr (by decide)
  have e : ∀ j, j ≠ 24 → j ≠ 26 → j ≠ 27 → rN_heir N j = N j := fun j a1 a2 a3 => by unfold rN_heir; rw [if_neg a1, if_neg a2, if_neg a3]
  have e4 : rN_heir N 24 = 0 := rfl
  have e6 : rN_heir N 26 = 3 := rfl
  have e7 : rN_heir N 27 = N 27 - 5 := rfl
  refine ⟨⟨fun p hp => ?_, ?_, ?_, ?_, ?_, ?_, ?_⟩, e 29 (by omega) (by omega) (by omega), fun j hj => e j (by omega) (by omega) (by omega)⟩
  · rw [e p (by omega) (by omega) (by omega), e (8 + p) (by omega) (by omega) (by omega), e (16 + p) (by omega) (by omega) (by omega)]; exact h1 p hp
  · rw [e4]; omega
  · rw [e 25 (by omega) (by omega) (by omega)]; exact h3
  · rw [e6]; decide
  · rw [e7]; omega
  · rw [e 28 (by omega) (by omega) (by omega)]; exact h6
  · rw [e 29 (by omega) (by omega) (by omega)]; exact h7
theorem rw_give {x : Int} (h : sv_ok s N) (hr : ra_give s N x = -1) : sv_ok s (rN_give N x) ∧ rN_give N x 29 = N 29 ∧ ∀ j, 30 ≤ j → rN_give N x j = N j := by
  obtain ⟨h1, h2, h3, h4, h5, h6, h7⟩ := h
  unfold ra_give at hr
  have c1 : ¬ s = 0 := fun w => by rw [if_pos w] at hr; exact absurd hr (by decide)
  rw [if_neg c1] at hr
  have c2 : 1 ≤ x ∧ x ≤ 50 := Classical.byContradiction fun w => by rw [if_pos w] at hr; exact absurd hr (by decide)
  rw [if_neg (by simpa using c2)] at hr
  have c3 : ¬ 999 < N 27 + x := fun w => by rw [if_pos w] at hr; exact absurd hr (by decide)
  have e : ∀ j, j ≠ 27 → rN_give N x j = N j := fun j a1 => by unfold rN_give; rw [if_neg a1]
  have e7 : rN_give N x 27 = N 27 + x := rfl
  refine ⟨⟨fun p hp => ?_, ?_, ?_, ?_, ?_, ?_, ?_⟩, e 29 (by omega), fun j hj => e j (by omega)⟩
  · rw [e p (by omega), e (8 + p) (by omega), e (16 + p) (by omega)]; exact h1 p hp
  · rw [e 24 (by omega)]; exact h2
  · rw [e 25 (by omega)]; exact h3
  · rw [e 26 (by omega)]; exact h4
  · rw [e7]; omega
  · rw [e 28 (by omega)]; exact h6
  · rw [e 29 (by omega)]; exact h7
theorem rw_beg {p k z : Int} (h : sv_ok s N) (hs8 : s ≤ 8) (hr : ra_beg s N p k z = -1) : sv_ok s (sw_beg N p.toNat k z) ∧ sw_beg N p.toNat k z 29 = N 29 ∧ ∀ j, 30 ≤ j → sw_beg N p.toNat k z j = N j := by
  obtain ⟨h1, h2, h3, h4, h5, h6, h7⟩ := h
  unfold ra_beg at hr
  have c1 : 0 ≤ p ∧ p < s := Classical.byContradiction fun w => by rw [if_pos w] at hr; exact absurd hr (by decide)
  rw [if_neg (by simpa using c1)] at hr
  have c2 : (0 ≤ k ∧ k ≤ 2) ∧ 1 ≤ z ∧ z ≤ 9 := Classical.byContradiction fun w => by rw [if_pos w] at hr; exact absurd hr (by decide)
  have hq : p.toNat < s := by omega
  generalize p.toNat = q at hq
  have e : ∀ j, j ≠ 8 + q → j ≠ 16 + q → sw_beg N q k z j = N j := fun j a1 a2 => by unfold sw_beg; rw [if_neg a1, if_neg a2]
  have e1 : sw_beg N q k z (8 + q) = k := by unfold sw_beg; rw [if_pos rfl]
  have e2 : sw_beg N q k z (16 + q) = z := by unfold sw_beg; rw [if_neg (by omega), if_pos rfl]
  refine ⟨⟨fun a ha => ?_, ?_, ?_, ?_, ?_, ?_, ?_⟩, e 29 (by omega) (by omega), fun j hj => e j (by omega) (by omega)⟩
  · have := h1 a ha
    rw [e a (by omega) (by omega)]
    by_cases c : a = q
    · subst c
      rw [e1, e2]
      exact ⟨this.1, by omega, by omega, fun w => by omega⟩
    · rw [e (8 + a) (by omega) (by omega), e (16 + a) (by omega) (by omega)]; exact this
  · rw [e 24 (by omega) (by omega)]; exact h2
  · rw [e 25 (by omega) (by omega)]; exact h3
  · rw [e 26 (by omega) (by omega)]; exact h4
  · rw [e 27 (by omega) (by omega)]; exact h5
  · rw [e 28 (by omega) (by omega)]; exact h6
  · rw [e 29 (by omega) (by omega)]; exact h7
end AT
/-- a refusal told in both -/
def rfu (rf : Nat → Int) (r : Int) : Nat → Int := fun k => if k = r.toNat then mm_add (rf r.toNat) 1 else rf k
theorem fC_238 {t nl k : Nat} {z : Int} {I : mm_I} (ht : 7 ≤ t ∧ t ≤ 13) (hnl : nl ≤ 4) : (∀ b, b ≠ 238 → mm_ui I 238 k z b = I b) := fun b hb => nb_ui_r hb
section RF
variable {n t u s nl ck : Nat} {P : mm_P} {I : mm_I} {D W K NI cm co rf : Nat → Int} {B cp ch : Nat → Nat} {g v cn hl kf pe : Int} {es : Nat → rL} {x : sT} {LgI : Nat → Nat → Int} {tp : (Nat → Int) × Nat}
theorem RC_rf {r : Int} (hr : 0 ≤ r ∧ r ≤ 4) (h : RC n P I t u (s, D, B, g, v, W, K, cn, nl, hl, es, x, kf, NI, LgI, ck, cp, ch, cm, co, tp, pe, rf)) (hS : RS (s, D, B, g, v, W, K, cn, nl, hl, es, x, kf, NI, LgI, ck, cp, ch, cm, co, tp, pe, rf)) : RC n P (mm_ui I 238 r.toNat (mm_add (I 238 r.toNat) 1)) t u (s, D, B, g, v, W, K, cn, nl, hl, es, x, kf, NI, LgI, ck, cp, ch, cm, co, tp, pe, rfu rf r) := by
  have ht := RC_t h
  have hnl : nl ≤ 4 := hS.2.1.1
  obtain ⟨h1, h2, h3, h4, h5, h6, h7, h8, h9⟩ := h
  have e : ∀ b, b ≠ 238 → mm_ui I 238 r.toNat (mm_add (I 238 r.toNat) 1) b = I b := fun b hb => nb_ui_r hb
  refine ⟨h1, rc_town_k h2 (fun b a1 a2 => e b (by omega)), rc_laws_k h3 (by rw [e 0 (by decide)]) (by rw [e 0 (by decide)]) (fun i hi => ⟨by rw [e _ (by omega)], e _ (by omega)⟩), rc_T_k h4 (fun b a1 a2 => e b (by omega)), rc_img_k h5 (by rw [e 0 (by decide)]) (fun b a1 a2 => e b (by omega)), sq_CK_k h6 (fun b a1 a2 => e b (by omega)), rc_tape_k h7 (by rw [e 1 (by decide)]) (e 2 (by decide)), by rw [e 0 (by decide)]; exact h8, fun k hk => ?_⟩
  unfold rfu
  by_cases c : k = r.toNat
  · rw [c, nb_ui_s, if_pos rfl, h9 r.toNat (by omega)]
  · rw [nb_ui_k c, if_neg c]; exact h9 k hk
theorem RM_rf {r : Int} (hr : 0 ≤ r ∧ r ≤ 4) (h : RM n P I (s, D, B, g, v, W, K, cn, nl, hl, es, x, kf, NI, LgI, ck, cp, ch, cm, co, tp, pe, rf)) : RM n P (mm_ui I 258 r.toNat (mm_add (I 258 r.toNat) 1)) (s, D, B, g, v, W, K, cn, nl, hl, es, x, kf, NI, LgI, ck, cp, ch, cm, co, tp, pe, rfu rf r) := by
  obtain ⟨h1, h2, h3, h4, h5, h6, h7, h8, h9⟩ := h
  have e : ∀ b, b ≠ 258 → mm_ui I 258 r.toNat (mm_add (I 258 r.toNat) 1) b = I b := fun b hb => nb_ui_r hb
  refine ⟨h1, rm_town_k h2 (fun b a1 a2 => e b (by omega)) (by rw [e 239 (by decide)]), rm_laws_k h3 (by rw [e 239 (by decide)]) (by rw [e 239 (by decide)]) (fun b a1 a2 => e b (by omega)), rm_T_k h4 (fun j _ => by rw [e 257 (by decide)]) (e 260 (by decide)) (by rw [e 239 (by decide)]), rm_img_k h5 (by rw [e 239 (by decide)]) (e 268 (by decide)), sq_MK_k h6 (by rw [e 239 (by decide)]) (fun b a1 a2 => e b (by omega)), rm_tape_k h7 (by rw [e 239 (by decide)]) (e 240 (by decide)), by rw [e 239 (by decide)]; exact h8, fun k hk => ?_⟩
  unfold rfu
  by_cases c : k = r.toNat
  · rw [c, nb_ui_s, if_pos rfl, h9 r.toNat (by omega)]
  · rw [nb_ui_k c, if_neg c]; exact h9 k hk
/-- time goes another way, the rest stays -/
theorem RC_tm {I' : mm_I} {x' : sT} (h : RC n P I t u (s, D, B, g, v, W, K, cn, nl, hl, es, x, kf, NI, LgI, ck, cp, ch, cm, co, tp, pe, rf)) (hS : RS (s, D, B, g, v, W, K, cn, nl, hl, es, x, kf, NI, LgI, ck, cp, ch, cm, co, tp, pe, rf)) (hT : rc_T I' x') (f : ∀ b, (b < 20 ∨ b = 21 ∨ b = 25 ∨ b = 29 ∨ b = 33 ∨ (36 ≤ b ∧ b < 40) ∨ (210 ≤ b ∧ b ≤ 238)) → I' b = I b) (f2 : ∀ b, b ∈ [20, 24, 28, 32] → I' b 1 = I b 1) : RC n P I' t u (s, D, B, g, v, W, K, cn, nl, hl, es, x', kf, NI, LgI, ck, cp, ch, cm, co, tp, pe, rf) := by
  have ht := RC_t h
  have hnl : nl ≤ 4 := hS.2.1.1
  obtain ⟨h1, h2, h3, h4, h5, h6, h7, h8, h9⟩ := h
  refine ⟨h1, rc_town_k h2 (fun b a1 a2 => f b (by omega)), rc_laws_k h3 (by rw [f 0 (by omega)]) (by rw [f 0 (by omega)]) (fun i hi => ⟨?_, f _ (by omega)⟩), hT, rc_img_k h5 (by rw [f 0 (by omega)]) (fun b a1 a2 => f b (by omega)), sq_CK_k h6 (fun b a1 a2 => f b (by omega)), rc_tape_k h7 (by rw [f 1 (by omega)]) (f 2 (by omega)), by rw [f 0 (by omega)]; exact h8, fun k hk => by rw [f 238 (by omega)]; exact h9 k hk⟩
  have : i = 0 ∨ i = 1 ∨ i = 2 ∨ i = 3 := by omega
  rcases this with e | e | e | e <;> subst e
  · exact f2 20 (by decide)
  · exact f2 24 (by decide)
  · exact f2 28 (by decide)
  · exact f2 32 (by decide)
theorem RM_tm {I' : mm_I} {x' : sT} (h : RM n P I (s, D, B, g, v, W, K, cn, nl, hl, es, x, kf, NI, LgI, ck, cp, ch, cm, co, tp, pe, rf)) (hT : rm_T I' x') (f : ∀ b, b ∉ [239, 248, 249, 257, 259, 260] → I' b = I b) (f2 : ∀ j, j ≠ 33 → I' 239 j = I 239 j) : RM n P I' (s, D, B, g, v, W, K, cn, nl, hl, es, x', kf, NI, LgI, ck, cp, ch, cm, co, tp, pe, rf) := by
  obtain ⟨h1, h2, h3, h4, h5, h6, h7, h8, h9⟩ := h
  have e : ∀ b, (b ≠ 239 ∧ b ≠ 248 ∧ b ≠ 249 ∧ b ≠ 257 ∧ b ≠ 259 ∧ b ≠ 260) → I' b = I b := fun b hb => f b (by simp only [List.mem_cons, List.not_mem_nil, or_false]; omega)
  exact ⟨h1, rm_town_k h2 (fun b a1 a2 => e b (by omega)) (f2 26 (by decide)), rm_laws_k h3 (f2 13 (by decide)) (f2 29 (by decide)) (fun b a1 a2 => e b (by omega)), hT, rm_img_k h5 (f2 46 (by decide)) (e 268 (by decide)), sq_MK_k h6 (f2 42 (by decide)) (fun b a1 a2 => e b (by omega)), rm_tape_k h7 (f2 2 (by decide)) (e 240 (by decide)), by rw [f2 30 (by decide)]; exact h8, fun k hk => by rw [e 258 (by decide)]; exact h9 k hk⟩
theorem RS_tm {x' : sT} (hS : RS (s, D, B, g, v, W, K, cn, nl, hl, es, x, kf, NI, LgI, ck, cp, ch, cm, co, tp, pe, rf)) (h : rs_T s x') : RS (s, D, B, g, v, W, K, cn, nl, hl, es, x', kf, NI, LgI, ck, cp, ch, cm, co, tp, pe, rf) := ⟨hS.1, hS.2.1, h, hS.2.2.2⟩
theorem RS_rf {rf' : Nat → Int} (hS : RS (s, D, B, g, v, W, K, cn, nl, hl, es, x, kf, NI, LgI, ck, cp, ch, cm, co, tp, pe, rf)) : RS (s, D, B, g, v, W, K, cn, nl, hl, es, x, kf, NI, LgI, ck, cp, ch, cm, co, tp, pe, rf') := ⟨hS.1, hS.2.1, hS.2.2.1, hS.2.2.2.1, hS.2.2.2.2.1, hS.2.2.2.2.2⟩
end RF
set_option maxHeartbeats 2000000 in
theorem RJ_act {y1 y2 : Nat} {a : List mm_V} (r : Nat → (Nat → Int) → (Nat → Nat) → Int → (Nat → Int) → Int) (N' : Nat → (Nat → Int) → (Nat → Nat) → Int → (Nat → Int) → Nat → Int) (z : Nat → (Nat → Int) → (Nat → Nat) → Int → (Nat → Int) → Int)
    (Hr : ∀ s D B v N, r s D B v N ≠ -1 → 0 ≤ r s D B v N ∧ r s D B v N ≤ 4)
    (Hok : ∀ s D B v N, s ≤ 8 → sv_ok s N → r s D B v N = -1 → sv_ok s (N' s D B v N) ∧ N' s D B v N 29 = N 29 ∧ ∀ j, 30 ≤ j → N' s D B v N j = N j)
    (Hc : ∀ (d n : Nat) (P : mm_P) (I L : mm_I) (t u s : Nat) (D : Nat → Int) (B : Nat → Nat) (g v : Int) (lw : Option Nat) (ev : sv_E) (N : Nat → Int) (nx na : Nat) (H : Nat → Nat → Int), sq_CC n 5 P I t u s D B g v lw ev N → rc_past I nx na H → sq_X (some (.inl (z s D B v N))) n L P (sq_AC nx na H N (N' s D B v N) (r s D B v N) I) (mm_rn (d + 10) y1 (.inr (.inr (some 0)) :: a) n I L P))
    (Hm : ∀ (d n : Nat) (P : mm_P) (I L : mm_I) (s : Nat) (D : Nat → Int) (B : Nat → Nat) (g v : Int) (ev : sv_E) (N : Nat → Int) (na : Nat) (H : Nat → Nat → Int), sq_MM n 5 P I s D B g v ev N → rm_past I na H → sq_X (some (.inl (z s D B v N))) n L P (sq_AM na H N (N' s D B v N) (r s D B v N) I) (mm_rn (d + 10) y2 (.inr (.inr (some 239)) :: a) n I L P)) : RJ y1 y2 a := by
  refine RJ_of (fun d n P I L t u σ hd hc hm hs hz => ?_)
  obtain ⟨s, D, B, g, v, W, K, cn, nl, hl, es, x, kf, NI, LgI, ck, cp, ch, cm, co, tp, pe, rf⟩ := σ
  obtain ⟨e, rfl⟩ : ∃ e, d = e + 10 := ⟨d - 10, by omega⟩
  obtain ⟨lw, hC⟩ := CC_of hc hs
  have h1 := Hc e n P I L t u s D B g v lw (evo hl es) x.1 x.2.2.2.1 x.2.1 x.2.2.1 hC hc.2.2.2.1.2.1
  have hs8 : s ≤ 8 := hs.1.1
  have ht := RC_t hc
  by_cases hr : r s D B v x.1 = -1
  · obtain ⟨k1, k2, k3⟩ := Hok s D B v x.1 hs8 hs.2.2.1.1 hr
    have hsT : rs_T s x := hs.2.2.1
    have h9 := hsT.2.1
    have hrs : rs_T s (sh_act x (N' s D B v x.1)) := rs_act hsT k1 (by omega) (sl_ok_eq hsT.2.2.1 k2 k3) (by omega) (fun h w _ => rfl)
    have hol := sl_old_act hsT (N' s D B v x.1) (sk_nx x.2.2.2.1) x.2.2.2.2
    refine ⟨z s D B v x.1, t, u, (s, D, B, g, v, W, K, cn, nl, hl, es, sh_act x (N' s D B v x.1), kf, NI, LgI, ck, cp, ch, cm, co, tp, pe, rf), P, rfl, RS_tm hs hrs, sq_mono h1 (fun I' hI => ?_), fun J hJ => ⟨L, sq_mono (Hm e n P J L s D B g v (evo hl es) x.1 x.2.1 x.2.2.1 (MM_of hJ hs) hJ.2.2.2.1.2) (fun I' hI => ?_)⟩⟩
    · obtain ⟨q1, q2, q3⟩ := hI.1 hr
      refine ⟨RC_tm hc hs ⟨q1, q2, fun h w a1 a2 a3 => ?_⟩ (fun b hb => q3 b (by omega)) (fun b hb => by
        have : b = 20 ∨ b = 24 ∨ b = 28 ∨ b = 32 := by simpa using hb
        rw [q3 b (by omega)]), fun b hb => q3 b (by omega)⟩
      have a2' : h < (N' s D B v x.1 29).toNat := a2
      rw [q3 (45 + w) (by omega)]
      exact hc.2.2.2.1.2.2 h w (by have : sl_old (sh_act x (N' s D B v x.1)) - 60 ≤ h := a1; have h2 : sl_old x ≤ sl_old (sh_act x (N' s D B v x.1)) := hol.1; omega) (by rw [k2] at a2'; exact a2') a3
    · obtain ⟨q1, q2, q3, q4⟩ := hI.1 hr
      refine ⟨RM_tm hJ ⟨q1, q2⟩ (fun b hb => ?_) q4, fun b hb => q3 b (by omega) (by omega) (by omega)⟩
      simp only [List.mem_cons, List.not_mem_nil, or_false, not_or] at hb
      exact q3 b (by omega) (by omega) (by omega)
  · have hr2 := Hr s D B v x.1 hr
    refine ⟨z s D B v x.1, t, u, (s, D, B, g, v, W, K, cn, nl, hl, es, x, kf, NI, LgI, ck, cp, ch, cm, co, tp, pe, rfu rf (r s D B v x.1)), P, rfl, RS_rf hs, sq_mono h1 (fun I' hI => ?_), fun J hJ => ⟨L, sq_mono (Hm e n P J L s D B g v (evo hl es) x.1 x.2.1 x.2.2.1 (MM_of hJ hs) hJ.2.2.2.1.2) (fun I' hI => ?_)⟩⟩
    · rw [hI.2 hr]
      exact ⟨RC_rf hr2 hc hs, fun b hb => nb_ui_r (by omega)⟩
    · rw [hI.2 hr]
      exact ⟨RM_rf hr2 hJ, fun b hb => nb_ui_r (by omega)⟩
theorem J_walk (y : Int) : RJ 101 209 [.inl y] := RJ_act (fun s D B v N => ra_walk s B N y) (fun s D B v N => rN_walk N y) (fun s D B v N => if ra_walk s B N y = -1 then N 25 - 1 else -1)
  (fun s D B v N h => by simp only [ra_walk] at h ⊢; grind) (fun s D B v N _ h hr => rw_walk h hr) (fun d n P I L t u s D B g v lw ev N nx na H h1 h2 => oa_walk h1 h2 y) (fun d n P I L s D B g v ev N na H h1 h2 => ob_walk h1 h2 y)
theorem J_cry : RJ 102 211 [] := RJ_act (fun s D B v N => ra_cry s N) (fun s D B v N => sw_hush D v s (rN_cry0 N)) (fun s D B v N => if ra_cry s N = -1 then (sp_pc (sw_m D v s (rN_cry0 N)) : Nat) else -1)
  (fun s D B v N h => by simp only [ra_cry] at h ⊢; grind) (fun s D B v N _ h hr => rw_cry h) (fun d n P I L t u s D B g v lw ev N nx na H h1 h2 => oa_cry h1 h2) (fun d n P I L s D B g v ev N na H h1 h2 => ob_cry h1 h2)
theorem J_whi : RJ 103 212 [] := RJ_act (fun s D B v N => ra_whi s N) (fun s D B v N => rN_whi N) (fun s D B v N => if ra_whi s N = -1 then max 0 (N (16 + (N 24).toNat) - 3) else -1)
  (fun s D B v N h => by simp only [ra_whi] at h ⊢; grind) (fun s D B v N h8 h hr => rw_whi h h8 hr) (fun d n P I L t u s D B g v lw ev N nx na H h1 h2 => oa_whi h1 h2) (fun d n P I L s D B g v ev N na H h1 h2 => ob_whi h1 h2)
theorem J_heir : RJ 104 213 [] := RJ_act (fun s D B v N => ra_heir s N) (fun s D B v N => rN_heir N) (fun s D B v N => if ra_heir s N = -1 then N 27 - 5 else -1)
  (fun s D B v N h => by simp only [ra_heir] at h ⊢; grind) (fun s D B v N h8 h hr => rw_heir h hr) (fun d n P I L t u s D B g v lw ev N nx na H h1 h2 => oa_heir h1 h2) (fun d n P I L s D B g v ev N na H h1 h2 => ob_heir h1 h2)
theorem J_give (y : Int) : RJ 106 216 [.inl y] := RJ_act (fun s D B v N => ra_give s N y) (fun s D B v N => rN_give N y) (fun s D B v N => if ra_give s N y = -1 then N 27 + y else -1)
  (fun s D B v N h => by simp only [ra_give] at h ⊢; grind) (fun s D B v N h8 h hr => rw_give h hr) (fun d n P I L t u s D B g v lw ev N nx na H h1 h2 => oa_give h1 h2 y) (fun d n P I L s D B g v ev N na H h1 h2 => ob_give h1 h2 y)
theorem J_beg (p k z : Int) : RJ 105 215 [.inl p, .inl k, .inl z] := RJ_act (fun s D B v N => ra_beg s N p k z) (fun s D B v N => sw_beg N p.toNat k z) (fun s D B v N => if ra_beg s N p k z = -1 then (sp_pc (sv_am (sw_beg N p.toNat k z) s) : Nat) else -1)
  (fun s D B v N h => by simp only [ra_beg] at h ⊢; grind) (fun s D B v N h8 h hr => rw_beg h h8 hr) (fun d n P I L t u s D B g v lw ev N nx na H h1 h2 => oa_beg h1 h2 p k z) (fun d n P I L s D B g v ev N na H h1 h2 => ob_beg h1 h2 p k z)
