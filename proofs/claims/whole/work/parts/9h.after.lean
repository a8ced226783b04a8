/-! behind a clause's condition: the sum that it guards, both halves at once -/
def zlF (x c0 k0 : Nat) (I I' : mm_I) : Prop := (∀ b, b ≠ 239 → (b < 241 ∨ 247 < b) → I' b = I b) ∧ (∀ k, k ≠ 3 → k ≠ 4 → k ≠ 5 → I' 239 k = I 239 k) ∧ (∀ k, k ≠ x → I' 243 k = I 243 k ∧ I' 244 k = I 244 k) ∧ (∀ k, (k < 520 * x + c0 ∨ 520 * x + 520 ≤ k) → I' 241 k = I 241 k ∧ I' 242 k = I 242 k) ∧ (∀ k, (k < 140 * x + k0 ∨ 140 * x + 140 ≤ k) → I' 245 k = I 245 k ∧ I' 246 k = I 246 k ∧ I' 247 k = I 247 k)
theorem zlF.refl (x c0 k0 : Nat) (I : mm_I) : zlF x c0 k0 I I := ⟨fun _ _ _ => rfl, fun _ _ _ _ => rfl, fun _ _ => ⟨rfl, rfl⟩, fun _ _ => ⟨rfl, rfl⟩, fun _ _ => ⟨rfl, rfl, rfl⟩⟩
theorem zlF.tr {x c0 c1 k0 k1 : Nat} {I J K : mm_I} (h : zlF x c0 k0 I J) (h2 : zlF x c1 k1 J K) (hc : c0 ≤ c1) (hk : k0 ≤ k1) : zlF x c0 k0 I K := by
  obtain ⟨a1, a2, a3, a4, a5⟩ := h
  obtain ⟨b1, b2, b3, b4, b5⟩ := h2
  refine ⟨fun b h3 h4 => by rw [b1 b h3 h4, a1 b h3 h4], fun k h3 h4 h5 => by rw [b2 k h3 h4 h5, a2 k h3 h4 h5], fun k hk => ?_, fun k hk => ?_, fun k hk => ?_⟩
  · rw [(b3 k hk).1, (b3 k hk).2]; exact a3 k hk
  · rw [(b4 k (by omega)).1, (b4 k (by omega)).2]; exact a4 k hk
  · rw [(b5 k (by omega)).1, (b5 k (by omega)).2.1, (b5 k (by omega)).2.2]; exact a5 k hk
theorem zmF.zl {x c0 : Nat} (k0 : Nat) {I J : mm_I} (h : zmF x c0 I J) : zlF x c0 k0 I J := by
  obtain ⟨a1, a2, a3, a4⟩ := h
  refine ⟨fun b h3 h4 => a1 b h3 (by omega) (by omega) (by omega), a2, fun k hk => ⟨a3 k hk, ?_⟩, a4, fun k hk => ⟨?_, ?_, ?_⟩⟩
  · rw [a1 244 (by decide) (by decide) (by decide) (by decide)]
  · rw [a1 245 (by decide) (by decide) (by decide) (by decide)]
  · rw [a1 246 (by decide) (by decide) (by decide) (by decide)]
  · rw [a1 247 (by decide) (by decide) (by decide) (by decide)]
theorem zlF.up {x c0 k0 b k : Nat} {z : Int} {I J : mm_I} (h : zlF x c0 k0 I J) (hb : b = 245 ∨ b = 246 ∨ b = 247) (hk1 : 140 * x + k0 ≤ k) (hk2 : k < 140 * x + 140) : zlF x c0 k0 I (mm_ui J b k z) := by
  obtain ⟨a1, a2, a3, a4, a5⟩ := h
  refine ⟨fun c h3 h4 => by rw [nb_ui_r (by omega)]; exact a1 c h3 h4, fun j h3 h4 h5 => by rw [nb_ui_a (by omega)]; exact a2 j h3 h4 h5, fun j hj => ?_, fun j hj => ?_, fun j hj => ?_⟩
  · rw [nb_ui_a (by omega), nb_ui_a (by omega)]; exact a3 j hj
  · rw [nb_ui_a (by omega), nb_ui_a (by omega)]; exact a4 j hj
  · have hne : j ≠ k := by omega
    rcases hb with e | e | e <;> subst e
    · rw [nb_ui_k hne, nb_ui_a (by decide), nb_ui_a (by decide)]; exact a5 j hj
    · rw [nb_ui_k hne, nb_ui_a (by decide), nb_ui_a (by decide)]; exact a5 j hj
    · rw [nb_ui_k hne, nb_ui_a (by decide), nb_ui_a (by decide)]; exact a5 j hj
theorem zlF.cn {x c0 k0 : Nat} {z : Int} {I J : mm_I} (h : zlF x c0 k0 I J) : zlF x c0 k0 I (mm_ui J 244 x z) := by
  obtain ⟨a1, a2, a3, a4, a5⟩ := h
  refine ⟨fun c h3 h4 => by rw [nb_ui_r (by omega)]; exact a1 c h3 h4, fun j h3 h4 h5 => by rw [nb_ui_a (by decide)]; exact a2 j h3 h4 h5, fun j hj => ?_, fun j hj => ?_, fun j hj => ?_⟩
  · rw [nb_ui_a (by decide), nb_ui_k hj]; exact a3 j hj
  · rw [nb_ui_a (by decide), nb_ui_a (by decide)]; exact a4 j hj
  · rw [nb_ui_a (by decide), nb_ui_a (by decide), nb_ui_a (by decide)]; exact a5 j hj
theorem zlF.zm {n : Nat} {P : mm_P} {x c0 k0 S : Nat} {T : Nat → Int} {I J : mm_I} (h : zlF x c0 k0 I J) (hz : zm n P I T S) : zm n P J T S := by
  obtain ⟨a1, a3, a4, a5, a6⟩ := hz
  exact ⟨a1, by rw [h.2.1 2 (by decide) (by decide) (by decide)]; exact a3, a4, fun i hi => by rw [h.1 240 (by decide) (by decide)]; exact a5 i hi, a6⟩
/-- the class: SKIP, the sum, ANSWER -/
def zaC (a c1 : Nat) (I I' : mm_I) : zo → Prop
  | .inl p => I' 1 2 = (p : Int) ∧ zcF a I I'
  | .inr q => I' 1 2 = (q.1 : Int) ∧ I' a 1 = ((c1 + 1 + q.2.length + 1 : Nat) : Int) ∧ I' (a + 1) c1 = 12 + 16 * ((c1 + 1 + q.2.length + 1 : Nat) : Int) ∧ sx_at (I' (a + 1)) (c1 + 1) q.2 ∧ I' (a + 1) (c1 + 1 + q.2.length) = 13 ∧ (∀ k, k < c1 → I' (a + 1) k = I (a + 1) k) ∧ zcF a I I'
def zaM (x S c1 k0 : Nat) (I I' : mm_I) : zo → Prop
  | .inl p => I' 239 4 = (p : Int) ∧ zlF x c1 k0 I I' ∧ ∃ t c k : Nat, I' 239 3 = (t : Int) ∧ I' 243 x = (c : Int) ∧ I' 244 x = (k : Int) ∧ t ≤ S + 10 ∧ c ≤ 500 ∧ k ≤ k0 + 1
  | .inr q => I' 239 3 = (q.1 : Int) ∧ I' 239 4 = -1 ∧ I' 239 5 = 0 ∧ I' 243 x = ((c1 + q.2.length : Nat) : Int) ∧ I' 244 x = ((k0 + 1 : Nat) : Int) ∧ I' 245 = I 245 ∧ I' 246 (140 * x + k0) = (c1 : Int) ∧ I' 247 (140 * x + k0) = ((c1 + q.2.length : Nat) : Int) ∧ sx_mt I' (520 * x + c1) q.2 ∧ zlF x c1 k0 I I'
def zac (n : Nat) (P : mm_P) (a x : Nat) (T : Nat → Int) (S i m : Nat) : Prop := ∃ o : zo, zg S i o ∧ zs 15 o ∧
  (∀ (d : Nat) (v2 v3 v4 : mm_V) (I L : mm_I) (c1 : Nat), m ≤ d → zc n P I T S → I 1 2 = (i : Int) → I a 1 = (c1 : Int) → c1 ≤ i → sq_X (some (.inl (zr o))) n L P (fun I' => zaC a c1 I I' o) (mm_E d 29 88 [.inr (.inr (some 1)), .inr (.inr (some a)), v2, v3, v4] [] [] n I L P)) ∧
  (∀ (d : Nat) (I L : mm_I) (c1 k0 : Nat), m ≤ d → zmh n P x T S 0 i c1 I → I 244 x = (k0 : Int) → k0 < 140 → sq_X none n L P (fun I' => zaM x S c1 k0 I I' o) (mm_E d 170 184 [.inr (.inr (some 239)), .inl (((140 * x + k0 : Nat) : Int)), .inl 1] [] [] n I L P))
section AF
variable {n a x S i : Nat} {P : mm_P} {T : Nat → Int}
theorem zc_lead {d : Nat} {I L : mm_I} {s c : Nat} (hL : sp_L n P a) (hc : I a 1 = (c : Int)) (hs : s < c) (hc2 : c ≤ 256) : mm_rn (d + 1) 23 [.inr (.inr (some a)), .inl ((s : Int))] n I L P = some (none, n, mm_ui I (a + 1) s (12 + 16 * (c : Int)), L, P) := by
  have ok := hL.ok
  obtain ⟨a0, a1, a2, a3, a4, a5, a6, a7⟩ := hL
  have h1 : ¬ (s : Int) < 0 := by omega
  have h2 : ¬ (c : Int) ≤ (s : Int) := by omega
  have hix : mm_ix n (a + 1) 20 (s : Int) := nb_ix (by omega) a2 (by omega) (by omega)
  rw [eX3_leadOn]
  simp (disch := (first | assumption | omega | exact nb_ix (by omega) (by assumption) (by omega) (by omega) | exact nb_ix (by omega) rfl (by omega) (by omega) | exact nb_ok (by omega) rfl | decide)) only [kX3_leadOn, a5, hc, ↓if_pos, ↓if_neg, nb_add, nb_sub, nb_mul, Int.toNat_natCast, mm_kr_s, mm_kv_s, if_pos, if_neg, sq_tn, Int.toNat_zero, Int.reduceToNat, Int.reduceNeg, Nat.reduceAdd, Int.reduceAdd, Int.reduceEq, Int.reduceLT, Int.reduceLE, Int.zero_add, nb_ui_s, nb_ui_k, nb_ui_a, sp_min, sp_max, sp_bits]
  done
set_option maxHeartbeats 4000000 in
theorem zJ_after (hL : sp_L n P a) (ha : 20 ≤ a) (hx : x < 5) (hS : S ≤ 240) (hi : i ≤ S) : zac n P a x T S i 26 := by
  have okL := hL.ok
  obtain ⟨j, hk⟩ := zk_ex (T := T) (S := S) (S - i) i rfl hi
  have hk' := hk
  obtain ⟨k1, k2, k3, k4⟩ := hk'
  by_cases hc : zp T S j = 63
  · have hjS : j < S := zp_S hc (by decide)
    obtain ⟨o1, og, os, oc, om⟩ := zJ_S (T := T) (i := j + 1) (r := 6) (dp := 0) hL ha hx hS (by decide) (by omega)
    -- the class up to its sum
    have hC : ∀ (d : Nat) (v2 v3 v4 : mm_V) (I L : mm_I) (c1 : Nat), 26 ≤ d → zc n P I T S → I 1 2 = (i : Int) → I a 1 = (c1 : Int) → c1 ≤ i → mm_E d 29 88 [.inr (.inr (some 1)), .inr (.inr (some a)), v2, v3, v4] [] [] n I L P = mm_kr d 29 118 [.inr (.inr (some 1)), .inr (.inr (some a)), v2, v3, .inl ((c1 : Int))] [] [] n (mm_rn d 35 [.inr (.inr (some 1)), .inr (.inr (some a)), .inl (((0 : Nat) : Int))] n (mm_ui (mm_ui (mm_ui I 1 2 ((j + 1 : Nat) : Int)) (a + 1) c1 12) a 1 ((c1 + 1 : Nat) : Int)) L P) := by
      intro d v2 v3 v4 I L c1 hd hz h2 h3 h4
      obtain ⟨e, rfl⟩ : ∃ e, d = e + 2 := ⟨d - 2, by omega⟩
      have hn := hz.1
      have hp := zc_pass1 (d := e) (L := L) (c := 63) hz hk h2 hc
      have hpt := zc_put (d := e + 1) (n := n) (L := L) (P := P) (I := mm_ui I 1 2 ((j + 1 : Nat) : Int)) (c0 := c1) (s := 12) (v := 0) hL (by rw [nb_ui_a (by omega)]; exact h3) (by omega) (by omega) (by omega)
      have e5 : (12 : Int) + 16 * 0 = 12 := by decide
      have e6 : ((0 : Nat) : Int) = 0 := rfl
      have h1a : (1 : Nat) ≠ a := by omega
      have ha1 : a ≠ 1 := by omega
      rw [e5] at hpt
      simp (disch := (first | assumption | omega | exact nb_ix (by omega) (by assumption) (by omega) (by omega) | exact nb_ix (by omega) rfl (by omega) (by omega) | exact nb_ok (by omega) rfl | decide)) only [kX4_readClause, hp, h3, hpt, e6, ↓if_pos, ↓if_neg, nb_add, nb_sub, nb_mul, Int.toNat_natCast, mm_kr_s, mm_kv_s, if_pos, if_neg, sq_tn, Int.toNat_zero, Int.reduceToNat, Int.reduceNeg, Nat.reduceAdd, Int.reduceAdd, Int.reduceEq, Int.reduceLT, Int.reduceLE, Int.zero_add, nb_ui_s, nb_ui_k, nb_ui_a, sp_min, sp_max, sp_bits]
      done
    have hM : ∀ (d : Nat) (I L : mm_I) (c1 k0 : Nat), 26 ≤ d → zmh n P x T S 0 i c1 I → k0 < 140 → mm_E d 170 184 [.inr (.inr (some 239)), .inl (((140 * x + k0 : Nat) : Int)), .inl 1] [] [] n I L P = mm_kv d 170 251 [.inr (.inr (some 239)), .inl (((140 * x + k0 : Nat) : Int)), .inl 1] [] [] n (mm_rn d 163 [.inr (.inr (some 239))] n (mm_ui (mm_ui (mm_ui I 246 (140 * x + k0) (I 245 (140 * x + k0))) 239 3 ((j + 1 : Nat) : Int)) 246 (140 * x + k0) (c1 : Int)) L P) := by
      intro d I L c1 k0 hd hm hk0
      obtain ⟨hz, h2, hw, h5, hx14, h6, h7⟩ := hm
      obtain ⟨e, rfl⟩ : ∃ e, d = e + 2 := ⟨d - 2, by omega⟩
      have ok := hz.1.ok
      have hp := zm_look (d := e) (n := n) (L := L) (P := P) (I := mm_ui I 246 (140 * x + k0) (I 245 (140 * x + k0))) (hz.up (by decide) (by omega)) hk (by rw [nb_ui_a (by decide)]; exact h2)
      obtain ⟨hn, g1, g6, g7, g8, g9, g10, g11, g12, g15, g16, g17⟩ := hz.1
      have e1 : (j : Int) + 1 = ((j + 1 : Nat) : Int) := by omega
      simp (disch := (first | assumption | omega | exact nb_ix (by omega) (by assumption) (by omega) (by omega) | exact nb_ix (by omega) rfl (by omega) (by omega) | exact nb_ok (by omega) rfl | decide)) only [kX12_clause, g8, g10, g11, hw, hp, hc, e1, hx14, h6, nb_ui_2, ↓if_pos, ↓if_neg, nb_add, nb_sub, nb_mul, Int.toNat_natCast, mm_kr_s, mm_kv_s, if_pos, if_neg, sq_tn, Int.toNat_zero, Int.reduceToNat, Int.reduceNeg, Nat.reduceAdd, Int.reduceAdd, Int.reduceEq, Int.reduceLT, Int.reduceLE, Int.zero_add, nb_ui_s, nb_ui_k, nb_ui_a, sp_min, sp_max, sp_bits]
      done
    have hfin : ∀ (d : Nat) (I L : mm_I) (c k0 : Nat), 1 ≤ d → sp_M n P → I 239 14 = (x : Int) → I 243 x = (c : Int) → I 244 x = (k0 : Int) → k0 < 140 → mm_E d 170 251 [.inr (.inr (some 239)), .inl (((140 * x + k0 : Nat) : Int)), .inl 1] [] [] n I L P = some (none, n, mm_ui (mm_ui I 247 (140 * x + k0) (c : Int)) 244 x ((k0 + 1 : Nat) : Int), L, P) := by
      intro d I L c k0 hd hM2 hx14 h6 h44 hk0
      have ok := hM2.ok
      obtain ⟨hn, g1, g6, g7, g8, g9, g10, g11, g12, g15, g16, g17⟩ := hM2
      have e1 : (k0 : Int) + 1 = ((k0 + 1 : Nat) : Int) := by omega
      simp (disch := (first | assumption | omega | exact nb_ix (by omega) (by assumption) (by omega) (by omega) | exact nb_ix (by omega) rfl (by omega) (by omega) | exact nb_ok (by omega) rfl | decide)) only [kX12_clause, g8, g9, g12, hx14, h6, h44, e1, ↓if_pos, ↓if_neg, nb_add, nb_sub, nb_mul, Int.toNat_natCast, mm_kr_s, mm_kv_s, if_pos, if_neg, sq_tn, Int.toNat_zero, Int.reduceToNat, Int.reduceNeg, Nat.reduceAdd, Int.reduceAdd, Int.reduceEq, Int.reduceLT, Int.reduceLE, Int.zero_add, nb_ui_s, nb_ui_k, nb_ui_a, sp_min, sp_max, sp_bits]
      done
    cases o1 with
    | inl p =>
      refine ⟨.inl p, og, trivial, fun d v2 v3 v4 I L c1 hd hz h2 h3 h4 => ?_, fun d I L c1 k0 hd hm h44 hk0 => ?_⟩
      · rw [hC d v2 v3 v4 I L c1 hd hz h2 h3 h4]
        have hf : zcF a I (mm_ui (mm_ui (mm_ui I 1 2 ((j + 1 : Nat) : Int)) (a + 1) c1 12) a 1 ((c1 + 1 : Nat) : Int)) := (((zcF.refl a I).at ha).sg ha).ln ha
        refine sq_kr (oc d (by omega) _ L (c1 + 1) (hf.zc ha hz) (by rw [nb_ui_a (by omega), nb_ui_a (by omega), nb_ui_s]) (by rw [nb_ui_s]) (by omega)) (fun I' hI => ?_)
        have e0 : zr (Sum.inl p : zo) = 0 := rfl
        simp (disch := (first | assumption | omega | exact nb_ix (by omega) (by assumption) (by omega) (by omega) | exact nb_ix (by omega) rfl (by omega) (by omega) | exact nb_ok (by omega) rfl | decide)) only [kX4_readClause, e0, ↓if_pos, ↓if_neg, nb_add, nb_sub, nb_mul, Int.toNat_natCast, mm_kr_s, mm_kv_s, if_pos, if_neg, sq_tn, Int.toNat_zero, Int.reduceToNat, Int.reduceNeg, Nat.reduceAdd, Int.reduceAdd, Int.reduceEq, Int.reduceLT, Int.reduceLE, Int.zero_add, nb_ui_s, nb_ui_k, nb_ui_a, sp_min, sp_max, sp_bits]
        exact sq_ret ⟨hI.1, hf.tr hI.2⟩
      · rw [hM d I L c1 k0 hd hm hk0]
        obtain ⟨hz, h2, hw, h5, hx14, h6, h7⟩ := hm
        have hf : zlF x c1 k0 I (mm_ui (mm_ui (mm_ui I 246 (140 * x + k0) (I 245 (140 * x + k0))) 239 3 ((j + 1 : Nat) : Int)) 246 (140 * x + k0) (c1 : Int)) := (((zlF.refl x c1 k0 I).up (by omega) (by omega) (by omega)).tr ((zmF.refl x c1 _).at (k := 3) (by omega) |>.zl k0) (Nat.le_refl _) (Nat.le_refl _)).up (by omega) (by omega) (by omega)
        refine sq_kv (om d (by omega) _ L c1 (hf.zm hz) (by rw [nb_ui_a (by decide), nb_ui_s]) (by rw [nb_ui_a (by decide), nb_ui_k (by decide), nb_ui_a (by decide)]; exact hw) (by rw [nb_ui_a (by decide), nb_ui_k (by decide), nb_ui_a (by decide)]; exact h5) (by rw [nb_ui_a (by decide), nb_ui_k (by decide), nb_ui_a (by decide)]; exact hx14) (by rw [nb_ui_a (by decide), nb_ui_a (by decide), nb_ui_a (by decide)]; exact h6) (by omega)) (fun I' hI => ?_)
        obtain ⟨i1, i2, t, c', i3, i4, i5, i6, i7, i8⟩ := hI
        have hf2 := hf.tr (i2.zl k0) (Nat.le_refl _) (Nat.le_refl _)
        have h44' : I' 244 x = (k0 : Int) := by rw [i2.1 244 (by decide) (by decide) (by decide) (by decide), nb_ui_a (by decide), nb_ui_a (by decide), nb_ui_a (by decide)]; exact h44
        rw [hfin d I' L c' k0 (by omega) hz.1 (by rw [hf2.2.1 14 (by decide) (by decide) (by decide)]; exact hx14) i4 h44' hk0]
        refine sq_ret ⟨?_, (hf2.up (by omega) (by omega) (by omega)).cn, t, c', k0 + 1, ?_, ?_, ?_, by omega, by omega, by omega⟩
        · rw [nb_ui_a (by decide), nb_ui_a (by decide)]; exact i1
        · rw [nb_ui_a (by decide), nb_ui_a (by decide)]; exact i3
        · rw [nb_ui_a (by decide), nb_ui_a (by decide)]; exact i4
        · rw [nb_ui_s]
    | inr w =>
      obtain ⟨j1, t1⟩ := w
      obtain ⟨g1, g2, g3⟩ := og
      have g1' : j + 1 < j1 := g1
      have g2' : j1 ≤ S := g2
      have g3' : t1.length + (j + 1) ≤ j1 := g3
      refine ⟨.inr (j1, t1), ⟨by show i < j1; omega, g2, by show t1.length + i ≤ j1; omega⟩, os, fun d v2 v3 v4 I L c1 hd hz h2 h3 h4 => ?_, fun d I L c1 k0 hd hm h44 hk0 => ?_⟩
      · rw [hC d v2 v3 v4 I L c1 hd hz h2 h3 h4]
        have hf : zcF a I (mm_ui (mm_ui (mm_ui I 1 2 ((j + 1 : Nat) : Int)) (a + 1) c1 12) a 1 ((c1 + 1 : Nat) : Int)) := (((zcF.refl a I).at ha).sg ha).ln ha
        refine sq_kr (oc d (by omega) _ L (c1 + 1) (hf.zc ha hz) (by rw [nb_ui_a (by omega), nb_ui_a (by omega), nb_ui_s]) (by rw [nb_ui_s]) (by omega)) (fun I' hI => ?_)
        obtain ⟨i1, i2, i3, i4, i5⟩ := hI
        have hf2 := hf.tr i5
        have e0 : zr (Sum.inr (j1, t1) : zo) = 1 := rfl
        obtain ⟨e, rfl⟩ : ∃ e, d = e + 1 := ⟨d - 1, by omega⟩
        have i2' : I' a 1 = ((c1 + 1 + t1.length : Nat) : Int) := i2
        have hpt := zc_put (d := e) (n := n) (L := L) (P := P) (I := I') (c0 := c1 + 1 + t1.length) (s := 13) (v := 0) hL i2' (by omega) (by omega) (by omega)
        have e5 : (13 : Int) + 16 * 0 = 13 := by decide
        rw [e5] at hpt
        have hld := zc_lead (d := e) (n := n) (L := L) (P := P) (I := mm_ui (mm_ui I' (a + 1) (c1 + 1 + t1.length) 13) a 1 ((c1 + 1 + t1.length + 1 : Nat) : Int)) (s := c1) (c := c1 + 1 + t1.length + 1) hL (by rw [nb_ui_s]) (by omega) (by omega)
        simp (disch := (first | assumption | omega | exact nb_ix (by omega) (by assumption) (by omega) (by omega) | exact nb_ix (by omega) rfl (by omega) (by omega) | exact nb_ok (by omega) rfl | decide)) only [kX4_readClause, e0, hpt, hld, ↓if_pos, ↓if_neg, nb_add, nb_sub, nb_mul, Int.toNat_natCast, mm_kr_s, mm_kv_s, if_pos, if_neg, sq_tn, Int.toNat_zero, Int.reduceToNat, Int.reduceNeg, Nat.reduceAdd, Int.reduceAdd, Int.reduceEq, Int.reduceLT, Int.reduceLE, Int.zero_add, nb_ui_s, nb_ui_k, nb_ui_a, sp_min, sp_max, sp_bits]
        refine sq_ret ⟨?_, ?_, ?_, ?_, ?_, fun k hk => ?_, ((hf2.sg ha).ln ha).sg ha⟩
        · rw [nb_ui_a (by omega), nb_ui_a (by omega), nb_ui_a (by omega)]; exact i1
        · rw [nb_ui_a (by omega), nb_ui_s]
        · rw [nb_ui_s]
        · refine sx_at_keep t1 _ i3 (fun k hk1 hk2 => ?_)
          rw [nb_ui_k (by omega), nb_ui_a (by omega), nb_ui_k (by omega)]
        · show mm_ui (mm_ui (mm_ui I' (a + 1) (c1 + 1 + t1.length) 13) a 1 ((c1 + 1 + t1.length + 1 : Nat) : Int)) (a + 1) c1 _ (a + 1) (c1 + 1 + t1.length) = 13
          rw [nb_ui_k (by omega), nb_ui_a (by omega), nb_ui_s]
        · rw [nb_ui_k (by omega), nb_ui_a (by omega), nb_ui_k (by omega), i4 k (by omega), nb_ui_a (by omega), nb_ui_k (by omega), nb_ui_a (by omega)]
      · rw [hM d I L c1 k0 hd hm hk0]
        obtain ⟨hz, h2, hw, h5, hx14, h6, h7⟩ := hm
        have hf : zlF x c1 k0 I (mm_ui (mm_ui (mm_ui I 246 (140 * x + k0) (I 245 (140 * x + k0))) 239 3 ((j + 1 : Nat) : Int)) 246 (140 * x + k0) (c1 : Int)) := (((zlF.refl x c1 k0 I).up (by omega) (by omega) (by omega)).tr ((zmF.refl x c1 _).at (k := 3) (by omega) |>.zl k0) (Nat.le_refl _) (Nat.le_refl _)).up (by omega) (by omega) (by omega)
        refine sq_kv (om d (by omega) _ L c1 (hf.zm hz) (by rw [nb_ui_a (by decide), nb_ui_s]) (by rw [nb_ui_a (by decide), nb_ui_k (by decide), nb_ui_a (by decide)]; exact hw) (by rw [nb_ui_a (by decide), nb_ui_k (by decide), nb_ui_a (by decide)]; exact h5) (by rw [nb_ui_a (by decide), nb_ui_k (by decide), nb_ui_a (by decide)]; exact hx14) (by rw [nb_ui_a (by decide), nb_ui_a (by decide), nb_ui_a (by decide)]; exact h6) (by omega)) (fun I' hI => ?_)
        obtain ⟨i1, i2, i3, i4, i5, i6⟩ := hI
        have hf2 := hf.tr (i6.zl k0) (Nat.le_refl _) (Nat.le_refl _)
        have h44' : I' 244 x = (k0 : Int) := by rw [i6.1 244 (by decide) (by decide) (by decide) (by decide), nb_ui_a (by decide), nb_ui_a (by decide), nb_ui_a (by decide)]; exact h44
        rw [hfin d I' L (c1 + t1.length) k0 (by omega) hz.1 (by rw [hf2.2.1 14 (by decide) (by decide) (by decide)]; exact hx14) i4 h44' hk0]
        refine sq_ret ⟨?_, ?_, ?_, ?_, ?_, ?_, ?_, ?_, ?_, (hf2.up (by omega) (by omega) (by omega)).cn⟩
        · rw [nb_ui_a (by decide), nb_ui_a (by decide)]; exact i1
        · rw [nb_ui_a (by decide), nb_ui_a (by decide)]; exact i2
        · rw [nb_ui_a (by decide), nb_ui_a (by decide)]; exact i3
        · rw [nb_ui_a (by decide), nb_ui_a (by decide)]; exact i4
        · rw [nb_ui_s]
        · rw [nb_ui_r (by decide), nb_ui_r (by decide), i6.1 245 (by decide) (by decide) (by decide) (by decide), nb_ui_r (by decide), nb_ui_r (by decide), nb_ui_r (by decide)]
        · rw [nb_ui_a (by decide), nb_ui_a (by decide), i6.1 246 (by decide) (by decide) (by decide) (by decide), nb_ui_s]
        · rw [nb_ui_a (by decide), nb_ui_s]
        · exact sx_mt_keep (by rw [nb_ui_r (by decide), nb_ui_r (by decide)]) (by rw [nb_ui_r (by decide), nb_ui_r (by decide)]) _ _ i5
  · refine ⟨.inl j, k2, trivial, fun d v2 v3 v4 I L c1 hd hz h2 h3 h4 => ?_, fun d I L c1 k0 hd hm h44 hk0 => ?_⟩
    · obtain ⟨e, rfl⟩ : ∃ e, d = e + 2 := ⟨d - 2, by omega⟩
      have hn := hz.1
      have hp := zc_pass0 (d := e) (L := L) (c := 63) hz hk h2 hc
      simp (disch := (first | assumption | omega | exact nb_ix (by omega) (by assumption) (by omega) (by omega) | exact nb_ix (by omega) rfl (by omega) (by omega) | exact nb_ok (by omega) rfl | decide)) only [kX4_readClause, hp, ↓if_pos, ↓if_neg, nb_add, nb_sub, nb_mul, Int.toNat_natCast, mm_kr_s, mm_kv_s, if_pos, if_neg, sq_tn, Int.toNat_zero, Int.reduceToNat, Int.reduceNeg, Nat.reduceAdd, Int.reduceAdd, Int.reduceEq, Int.reduceLT, Int.reduceLE, Int.zero_add, nb_ui_s, nb_ui_k, nb_ui_a, sp_min, sp_max, sp_bits]
      exact sq_ret ⟨by rw [nb_ui_s], (zcF.refl a I).at ha⟩
    · obtain ⟨hz, h2, hw, h5, hx14, h6, h7⟩ := hm
      obtain ⟨e, rfl⟩ : ∃ e, d = e + 2 := ⟨d - 2, by omega⟩
      have ok := hz.1.ok
      have hp := zm_look (d := e) (n := n) (L := L) (P := P) (I := mm_ui I 246 (140 * x + k0) (I 245 (140 * x + k0))) (hz.up (by decide) (by omega)) hk (by rw [nb_ui_a (by decide)]; exact h2)
      have hb := zm_bad (d := e + 1) (n := n) (L := L) (P := P) (I := mm_ui (mm_ui I 246 (140 * x + k0) (I 245 (140 * x + k0))) 239 3 (j : Int)) (p := j) hz.1 (by rw [nb_ui_k (by decide), nb_ui_a (by decide)]; exact hw) (by rw [nb_ui_s])
      obtain ⟨hn, g1, g6, g7, g8, g9, g10, g11, g12, g15, g16, g17⟩ := hz.1
      simp (disch := (first | assumption | omega | exact nb_ix (by omega) (by assumption) (by omega) (by omega) | exact nb_ix (by omega) rfl (by omega) (by omega) | exact nb_ok (by omega) rfl | decide)) only [kX12_clause, g8, g10, g11, hw, hp, hb, ↓if_pos, ↓if_neg, nb_add, nb_sub, nb_mul, Int.toNat_natCast, mm_kr_s, mm_kv_s, if_pos, if_neg, sq_tn, Int.toNat_zero, Int.reduceToNat, Int.reduceNeg, Nat.reduceAdd, Int.reduceAdd, Int.reduceEq, Int.reduceLT, Int.reduceLE, Int.zero_add, nb_ui_s, nb_ui_k, nb_ui_a, sp_min, sp_max, sp_bits]
      refine sq_ret ⟨by rw [nb_ui_s], ?_, j, c1, k0, ?_, ?_, ?_, by omega, by omega, by omega⟩
      · exact ((zlF.refl x c1 k0 I).up (by omega) (by omega) (by omega)).tr (((zmF.refl x c1 _).at (k := 3) (by omega)).at (k := 4) (by omega) |>.zl k0) (Nat.le_refl _) (Nat.le_refl _)
      · rw [nb_ui_k (by decide), nb_ui_s]
      · rw [nb_ui_a (by decide), nb_ui_a (by decide), nb_ui_a (by decide)]; exact h6
      · rw [nb_ui_a (by decide), nb_ui_a (by decide), nb_ui_a (by decide)]; exact h44
end AF
