/-! towns: one clause -/
abbrev zuo : Type := Sum Nat (Nat × (Nat → Int) × Nat × Nat × (Nat → Int) × Nat × (Nat → Int))
def zug (T : Nat → Int) (S i : Nat) : zuo → Prop
  | .inl p => p ≤ S
  | .inr (j, ru, rd, np, pl, nl, la) => i < j ∧ zk T S j j ∧ zts ru rd np pl nl la
def zur : zuo → Int
  | .inl _ => 0
  | .inr _ => 1
def zuc (t : Nat) (I' : mm_I) : zuo → Prop
  | .inl p => I' 1 2 = (p : Int)
  | .inr (j, ru, rd, np, pl, nl, la) => I' 1 2 = (j : Int) ∧ zTc t I' ru rd np pl nl la
def zub (T : Nat → Int) (S : Nat) (I' : mm_I) (p : Nat) : Prop := (I' 239 4 = (p : Int) ∧ ∃ t : Nat, t ≤ S ∧ I' 239 3 = (t : Int)) ∨ (I' 239 4 = -1 ∧ I' 239 3 = (p : Int) ∧ zk T S p p ∧ zp T S p ≠ 59 ∧ zp T S p ≠ -1)
def zum (T : Nat → Int) (S : Nat) (I' : mm_I) (w : Int) : zuo → Prop
  | .inl p => zub T S I' p
  | .inr (j, ru, rd, np, pl, nl, la) => I' 239 3 = (j : Int) ∧ I' 239 4 = -1 ∧ w = (rd : Int) ∧ zTm I' ru np pl nl la
/-- a row with two numbers more -/
def zr2 (f : Nat → Int) (m : Nat) (u : Nat → Int) : Nat → Int := fun k => if k = 2 * m then u 0 else if k = 2 * m + 1 then u 1 else f k
theorem zr2_lt {f u : Nat → Int} {m k : Nat} (h : k < 2 * m) : zr2 f m u k = f k := by unfold zr2; rw [if_neg (by omega), if_neg (by omega)]
theorem zr2_0 {f u : Nat → Int} {m : Nat} : zr2 f m u (2 * m) = u 0 := by unfold zr2; rw [if_pos rfl]
theorem zr2_1 {f u : Nat → Int} {m : Nat} : zr2 f m u (2 * m + 1) = u 1 := by unfold zr2; rw [if_neg (by omega), if_pos rfl]
/-- the state behind a clause q with the numbers u -/
def zunx (q j : Nat) (ru : Nat → Int) (rd np : Nat) (pl : Nat → Int) (nl : Nat) (la : Nat → Int) (u : Nat → Int) : Nat × (Nat → Int) × Nat × Nat × (Nat → Int) × Nat × (Nat → Int) := if q = 0 then (j, u, 1, np, pl, nl, la) else if q = 1 then (j, ru, rd, np + 1, zr2 pl np u, nl, la) else (j, ru, rd, np, pl, nl + 1, zr2 la nl u)
abbrev zfu (q rd np nl : Nat) : Prop := if q = 0 then rd = 0 else if q = 1 then np < 8 else nl < 12
theorem zun_ok {q j : Nat} {ru pl la u : Nat → Int} {rd np nl : Nat} (hq : q < 3) (h : zts ru rd np pl nl la) (hf : zfu q rd np nl) (hu : ∀ k, k < zM q → zql q k ≤ u k ∧ u k ≤ zqh q k) : ∃ ru' rd' np' pl' nl' la', zunx q j ru rd np pl nl la u = (j, ru', rd', np', pl', nl', la') ∧ zts ru' rd' np' pl' nl' la' := by
  obtain ⟨h1, h2, h3, h4, h5, h6⟩ := h
  have : q = 0 ∨ q = 1 ∨ q = 2 := by omega
  rcases this with e | e | e <;> subst e
  · exact ⟨u, 1, np, pl, nl, la, rfl, by decide, h2, h3, hu, h5, h6⟩
  · have hf2 : np < 8 := hf
    refine ⟨ru, rd, np + 1, zr2 pl np u, nl, la, rfl, h1, by omega, h3, h4, fun p hp k hk => ?_, h6⟩
    by_cases e : p = np
    · subst e
      have : k = 0 ∨ k = 1 := by omega
      rcases this with e | e <;> subst e
      · rw [Nat.add_zero, zr2_0]; exact hu 0 (by decide)
      · rw [zr2_1]; exact hu 1 (by decide)
    · rw [zr2_lt (by omega)]; exact h5 p (by omega) k hk
  · have hf2 : nl < 12 := hf
    refine ⟨ru, rd, np, pl, nl + 1, zr2 la nl u, rfl, h1, h2, by omega, h4, h5, fun p hp k hk => ?_⟩
    by_cases e : p = nl
    · subst e
      have : k = 0 ∨ k = 1 := by omega
      rcases this with e | e <;> subst e
      · rw [Nat.add_zero, zr2_0]; exact hu 0 (by decide)
      · rw [zr2_1]; exact hu 1 (by decide)
    · rw [zr2_lt (by omega)]; exact h6 p (by omega) k hk
theorem zh_q {c : Int} (h : ¬ zh c = -1) : ∃ q, q < 3 ∧ zh c = ((q : Nat) : Int) ∧ c = zqc q := by
  unfold zh at h ⊢
  by_cases h1 : c = 115
  · exact ⟨0, by decide, by rw [if_pos h1]; rfl, h1⟩
  · rw [if_neg h1] at h ⊢
    by_cases h2 : c = 112
    · exact ⟨1, by decide, by rw [if_pos h2]; rfl, h2⟩
    · rw [if_neg h2] at h ⊢
      by_cases h3 : c = 108
      · exact ⟨2, by decide, by rw [if_pos h3]; rfl, h3⟩
      · rw [if_neg h3] at h
        exact absurd rfl h
section OC
variable {n S t d : Nat} {P : mm_P} {T : Nat → Int} {I L : mm_I}
theorem zU_full {q rd np nl : Nat} (hq : q < 3) (hT : sp_T n P t) (hn : 270 ≤ n) (hrd : rd ≤ 1) (h1 : I 3 4 = (rd : Int)) (h2 : I t 0 = (np : Int)) (h3 : I 3 3 = (nl : Int)) : mm_rn (d + 1) 76 [.inr (.inr (some 3)), .inl ((q : Int)), .inr (.inr (some t))] n I L P = some (some (.inl (if zfu q rd np nl then 0 else 1)), n, I, L, P) := by
  have okT : mm_ok n t 9 := ⟨by have := hT.1; omega, by rw [hT.2.1]⟩
  rw [eX10_isFull]
  unfold zfu
  have : q = 0 ∨ q = 1 ∨ q = 2 := by omega
  rcases this with e | e | e <;> subst e <;> simp only [if_true, Nat.one_ne_zero, if_false, z20, z21]
  · have : rd = 0 ∨ rd = 1 := by omega
    rcases this with e | e <;> subst e
    · simp (disch := (first | assumption | omega | exact nb_ix (by omega) (by assumption) (by omega) (by omega) | exact nb_ix (by omega) rfl (by omega) (by omega) | exact nb_ok (by omega) rfl | decide)) only [kX10_isFull, h1, ↓if_pos, ↓if_neg, nb_add, nb_sub, nb_mul, Int.toNat_natCast, mm_kr_s, mm_kv_s, if_pos, if_neg, sq_tn, Int.toNat_zero, Int.reduceToNat, Int.reduceNeg, Nat.reduceAdd, Int.reduceAdd, Int.reduceEq, Int.reduceLT, Int.reduceLE, Int.zero_add, nb_ui_s, nb_ui_k, nb_ui_a, sp_min, sp_max, sp_bits]
      rfl
    · simp (disch := (first | assumption | omega | exact nb_ix (by omega) (by assumption) (by omega) (by omega) | exact nb_ix (by omega) rfl (by omega) (by omega) | exact nb_ok (by omega) rfl | decide)) only [kX10_isFull, h1, ↓if_pos, ↓if_neg, nb_add, nb_sub, nb_mul, Int.toNat_natCast, mm_kr_s, mm_kv_s, if_pos, if_neg, sq_tn, Int.toNat_zero, Int.reduceToNat, Int.reduceNeg, Nat.reduceAdd, Int.reduceAdd, Int.reduceEq, Int.reduceLT, Int.reduceLE, Int.zero_add, nb_ui_s, nb_ui_k, nb_ui_a, sp_min, sp_max, sp_bits]
      rfl
  · by_cases c : np < 8
    · have c2 : (np : Int) < 8 := by omega
      rw [if_pos c]
      simp (disch := (first | assumption | omega | exact nb_ix (by omega) (by assumption) (by omega) (by omega) | exact nb_ix (by omega) rfl (by omega) (by omega) | exact nb_ok (by omega) rfl | decide)) only [kX10_isFull, h2, ↓if_pos, ↓if_neg, nb_add, nb_sub, nb_mul, Int.toNat_natCast, mm_kr_s, mm_kv_s, if_pos, if_neg, sq_tn, Int.toNat_zero, Int.reduceToNat, Int.reduceNeg, Nat.reduceAdd, Int.reduceAdd, Int.reduceEq, Int.reduceLT, Int.reduceLE, Int.zero_add, nb_ui_s, nb_ui_k, nb_ui_a, sp_min, sp_max, sp_bits]
      done
    · have c2 : ¬ (np : Int) < 8 := by omega
      rw [if_neg c]
      simp (disch := (first | assumption | omega | exact nb_ix (by omega) (by assumption) (by omega) (by omega) | exact nb_ix (by omega) rfl (by omega) (by omega) | exact nb_ok (by omega) rfl | decide)) only [kX10_isFull, h2, ↓if_pos, ↓if_neg, nb_add, nb_sub, nb_mul, Int.toNat_natCast, mm_kr_s, mm_kv_s, if_pos, if_neg, sq_tn, Int.toNat_zero, Int.reduceToNat, Int.reduceNeg, Nat.reduceAdd, Int.reduceAdd, Int.reduceEq, Int.reduceLT, Int.reduceLE, Int.zero_add, nb_ui_s, nb_ui_k, nb_ui_a, sp_min, sp_max, sp_bits]
      done
  · by_cases c : nl < 12
    · have c2 : (nl : Int) < 12 := by omega
      rw [if_pos c]
      simp (disch := (first | assumption | omega | exact nb_ix (by omega) (by assumption) (by omega) (by omega) | exact nb_ix (by omega) rfl (by omega) (by omega) | exact nb_ok (by omega) rfl | decide)) only [kX10_isFull, h3, ↓if_pos, ↓if_neg, nb_add, nb_sub, nb_mul, Int.toNat_natCast, mm_kr_s, mm_kv_s, if_pos, if_neg, sq_tn, Int.toNat_zero, Int.reduceToNat, Int.reduceNeg, Nat.reduceAdd, Int.reduceAdd, Int.reduceEq, Int.reduceLT, Int.reduceLE, Int.zero_add, nb_ui_s, nb_ui_k, nb_ui_a, sp_min, sp_max, sp_bits]
      done
    · have c2 : ¬ (nl : Int) < 12 := by omega
      rw [if_neg c]
      simp (disch := (first | assumption | omega | exact nb_ix (by omega) (by assumption) (by omega) (by omega) | exact nb_ix (by omega) rfl (by omega) (by omega) | exact nb_ok (by omega) rfl | decide)) only [kX10_isFull, h3, ↓if_pos, ↓if_neg, nb_add, nb_sub, nb_mul, Int.toNat_natCast, mm_kr_s, mm_kv_s, if_pos, if_neg, sq_tn, Int.toNat_zero, Int.reduceToNat, Int.reduceNeg, Nat.reduceAdd, Int.reduceAdd, Int.reduceEq, Int.reduceLT, Int.reduceLE, Int.zero_add, nb_ui_s, nb_ui_k, nb_ui_a, sp_min, sp_max, sp_bits]
      done
theorem zU_kr (hT : sp_T n P t) (ht : 7 ≤ t) (hn : 270 ≤ n) (p3 : P 3 0 = some 4) : mm_rn (d + 1) 79 [.inr (.inr (some 3)), .inr (.inr (some t))] n I L P = some (none, n, mm_ui (mm_ui (mm_ui I t 1 (I 4 0)) t 2 (I 4 1)) t 3 (I 4 2), L, P) := by
  have okT : mm_ok n t 9 := ⟨by have := hT.1; omega, by rw [hT.2.1]⟩
  rw [eX10_keepRules]
  simp (disch := (first | assumption | omega | exact nb_ix (by omega) (by assumption) (by omega) (by omega) | exact nb_ix (by omega) rfl (by omega) (by omega) | exact nb_ok (by omega) rfl | decide)) only [kX10_keepRules, p3, ↓if_pos, ↓if_neg, nb_add, nb_sub, nb_mul, Int.toNat_natCast, mm_kr_s, mm_kv_s, if_pos, if_neg, sq_tn, Int.toNat_zero, Int.reduceToNat, Int.reduceNeg, Nat.reduceAdd, Int.reduceAdd, Int.reduceEq, Int.reduceLT, Int.reduceLE, Int.zero_add, nb_ui_s, nb_ui_k, nb_ui_a, sp_min, sp_max, sp_bits]
  done
theorem zU_kp {np : Nat} (hT : sp_T n P t) (ht : 7 ≤ t) (hn : 270 ≤ n) (p3 : P 3 0 = some 4) (h0 : I t 0 = (np : Int)) (hnp : np < 8) : mm_rn (d + 1) 80 [.inr (.inr (some 3)), .inr (.inr (some t))] n I L P = some (none, n, mm_ui (mm_ui (mm_ui (mm_ui I (t + 1) np (I 4 3)) (t + 2) np (I 4 4)) (t + 3) np 0) t 0 ((np + 1 : Nat) : Int), L, P) := by
  have okT : mm_ok n t 9 := ⟨by have := hT.1; omega, by rw [hT.2.1]⟩
  obtain ⟨a0, a1, a2, a3, a4, a5, a6, b1, b2, b3, b4, b5⟩ := hT
  have e1 : (np : Int) + 1 = ((np + 1 : Nat) : Int) := by omega
  rw [eX10_keepPlace]
  simp (disch := (first | assumption | omega | exact nb_ix (by omega) (by assumption) (by omega) (by omega) | exact nb_ix (by omega) rfl (by omega) (by omega) | exact nb_ok (by omega) rfl | decide)) only [kX10_keepPlace, p3, h0, b1, b2, b3, e1, ↓if_pos, ↓if_neg, nb_add, nb_sub, nb_mul, Int.toNat_natCast, mm_kr_s, mm_kv_s, if_pos, if_neg, sq_tn, Int.toNat_zero, Int.reduceToNat, Int.reduceNeg, Nat.reduceAdd, Int.reduceAdd, Int.reduceEq, Int.reduceLT, Int.reduceLE, Int.zero_add, nb_ui_s, nb_ui_k, nb_ui_a, sp_min, sp_max, sp_bits]
  done
theorem zU_kl {nl : Nat} (hn : 270 ≤ n) (p3 : P 3 0 = some 4 ∧ P 3 1 = some 5 ∧ P 3 2 = some 6) (h0 : I 3 3 = (nl : Int)) (hnl : nl < 12) : mm_rn (d + 1) 81 [.inr (.inr (some 3))] n I L P = some (none, n, mm_ui (mm_ui (mm_ui I 5 nl (I 4 5)) 6 nl (I 4 6)) 3 3 ((nl + 1 : Nat) : Int), L, P) := by
  obtain ⟨q0, q1, q2⟩ := p3
  have e1 : (nl : Int) + 1 = ((nl + 1 : Nat) : Int) := by omega
  rw [eX10_keepLane]
  simp (disch := (first | assumption | omega | exact nb_ix (by omega) (by assumption) (by omega) (by omega) | exact nb_ix (by omega) rfl (by omega) (by omega) | exact nb_ok (by omega) rfl | decide)) only [kX10_keepLane, q0, q1, q2, h0, e1, ↓if_pos, ↓if_neg, nb_add, nb_sub, nb_mul, Int.toNat_natCast, mm_kr_s, mm_kv_s, if_pos, if_neg, sq_tn, Int.toNat_zero, Int.reduceToNat, Int.reduceNeg, Nat.reduceAdd, Int.reduceAdd, Int.reduceEq, Int.reduceLT, Int.reduceLE, Int.zero_add, nb_ui_s, nb_ui_k, nb_ui_a, sp_min, sp_max, sp_bits]
  done
set_option maxHeartbeats 8000000 in
theorem zU_clause {i j : Nat} {ru pl la : Nat → Int} {rd np nl : Nat} (hT : sp_T n P t) (ht : 7 ≤ t) (ht2 : t ≤ 13) (p3 : P 3 0 = some 4 ∧ P 3 1 = some 5 ∧ P 3 2 = some 6) (hS : S ≤ 240) (hk : zk T S i j) (hr : zts ru rd np pl nl la) : ∃ o : zuo, zug T S i o ∧
    (∀ (d : Nat) (I L : mm_I), 8 ≤ d → zS I → zc n P I T S → I 1 2 = (i : Int) → zTc t I ru rd np pl nl la → sq_X (some (.inl (zur o))) n L P (fun I' => zFc t I I' ∧ zuc t I' o) (mm_rn d 73 [.inr (.inr (some 3)), .inr (.inr (some 1)), .inr (.inr (some t))] n I L P)) ∧
    (∀ (d : Nat) (P : mm_P) (I L : mm_I) (x : mm_V) (r : Option mm_V) (Q : mm_I → Prop), 8 ≤ d → zm n P I T S → I 239 3 = (i : Int) → I 239 4 = -1 → zTm I ru np pl nl la → (∀ (J : mm_I) (w : Int) (y : mm_V), zFm I J → zum T S J w o → sq_X r n L P Q (mm_E d 185 214 [.inr (.inr (some 239)), .inl w, .inl 1, y] [] [] n J L P)) → sq_X r n L P Q (mm_E d 185 61 [.inr (.inr (some 239)), .inl ((rd : Int)), .inl 1, x] [] [] n I L P)) := by
  have hjS := hk.2.1
  have hij := hk.1
  have hrd := hr.1
  by_cases hh : zh (zp T S j) = -1 ∨ ∃ q, q < 3 ∧ zp T S j = zqc q ∧ zh (zp T S j) = ((q : Nat) : Int) ∧ ¬ zfu q rd np nl
  · refine ⟨.inl j, hjS, fun d I L hd hs hc hi hTc => ?_, fun d P I L x r Q hd hzm hi hw hTm nx => ?_⟩
    · obtain ⟨e, rfl⟩ : ∃ e, d = e + 8 := ⟨d - 8, by omega⟩
      have hn := hc.1
      have hp := zc_peek (d := e + 6) (L := L) hc hk hi
      have hl := zt_len (d := e + 5) (n := n) (L := L) (P := P) (I := I)
      have hs := zt_heads (d := e + 3) (n := n) (L := L) (P := P) (I := mm_ui I 1 2 (j : Int)) (zp T S j)
      obtain ⟨k1, k2, k3, -⟩ := hTc
      rw [eX10_readClause]
      rcases hh with hh | ⟨q, hq, hc1, hc2, hc3⟩
      · rw [hh] at hs
        simp (disch := (first | assumption | omega | exact nb_ix (by omega) (by assumption) (by omega) (by omega) | exact nb_ix (by omega) rfl (by omega) (by omega) | exact nb_ok (by omega) rfl | decide)) only [kX10_readClause, hp, hl, hs, ↓if_pos, ↓if_neg, nb_add, nb_sub, nb_mul, Int.toNat_natCast, mm_kr_s, mm_kv_s, if_pos, if_neg, sq_tn, Int.toNat_zero, Int.reduceToNat, Int.reduceNeg, Nat.reduceAdd, Int.reduceAdd, Int.reduceEq, Int.reduceLT, Int.reduceLE, Int.zero_add, nb_ui_s, nb_ui_k, nb_ui_a, sp_min, sp_max, sp_bits]
        exact sq_ret ⟨(zFc.refl t I).at, nb_ui_s⟩
      · rw [hc2] at hs
        have c1 : ¬ (q : Int) = -1 := by omega
        have hf := zU_full (d := e + 6) (I := mm_ui I 1 2 (j : Int)) (L := L) hq hT hn hrd (by rw [nb_ui_a (by decide)]; exact k2) (by rw [nb_ui_a (by omega)]; exact k3) (by rw [nb_ui_a (by decide)]; exact k1)
        rw [if_neg hc3] at hf
        simp (disch := (first | assumption | omega | exact nb_ix (by omega) (by assumption) (by omega) (by omega) | exact nb_ix (by omega) rfl (by omega) (by omega) | exact nb_ok (by omega) rfl | decide)) only [kX10_readClause, hp, hl, hs, hf, ↓if_pos, ↓if_neg, nb_add, nb_sub, nb_mul, Int.toNat_natCast, mm_kr_s, mm_kv_s, if_pos, if_neg, sq_tn, Int.toNat_zero, Int.reduceToNat, Int.reduceNeg, Nat.reduceAdd, Int.reduceAdd, Int.reduceEq, Int.reduceLT, Int.reduceLE, Int.zero_add, nb_ui_s, nb_ui_k, nb_ui_a, sp_min, sp_max, sp_bits]
        exact sq_ret ⟨(zFc.refl t I).at, nb_ui_s⟩
    · obtain ⟨e, rfl⟩ : ∃ e, d = e + 8 := ⟨d - 8, by omega⟩
      have ok := hzm.1.ok
      have hl := zm_look (d := e + 6) (L := L) hzm hk hi
      have hb := zm_bad (d := e + 7) (n := n) (L := L) (P := P) (I := mm_ui I 239 3 (j : Int)) (p := j) hzm.1 (by rw [nb_ui_k (by decide)]; exact hw) (by rw [nb_ui_s])
      obtain ⟨k1, k2, -⟩ := hTm
      have fin : ∀ z : Int, sq_X r n L P Q (mm_kv (e + 8) 185 214 [.inr (.inr (some 239)), .inl ((rd : Int)), .inl 1, .inl z] [] [] n (mm_rn (e + 8) 154 [.inr (.inr (some 239))] n (mm_ui I 239 3 (j : Int)) L P)) := by
        intro z
        rw [hb, mm_kv_s]
        exact nx _ _ _ (((zFm.refl I).up (Or.inl rfl)).up (Or.inr (Or.inl rfl))) (Or.inl ⟨nb_ui_s, j, hjS, by rw [nb_ui_k (by decide), nb_ui_s]⟩)
      rcases hh with hh | ⟨q, hq, hc1, hc2, hc3⟩
      · have c1 : ¬ zp T S j = 115 := fun w => by rw [w] at hh; exact absurd hh (by decide)
        have c2 : ¬ zp T S j = 112 := fun w => by rw [w] at hh; exact absurd hh (by decide)
        have c3 : ¬ zp T S j = 108 := fun w => by rw [w] at hh; exact absurd hh (by decide)
        simp (disch := (first | assumption | omega | exact nb_ix (by omega) (by assumption) (by omega) (by omega) | exact nb_ix (by omega) rfl (by omega) (by omega) | exact nb_ok (by omega) rfl | decide)) only [kX12_readTown, hl, ↓if_pos, ↓if_neg, nb_add, nb_sub, nb_mul, Int.toNat_natCast, mm_kr_s, mm_kv_s, if_pos, if_neg, sq_tn, Int.toNat_zero, Int.reduceToNat, Int.reduceNeg, Nat.reduceAdd, Int.reduceAdd, Int.reduceEq, Int.reduceLT, Int.reduceLE, Int.zero_add, nb_ui_s, nb_ui_k, nb_ui_a, sp_min, sp_max, sp_bits]
        exact fin _
      · have : q = 0 ∨ q = 1 ∨ q = 2 := by omega
        rcases this with e0 | e0 | e0 <;> subst e0
        · have c0 : zp T S j = 115 := hc1
          have c4 : ¬ rd = 0 := hc3
          have c5 : ¬ (rd : Int) = 0 := by omega
          rw [c0] at hl
          simp (disch := (first | assumption | omega | exact nb_ix (by omega) (by assumption) (by omega) (by omega) | exact nb_ix (by omega) rfl (by omega) (by omega) | exact nb_ok (by omega) rfl | decide)) only [kX12_readTown, hl, ↓if_pos, ↓if_neg, nb_add, nb_sub, nb_mul, Int.toNat_natCast, mm_kr_s, mm_kv_s, if_pos, if_neg, sq_tn, Int.toNat_zero, Int.reduceToNat, Int.reduceNeg, Nat.reduceAdd, Int.reduceAdd, Int.reduceEq, Int.reduceLT, Int.reduceLE, Int.zero_add, nb_ui_s, nb_ui_k, nb_ui_a, sp_min, sp_max, sp_bits]
          exact fin _
        · have c0 : zp T S j = 112 := hc1
          have c4 : ¬ np < 8 := hc3
          have c5 : (8 : Int) ≤ (np : Int) := by omega
          rw [c0] at hl
          simp (disch := (first | assumption | omega | exact nb_ix (by omega) (by assumption) (by omega) (by omega) | exact nb_ix (by omega) rfl (by omega) (by omega) | exact nb_ok (by omega) rfl | decide)) only [kX12_readTown, hl, k1, ↓if_pos, ↓if_neg, nb_add, nb_sub, nb_mul, Int.toNat_natCast, mm_kr_s, mm_kv_s, if_pos, if_neg, sq_tn, Int.toNat_zero, Int.reduceToNat, Int.reduceNeg, Nat.reduceAdd, Int.reduceAdd, Int.reduceEq, Int.reduceLT, Int.reduceLE, Int.zero_add, nb_ui_s, nb_ui_k, nb_ui_a, sp_min, sp_max, sp_bits]
          exact fin _
        · have c0 : zp T S j = 108 := hc1
          have c4 : ¬ nl < 12 := hc3
          have c5 : (12 : Int) ≤ (nl : Int) := by omega
          rw [c0] at hl
          simp (disch := (first | assumption | omega | exact nb_ix (by omega) (by assumption) (by omega) (by omega) | exact nb_ix (by omega) rfl (by omega) (by omega) | exact nb_ok (by omega) rfl | decide)) only [kX12_readTown, hl, k2, ↓if_pos, ↓if_neg, nb_add, nb_sub, nb_mul, Int.toNat_natCast, mm_kr_s, mm_kv_s, if_pos, if_neg, sq_tn, Int.toNat_zero, Int.reduceToNat, Int.reduceNeg, Nat.reduceAdd, Int.reduceAdd, Int.reduceEq, Int.reduceLT, Int.reduceLE, Int.zero_add, nb_ui_s, nb_ui_k, nb_ui_a, sp_min, sp_max, sp_bits]
          exact fin _
  · have hq1 : ¬ zh (zp T S j) = -1 := fun w => hh (Or.inl w)
    obtain ⟨q, hq, hc2, hc1⟩ := zh_q hq1
    have hfu : zfu q rd np nl := Classical.byContradiction fun w => hh (Or.inr ⟨q, hq, hc1, hc2, w⟩)
    have hjlt : j < S := zp_S hc1 (by have : ∀ q, q < 3 → zqc q ≠ -1 := by decide +kernel
                                      exact this q hq)
    have hFM := zFM hq
    obtain ⟨o, og, oc, om⟩ := zU_items (n := n) (P := P) (T := T) (S := S) (i := j + 1) hq hS (by omega) p3.1
    -- the class up to its items
    have hcls : ∀ (d : Nat) (I L : mm_I), 8 ≤ d → zS I → zc n P I T S → I 1 2 = (i : Int) → zTc t I ru rd np pl nl la → ∀ Q : mm_I → Prop, (∀ J, ziF I J → zic q J o → sq_X (some (.inl (zur (match o with | .inl p => Sum.inl p | .inr r => Sum.inr (zunx q r.1 ru rd np pl nl la r.2))))) n L P Q (mm_E (d - 1) 73 64 [.inr (.inr (some 3)), .inr (.inr (some 1)), .inr (.inr (some t)), .inl ((q : Int))] [] [.inl (zir o)] n J L P)) → sq_X (some (.inl (zur (match o with | .inl p => Sum.inl p | .inr r => Sum.inr (zunx q r.1 ru rd np pl nl la r.2))))) n L P Q (mm_rn d 73 [.inr (.inr (some 3)), .inr (.inr (some 1)), .inr (.inr (some t))] n I L P) := by
      intro d I L hd hs0 hc hi hTc Q nx
      obtain ⟨e, rfl⟩ : ∃ e, d = e + 8 := ⟨d - 8, by omega⟩
      rw [show e + 8 - 1 = e + 7 by omega] at nx
      have hn := hc.1
      have hp := zc_peek (d := e + 6) (L := L) hc hk hi
      have hl := zt_len (d := e + 5) (n := n) (L := L) (P := P) (I := I)
      have hs := zt_heads (d := e + 3) (n := n) (L := L) (P := P) (I := mm_ui I 1 2 (j : Int)) (zp T S j)
      rw [hc2] at hs
      obtain ⟨k1, k2, k3, -⟩ := hTc
      have c1 : ¬ (q : Int) = -1 := by omega
      have hf := zU_full (d := e + 6) (I := mm_ui I 1 2 (j : Int)) (L := L) hq hT hn hrd (by rw [nb_ui_a (by decide)]; exact k2) (by rw [nb_ui_a (by omega)]; exact k3) (by rw [nb_ui_a (by decide)]; exact k1)
      rw [if_pos hfu] at hf
      have e1 : (j : Int) + 1 = ((j + 1 : Nat) : Int) := by omega
      have f1 : ziF I (mm_ui I 1 2 ((j + 1 : Nat) : Int)) := (ziF.refl I).at
      rw [eX10_readClause]
      simp (disch := (first | assumption | omega | exact nb_ix (by omega) (by assumption) (by omega) (by omega) | exact nb_ix (by omega) rfl (by omega) (by omega) | exact nb_ok (by omega) rfl | decide)) only [kX10_readClause, hp, hl, hs, hf, e1, nb_ui_2, ↓if_pos, ↓if_neg, nb_add, nb_sub, nb_mul, Int.toNat_natCast, mm_kr_s, mm_kv_s, if_pos, if_neg, sq_tn, Int.toNat_zero, Int.reduceToNat, Int.reduceNeg, Nat.reduceAdd, Int.reduceAdd, Int.reduceEq, Int.reduceLT, Int.reduceLE, Int.zero_add, nb_ui_s, nb_ui_k, nb_ui_a, sp_min, sp_max, sp_bits]
      refine sq_kv (zU_forget (L := L) (d := e + 6) hq (f1.zS hs0) hn p3.1) (fun J hJ => ?_)
      obtain ⟨j1, j2, j3⟩ := hJ
      have f2 := f1.tr j1
      obtain ⟨s1, s2⟩ := (f2.zS hs0).f hq
      have sx1 : 1000000 ≤ 1000000 ∧ (mm_ty 1000000).1 = 30 ∧ 0 ≤ (q : Int) ∧ (q : Int) < ((mm_ty 1000000).2 : Int) := ⟨by decide, by decide +kernel, by omega, by rw [show mm_ty 1000000 = (30, 4) by decide +kernel]; show (q : Int) < 4; omega⟩
      have sx2 : 1000000 ≤ 1000000 ∧ (mm_ty 1000000).1 = 30 ∧ 0 ≤ ((q + 1 : Nat) : Int) ∧ ((q + 1 : Nat) : Int) < ((mm_ty 1000000).2 : Int) := ⟨by decide, by decide +kernel, by omega, by rw [show mm_ty 1000000 = (30, 4) by decide +kernel]; show ((q + 1 : Nat) : Int) < 4; omega⟩
      have eq1 : (q : Int) + 1 = ((q + 1 : Nat) : Int) := by omega
      simp (disch := (first | assumption | omega | exact nb_ix (by omega) (by assumption) (by omega) (by omega) | exact nb_ix (by omega) rfl (by omega) (by omega) | exact nb_ok (by omega) rfl | decide)) only [kX10_readClause, sx1, sx2, eq1, s1, s2, ↓if_pos, ↓if_neg, nb_add, nb_sub, nb_mul, Int.toNat_natCast, mm_kr_s, mm_kv_s, if_pos, if_neg, sq_tn, Int.toNat_zero, Int.reduceToNat, Int.reduceNeg, Nat.reduceAdd, Int.reduceAdd, Int.reduceEq, Int.reduceLT, Int.reduceLE, Int.zero_add, nb_ui_s, nb_ui_k, nb_ui_a, sp_min, sp_max, sp_bits]
      refine sq_kr (oc (e + 7) J L (by omega) (f2.zS hs0) (f2.zc hc) (by rw [j2, nb_ui_s]) j3) (fun K hK => ?_)
      exact nx K (f2.tr hK.1) hK.2
    cases o with
    | inl p =>
      refine ⟨.inl p, og, fun d I L hd hs0 hc hi hTc => ?_, fun d P I L x r Q hd hzm hi hw hTm nx => ?_⟩
      · refine hcls d I L hd hs0 hc hi hTc _ (fun J hf hJ => ?_)
        have e0 : zir (Sum.inl p : zio) = 0 := rfl
        simp (disch := (first | assumption | omega | exact nb_ix (by omega) (by assumption) (by omega) (by omega) | exact nb_ix (by omega) rfl (by omega) (by omega) | exact nb_ok (by omega) rfl | decide)) only [kX10_readClause, e0, ↓if_pos, ↓if_neg, nb_add, nb_sub, nb_mul, Int.toNat_natCast, mm_kr_s, mm_kv_s, if_pos, if_neg, sq_tn, Int.toNat_zero, Int.reduceToNat, Int.reduceNeg, Nat.reduceAdd, Int.reduceAdd, Int.reduceEq, Int.reduceLT, Int.reduceLE, Int.zero_add, nb_ui_s, nb_ui_k, nb_ui_a, sp_min, sp_max, sp_bits]
        exact sq_ret ⟨hf.fc, hJ⟩
      · obtain ⟨e, rfl⟩ : ∃ e, d = e + 8 := ⟨d - 8, by omega⟩
        have ok := hzm.1.ok
        have hM := hzm.1
        obtain ⟨m0, m1, m2, m3, m4, m5, m6, m7, m8, m9, m10, m11, m12, m13, -⟩ := hM
        have hl := zm_look (d := e + 6) (L := L) hzm hk hi
        have e1 : (j : Int) + 1 = ((j + 1 : Nat) : Int) := by omega
        obtain ⟨k1, k2, -⟩ := hTm
        have hz2 : zm n P (mm_ui I 239 3 ((j + 1 : Nat) : Int)) T S := hzm.up (by decide) (by decide)
        have omx := fun (ρ f N : Nat) => om (e + 8) P (mm_ui I 239 3 ((j + 1 : Nat) : Int)) L ρ f N (by omega) hz2 (by rw [nb_ui_s]) (by rw [nb_ui_k (by decide)]; exact hw)
        have : q = 0 ∨ q = 1 ∨ q = 2 := by omega
        rcases this with e0 | e0 | e0 <;> subst e0
        · have c0 : zp T S j = 115 := hc1
          have c4 : rd = 0 := hfu
          have c5 : (rd : Int) = 0 := by omega
          have omy := omx 250 0 3 (by decide) (by omega) (by decide +kernel) (by decide) (by decide)
          rw [c0] at hl
          simp (disch := (first | assumption | omega | exact nb_ix (by omega) (by assumption) (by omega) (by omega) | exact nb_ix (by omega) rfl (by omega) (by omega) | exact nb_ok (by omega) rfl | decide)) only [kX12_readTown, hl, e1, nb_ui_2, m11, ↓if_pos, ↓if_neg, nb_add, nb_sub, nb_mul, Int.toNat_natCast, mm_kr_s, mm_kv_s, if_pos, if_neg, sq_tn, Int.toNat_zero, Int.reduceToNat, Int.reduceNeg, Nat.reduceAdd, Int.reduceAdd, Int.reduceEq, Int.reduceLT, Int.reduceLE, Int.zero_add, nb_ui_s, nb_ui_k, nb_ui_a, sp_min, sp_max, sp_bits]
          refine sq_kv omy (fun J hJ => ?_)
          have st : mm_E (e + 8) 185 99 [.inr (.inr (some 239)), .inl 1, .inl 1, .inl 115] [] [] n J L P = mm_E (e + 8) 185 214 [.inr (.inr (some 239)), .inl 1, .inl 1, .inl 115] [] [] n J L P := by
            simp (disch := (first | assumption | omega | exact nb_ix (by omega) (by assumption) (by omega) (by omega) | exact nb_ix (by omega) rfl (by omega) (by omega) | exact nb_ok (by omega) rfl | decide)) only [kX12_readTown, ↓if_pos, ↓if_neg, nb_add, nb_sub, nb_mul, Int.toNat_natCast, mm_kr_s, mm_kv_s, if_pos, if_neg, sq_tn, Int.toNat_zero, Int.reduceToNat, Int.reduceNeg, Nat.reduceAdd, Int.reduceAdd, Int.reduceEq, Int.reduceLT, Int.reduceLE, Int.zero_add, nb_ui_s, nb_ui_k, nb_ui_a, sp_min, sp_max, sp_bits]
          rw [st]
          exact nx _ _ _ (((zFm.refl I).up (Or.inl rfl)).tr (hJ.1.fm (Or.inl rfl))) hJ.2
        · have c0 : zp T S j = 112 := hc1
          have c4 : np < 8 := hfu
          have c5 : ¬ (8 : Int) ≤ (np : Int) := by omega
          have c6 : ¬ (112 : Int) = 115 := by decide
          have omy := omx 251 (2 * np) 16 (by decide) (by omega) (by decide +kernel) (by show 2 * np + 2 ≤ 16; omega) (by decide)
          have e2 : 2 * (np : Int) = ((2 * np : Nat) : Int) := by omega
          have e3 : (np : Int) + 1 = ((np + 1 : Nat) : Int) := by omega
          rw [c0] at hl
          simp (disch := (first | assumption | omega | exact nb_ix (by omega) (by assumption) (by omega) (by omega) | exact nb_ix (by omega) rfl (by omega) (by omega) | exact nb_ok (by omega) rfl | decide)) only [kX12_readTown, hl, e1, nb_ui_2, m12, k1, e2, ↓if_pos, ↓if_neg, nb_add, nb_sub, nb_mul, Int.toNat_natCast, mm_kr_s, mm_kv_s, if_pos, if_neg, sq_tn, Int.toNat_zero, Int.reduceToNat, Int.reduceNeg, Nat.reduceAdd, Int.reduceAdd, Int.reduceEq, Int.reduceLT, Int.reduceLE, Int.zero_add, nb_ui_s, nb_ui_k, nb_ui_a, sp_min, sp_max, sp_bits]
          refine sq_kv omy (fun J hJ => ?_)
          have kJ : J 239 20 = (np : Int) := by rw [hJ.1.2.1 20 (by decide) (by decide), nb_ui_k (by decide)]; exact k1
          have st : mm_E (e + 8) 185 143 [.inr (.inr (some 239)), .inl ((rd : Int)), .inl 1, .inl 112] [] [] n J L P = mm_E (e + 8) 185 214 [.inr (.inr (some 239)), .inl ((rd : Int)), .inl 1, .inl 112] [] [] n (mm_ui J 239 20 ((np + 1 : Nat) : Int)) L P := by
            simp (disch := (first | assumption | omega | exact nb_ix (by omega) (by assumption) (by omega) (by omega) | exact nb_ix (by omega) rfl (by omega) (by omega) | exact nb_ok (by omega) rfl | decide)) only [kX12_readTown, kJ, e3, ↓if_pos, ↓if_neg, nb_add, nb_sub, nb_mul, Int.toNat_natCast, mm_kr_s, mm_kv_s, if_pos, if_neg, sq_tn, Int.toNat_zero, Int.reduceToNat, Int.reduceNeg, Nat.reduceAdd, Int.reduceAdd, Int.reduceEq, Int.reduceLT, Int.reduceLE, Int.zero_add, nb_ui_s, nb_ui_k, nb_ui_a, sp_min, sp_max, sp_bits]
          rw [st]
          refine nx _ _ _ ((((zFm.refl I).up (Or.inl rfl)).tr (hJ.1.fm (Or.inr (Or.inl rfl)))).up (Or.inr (Or.inr (Or.inl rfl)))) ?_
          rcases hJ.2 with ⟨g1, t0, g2, g3⟩ | ⟨g1, g2, g3⟩
          · exact Or.inl ⟨by rw [nb_ui_k (by decide)]; exact g1, t0, g2, by rw [nb_ui_k (by decide)]; exact g3⟩
          · exact Or.inr ⟨by rw [nb_ui_k (by decide)]; exact g1, by rw [nb_ui_k (by decide)]; exact g2, g3⟩
        · have c0 : zp T S j = 108 := hc1
          have c4 : nl < 12 := hfu
          have c5 : ¬ (12 : Int) ≤ (nl : Int) := by omega
          have c6 : ¬ (108 : Int) = 115 := by decide
          have c7 : ¬ (108 : Int) = 112 := by decide
          have omy := omx 252 (2 * nl) 24 (by decide) (by omega) (by decide +kernel) (by show 2 * nl + 2 ≤ 24; omega) (by decide)
          have e2 : 2 * (nl : Int) = ((2 * nl : Nat) : Int) := by omega
          have e3 : (nl : Int) + 1 = ((nl + 1 : Nat) : Int) := by omega
          rw [c0] at hl
          simp (disch := (first | assumption | omega | exact nb_ix (by omega) (by assumption) (by omega) (by omega) | exact nb_ix (by omega) rfl (by omega) (by omega) | exact nb_ok (by omega) rfl | decide)) only [kX12_readTown, hl, e1, nb_ui_2, m13, k2, e2, ↓if_pos, ↓if_neg, nb_add, nb_sub, nb_mul, Int.toNat_natCast, mm_kr_s, mm_kv_s, if_pos, if_neg, sq_tn, Int.toNat_zero, Int.reduceToNat, Int.reduceNeg, Nat.reduceAdd, Int.reduceAdd, Int.reduceEq, Int.reduceLT, Int.reduceLE, Int.zero_add, nb_ui_s, nb_ui_k, nb_ui_a, sp_min, sp_max, sp_bits]
          refine sq_kv omy (fun J hJ => ?_)
          have kJ : J 239 21 = (nl : Int) := by rw [hJ.1.2.1 21 (by decide) (by decide), nb_ui_k (by decide)]; exact k2
          have st : mm_E (e + 8) 185 197 [.inr (.inr (some 239)), .inl ((rd : Int)), .inl 1, .inl 108] [] [] n J L P = mm_E (e + 8) 185 214 [.inr (.inr (some 239)), .inl ((rd : Int)), .inl 1, .inl 108] [] [] n (mm_ui J 239 21 ((nl + 1 : Nat) : Int)) L P := by
            simp (disch := (first | assumption | omega | exact nb_ix (by omega) (by assumption) (by omega) (by omega) | exact nb_ix (by omega) rfl (by omega) (by omega) | exact nb_ok (by omega) rfl | decide)) only [kX12_readTown, kJ, e3, ↓if_pos, ↓if_neg, nb_add, nb_sub, nb_mul, Int.toNat_natCast, mm_kr_s, mm_kv_s, if_pos, if_neg, sq_tn, Int.toNat_zero, Int.reduceToNat, Int.reduceNeg, Nat.reduceAdd, Int.reduceAdd, Int.reduceEq, Int.reduceLT, Int.reduceLE, Int.zero_add, nb_ui_s, nb_ui_k, nb_ui_a, sp_min, sp_max, sp_bits]
          rw [st]
          refine nx _ _ _ ((((zFm.refl I).up (Or.inl rfl)).tr (hJ.1.fm (Or.inr (Or.inr rfl)))).up (Or.inr (Or.inr (Or.inr rfl)))) ?_
          rcases hJ.2 with ⟨g1, t0, g2, g3⟩ | ⟨g1, g2, g3⟩
          · exact Or.inl ⟨by rw [nb_ui_k (by decide)]; exact g1, t0, g2, by rw [nb_ui_k (by decide)]; exact g3⟩
          · exact Or.inr ⟨by rw [nb_ui_k (by decide)]; exact g1, by rw [nb_ui_k (by decide)]; exact g2, g3⟩
    | inr pu =>
      obtain ⟨j3, u⟩ := pu
      obtain ⟨g1, g2, g3, g4⟩ := og
      obtain ⟨ru', rd', np', pl', nl', la', hE, hR⟩ := zun_ok (j := j3) hq hr hfu g4
      refine ⟨.inr (zunx q j3 ru rd np pl nl la u), ?_, fun d I L hd hs0 hc hi hTc => ?_, fun d P I L x r Q hd hzm hi hw hTm nx => ?_⟩
      · rw [hE]
        exact ⟨by show i < j3; have : j + 1 ≤ j3 := g1; omega, g2, hR⟩
      · have hn := hc.1
        refine hcls d I L hd hs0 hc hi hTc _ (fun J hf hJ => ?_)
        obtain ⟨e, rfl⟩ : ∃ e, d = e + 8 := ⟨d - 8, by omega⟩
        rw [show e + 8 - 1 = e + 7 by omega]
        have e0 : zir (Sum.inr (j3, u) : zio) = 1 := rfl
        have hJ0 := hJ.1
        have hJu := hJ.2
        obtain ⟨k1, k2, k3, k4, k5, k6, k7, k8⟩ := hTc
        have w3 : J 3 = I 3 := hf.1 3 (by decide) (by decide)
        have w5 : J 5 = I 5 := hf.1 5 (by decide) (by decide)
        have w6 : J 6 = I 6 := hf.1 6 (by decide) (by decide)
        have wt : J t = I t := hf.1 t (by omega) (by omega)
        have wt1 : J (t + 1) = I (t + 1) := hf.1 _ (by omega) (by omega)
        have wt2 : J (t + 2) = I (t + 2) := hf.1 _ (by omega) (by omega)
        have wt3 : J (t + 3) = I (t + 3) := hf.1 _ (by omega) (by omega)
        have hfc : zFc t I J := hf.fc
        have : q = 0 ∨ q = 1 ∨ q = 2 := by omega
        rcases this with e9 | e9 | e9 <;> subst e9
        · have hkr := zU_kr (d := e + 6) (L := L) (I := mm_ui J 3 4 1) hT ht hn p3.1
          simp (disch := (first | assumption | omega | exact nb_ix (by omega) (by assumption) (by omega) (by omega) | exact nb_ix (by omega) rfl (by omega) (by omega) | exact nb_ok (by omega) rfl | decide)) only [kX10_readClause, e0, hkr, ↓if_pos, ↓if_neg, nb_add, nb_sub, nb_mul, Int.toNat_natCast, mm_kr_s, mm_kv_s, if_pos, if_neg, sq_tn, Int.toNat_zero, Int.reduceToNat, Int.reduceNeg, Nat.reduceAdd, Int.reduceAdd, Int.reduceEq, Int.reduceLT, Int.reduceLE, Int.zero_add, nb_ui_s, nb_ui_k, nb_ui_a, sp_min, sp_max, sp_bits]
          refine sq_ret ⟨(((hfc.up (by unfold zUl; simp) (by decide)).up (by unfold zUl; simp) (by omega)).up (by unfold zUl; simp) (by omega)).up (by unfold zUl; simp) (by omega), ?_⟩
          refine ⟨?_, ?_, ?_, ?_, ?_, ?_, ?_, fun p hp => ?_, fun l hl => ?_⟩
          · rw [nb_ui_a (by omega), nb_ui_a (by omega), nb_ui_a (by omega), nb_ui_a (by omega)]; exact hJ0
          · rw [nb_ui_a (by omega), nb_ui_a (by omega), nb_ui_a (by omega), nb_ui_k (by decide), w3]; exact k1
          · rw [nb_ui_a (by omega), nb_ui_a (by omega), nb_ui_a (by omega), nb_ui_s]; rfl
          · rw [nb_ui_k (by decide), nb_ui_k (by decide), nb_ui_k (by decide), nb_ui_a (by omega), wt]; exact k3
          · rw [nb_ui_k (by decide), nb_ui_k (by decide), nb_ui_s]; exact hJu 0 (by decide)
          · rw [nb_ui_k (by decide), nb_ui_s]; exact hJu 1 (by decide)
          · rw [nb_ui_s]; exact hJu 2 (by decide)
          · rw [nb_ui_r (by omega), nb_ui_r (by omega), nb_ui_r (by omega), nb_ui_r (by omega), nb_ui_r (by omega), nb_ui_r (by omega), nb_ui_r (by omega), nb_ui_r (by omega), nb_ui_r (by omega), nb_ui_r (by omega), nb_ui_r (by omega), nb_ui_r (by omega), wt1, wt2, wt3]; exact k7 p hp
          · rw [nb_ui_r (by omega), nb_ui_r (by omega), nb_ui_r (by omega), nb_ui_r (by omega), nb_ui_r (by omega), nb_ui_r (by omega), nb_ui_r (by omega), nb_ui_r (by omega), w5, w6]; exact k8 l hl
        · have hnp : np < 8 := hfu
          have hkp := zU_kp (d := e + 6) (L := L) (I := J) (np := np) hT ht hn p3.1 (by rw [wt]; exact k3) hnp
          have c1 : ¬ (1 : Int) = 0 := by decide
          simp (disch := (first | assumption | omega | exact nb_ix (by omega) (by assumption) (by omega) (by omega) | exact nb_ix (by omega) rfl (by omega) (by omega) | exact nb_ok (by omega) rfl | decide)) only [kX10_readClause, e0, hkp, ↓if_pos, ↓if_neg, nb_add, nb_sub, nb_mul, Int.toNat_natCast, mm_kr_s, mm_kv_s, if_pos, if_neg, sq_tn, Int.toNat_zero, Int.reduceToNat, Int.reduceNeg, Nat.reduceAdd, Int.reduceAdd, Int.reduceEq, Int.reduceLT, Int.reduceLE, Int.zero_add, nb_ui_s, nb_ui_k, nb_ui_a, sp_min, sp_max, sp_bits]
          refine sq_ret ⟨(((hfc.up (by unfold zUl; simp) (by omega)).up (by unfold zUl; simp) (by omega)).up (by unfold zUl; simp) (by omega)).up (by unfold zUl; simp) (by omega), ?_⟩
          refine ⟨?_, ?_, ?_, ?_, ?_, ?_, ?_, fun p hp => ?_, fun l hl => ?_⟩
          · rw [nb_ui_a (by omega), nb_ui_a (by omega), nb_ui_a (by omega), nb_ui_a (by omega)]; exact hJ0
          · rw [nb_ui_a (by omega), nb_ui_a (by omega), nb_ui_a (by omega), nb_ui_a (by omega), w3]; exact k1
          · rw [nb_ui_a (by omega), nb_ui_a (by omega), nb_ui_a (by omega), nb_ui_a (by omega), w3]; exact k2
          · rw [nb_ui_s]
          · rw [nb_ui_k (by decide), nb_ui_a (by omega), nb_ui_a (by omega), nb_ui_a (by omega), wt]; exact k4
          · rw [nb_ui_k (by decide), nb_ui_a (by omega), nb_ui_a (by omega), nb_ui_a (by omega), wt]; exact k5
          · rw [nb_ui_k (by decide), nb_ui_a (by omega), nb_ui_a (by omega), nb_ui_a (by omega), wt]; exact k6
          · by_cases ep : p = np
            · subst ep
              rw [nb_ui_a (by omega), nb_ui_a (by omega), nb_ui_a (by omega), nb_ui_s, nb_ui_a (by omega), nb_ui_a (by omega), nb_ui_s, nb_ui_a (by omega), nb_ui_s, zr2_0, zr2_1]
              exact ⟨hJu 0 (by decide), hJu 1 (by decide), rfl⟩
            · rw [nb_ui_a (by omega), nb_ui_a (by omega), nb_ui_a (by omega), nb_ui_k ep, nb_ui_a (by omega), nb_ui_a (by omega), nb_ui_k ep, nb_ui_a (by omega), nb_ui_a (by omega), nb_ui_k ep, nb_ui_a (by omega), nb_ui_a (by omega), wt1, wt2, wt3, zr2_lt (by omega), zr2_lt (by omega)]
              exact k7 p (by omega)
          · rw [nb_ui_r (by omega), nb_ui_r (by omega), nb_ui_r (by omega), nb_ui_r (by omega), nb_ui_r (by omega), nb_ui_r (by omega), nb_ui_r (by omega), nb_ui_r (by omega), w5, w6]; exact k8 l hl
        · have hnl : nl < 12 := hfu
          have hkl := zU_kl (d := e + 6) (n := n) (P := P) (L := L) (I := J) (nl := nl) hn p3 (by rw [w3]; exact k1) hnl
          have c1 : ¬ (2 : Int) = 0 := by decide
          have c2 : ¬ (2 : Int) = 1 := by decide
          simp (disch := (first | assumption | omega | exact nb_ix (by omega) (by assumption) (by omega) (by omega) | exact nb_ix (by omega) rfl (by omega) (by omega) | exact nb_ok (by omega) rfl | decide)) only [kX10_readClause, e0, hkl, ↓if_pos, ↓if_neg, nb_add, nb_sub, nb_mul, Int.toNat_natCast, mm_kr_s, mm_kv_s, if_pos, if_neg, sq_tn, Int.toNat_zero, Int.reduceToNat, Int.reduceNeg, Nat.reduceAdd, Int.reduceAdd, Int.reduceEq, Int.reduceLT, Int.reduceLE, Int.zero_add, nb_ui_s, nb_ui_k, nb_ui_a, sp_min, sp_max, sp_bits]
          refine sq_ret ⟨((hfc.up (by unfold zUl; simp) (by omega)).up (by unfold zUl; simp) (by omega)).up (by unfold zUl; simp) (by omega), ?_⟩
          refine ⟨?_, ?_, ?_, ?_, ?_, ?_, ?_, fun p hp => ?_, fun l hl => ?_⟩
          · rw [nb_ui_a (by omega), nb_ui_a (by omega), nb_ui_a (by omega)]; exact hJ0
          · rw [nb_ui_s]
          · rw [nb_ui_k (by decide), nb_ui_a (by omega), nb_ui_a (by omega), w3]; exact k2
          · rw [nb_ui_a (by omega), nb_ui_a (by omega), nb_ui_a (by omega), wt]; exact k3
          · rw [nb_ui_a (by omega), nb_ui_a (by omega), nb_ui_a (by omega), wt]; exact k4
          · rw [nb_ui_a (by omega), nb_ui_a (by omega), nb_ui_a (by omega), wt]; exact k5
          · rw [nb_ui_a (by omega), nb_ui_a (by omega), nb_ui_a (by omega), wt]; exact k6
          · rw [nb_ui_r (by omega), nb_ui_r (by omega), nb_ui_r (by omega), nb_ui_r (by omega), nb_ui_r (by omega), nb_ui_r (by omega), nb_ui_r (by omega), nb_ui_r (by omega), nb_ui_r (by omega), wt1, wt2, wt3]; exact k7 p hp
          · by_cases el : l = nl
            · subst el
              rw [nb_ui_a (by omega), nb_ui_a (by omega), nb_ui_s, nb_ui_a (by omega), nb_ui_s, zr2_0, zr2_1]
              exact ⟨hJu 0 (by decide), hJu 1 (by decide)⟩
            · rw [nb_ui_a (by omega), nb_ui_a (by omega), nb_ui_k el, nb_ui_a (by omega), nb_ui_k el, nb_ui_a (by omega), w5, w6, zr2_lt (by omega), zr2_lt (by omega)]
              exact k8 l (by omega)
      · obtain ⟨e, rfl⟩ : ∃ e, d = e + 8 := ⟨d - 8, by omega⟩
        have ok := hzm.1.ok
        have hM := hzm.1
        obtain ⟨m0, m1, m2, m3, m4, m5, m6, m7, m8, m9, m10, m11, m12, m13, -⟩ := hM
        have hl := zm_look (d := e + 6) (L := L) hzm hk hi
        have e1 : (j : Int) + 1 = ((j + 1 : Nat) : Int) := by omega
        obtain ⟨k1, k2, k3, k4, k5⟩ := hTm
        have hz2 : zm n P (mm_ui I 239 3 ((j + 1 : Nat) : Int)) T S := hzm.up (by decide) (by decide)
        have omx := fun (ρ f N : Nat) => om (e + 8) P (mm_ui I 239 3 ((j + 1 : Nat) : Int)) L ρ f N (by omega) hz2 (by rw [nb_ui_s]) (by rw [nb_ui_k (by decide)]; exact hw)
        have : q = 0 ∨ q = 1 ∨ q = 2 := by omega
        rcases this with e0 | e0 | e0 <;> subst e0
        · have c0 : zp T S j = 115 := hc1
          have c4 : rd = 0 := hfu
          have c5 : (rd : Int) = 0 := by omega
          have omy := omx 250 0 3 (by decide) (by omega) (by decide +kernel) (by decide) (by decide)
          rw [c0] at hl
          simp (disch := (first | assumption | omega | exact nb_ix (by omega) (by assumption) (by omega) (by omega) | exact nb_ix (by omega) rfl (by omega) (by omega) | exact nb_ok (by omega) rfl | decide)) only [kX12_readTown, hl, e1, nb_ui_2, m11, ↓if_pos, ↓if_neg, nb_add, nb_sub, nb_mul, Int.toNat_natCast, mm_kr_s, mm_kv_s, if_pos, if_neg, sq_tn, Int.toNat_zero, Int.reduceToNat, Int.reduceNeg, Nat.reduceAdd, Int.reduceAdd, Int.reduceEq, Int.reduceLT, Int.reduceLE, Int.zero_add, nb_ui_s, nb_ui_k, nb_ui_a, sp_min, sp_max, sp_bits]
          refine sq_kv omy (fun J hJ => ?_)
          obtain ⟨hf, z1, z2, z3⟩ := hJ
          have st : mm_E (e + 8) 185 99 [.inr (.inr (some 239)), .inl 1, .inl 1, .inl 115] [] [] n J L P = mm_E (e + 8) 185 214 [.inr (.inr (some 239)), .inl 1, .inl 1, .inl 115] [] [] n J L P := by
            simp (disch := (first | assumption | omega | exact nb_ix (by omega) (by assumption) (by omega) (by omega) | exact nb_ix (by omega) rfl (by omega) (by omega) | exact nb_ok (by omega) rfl | decide)) only [kX12_readTown, ↓if_pos, ↓if_neg, nb_add, nb_sub, nb_mul, Int.toNat_natCast, mm_kr_s, mm_kv_s, if_pos, if_neg, sq_tn, Int.toNat_zero, Int.reduceToNat, Int.reduceNeg, Nat.reduceAdd, Int.reduceAdd, Int.reduceEq, Int.reduceLT, Int.reduceLE, Int.zero_add, nb_ui_s, nb_ui_k, nb_ui_a, sp_min, sp_max, sp_bits]
          rw [st]
          refine nx _ _ _ (((zFm.refl I).up (Or.inl rfl)).tr (hf.fm (Or.inl rfl))) ⟨z1, z2, rfl, ?_, ?_, fun k hk => ?_, fun k hk => ?_, fun k hk => ?_⟩
          · rw [hf.2.1 20 (by decide) (by decide), nb_ui_k (by decide)]; exact k1
          · rw [hf.2.1 21 (by decide) (by decide), nb_ui_k (by decide)]; exact k2
          · have := z3 k hk; rw [Nat.zero_add] at this; exact this
          · rw [hf.1 251 (by decide) (by decide), nb_ui_a (by decide)]; exact k4 k hk
          · rw [hf.1 252 (by decide) (by decide), nb_ui_a (by decide)]; exact k5 k hk
        · have c0 : zp T S j = 112 := hc1
          have c4 : np < 8 := hfu
          have c5 : ¬ (8 : Int) ≤ (np : Int) := by omega
          have c6 : ¬ (112 : Int) = 115 := by decide
          have omy := omx 251 (2 * np) 16 (by decide) (by omega) (by decide +kernel) (by show 2 * np + 2 ≤ 16; omega) (by decide)
          have e2 : 2 * (np : Int) = ((2 * np : Nat) : Int) := by omega
          have e3 : (np : Int) + 1 = ((np + 1 : Nat) : Int) := by omega
          rw [c0] at hl
          simp (disch := (first | assumption | omega | exact nb_ix (by omega) (by assumption) (by omega) (by omega) | exact nb_ix (by omega) rfl (by omega) (by omega) | exact nb_ok (by omega) rfl | decide)) only [kX12_readTown, hl, e1, nb_ui_2, m12, k1, e2, ↓if_pos, ↓if_neg, nb_add, nb_sub, nb_mul, Int.toNat_natCast, mm_kr_s, mm_kv_s, if_pos, if_neg, sq_tn, Int.toNat_zero, Int.reduceToNat, Int.reduceNeg, Nat.reduceAdd, Int.reduceAdd, Int.reduceEq, Int.reduceLT, Int.reduceLE, Int.zero_add, nb_ui_s, nb_ui_k, nb_ui_a, sp_min, sp_max, sp_bits]
          refine sq_kv omy (fun J hJ => ?_)
          obtain ⟨hf, z1, z2, z3⟩ := hJ
          have kJ : J 239 20 = (np : Int) := by rw [hf.2.1 20 (by decide) (by decide), nb_ui_k (by decide)]; exact k1
          have st : mm_E (e + 8) 185 143 [.inr (.inr (some 239)), .inl ((rd : Int)), .inl 1, .inl 112] [] [] n J L P = mm_E (e + 8) 185 214 [.inr (.inr (some 239)), .inl ((rd : Int)), .inl 1, .inl 112] [] [] n (mm_ui J 239 20 ((np + 1 : Nat) : Int)) L P := by
            simp (disch := (first | assumption | omega | exact nb_ix (by omega) (by assumption) (by omega) (by omega) | exact nb_ix (by omega) rfl (by omega) (by omega) | exact nb_ok (by omega) rfl | decide)) only [kX12_readTown, kJ, e3, ↓if_pos, ↓if_neg, nb_add, nb_sub, nb_mul, Int.toNat_natCast, mm_kr_s, mm_kv_s, if_pos, if_neg, sq_tn, Int.toNat_zero, Int.reduceToNat, Int.reduceNeg, Nat.reduceAdd, Int.reduceAdd, Int.reduceEq, Int.reduceLT, Int.reduceLE, Int.zero_add, nb_ui_s, nb_ui_k, nb_ui_a, sp_min, sp_max, sp_bits]
          rw [st]
          refine nx _ _ _ ((((zFm.refl I).up (Or.inl rfl)).tr (hf.fm (Or.inr (Or.inl rfl)))).up (Or.inr (Or.inr (Or.inl rfl)))) ⟨?_, ?_, rfl, ?_, ?_, fun k hk => ?_, fun k hk => ?_, fun k hk => ?_⟩
          · rw [nb_ui_k (by decide)]; exact z1
          · rw [nb_ui_k (by decide)]; exact z2
          · rw [nb_ui_s]
          · rw [nb_ui_k (by decide), hf.2.1 21 (by decide) (by decide), nb_ui_k (by decide)]; exact k2
          · rw [nb_ui_a (by decide), hf.1 250 (by decide) (by decide), nb_ui_a (by decide)]; exact k3 k hk
          · rw [nb_ui_a (by decide)]
            by_cases f0 : k = 2 * np
            · subst f0; rw [zr2_0]; exact z3 0 (by decide)
            · by_cases f1 : k = 2 * np + 1
              · subst f1; rw [zr2_1]; exact z3 1 (by decide)
              · rw [zr2_lt (by omega), hf.2.2 k (Or.inl (by omega)), nb_ui_a (by decide)]; exact k4 k (by omega)
          · rw [nb_ui_a (by decide), hf.1 252 (by decide) (by decide), nb_ui_a (by decide)]; exact k5 k hk
        · have c0 : zp T S j = 108 := hc1
          have c4 : nl < 12 := hfu
          have c5 : ¬ (12 : Int) ≤ (nl : Int) := by omega
          have c6 : ¬ (108 : Int) = 115 := by decide
          have c7 : ¬ (108 : Int) = 112 := by decide
          have omy := omx 252 (2 * nl) 24 (by decide) (by omega) (by decide +kernel) (by show 2 * nl + 2 ≤ 24; omega) (by decide)
          have e2 : 2 * (nl : Int) = ((2 * nl : Nat) : Int) := by omega
          have e3 : (nl : Int) + 1 = ((nl + 1 : Nat) : Int) := by omega
          rw [c0] at hl
          simp (disch := (first | assumption | omega | exact nb_ix (by omega) (by assumption) (by omega) (by omega) | exact nb_ix (by omega) rfl (by omega) (by omega) | exact nb_ok (by omega) rfl | decide)) only [kX12_readTown, hl, e1, nb_ui_2, m13, k2, e2, ↓if_pos, ↓if_neg, nb_add, nb_sub, nb_mul, Int.toNat_natCast, mm_kr_s, mm_kv_s, if_pos, if_neg, sq_tn, Int.toNat_zero, Int.reduceToNat, Int.reduceNeg, Nat.reduceAdd, Int.reduceAdd, Int.reduceEq, Int.reduceLT, Int.reduceLE, Int.zero_add, nb_ui_s, nb_ui_k, nb_ui_a, sp_min, sp_max, sp_bits]
          refine sq_kv omy (fun J hJ => ?_)
          obtain ⟨hf, z1, z2, z3⟩ := hJ
          have kJ : J 239 21 = (nl : Int) := by rw [hf.2.1 21 (by decide) (by decide), nb_ui_k (by decide)]; exact k2
          have st : mm_E (e + 8) 185 197 [.inr (.inr (some 239)), .inl ((rd : Int)), .inl 1, .inl 108] [] [] n J L P = mm_E (e + 8) 185 214 [.inr (.inr (some 239)), .inl ((rd : Int)), .inl 1, .inl 108] [] [] n (mm_ui J 239 21 ((nl + 1 : Nat) : Int)) L P := by
            simp (disch := (first | assumption | omega | exact nb_ix (by omega) (by assumption) (by omega) (by omega) | exact nb_ix (by omega) rfl (by omega) (by omega) | exact nb_ok (by omega) rfl | decide)) only [kX12_readTown, kJ, e3, ↓if_pos, ↓if_neg, nb_add, nb_sub, nb_mul, Int.toNat_natCast, mm_kr_s, mm_kv_s, if_pos, if_neg, sq_tn, Int.toNat_zero, Int.reduceToNat, Int.reduceNeg, Nat.reduceAdd, Int.reduceAdd, Int.reduceEq, Int.reduceLT, Int.reduceLE, Int.zero_add, nb_ui_s, nb_ui_k, nb_ui_a, sp_min, sp_max, sp_bits]
          rw [st]
          refine nx _ _ _ ((((zFm.refl I).up (Or.inl rfl)).tr (hf.fm (Or.inr (Or.inr rfl)))).up (Or.inr (Or.inr (Or.inr rfl)))) ⟨?_, ?_, rfl, ?_, ?_, fun k hk => ?_, fun k hk => ?_, fun k hk => ?_⟩
          · rw [nb_ui_k (by decide)]; exact z1
          · rw [nb_ui_k (by decide)]; exact z2
          · rw [nb_ui_k (by decide), hf.2.1 20 (by decide) (by decide), nb_ui_k (by decide)]; exact k1
          · rw [nb_ui_s]
          · rw [nb_ui_a (by decide), hf.1 250 (by decide) (by decide), nb_ui_a (by decide)]; exact k3 k hk
          · rw [nb_ui_a (by decide), hf.1 251 (by decide) (by decide), nb_ui_a (by decide)]; exact k4 k hk
          · rw [nb_ui_a (by decide)]
            by_cases f0 : k = 2 * nl
            · subst f0; rw [zr2_0]; exact z3 0 (by decide)
            · by_cases f1 : k = 2 * nl + 1
              · subst f1; rw [zr2_1]; exact z3 1 (by decide)
              · rw [zr2_lt (by omega), hf.2.2 k (Or.inl (by omega)), nb_ui_a (by decide)]; exact k5 k (by omega)
end OC
