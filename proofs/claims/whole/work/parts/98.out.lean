/-! what a reader of a law comes to: a fault's place, or a place and tokens -/
abbrev zo : Type := Sum Nat (Nat × List (Nat × Int))
def zg (S i : Nat) : zo → Prop
  | .inl p => p ≤ S
  | .inr q => i < q.1 ∧ q.1 ≤ S ∧ q.2.length + i ≤ q.1
def sx_S (k : Nat) (toks : List (Nat × Int)) : Prop := ∀ l, sx_okl l → ∃ x, ∀ st : List Int, st.length + k ≤ 60 → sx_ev l toks st = some (x :: st)
def zs (k : Nat) : zo → Prop
  | .inl _ => True
  | .inr q => sx_S k q.2
def zcF (a : Nat) (I I' : mm_I) : Prop := (∀ b, b ≠ 1 → b ≠ a → b ≠ a + 1 → I' b = I b) ∧ (∀ k, k ≠ 2 → I' 1 k = I 1 k) ∧ (∀ k, k ≠ 1 → I' a k = I a k)
theorem zcF.refl (a : Nat) (I : mm_I) : zcF a I I := ⟨fun _ _ _ _ => rfl, fun _ _ => rfl, fun _ _ => rfl⟩
theorem zcF.tr {a : Nat} {I J K : mm_I} (h : zcF a I J) (h2 : zcF a J K) : zcF a I K := ⟨fun b h3 h4 h5 => by rw [h2.1 b h3 h4 h5, h.1 b h3 h4 h5], fun k hk => by rw [h2.2.1 k hk, h.2.1 k hk], fun k hk => by rw [h2.2.2 k hk, h.2.2 k hk]⟩
theorem zcF.at {a : Nat} {I J : mm_I} {z : Int} (ha : 20 ≤ a) (h : zcF a I J) : zcF a I (mm_ui J 1 2 z) := ⟨fun b h3 h4 h5 => by rw [nb_ui_r h3]; exact h.1 b h3 h4 h5, fun k hk => by rw [nb_ui_k hk]; exact h.2.1 k hk, fun k hk => by rw [nb_ui_a (by omega)]; exact h.2.2 k hk⟩
theorem zcF.sg {a k : Nat} {I J : mm_I} {z : Int} (ha : 20 ≤ a) (h : zcF a I J) : zcF a I (mm_ui J (a + 1) k z) := ⟨fun b h3 h4 h5 => by rw [nb_ui_r h5]; exact h.1 b h3 h4 h5, fun k hk => by rw [nb_ui_a (by omega)]; exact h.2.1 k hk, fun k hk => by rw [nb_ui_a (by omega)]; exact h.2.2 k hk⟩
theorem zcF.ln {a : Nat} {I J : mm_I} {z : Int} (ha : 20 ≤ a) (h : zcF a I J) : zcF a I (mm_ui J a 1 z) := ⟨fun b h3 h4 h5 => by rw [nb_ui_r h4]; exact h.1 b h3 h4 h5, fun k hk => by rw [nb_ui_a (by omega)]; exact h.2.1 k hk, fun k hk => by rw [nb_ui_k hk]; exact h.2.2 k hk⟩
theorem zcF.zc {n : Nat} {P : mm_P} {a S : Nat} {T : Nat → Int} {I J : mm_I} (ha : 20 ≤ a) (h : zcF a I J) (hz : zc n P I T S) : zc n P J T S := by
  obtain ⟨a1, a2, a3, a4, a5, a6⟩ := hz
  refine ⟨a1, a2, by rw [h.2.1 1 (by decide)]; exact a3, a4, fun i hi => by rw [h.1 2 (by decide) (by omega) (by omega)]; exact a5 i hi, a6⟩
def zcP (a c0 : Nat) (I I' : mm_I) : zo → Prop
  | .inl p => I' 1 2 = (p : Int) ∧ zcF a I I'
  | .inr q => I' 1 2 = (q.1 : Int) ∧ I' a 1 = ((c0 + q.2.length : Nat) : Int) ∧ sx_at (I' (a + 1)) c0 q.2 ∧ (∀ k, k < c0 → I' (a + 1) k = I (a + 1) k) ∧ zcF a I I'
def zr : zo → Int
  | .inl _ => 0
  | .inr _ => 1
def zcX (n : Nat) (P : mm_P) (a : Nat) (T : Nat → Int) (S : Nat) (R : mm_I → mm_I → Option mm_A) (i : Nat) (o : zo) : Prop := ∀ (I L : mm_I) (c0 : Nat), zc n P I T S → I 1 2 = (i : Int) → I a 1 = (c0 : Int) → c0 ≤ i → sq_X (some (.inl (zr o))) n L P (fun I' => zcP a c0 I I' o) (R I L)
def zmF (x c0 : Nat) (I I' : mm_I) : Prop := (∀ b, b ≠ 239 → b ≠ 241 → b ≠ 242 → b ≠ 243 → I' b = I b) ∧ (∀ k, k ≠ 3 → k ≠ 4 → k ≠ 5 → I' 239 k = I 239 k) ∧ (∀ k, k ≠ x → I' 243 k = I 243 k) ∧ (∀ k, (k < 520 * x + c0 ∨ 520 * x + 520 ≤ k) → I' 241 k = I 241 k ∧ I' 242 k = I 242 k)
theorem zmF.refl (x c0 : Nat) (I : mm_I) : zmF x c0 I I := ⟨fun _ _ _ _ _ => rfl, fun _ _ _ _ => rfl, fun _ _ => rfl, fun _ _ => ⟨rfl, rfl⟩⟩
theorem zmF.tr {x c0 c1 : Nat} {I J K : mm_I} (h : zmF x c0 I J) (h2 : zmF x c1 J K) (hc : c0 ≤ c1) : zmF x c0 I K := by
  refine ⟨fun b h3 h4 h5 h6 => by rw [h2.1 b h3 h4 h5 h6, h.1 b h3 h4 h5 h6], fun k h3 h4 h5 => by rw [h2.2.1 k h3 h4 h5, h.2.1 k h3 h4 h5], fun k hk => by rw [h2.2.2.1 k hk, h.2.2.1 k hk], fun k hk => ?_⟩
  have q1 := h.2.2.2 k hk
  have q2 := h2.2.2.2 k (by omega)
  exact ⟨by rw [q2.1, q1.1], by rw [q2.2, q1.2]⟩
theorem zmF.at {x c0 k : Nat} {I J : mm_I} {z : Int} (h : zmF x c0 I J) (hk : k = 3 ∨ k = 4 ∨ k = 5) : zmF x c0 I (mm_ui J 239 k z) := by
  refine ⟨fun b h3 h4 h5 h6 => by rw [nb_ui_r h3]; exact h.1 b h3 h4 h5 h6, fun k h3 h4 h5 => by rw [nb_ui_k (by omega)]; exact h.2.1 k h3 h4 h5, fun k hk => by rw [nb_ui_a (by decide)]; exact h.2.2.1 k hk, fun k hk => ?_⟩
  rw [nb_ui_a (by decide), nb_ui_a (by decide)]
  exact h.2.2.2 k hk
theorem zmF.pt {x c0 c : Nat} {I J : mm_I} {z w y : Int} (h : zmF x c0 I J) (hc : c0 ≤ c) (hc2 : c < 520) : zmF x c0 I (mm_ui (mm_ui (mm_ui J 241 (520 * x + c) z) 242 (520 * x + c) w) 243 x y) := by
  refine ⟨fun b h3 h4 h5 h6 => by rw [nb_ui_r h6, nb_ui_r h5, nb_ui_r h4]; exact h.1 b h3 h4 h5 h6, fun k h3 h4 h5 => by rw [nb_ui_a (by decide), nb_ui_a (by decide), nb_ui_a (by decide)]; exact h.2.1 k h3 h4 h5, fun k hk => by rw [nb_ui_k hk, nb_ui_a (by decide), nb_ui_a (by decide)]; exact h.2.2.1 k hk, fun k hk => ?_⟩
  rw [nb_ui_a (by decide), nb_ui_a (by decide), nb_ui_k (by omega), nb_ui_a (by decide), nb_ui_k (by omega), nb_ui_a (by decide)]
  exact h.2.2.2 k hk
theorem zmF.zm {n : Nat} {P : mm_P} {x c0 S : Nat} {T : Nat → Int} {I J : mm_I} (h : zmF x c0 I J) (hz : zm n P I T S) : zm n P J T S := by
  obtain ⟨a1, a3, a4, a5, a6⟩ := hz
  exact ⟨a1, by rw [h.2.1 2 (by decide) (by decide) (by decide)]; exact a3, a4, fun i hi => by rw [h.1 240 (by decide) (by decide) (by decide) (by decide)]; exact a5 i hi, a6⟩
theorem zmF.tx {x c0 : Nat} {I J : mm_I} {z : Int} (h : zmF x c0 I J) (hz : I 239 14 = z) : J 239 14 = z := by rw [h.2.1 14 (by decide) (by decide) (by decide)]; exact hz
def zmP (x dp i c0 S : Nat) (I I' : mm_I) : zo → Prop
  | .inl p => I' 239 4 = (p : Int) ∧ zmF x c0 I I' ∧ ∃ t c : Nat, I' 239 3 = (t : Int) ∧ I' 243 x = (c : Int) ∧ i ≤ t ∧ t ≤ S + (6 - dp) ∧ c + i ≤ c0 + t ∧ c0 ≤ c
  | .inr q => I' 239 3 = (q.1 : Int) ∧ I' 239 4 = -1 ∧ I' 239 5 = (dp : Int) ∧ I' 243 x = ((c0 + q.2.length : Nat) : Int) ∧ sx_mt I' (520 * x + c0) q.2 ∧ zmF x c0 I I'
def zmX (n : Nat) (P : mm_P) (x : Nat) (T : Nat → Int) (S dp : Nat) (R : mm_I → mm_I → Option mm_A) (i : Nat) (o : zo) : Prop := ∀ (I L : mm_I) (c0 : Nat), zm n P I T S → I 239 3 = (i : Int) → I 239 4 = -1 → I 239 5 = (dp : Int) → I 239 14 = (x : Int) → I 243 x = (c0 : Int) → c0 ≤ i → sq_X none n L P (fun I' => zmP x dp i c0 S I I' o) (R I L)
section OU
variable {n d S i j : Nat} {I L : mm_I} {P : mm_P} {T : Nat → Int}
theorem zp_S {c : Int} (h : zp T S j = c) (hc : c ≠ -1) : j < S := by
  unfold zp at h
  by_cases q : j < S
  · exact q
  · rw [if_neg q] at h
    exact absurd h.symm hc
theorem zm_opens {dp : Nat} (hM : sp_M n P) (hi : I 239 3 = (j : Int)) (hj : j ≤ 1000) (hd : I 239 5 = (dp : Int)) (hdp : dp < 6) : mm_rn (d + 2) 158 [.inr (.inr (some 239))] n I L P = some (none, n, mm_ui (mm_ui I 239 5 ((dp + 1 : Nat) : Int)) 239 3 ((j + 1 : Nat) : Int), L, P) := by
  have ok := hM.ok
  have e1 : (j : Int) + 1 = ((j + 1 : Nat) : Int) := by omega
  have e2 : (dp : Int) + 1 = ((dp + 1 : Nat) : Int) := by omega
  have c1 : ¬ (dp : Int) = 6 := by omega
  rw [eX12_opens]
  simp (disch := (first | assumption | omega | exact nb_ix (by omega) (by assumption) (by omega) (by omega) | exact nb_ix (by omega) rfl (by omega) (by omega) | exact nb_ok (by omega) rfl | decide)) only [kX12_opens, hi, hd, e1, e2, ↓if_pos, ↓if_neg, nb_add, nb_sub, nb_mul, Int.toNat_natCast, mm_kr_s, mm_kv_s, if_pos, if_neg, sq_tn, Int.toNat_zero, Int.reduceToNat, Int.reduceNeg, Nat.reduceAdd, Int.reduceAdd, Int.reduceEq, Int.reduceLT, Int.reduceLE, Int.zero_add, nb_ui_s, nb_ui_k, nb_ui_a, sp_min, sp_max, sp_bits]
  done
theorem zm_opens6 (hM : sp_M n P) (hi : I 239 3 = (j : Int)) (hj : j ≤ 1000) (hw : I 239 4 = -1) (hd : I 239 5 = 6) : mm_rn (d + 2) 158 [.inr (.inr (some 239))] n I L P = some (none, n, mm_ui (mm_ui (mm_ui I 239 4 (j : Int)) 239 5 7) 239 3 ((j + 1 : Nat) : Int), L, P) := by
  have ok := hM.ok
  have e1 : (j : Int) + 1 = ((j + 1 : Nat) : Int) := by omega
  have hb := zm_bad (d := d) (L := L) hM hw hi
  rw [eX12_opens]
  simp (disch := (first | assumption | omega | exact nb_ix (by omega) (by assumption) (by omega) (by omega) | exact nb_ix (by omega) rfl (by omega) (by omega) | exact nb_ok (by omega) rfl | decide)) only [kX12_opens, hi, hd, e1, hb, ↓if_pos, ↓if_neg, nb_add, nb_sub, nb_mul, Int.toNat_natCast, mm_kr_s, mm_kv_s, if_pos, if_neg, sq_tn, Int.toNat_zero, Int.reduceToNat, Int.reduceNeg, Nat.reduceAdd, Int.reduceAdd, Int.reduceEq, Int.reduceLT, Int.reduceLE, Int.zero_add, nb_ui_s, nb_ui_k, nb_ui_a, sp_min, sp_max, sp_bits]
  done
/-- a bracket that closes -/
theorem zm_closes {c : Int} {dp : Nat} (h : zm n P I T S) (hk : zk T S i j) (hi : I 239 3 = (i : Int)) (hw : I 239 4 = -1) (hd : I 239 5 = ((dp + 1 : Nat) : Int)) (hdp : dp < 6) (hc : zp T S j = c) : mm_rn (d + 3) 159 [.inr (.inr (some 239)), .inl c] n I L P = some (none, n, mm_ui (mm_ui I 239 3 ((j + 1 : Nat) : Int)) 239 5 (dp : Int), L, P) := by
  have ok := h.1.ok
  have hl := zm_look (d := d) (L := L) h hk hi
  have hS := h.2.2.1
  have hj := hk.2.1
  have e1 : (j : Int) + 1 = ((j + 1 : Nat) : Int) := by omega
  have e2 : ((dp + 1 : Nat) : Int) - 1 = (dp : Int) := by omega
  rw [eX12_closes]
  simp (disch := (first | assumption | omega | exact nb_ix (by omega) (by assumption) (by omega) (by omega) | exact nb_ix (by omega) rfl (by omega) (by omega) | exact nb_ok (by omega) rfl | decide)) only [kX12_closes, hw, hl, hc, hd, e1, e2, nb_ui_2, ↓if_pos, ↓if_neg, nb_add, nb_sub, nb_mul, Int.toNat_natCast, mm_kr_s, mm_kv_s, if_pos, if_neg, sq_tn, Int.toNat_zero, Int.reduceToNat, Int.reduceNeg, Nat.reduceAdd, Int.reduceAdd, Int.reduceEq, Int.reduceLT, Int.reduceLE, Int.zero_add, nb_ui_s, nb_ui_k, nb_ui_a, sp_min, sp_max, sp_bits]
  done
/-- one that does not -/
theorem zm_closes0 {c : Int} {dp : Nat} (h : zm n P I T S) (hk : zk T S i j) (hi : I 239 3 = (i : Int)) (hw : I 239 4 = -1) (hd : I 239 5 = ((dp + 1 : Nat) : Int)) (hdp : dp < 6) (hc : ¬ zp T S j = c) : mm_rn (d + 3) 159 [.inr (.inr (some 239)), .inl c] n I L P = some (none, n, mm_ui (mm_ui (mm_ui (mm_ui I 239 3 (j : Int)) 239 4 (j : Int)) 239 3 ((j + 1 : Nat) : Int)) 239 5 (dp : Int), L, P) := by
  have ok := h.1.ok
  have hl := zm_look (d := d) (L := L) h hk hi
  have hS := h.2.2.1
  have hj := hk.2.1
  have e1 : (j : Int) + 1 = ((j + 1 : Nat) : Int) := by omega
  have e2 : ((dp + 1 : Nat) : Int) - 1 = (dp : Int) := by omega
  have hb := zm_bad (d := d + 1) (n := n) (L := L) (P := P) (I := mm_ui I 239 3 (j : Int)) (p := j) h.1 (by rw [nb_ui_k (by decide)]; exact hw) (by rw [nb_ui_s])
  rw [eX12_closes]
  simp (disch := (first | assumption | omega | exact nb_ix (by omega) (by assumption) (by omega) (by omega) | exact nb_ix (by omega) rfl (by omega) (by omega) | exact nb_ok (by omega) rfl | decide)) only [kX12_closes, hw, hl, hd, e1, e2, hb, ↓if_pos, ↓if_neg, nb_add, nb_sub, nb_mul, Int.toNat_natCast, mm_kr_s, mm_kv_s, if_pos, if_neg, sq_tn, Int.toNat_zero, Int.reduceToNat, Int.reduceNeg, Nat.reduceAdd, Int.reduceAdd, Int.reduceEq, Int.reduceLT, Int.reduceLE, Int.zero_add, nb_ui_s, nb_ui_k, nb_ui_a, sp_min, sp_max, sp_bits]
  done
/-- behind a fault -/
theorem zm_closesF {c : Int} {t p : Nat} (hM : sp_M n P) (hi : I 239 3 = (t : Int)) (ht : t ≤ 1000) (hw : I 239 4 = (p : Int)) : mm_rn (d + 3) 159 [.inr (.inr (some 239)), .inl c] n I L P = some (none, n, mm_ui (mm_ui I 239 3 ((t + 1 : Nat) : Int)) 239 5 (mm_sub (I 239 5) 1), L, P) := by
  have ok := hM.ok
  have e1 : (t : Int) + 1 = ((t + 1 : Nat) : Int) := by omega
  have c1 : ¬ (p : Int) = -1 := by omega
  rw [eX12_closes]
  simp (disch := (first | assumption | omega | exact nb_ix (by omega) (by assumption) (by omega) (by omega) | exact nb_ix (by omega) rfl (by omega) (by omega) | exact nb_ok (by omega) rfl | decide)) only [kX12_closes, hw, hi, ↓if_pos, ↓if_neg, nb_add, e1, nb_ui_s, nb_ui_k, nb_ui_a]
  done
end OU
