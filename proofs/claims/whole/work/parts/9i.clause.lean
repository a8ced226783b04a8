/-! a clause, both halves at once -/
abbrev zco : Type := Sum Nat (Nat × (List (Nat × Int) × List (Nat × Int)))
def zpc (f : Nat → Int) (i : Nat) (t : List (Nat × Int) × List (Nat × Int)) (m : Nat) : Prop := if t.1 = [] then sx_at f i t.2 ∧ f (i + t.2.length) = 13 ∧ m = i + t.2.length + 1
  else sx_at f i t.1 ∧ f (i + t.1.length) = 12 + 16 * ((i + t.1.length + 1 + t.2.length + 1 : Nat) : Int) ∧ sx_at f (i + t.1.length + 1) t.2 ∧ f (i + t.1.length + 1 + t.2.length) = 13 ∧ m = i + t.1.length + 1 + t.2.length + 1
def zjc (cd : List (Nat × Int)) : zo → zco
  | .inl p => .inl p
  | .inr q => .inr (q.1, (cd, q.2))
def zgC (S i : Nat) : zco → Prop
  | .inl p => p ≤ S
  | .inr q => i + 2 < q.1 ∧ q.1 ≤ S ∧ sx_okc q.2 ∧ q.2.1.length + q.2.2.length + i ≤ q.1
def zrC : zco → Int
  | .inl _ => 0
  | .inr _ => 1
theorem zrC_zjc (cd : List (Nat × Int)) (o : zo) : zrC (zjc cd o) = zr o := by cases o <;> rfl
def zpC (a c0 : Nat) (I I' : mm_I) : zco → Prop
  | .inl p => I' 1 2 = (p : Int) ∧ zcF a I I'
  | .inr q => I' 1 2 = (q.1 : Int) ∧ (∃ m : Nat, I' a 1 = (m : Int) ∧ zpc (I' (a + 1)) c0 q.2 m ∧ m ≤ q.1) ∧ (∀ k, k < c0 → I' (a + 1) k = I (a + 1) k) ∧ zcF a I I'
def zpM (x S c0 k0 : Nat) (I I' : mm_I) : zco → Prop
  | .inl p => I' 239 4 = (p : Int) ∧ zlF x c0 k0 I I' ∧ ∃ t c k : Nat, I' 239 3 = (t : Int) ∧ I' 243 x = (c : Int) ∧ I' 244 x = (k : Int) ∧ t ≤ S + 10 ∧ c ≤ 500 ∧ k ≤ k0 + 1
  | .inr q => I' 239 3 = (q.1 : Int) ∧ I' 239 4 = -1 ∧ I' 239 5 = 0 ∧ I' 243 x = ((c0 + q.2.1.length + q.2.2.length : Nat) : Int) ∧ I' 244 x = ((k0 + 1 : Nat) : Int) ∧ I' 245 (140 * x + k0) = (c0 : Int) ∧ I' 246 (140 * x + k0) = ((c0 + q.2.1.length : Nat) : Int) ∧ I' 247 (140 * x + k0) = ((c0 + q.2.1.length + q.2.2.length : Nat) : Int) ∧ sx_mt I' (520 * x + c0) q.2.1 ∧ sx_mt I' (520 * x + (c0 + q.2.1.length)) q.2.2 ∧ zlF x c0 k0 I I'
theorem sx_okl0 : sx_okl (fun _ => 0) := fun _ _ => ⟨Int.le_refl 0, by show (0 : Int) ≤ 9999; decide⟩
theorem sx_S_ne {k : Nat} {t : List (Nat × Int)} (h : sx_S k t) (hk : k ≤ 60) : t ≠ [] := by
  intro e
  subst e
  obtain ⟨x, hx⟩ := h _ sx_okl0
  have := hx [] (by simpa using hk)
  cases this
theorem sx_C_ne {k : Nat} {t : List (Nat × Int)} (h : sx_C k t) (hk : k ≤ 60) : t ≠ [] := by
  intro e
  subst e
  obtain ⟨x, _, hx⟩ := h _ sx_okl0
  have := hx [] (by simpa using hk)
  cases this
theorem sx_okc_of {cd sm : List (Nat × Int)} (hc : cd = [] ∨ ∀ l, sx_okl l → ∃ x, sx_ev l cd [] = some [x]) (hs : sx_S 15 sm) : sx_okc (cd, sm) := by
  intro l hl
  refine ⟨?_, ?_⟩
  · rcases hc with e | e
    · exact Or.inl e
    · exact Or.inr (e l hl)
  · obtain ⟨x, hx⟩ := hs l hl
    exact ⟨x, hx [] (by simp)⟩
section CLS
variable {n a x S i : Nat} {P : mm_P} {T : Nat → Int}
/-- the class: a condition's tokens and what is behind them -/
theorem zpC_then {c0 j : Nat} {I J K : mm_I} {cd : List (Nat × Int)} {o : zo} (hne : cd ≠ []) (hj : c0 + cd.length + 2 ≤ j) (hg : zg S j o) (hf : zcF a I J) (hk : ∀ k, k < c0 → J (a + 1) k = I (a + 1) k) (ht : sx_at (J (a + 1)) c0 cd) (h : zaC a (c0 + cd.length) J K o) : zpC a c0 I K (zjc cd o) := by
  cases o with
  | inl p => exact ⟨h.1, hf.tr h.2⟩
  | inr q =>
    obtain ⟨j6, t2⟩ := q
    obtain ⟨h1, h2, h3, h4, h5, h6, h7⟩ := h
    obtain ⟨u1, u2, u3⟩ := hg
    have u1' : j < j6 := u1
    have u3' : t2.length + j ≤ j6 := u3
    refine ⟨h1, ⟨_, h2, ?_, ?_⟩, fun k hk2 => by rw [h6 k (by omega), hk k hk2], hf.tr h7⟩
    · show zpc (K (a + 1)) c0 (cd, t2) (c0 + cd.length + 1 + t2.length + 1)
      unfold zpc
      rw [if_neg hne]
      exact ⟨sx_at_keep cd c0 ht (fun k _ hk2 => h6 k hk2), h3, h4, h5, rfl⟩
    · show c0 + cd.length + 1 + t2.length + 1 ≤ j6
      omega
/-- the model: a condition's tokens and what is behind them -/
theorem zpM_then {c0 k0 : Nat} {I J K : mm_I} {cd : List (Nat × Int)} {o : zo} (hc : c0 + cd.length ≤ 500) (hf : zlF x c0 k0 I J) (h45 : J 245 (140 * x + k0) = (c0 : Int)) (ht : sx_mt J (520 * x + c0) cd) (h : zaM x S (c0 + cd.length) k0 J K o) : zpM x S c0 k0 I K (zjc cd o) := by
  cases o with
  | inl p =>
    obtain ⟨h1, h2, h3⟩ := h
    exact ⟨h1, hf.tr h2 (by omega) (Nat.le_refl _), h3⟩
  | inr q =>
    obtain ⟨j6, t2⟩ := q
    obtain ⟨h1, h2, h3, h4, h5, h6, h7, h8, h9, h10⟩ := h
    refine ⟨h1, h2, h3, h4, h5, ?_, h7, h8, ?_, h9, hf.tr h10 (by omega) (Nat.le_refl _)⟩
    · rw [h6]; exact h45
    · exact sx_mt_kp cd _ ht (fun k hk1 hk2 => h10.2.2.2.1 k (by omega))
theorem zm_fin {d : Nat} {I L : mm_I} {c k0 : Nat} {b : Int} (hM2 : sp_M n P) (hx : x < 5) (hx14 : I 239 14 = (x : Int)) (h6 : I 243 x = (c : Int)) (h44 : I 244 x = (k0 : Int)) (hk0 : k0 < 140) (hb : b = 0 ∨ ¬ I 239 4 = -1) : mm_E d 170 184 [.inr (.inr (some 239)), .inl (((140 * x + k0 : Nat) : Int)), .inl b] [] [] n I L P = some (none, n, mm_ui (mm_ui (mm_ui I 246 (140 * x + k0) (I 245 (140 * x + k0))) 247 (140 * x + k0) (c : Int)) 244 x ((k0 + 1 : Nat) : Int), L, P) := by
  have ok := hM2.ok
  obtain ⟨hn, g1, g6, g7, g8, g9, g10, g11, g12, g15, g16, g17⟩ := hM2
  have e1 : (k0 : Int) + 1 = ((k0 + 1 : Nat) : Int) := by omega
  by_cases b0 : b = 0
  · subst b0
    simp (disch := (first | assumption | omega | exact nb_ix (by omega) (by assumption) (by omega) (by omega) | exact nb_ix (by omega) rfl (by omega) (by omega) | exact nb_ok (by omega) rfl | decide)) only [kX12_clause, g8, g9, g10, g11, g12, hx14, h6, h44, e1, ↓if_pos, ↓if_neg, nb_add, nb_sub, nb_mul, Int.toNat_natCast, mm_kr_s, mm_kv_s, if_pos, if_neg, sq_tn, Int.toNat_zero, Int.reduceToNat, Int.reduceNeg, Nat.reduceAdd, Int.reduceAdd, Int.reduceEq, Int.reduceLT, Int.reduceLE, Int.zero_add, nb_ui_s, nb_ui_k, nb_ui_a, sp_min, sp_max, sp_bits]
    done
  · have hw : ¬ I 239 4 = -1 := by
      rcases hb with e | e
      · exact absurd e b0
      · exact e
    simp (disch := (first | assumption | omega | exact nb_ix (by omega) (by assumption) (by omega) (by omega) | exact nb_ix (by omega) rfl (by omega) (by omega) | exact nb_ok (by omega) rfl | decide)) only [kX12_clause, g8, g9, g10, g11, g12, hx14, h6, h44, e1, ↓if_pos, ↓if_neg, nb_add, nb_sub, nb_mul, Int.toNat_natCast, mm_kr_s, mm_kv_s, if_pos, if_neg, sq_tn, Int.toNat_zero, Int.reduceToNat, Int.reduceNeg, Nat.reduceAdd, Int.reduceAdd, Int.reduceEq, Int.reduceLT, Int.reduceLE, Int.zero_add, nb_ui_s, nb_ui_k, nb_ui_a, sp_min, sp_max, sp_bits]
    done
/-- the model behind y: -/
theorem zm_pre {e : Nat} {I L : mm_I} {c0 k0 j1 j2 j3 : Nat} (hx : x < 5) (hS : S ≤ 240) (hm : zmh n P x T S 0 i c0 I) (h44 : I 244 x = (k0 : Int)) (hk0 : k0 < 140) (hk1 : zk T S i j1) (hc1 : zp T S j1 = 121) (hk2 : zk T S (j1 + 1) j2) (hc2 : zp T S j2 = 58) (hk3 : zk T S (j2 + 1) j3) : mm_rn (e + 4) 170 [.inr (.inr (some 239))] n I L P = (if zp T S j3 = 33 ∨ zp T S j3 = 40 then mm_kv (e + 3) 170 137 [.inr (.inr (some 239)), .inl (((140 * x + k0 : Nat) : Int)), .inl 1] [] [] n (mm_rn (e + 3) 169 [.inr (.inr (some 239))] n (mm_ui (mm_ui (mm_ui I 239 3 ((j2 + 1 : Nat) : Int)) 245 (140 * x + k0) (c0 : Int)) 239 3 (j3 : Int)) L P) else mm_kv (e + 3) 170 144 [.inr (.inr (some 239)), .inl (((140 * x + k0 : Nat) : Int)), .inl 0] [] [] n (mm_rn (e + 3) 163 [.inr (.inr (some 239))] n (mm_ui (mm_ui (mm_ui I 239 3 ((j2 + 1 : Nat) : Int)) 245 (140 * x + k0) (c0 : Int)) 239 3 (j3 : Int)) L P)) := by
  obtain ⟨hz, h2, hw, h5, hx14, h6, h7⟩ := hm
  have ok := hz.1.ok
  have b1 := hk1.2.1
  have b2 := hk2.2.1
  have b3 := hk3.2.1
  have l1 := zm_look (d := e + 1) (L := L) hz hk1 h2
  have l2 := zm_look (d := e + 1) (n := n) (L := L) (P := P) (I := mm_ui I 239 3 ((j1 + 1 : Nat) : Int)) (hz.up (by decide) (by decide)) hk2 (by rw [nb_ui_s])
  have l3 := zm_look (d := e + 1) (n := n) (L := L) (P := P) (I := mm_ui (mm_ui I 239 3 ((j2 + 1 : Nat) : Int)) 245 (140 * x + k0) (c0 : Int)) ((hz.up (by decide) (by decide)).up (by decide) (by omega)) hk3 (by rw [nb_ui_a (by decide), nb_ui_s])
  have l4 := zm_look (d := e + 1) (n := n) (L := L) (P := P) (I := mm_ui (mm_ui (mm_ui I 239 3 ((j2 + 1 : Nat) : Int)) 245 (140 * x + k0) (c0 : Int)) 239 3 (j3 : Int)) (((hz.up (by decide) (by decide)).up (by decide) (by omega)).up (by decide) (by decide)) (zk_self hk3) (by rw [nb_ui_s])
  rw [nb_ui_2] at l2 l4
  obtain ⟨hn, g1, g6, g7, g8, g9, g10, g11, g12, g15, g16, g17⟩ := hz.1
  have e1 : (j1 : Int) + 1 = ((j1 + 1 : Nat) : Int) := by omega
  have e2 : (j2 : Int) + 1 = ((j2 + 1 : Nat) : Int) := by omega
  have e3 : 140 * (x : Int) + (k0 : Int) = ((140 * x + k0 : Nat) : Int) := by omega
  rw [eX12_clause]
  by_cases c33 : zp T S j3 = 33
  · rw [if_pos (Or.inl c33)]
    simp (disch := (first | assumption | omega | exact nb_ix (by omega) (by assumption) (by omega) (by omega) | exact nb_ix (by omega) rfl (by omega) (by omega) | exact nb_ok (by omega) rfl | decide)) only [kX12_clause, g8, g9, g10, hx14, h44, e3, hw, l1, hc1, e1, nb_ui_2, l2, hc2, e2, h6, l3, c33, ↓if_pos, ↓if_neg, nb_add, nb_sub, nb_mul, Int.toNat_natCast, mm_kr_s, mm_kv_s, if_pos, if_neg, sq_tn, Int.toNat_zero, Int.reduceToNat, Int.reduceNeg, Nat.reduceAdd, Int.reduceAdd, Int.reduceEq, Int.reduceLT, Int.reduceLE, Int.zero_add, nb_ui_s, nb_ui_k, nb_ui_a, sp_min, sp_max, sp_bits]
    done
  · by_cases c40 : zp T S j3 = 40
    · rw [if_pos (Or.inr c40)]
      simp (disch := (first | assumption | omega | exact nb_ix (by omega) (by assumption) (by omega) (by omega) | exact nb_ix (by omega) rfl (by omega) (by omega) | exact nb_ok (by omega) rfl | decide)) only [kX12_clause, g8, g9, g10, hx14, h44, e3, hw, l1, hc1, e1, nb_ui_2, l2, hc2, e2, h6, l3, l4, c40, ↓if_pos, ↓if_neg, nb_add, nb_sub, nb_mul, Int.toNat_natCast, mm_kr_s, mm_kv_s, if_pos, if_neg, sq_tn, Int.toNat_zero, Int.reduceToNat, Int.reduceNeg, Nat.reduceAdd, Int.reduceAdd, Int.reduceEq, Int.reduceLT, Int.reduceLE, Int.zero_add, nb_ui_s, nb_ui_k, nb_ui_a, sp_min, sp_max, sp_bits]
      done
    · rw [if_neg (by rintro (w | w); exact c33 w; exact c40 w)]
      simp (disch := (first | assumption | omega | exact nb_ix (by omega) (by assumption) (by omega) (by omega) | exact nb_ix (by omega) rfl (by omega) (by omega) | exact nb_ok (by omega) rfl | decide)) only [kX12_clause, g8, g9, g10, hx14, h44, e3, hw, l1, hc1, e1, nb_ui_2, l2, hc2, e2, h6, l3, l4, ↓if_pos, ↓if_neg, nb_add, nb_sub, nb_mul, Int.toNat_natCast, mm_kr_s, mm_kv_s, if_pos, if_neg, sq_tn, Int.toNat_zero, Int.reduceToNat, Int.reduceNeg, Nat.reduceAdd, Int.reduceAdd, Int.reduceEq, Int.reduceLT, Int.reduceLE, Int.zero_add, nb_ui_s, nb_ui_k, nb_ui_a, sp_min, sp_max, sp_bits]
      done
/-- the class behind y: -/
theorem zc_pre {e : Nat} {I L : mm_I} {j1 j2 j3 : Nat} (hz : zc n P I T S) (h2 : I 1 2 = (i : Int)) (hk1 : zk T S i j1) (hc1 : zp T S j1 = 121) (hk2 : zk T S (j1 + 1) j2) (hc2 : zp T S j2 = 58) (hk3 : zk T S (j2 + 1) j3) : mm_rn (e + 4) 29 [.inr (.inr (some 1)), .inr (.inr (some a))] n I L P = (if zp T S j3 = 33 ∨ zp T S j3 = 40 then mm_kr (e + 3) 29 85 [.inr (.inr (some 1)), .inr (.inr (some a)), .inl (zp T S j3), .inl 0, mm_junk] [] [] n (mm_rn (e + 3) 30 [.inr (.inr (some 1)), .inr (.inr (some a)), .inl (((0 : Nat) : Int)), .inl 0] n (mm_ui I 1 2 (j3 : Int)) L P) else mm_kr (e + 3) 29 53 [.inr (.inr (some 1)), .inr (.inr (some a)), .inl (zp T S j3), .inl 1, mm_junk] [] [] n (mm_rn (e + 3) 35 [.inr (.inr (some 1)), .inr (.inr (some a)), .inl (((0 : Nat) : Int))] n (mm_ui I 1 2 (j3 : Int)) L P)) := by
  have hn := hz.1
  have p1 := zc_pass1 (d := e + 1) (L := L) (c := 121) hz hk1 h2 hc1
  have p2 := zc_pass1 (d := e + 1) (n := n) (L := L) (P := P) (I := mm_ui I 1 2 ((j1 + 1 : Nat) : Int)) (c := 58) (hz.up (by decide) (by decide)) hk2 (by rw [nb_ui_s]) hc2
  have p3 := zc_peek (d := e + 2) (n := n) (L := L) (P := P) (I := mm_ui I 1 2 ((j2 + 1 : Nat) : Int)) (hz.up (by decide) (by decide)) hk3 (by rw [nb_ui_s])
  rw [nb_ui_2] at p2 p3
  have e6 : ((0 : Nat) : Int) = 0 := rfl
  rw [eX4_readClause]
  by_cases c33 : zp T S j3 = 33
  · rw [if_pos (Or.inl c33)]
    simp (disch := (first | assumption | omega | exact nb_ix (by omega) (by assumption) (by omega) (by omega) | exact nb_ix (by omega) rfl (by omega) (by omega) | exact nb_ok (by omega) rfl | decide)) only [kX4_readClause, p1, p2, p3, c33, e6, ↓if_pos, ↓if_neg, nb_add, nb_sub, nb_mul, Int.toNat_natCast, mm_kr_s, mm_kv_s, if_pos, if_neg, sq_tn, Int.toNat_zero, Int.reduceToNat, Int.reduceNeg, Nat.reduceAdd, Int.reduceAdd, Int.reduceEq, Int.reduceLT, Int.reduceLE, Int.zero_add, nb_ui_s, nb_ui_k, nb_ui_a, sp_min, sp_max, sp_bits]
    done
  · by_cases c40 : zp T S j3 = 40
    · rw [if_pos (Or.inr c40)]
      simp (disch := (first | assumption | omega | exact nb_ix (by omega) (by assumption) (by omega) (by omega) | exact nb_ix (by omega) rfl (by omega) (by omega) | exact nb_ok (by omega) rfl | decide)) only [kX4_readClause, p1, p2, p3, c40, e6, ↓if_pos, ↓if_neg, nb_add, nb_sub, nb_mul, Int.toNat_natCast, mm_kr_s, mm_kv_s, if_pos, if_neg, sq_tn, Int.toNat_zero, Int.reduceToNat, Int.reduceNeg, Nat.reduceAdd, Int.reduceAdd, Int.reduceEq, Int.reduceLT, Int.reduceLE, Int.zero_add, nb_ui_s, nb_ui_k, nb_ui_a, sp_min, sp_max, sp_bits]
      done
    · rw [if_neg (by rintro (w | w); exact c33 w; exact c40 w)]
      simp (disch := (first | assumption | omega | exact nb_ix (by omega) (by assumption) (by omega) (by omega) | exact nb_ix (by omega) rfl (by omega) (by omega) | exact nb_ok (by omega) rfl | decide)) only [kX4_readClause, p1, p2, p3, e6, ↓if_pos, ↓if_neg, nb_add, nb_sub, nb_mul, Int.toNat_natCast, mm_kr_s, mm_kv_s, if_pos, if_neg, sq_tn, Int.toNat_zero, Int.reduceToNat, Int.reduceNeg, Nat.reduceAdd, Int.reduceAdd, Int.reduceEq, Int.reduceLT, Int.reduceLE, Int.zero_add, nb_ui_s, nb_ui_k, nb_ui_a, sp_min, sp_max, sp_bits]
      done
end CLS
