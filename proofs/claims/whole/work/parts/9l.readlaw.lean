/-! readLaw of both halves -/
/-- what the model's reading of text x leaves -/
def zkF (x : Nat) (I I' : mm_I) : Prop := (∀ b, b ≠ 239 → (b < 241 ∨ 247 < b) → I' b = I b) ∧ (∀ k, k ≠ 3 → k ≠ 4 → k ≠ 5 → k ≠ 14 → I' 239 k = I 239 k) ∧ (∀ k, k ≠ x → I' 243 k = I 243 k ∧ I' 244 k = I 244 k) ∧ (∀ k, (k < 520 * x ∨ 520 * x + 520 ≤ k) → I' 241 k = I 241 k ∧ I' 242 k = I 242 k) ∧ (∀ k, (k < 140 * x ∨ 140 * x + 140 ≤ k) → I' 245 k = I 245 k ∧ I' 246 k = I 246 k ∧ I' 247 k = I 247 k)
section RL
variable {n a x S : Nat} {P : mm_P} {T : Nat → Int}
set_option maxHeartbeats 4000000 in
theorem zJ_read (hL : sp_L n P a) (ha : 20 ≤ a) (hx : x < 5) (hS : S ≤ 240) : ∃ o : zlo,
    (∀ (d : Nat) (I L : mm_I), 47 ≤ d → zc n P I T S → sq_X (some (.inl (zrL o))) n L P (fun I' => zcF a I I' ∧ (match o with | .inl p => I' 1 2 = (p : Int) | .inr q => rc_law I' a q)) (mm_rn d 28 [.inr (.inr (some 1)), .inr (.inr (some a))] n I L P)) ∧
    (∀ (d : Nat) (I L : mm_I), 47 ≤ d → zm n P I T S → sq_X (some (.inl (zrM o))) n L P (fun I' => zkF x I I' ∧ (match o with | .inl _ => True | .inr q => rm_law I' x q)) (mm_rn d 173 [.inr (.inr (some 239)), .inl ((x : Int))] n I L P)) := by
  have okL := hL.ok
  obtain ⟨o, og, oc, om⟩ := zJ_law (T := T) hL ha hx hS (S + 1) 0 (by omega) (by omega)
  refine ⟨o, fun d I L hd hz => ?_, fun d I L hd hz => ?_⟩
  · obtain ⟨e, rfl⟩ : ∃ e, d = e + 1 := ⟨d - 1, by omega⟩
    have hn := hz.1
    rw [eX4_readLaw]
    simp (disch := (first | assumption | omega | exact nb_ix (by omega) (by assumption) (by omega) (by omega) | exact nb_ix (by omega) rfl (by omega) (by omega) | exact nb_ok (by omega) rfl | decide)) only [kX4_readLaw, ↓if_pos, ↓if_neg, nb_add, nb_sub, nb_mul, Int.toNat_natCast, mm_kr_s, mm_kv_s, if_pos, if_neg, sq_tn, Int.toNat_zero, Int.reduceToNat, Int.reduceNeg, Nat.reduceAdd, Int.reduceAdd, Int.reduceEq, Int.reduceLT, Int.reduceLE, Int.zero_add, nb_ui_s, nb_ui_k, nb_ui_a, sp_min, sp_max, sp_bits]
    have hf : zcF a I (mm_ui (mm_ui I 1 2 0) a 1 0) := ((zcF.refl a I).at ha).ln ha
    refine sq_mono (oc e 0 (mm_ui (mm_ui I 1 2 0) a 1 0) L 0 (by omega) (by omega) (hf.zc ha hz) (by rw [nb_ui_a (by omega), nb_ui_s]; rfl) (by rw [nb_ui_s]; rfl) (by omega)) (fun K hK => ?_)
    cases o with
    | inl p => exact ⟨hf.tr hK.2, hK.1⟩
    | inr q =>
      obtain ⟨⟨m, k1, k2, k3⟩, k4, k5⟩ := hK
      exact ⟨hf.tr k5, m, k2, k1, k3, og.2⟩
  · obtain ⟨e, rfl⟩ : ∃ e, d = e + 1 := ⟨d - 1, by omega⟩
    have ok := hz.1.ok
    have hM := hz.1
    obtain ⟨e', rfl⟩ : ∃ e', e = e' + 1 := ⟨e - 1, by omega⟩
    have hop : mm_rn (e' + 1) 171 [.inr (.inr (some 239)), .inl ((x : Int))] n I L P = some (none, n, mm_ui (mm_ui (mm_ui (mm_ui (mm_ui (mm_ui I 239 14 (x : Int)) 239 3 0) 239 4 (-1)) 239 5 0) 243 x 0) 244 x 0, L, P) := by
      obtain ⟨hn, g1, g6, g7, g8, g9, g10, g11, g12, g15, g16, g17⟩ := hM
      rw [eX12_open]
      simp (disch := (first | assumption | omega | exact nb_ix (by omega) (by assumption) (by omega) (by omega) | exact nb_ix (by omega) rfl (by omega) (by omega) | exact nb_ok (by omega) rfl | decide)) only [kX12_open, g8, g9, ↓if_pos, ↓if_neg, nb_add, nb_sub, nb_mul, Int.toNat_natCast, mm_kr_s, mm_kv_s, if_pos, if_neg, sq_tn, Int.toNat_zero, Int.reduceToNat, Int.reduceNeg, Nat.reduceAdd, Int.reduceAdd, Int.reduceEq, Int.reduceLT, Int.reduceLE, Int.zero_add, nb_ui_s, nb_ui_k, nb_ui_a, sp_min, sp_max, sp_bits]
      done
    have z1 : zmh n P x T S 0 0 0 (mm_ui (mm_ui (mm_ui (mm_ui (mm_ui (mm_ui I 239 14 (x : Int)) 239 3 0) 239 4 (-1)) 239 5 0) 243 x 0) 244 x 0) := by
      refine ⟨(((((hz.up (by decide) (by decide)).up (by decide) (by decide)).up (by decide) (by decide)).up (by decide) (by decide)).up (by decide) (by omega)).up (by decide) (by omega), ?_, ?_, ?_, ?_, ?_, by omega⟩
      · rw [nb_ui_a (by decide), nb_ui_a (by decide), nb_ui_k (by decide), nb_ui_k (by decide), nb_ui_s]; rfl
      · rw [nb_ui_a (by decide), nb_ui_a (by decide), nb_ui_k (by decide), nb_ui_s]
      · rw [nb_ui_a (by decide), nb_ui_a (by decide), nb_ui_s]; rfl
      · rw [nb_ui_a (by decide), nb_ui_a (by decide), nb_ui_k (by decide), nb_ui_k (by decide), nb_ui_k (by decide), nb_ui_s]
      · rw [nb_ui_a (by decide), nb_ui_s]; rfl
    have z2 : mm_ui (mm_ui (mm_ui (mm_ui (mm_ui (mm_ui I 239 14 (x : Int)) 239 3 0) 239 4 (-1)) 239 5 0) 243 x 0) 244 x 0 244 x = ((0 : Nat) : Int) := by rw [nb_ui_s]; rfl
    have z3 : zkF x I (mm_ui (mm_ui (mm_ui (mm_ui (mm_ui (mm_ui I 239 14 (x : Int)) 239 3 0) 239 4 (-1)) 239 5 0) 243 x 0) 244 x 0) := by
      refine ⟨fun b h1 h2 => ?_, fun k h3 h4 h5 h6 => ?_, fun k hk => ⟨?_, ?_⟩, fun k hk => ⟨?_, ?_⟩, fun k hk => ⟨?_, ?_, ?_⟩⟩
      · rw [nb_ui_r (by omega), nb_ui_r (by omega), nb_ui_r h1, nb_ui_r h1, nb_ui_r h1, nb_ui_r h1]
      · rw [nb_ui_a (by decide), nb_ui_a (by decide), nb_ui_k h5, nb_ui_k h4, nb_ui_k h3, nb_ui_k h6]
      · rw [nb_ui_a (by decide), nb_ui_k hk, nb_ui_a (by decide), nb_ui_a (by decide), nb_ui_a (by decide), nb_ui_a (by decide)]
      · rw [nb_ui_k hk, nb_ui_a (by decide), nb_ui_a (by decide), nb_ui_a (by decide), nb_ui_a (by decide), nb_ui_a (by decide)]
      · rw [nb_ui_a (by decide), nb_ui_a (by decide), nb_ui_a (by decide), nb_ui_a (by decide), nb_ui_a (by decide), nb_ui_a (by decide)]
      · rw [nb_ui_a (by decide), nb_ui_a (by decide), nb_ui_a (by decide), nb_ui_a (by decide), nb_ui_a (by decide), nb_ui_a (by decide)]
      · rw [nb_ui_a (by decide), nb_ui_a (by decide), nb_ui_a (by decide), nb_ui_a (by decide), nb_ui_a (by decide), nb_ui_a (by decide)]
      · rw [nb_ui_a (by decide), nb_ui_a (by decide), nb_ui_a (by decide), nb_ui_a (by decide), nb_ui_a (by decide), nb_ui_a (by decide)]
      · rw [nb_ui_a (by decide), nb_ui_a (by decide), nb_ui_a (by decide), nb_ui_a (by decide), nb_ui_a (by decide), nb_ui_a (by decide)]
    rw [eX12_readLaw]
    generalize mm_ui (mm_ui (mm_ui (mm_ui (mm_ui (mm_ui I 239 14 (x : Int)) 239 3 0) 239 4 (-1)) 239 5 0) 243 x 0) 244 x 0 = J at hop z1 z2 z3
    obtain ⟨I1, e1, hX⟩ := om (e' + 1) (.inl ((x : Int))) J L 0 0 (by omega) z1 z2 (by omega)
    simp (disch := (first | assumption | omega | exact nb_ix (by omega) (by assumption) (by omega) (by omega) | exact nb_ix (by omega) rfl (by omega) (by omega) | exact nb_ok (by omega) rfl | decide)) only [kX12_readLaw, hop, e1, ↓if_pos, ↓if_neg, nb_add, nb_sub, nb_mul, Int.toNat_natCast, mm_kr_s, mm_kv_s, if_pos, if_neg, sq_tn, Int.toNat_zero, Int.reduceToNat, Int.reduceNeg, Nat.reduceAdd, Int.reduceAdd, Int.reduceEq, Int.reduceLT, Int.reduceLE, Int.zero_add, nb_ui_s, nb_ui_k, nb_ui_a, sp_min, sp_max, sp_bits]
    refine sq_mono hX (fun K hK => ?_)
    have hfr : ∀ K, zlF x 0 0 J K → zkF x I K := by
      intro K h
      obtain ⟨a1, a2, a3, a4, a5⟩ := h
      obtain ⟨c1, c2, c3, c4, c5⟩ := z3
      refine ⟨fun b h1 h2 => by rw [a1 b h1 h2, c1 b h1 h2], fun k h3 h4 h5 h6 => by rw [a2 k h3 h4 h5, c2 k h3 h4 h5 h6], fun k hk => ?_, fun k hk => ?_, fun k hk => ?_⟩
      · rw [(a3 k hk).1, (a3 k hk).2]; exact c3 k hk
      · rw [(a4 k (by omega)).1, (a4 k (by omega)).2]; exact c4 k hk
      · rw [(a5 k (by omega)).1, (a5 k (by omega)).2.1, (a5 k (by omega)).2.2]; exact c5 k hk
    cases o with
    | inl p => exact ⟨hfr K hK, trivial⟩
    | inr q =>
      obtain ⟨k1, k2, k3⟩ := hK
      obtain ⟨u1, u2⟩ := og
      have u1' : 2 * q.length + 0 ≤ S := u1
      refine ⟨hfr K k3, ?_, by omega, k2, u2⟩
      rw [k1, Nat.zero_add]
end RL
