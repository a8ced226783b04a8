/-! acts of the model -/
section AM
variable {n c s d na : Nat} {I L : mm_I} {P : mm_P} {D : Nat → Int} {B : Nat → Nat} {g v : Int} {ev : sv_E} {N : Nat → Int} {H : Nat → Nat → Int}
theorem sq_AM_ref {N' : Nat → Int} {k : Nat} : sq_AM na H N N' (k : Int) I (mm_ui I 258 k (mm_add (I 258 k) 1)) := ⟨fun h => by omega, fun _ => by rw [Int.toNat_natCast]⟩
theorem sq_AM_done {N' : Nat → Int} {J K : mm_I} (hJ : rm_past J (sk_na na) (sk_H na H N) ∧ sq_fk I J) (hK : sq_fr [257] J K) (hN' : sq_mN K N') : sq_AM na H N N' (-1) I K := by
  refine ⟨fun _ => ⟨hN', ?_, fun b h1 h2 h3 => ?_, fun j hj => ?_⟩, fun h => absurd rfl h⟩
  · obtain ⟨p1, p2, p3⟩ := hJ.1
    unfold rm_past
    rw [hK 239 (by decide), hK 260 (by decide)]
    exact ⟨p1, p2, p3⟩
  · rw [hK b (by simp; omega), hJ.2.1 b h1 h3]
  · rw [hK 239 (by decide), hJ.2.2 j hj]
theorem sq_fk_mN {J : mm_I} (hJ : sq_fk I J) (hN : sq_mN I N) : sq_mN J N := fun j hj => by rw [hJ.1 257 (by decide) (by decide)]; exact hN j hj
theorem sq_fk_MW {J : mm_I} (hJ : sq_fk I J) (hW : sq_MW n c P I s D B g v ev) : sq_MW n c P J s D B g v ev :=
  sq_MW_keep hW (hJ.2 26 (by omega)) (hJ.2 29 (by omega)) (fun b hb => hJ.1 b (by intro e; subst e; simp at hb) (by intro e; subst e; simp at hb))
theorem ob_walk (hC : sq_MM n c P I s D B g v ev N) (hA : rm_past I na H) (x : Int) : sq_X (some (.inl (if ra_walk s B N x = -1 then N 25 - 1 else -1))) n L P (sq_AM na H N (rN_walk N x) (ra_walk s B N x) I) (mm_rn (d + 10) 209 [.inr (.inr (some 239)), .inl x] n I L P) := by
  obtain ⟨hW, hN, hok, hh⟩ := hC
  have hM := hW.1
  have ok := hM.ok
  have hs : I 239 26 = (s : Int) := hW.2.1.2.1
  have hs8 : s ≤ 8 := hW.2.1.1
  have his := sp_isSpot (d := d + 7) (L := L) hM x (I := I) (by omega)
  rw [hs] at his
  have hP := hM.2
  have hn := hM.1
  rw [eX12_walk]
  by_cases h1 : 0 ≤ x ∧ x < (s : Int)
  case neg =>
    have hr : ra_walk s B N x = 0 := if_pos h1
    rw [hr, if_neg (by decide)]
    simp (disch := (first | assumption | omega | exact nb_ix (by omega) (by assumption) (by omega) (by omega) | exact nb_ix (by omega) rfl (by omega) (by omega) | exact nb_ok (by omega) rfl | decide)) only [kX12_walk, his, sq_mref0' hM, ↓if_pos, ↓if_neg, nb_add, nb_sub, nb_mul, Int.toNat_natCast, mm_kr_s, mm_kv_s, if_pos, if_neg, sq_tn, Int.toNat_zero, Int.reduceToNat, Int.reduceNeg, Nat.reduceAdd, Int.reduceAdd, Int.reduceEq, Int.reduceLT, Int.reduceLE, Int.zero_add, nb_ui_s, nb_ui_k, nb_ui_a, sp_min, sp_max, sp_bits]
    exact sq_ret (sq_AM_ref (k := 0))
  obtain ⟨p, rfl⟩ : ∃ k : Nat, x = (k : Int) := ⟨x.toNat, by omega⟩
  obtain ⟨q, hq⟩ : ∃ q : Nat, N 24 = (q : Int) := ⟨(N 24).toNat, by have := hok.2.1; omega⟩
  have hqs : q < s := by have := hok.2.1; omega
  have hqn : (N 24).toNat = q := by omega
  have e24 : I 257 24 = (q : Int) := by rw [hN 24 (by omega), hq]
  have e25 := hN 25 (by omega)
  obtain ⟨b1, b2⟩ := hW.2.1.2.2.2.1 q (by omega)
  have l25 := hok.2.2.1
  by_cases h2 : Nat.testBit (B q) p = true
  case neg =>
    have hr : ra_walk s B N p = 2 := by
      unfold ra_walk
      rw [if_neg (not_not_intro h1), hqn, Int.toNat_natCast, if_pos h2]
    rw [hr, if_neg (by decide)]
    simp (disch := (first | assumption | omega | exact nb_ix (by omega) (by assumption) (by omega) (by omega) | exact nb_ix (by omega) rfl (by omega) (by omega) | exact nb_ok (by omega) rfl | decide)) only [kX12_walk, his, hP, e24, b1, sp_mhas, h2, sq_mref2' hM, ↓if_pos, ↓if_neg, nb_add, nb_sub, nb_mul, Int.toNat_natCast, mm_kr_s, mm_kv_s, if_pos, if_neg, sq_tn, Int.toNat_zero, Int.reduceToNat, Int.reduceNeg, Nat.reduceAdd, Int.reduceAdd, Int.reduceEq, Int.reduceLT, Int.reduceLE, Int.zero_add, nb_ui_s, nb_ui_k, nb_ui_a, sp_min, sp_max, sp_bits]
    exact sq_ret (sq_AM_ref (k := 2))
  by_cases h3 : N 25 < 1
  case pos =>
    have hr : ra_walk s B N p = 3 := by
      unfold ra_walk
      rw [if_neg (not_not_intro h1), hqn, Int.toNat_natCast, if_neg (not_not_intro h2), if_pos h3]
    rw [hr, if_neg (by decide)]
    have h30 : N 25 = 0 := by omega
    simp (disch := (first | assumption | omega | exact nb_ix (by omega) (by assumption) (by omega) (by omega) | exact nb_ix (by omega) rfl (by omega) (by omega) | exact nb_ok (by omega) rfl | decide)) only [kX12_walk, his, hP, e24, b1, sp_mhas, h2, e25, h30, sq_mref3' hM, ↓if_pos, ↓if_neg, nb_add, nb_sub, nb_mul, Int.toNat_natCast, mm_kr_s, mm_kv_s, if_pos, if_neg, sq_tn, Int.toNat_zero, Int.reduceToNat, Int.reduceNeg, Nat.reduceAdd, Int.reduceAdd, Int.reduceEq, Int.reduceLT, Int.reduceLE, Int.zero_add, nb_ui_s, nb_ui_k, nb_ui_a, sp_min, sp_max, sp_bits]
    exact sq_ret (sq_AM_ref (k := 3))
  have hr : ra_walk s B N p = -1 := by
    unfold ra_walk
    rw [if_neg (not_not_intro h1), hqn, Int.toNat_natCast, if_neg (not_not_intro h2), if_neg h3]
  rw [hr, if_pos rfl]
  simp (disch := (first | assumption | omega | exact nb_ix (by omega) (by assumption) (by omega) (by omega) | exact nb_ix (by omega) rfl (by omega) (by omega) | exact nb_ok (by omega) rfl | decide)) only [kX12_walk, his, hP, e24, b1, sp_mhas, h2, e25, sq_mref0 hM, ↓if_pos, ↓if_neg, nb_add, nb_sub, nb_mul, Int.toNat_natCast, mm_kr_s, mm_kv_s, if_pos, if_neg, sq_tn, Int.toNat_zero, Int.reduceToNat, Int.reduceNeg, Nat.reduceAdd, Int.reduceAdd, Int.reduceEq, Int.reduceLT, Int.reduceLE, Int.zero_add, nb_ui_s, nb_ui_k, nb_ui_a, sp_min, sp_max, sp_bits]
  refine sq_kv (sq_mkeep (d := d + 8) hM hN hA) (fun J hJ => ?_)
  have hJN := sq_fk_mN hJ.2 hN
  have j25 := hJN 25 (by omega)
  simp (disch := (first | assumption | omega | exact nb_ix (by omega) (by assumption) (by omega) (by omega) | exact nb_ix (by omega) rfl (by omega) (by omega) | exact nb_ok (by omega) rfl | decide)) only [kX12_walk, hP, j25, ↓if_pos, ↓if_neg, nb_add, nb_sub, nb_mul, Int.toNat_natCast, mm_kr_s, mm_kv_s, if_pos, if_neg, sq_tn, Int.toNat_zero, Int.reduceToNat, Int.reduceNeg, Nat.reduceAdd, Int.reduceAdd, Int.reduceEq, Int.reduceLT, Int.reduceLE, Int.zero_add, nb_ui_s, nb_ui_k, nb_ui_a, sp_min, sp_max, sp_bits]
  refine sq_ret (sq_AM_done hJ ?_ ?_)
  · exact sq_fr_up (sq_fr_up (sq_fr_refl _ _) (by simp)) (by simp)
  · intro j hj
    have h4 := hJN j hj
    unfold rN_walk mm_ui
    grind
theorem ob_cry (hC : sq_MM n c P I s D B g v ev N) (hA : rm_past I na H) : sq_X (some (.inl (if ra_cry s N = -1 then (sp_pc (sw_m D v s (rN_cry0 N)) : Nat) else -1))) n L P (sq_AM na H N (sw_hush D v s (rN_cry0 N)) (ra_cry s N) I) (mm_rn (d + 10) 211 [.inr (.inr (some 239))] n I L P) := by
  obtain ⟨hW, hN, hok, hh⟩ := hC
  have hM := hW.1
  have ok := hM.ok
  have hs : I 239 26 = (s : Int) := hW.2.1.2.1
  have hs8 : s ≤ 8 := hW.2.1.1
  have hP := hM.2
  have hn := hM.1
  have e26 := hN 26 (by omega)
  rw [eX12_cry]
  by_cases h1 : s = 0
  · have hr : ra_cry s N = 0 := if_pos h1
    rw [hr, if_neg (by decide)]
    simp (disch := (first | assumption | omega | exact nb_ix (by omega) (by assumption) (by omega) (by omega) | exact nb_ix (by omega) rfl (by omega) (by omega) | exact nb_ok (by omega) rfl | decide)) only [kX12_cry, hs, sq_mref0' hM, ↓if_pos, ↓if_neg, nb_add, nb_sub, nb_mul, Int.toNat_natCast, mm_kr_s, mm_kv_s, if_pos, if_neg, sq_tn, Int.toNat_zero, Int.reduceToNat, Int.reduceNeg, Nat.reduceAdd, Int.reduceAdd, Int.reduceEq, Int.reduceLT, Int.reduceLE, Int.zero_add, nb_ui_s, nb_ui_k, nb_ui_a, sp_min, sp_max, sp_bits]
    exact sq_ret (sq_AM_ref (k := 0))
  have h1' : ¬ (s : Int) = 0 := by omega
  by_cases h2 : N 26 < 3
  · have hr : ra_cry s N = 3 := by unfold ra_cry; rw [if_neg h1, if_pos h2]
    rw [hr, if_neg (by decide)]
    simp (disch := (first | assumption | omega | exact nb_ix (by omega) (by assumption) (by omega) (by omega) | exact nb_ix (by omega) rfl (by omega) (by omega) | exact nb_ok (by omega) rfl | decide)) only [kX12_cry, hs, hP, e26, sq_mref3' hM, ↓if_pos, ↓if_neg, nb_add, nb_sub, nb_mul, Int.toNat_natCast, mm_kr_s, mm_kv_s, if_pos, if_neg, sq_tn, Int.toNat_zero, Int.reduceToNat, Int.reduceNeg, Nat.reduceAdd, Int.reduceAdd, Int.reduceEq, Int.reduceLT, Int.reduceLE, Int.zero_add, nb_ui_s, nb_ui_k, nb_ui_a, sp_min, sp_max, sp_bits]
    exact sq_ret (sq_AM_ref (k := 3))
  have hr : ra_cry s N = -1 := by unfold ra_cry; rw [if_neg h1, if_neg h2]
  rw [hr, if_pos rfl]
  simp (disch := (first | assumption | omega | exact nb_ix (by omega) (by assumption) (by omega) (by omega) | exact nb_ix (by omega) rfl (by omega) (by omega) | exact nb_ok (by omega) rfl | decide)) only [kX12_cry, hs, hP, e26, sq_mref0 hM, ↓if_pos, ↓if_neg, nb_add, nb_sub, nb_mul, Int.toNat_natCast, mm_kr_s, mm_kv_s, if_pos, if_neg, sq_tn, Int.toNat_zero, Int.reduceToNat, Int.reduceNeg, Nat.reduceAdd, Int.reduceAdd, Int.reduceEq, Int.reduceLT, Int.reduceLE, Int.zero_add, nb_ui_s, nb_ui_k, nb_ui_a, sp_min, sp_max, sp_bits]
  refine sq_kv (sq_mkeep (d := d + 8) hM hN hA) (fun J hJ => ?_)
  have hJN := sq_fk_mN hJ.2 hN
  have hJ2 : sq_mN (mm_ui J 257 26 0) (rN_cry0 N) := by
    intro j hj
    have h4 := hJN j hj
    unfold rN_cry0 mm_ui
    grind
  have hok0 : sv_ok s (rN_cry0 N) := by
    obtain ⟨o1, o2⟩ := hok
    refine ⟨fun p hp => ?_, ?_⟩
    · have := o1 p hp
      unfold rN_cry0
      grind
    · unfold rN_cry0
      grind
  have hf : sq_fr [257] J (mm_ui J 257 26 0) := sq_fr_up (sq_fr_refl _ _) (by simp)
  have hWJ := sq_MW_keepf (sq_fk_MW hJ.2 hW) hf (by simp)
  simp (disch := (first | assumption | omega | exact nb_ix (by omega) (by assumption) (by omega) (by omega) | exact nb_ix (by omega) rfl (by omega) (by omega) | exact nb_ok (by omega) rfl | decide)) only [kX12_cry, hP, ↓if_pos, ↓if_neg, nb_add, nb_sub, nb_mul, Int.toNat_natCast, mm_kr_s, mm_kv_s, if_pos, if_neg, sq_tn, Int.toNat_zero, Int.reduceToNat, Int.reduceNeg, Nat.reduceAdd, Int.reduceAdd, Int.reduceEq, Int.reduceLT, Int.reduceLE, Int.zero_add, nb_ui_s, nb_ui_k, nb_ui_a, sp_min, sp_max, sp_bits]
  refine sq_kr (sq_mcry (d := d + 6) hWJ (by omega) hJ2 hok0) (fun K hK => ?_)
  simp (disch := (first | assumption | omega | exact nb_ix (by omega) (by assumption) (by omega) (by omega) | exact nb_ix (by omega) rfl (by omega) (by omega) | exact nb_ok (by omega) rfl | decide)) only [kX12_cry, ↓if_pos, ↓if_neg, nb_add, nb_sub, nb_mul, Int.toNat_natCast, mm_kr_s, mm_kv_s, if_pos, if_neg, sq_tn, Int.toNat_zero, Int.reduceToNat, Int.reduceNeg, Nat.reduceAdd, Int.reduceAdd, Int.reduceEq, Int.reduceLT, Int.reduceLE, Int.zero_add, nb_ui_s, nb_ui_k, nb_ui_a, sp_min, sp_max, sp_bits]
  exact sq_ret (sq_AM_done hJ (sq_fr_trans hf hK.2 (fun _ h => h) (fun _ h => h)) hK.1)
theorem ob_whi (hC : sq_MM n c P I s D B g v ev N) (hA : rm_past I na H) : sq_X (some (.inl (if ra_whi s N = -1 then max 0 (N (16 + (N 24).toNat) - 3) else -1))) n L P (sq_AM na H N (rN_whi N) (ra_whi s N) I) (mm_rn (d + 10) 212 [.inr (.inr (some 239))] n I L P) := by
  obtain ⟨hW, hN, hok, hh⟩ := hC
  have hM := hW.1
  have ok := hM.ok
  have hs : I 239 26 = (s : Int) := hW.2.1.2.1
  have hs8 : s ≤ 8 := hW.2.1.1
  have hP := hM.2
  have hn := hM.1
  have e26 := hN 26 (by omega)
  rw [eX12_whisper]
  by_cases h1 : s = 0
  · have hr : ra_whi s N = 0 := if_pos h1
    rw [hr, if_neg (by decide)]
    simp (disch := (first | assumption | omega | exact nb_ix (by omega) (by assumption) (by omega) (by omega) | exact nb_ix (by omega) rfl (by omega) (by omega) | exact nb_ok (by omega) rfl | decide)) only [kX12_whisper, hs, sq_mref0' hM, ↓if_pos, ↓if_neg, nb_add, nb_sub, nb_mul, Int.toNat_natCast, mm_kr_s, mm_kv_s, if_pos, if_neg, sq_tn, Int.toNat_zero, Int.reduceToNat, Int.reduceNeg, Nat.reduceAdd, Int.reduceAdd, Int.reduceEq, Int.reduceLT, Int.reduceLE, Int.zero_add, nb_ui_s, nb_ui_k, nb_ui_a, sp_min, sp_max, sp_bits]
    exact sq_ret (sq_AM_ref (k := 0))
  have h1' : ¬ (s : Int) = 0 := by omega
  obtain ⟨q, hq⟩ : ∃ q : Nat, N 24 = (q : Int) := ⟨(N 24).toNat, by have := hok.2.1; omega⟩
  have hqs : q < s := by have := hok.2.1; omega
  have hqn : (N 24).toNat = q := by omega
  have e24 : I 257 24 = (q : Int) := by rw [hN 24 (by omega), hq]
  have ez := hN (16 + q) (by omega)
  have hit := sp_isT (d := d + 8) (I := I) (L := L) hM (show q < 8 by omega)
  rw [ez] at hit
  have zr := (hok.1 q (by omega)).2.2.1
  have cr := hok.2.2.2.1
  rw [hqn]
  by_cases h2 : N (16 + q) < 1
  · have hr : ra_whi s N = 2 := by unfold ra_whi; rw [if_neg h1, hqn, if_pos h2]
    rw [hr, if_neg (by decide)]
    rw [if_neg (by omega)] at hit
    simp (disch := (first | assumption | omega | exact nb_ix (by omega) (by assumption) (by omega) (by omega) | exact nb_ix (by omega) rfl (by omega) (by omega) | exact nb_ok (by omega) rfl | decide)) only [kX12_whisper, hs, hP, e24, hit, sq_mref2' hM, ↓if_pos, ↓if_neg, nb_add, nb_sub, nb_mul, Int.toNat_natCast, mm_kr_s, mm_kv_s, if_pos, if_neg, sq_tn, Int.toNat_zero, Int.reduceToNat, Int.reduceNeg, Nat.reduceAdd, Int.reduceAdd, Int.reduceEq, Int.reduceLT, Int.reduceLE, Int.zero_add, nb_ui_s, nb_ui_k, nb_ui_a, sp_min, sp_max, sp_bits]
    exact sq_ret (sq_AM_ref (k := 2))
  rw [if_pos (by omega)] at hit
  by_cases h3 : N 26 < 1
  · have hr : ra_whi s N = 3 := by unfold ra_whi; rw [if_neg h1, hqn, if_neg h2, if_pos h3]
    rw [hr, if_neg (by decide)]
    have h30 : N 26 = 0 := by omega
    simp (disch := (first | assumption | omega | exact nb_ix (by omega) (by assumption) (by omega) (by omega) | exact nb_ix (by omega) rfl (by omega) (by omega) | exact nb_ok (by omega) rfl | decide)) only [kX12_whisper, hs, hP, e24, hit, e26, h30, sq_mref3' hM, ↓if_pos, ↓if_neg, nb_add, nb_sub, nb_mul, Int.toNat_natCast, mm_kr_s, mm_kv_s, if_pos, if_neg, sq_tn, Int.toNat_zero, Int.reduceToNat, Int.reduceNeg, Nat.reduceAdd, Int.reduceAdd, Int.reduceEq, Int.reduceLT, Int.reduceLE, Int.zero_add, nb_ui_s, nb_ui_k, nb_ui_a, sp_min, sp_max, sp_bits]
    exact sq_ret (sq_AM_ref (k := 3))
  have hr : ra_whi s N = -1 := by unfold ra_whi; rw [if_neg h1, hqn, if_neg h2, if_neg h3]
  rw [hr, if_pos rfl]
  simp (disch := (first | assumption | omega | exact nb_ix (by omega) (by assumption) (by omega) (by omega) | exact nb_ix (by omega) rfl (by omega) (by omega) | exact nb_ok (by omega) rfl | decide)) only [kX12_whisper, hs, hP, e24, hit, e26, sq_mref0 hM, ↓if_pos, ↓if_neg, nb_add, nb_sub, nb_mul, Int.toNat_natCast, mm_kr_s, mm_kv_s, if_pos, if_neg, sq_tn, Int.toNat_zero, Int.reduceToNat, Int.reduceNeg, Nat.reduceAdd, Int.reduceAdd, Int.reduceEq, Int.reduceLT, Int.reduceLE, Int.zero_add, nb_ui_s, nb_ui_k, nb_ui_a, sp_min, sp_max, sp_bits]
  refine sq_kv (sq_mkeep (d := d + 8) hM hN hA) (fun J hJ => ?_)
  have hJN := sq_fk_mN hJ.2 hN
  have j24 : J 257 24 = (q : Int) := by rw [hJN 24 (by omega), hq]
  have j26 := hJN 26 (by omega)
  have jz := hJN (16 + q) (by omega)
  simp (disch := (first | assumption | omega | exact nb_ix (by omega) (by assumption) (by omega) (by omega) | exact nb_ix (by omega) rfl (by omega) (by omega) | exact nb_ok (by omega) rfl | decide)) only [kX12_whisper, hP, j24, j26, jz, ↓if_pos, ↓if_neg, nb_add, nb_sub, nb_mul, Int.toNat_natCast, mm_kr_s, mm_kv_s, if_pos, if_neg, sq_tn, Int.toNat_zero, Int.reduceToNat, Int.reduceNeg, Nat.reduceAdd, Int.reduceAdd, Int.reduceEq, Int.reduceLT, Int.reduceLE, Int.zero_add, nb_ui_s, nb_ui_k, nb_ui_a, sp_min, sp_max, sp_bits]
  refine sq_ret (sq_AM_done hJ ?_ ?_)
  · exact sq_fr_up (sq_fr_up (sq_fr_refl _ _) (by simp)) (by simp)
  · intro j hj
    have h4 := hJN j hj
    unfold rN_whi mm_ui
    rw [hqn]
    grind
theorem ob_heir (hC : sq_MM n c P I s D B g v ev N) (hA : rm_past I na H) : sq_X (some (.inl (if ra_heir s N = -1 then N 27 - 5 else -1))) n L P (sq_AM na H N (rN_heir N) (ra_heir s N) I) (mm_rn (d + 10) 213 [.inr (.inr (some 239))] n I L P) := by
  obtain ⟨hW, hN, hok, hh⟩ := hC
  have hM := hW.1
  have ok := hM.ok
  have hs : I 239 26 = (s : Int) := hW.2.1.2.1
  have hs8 : s ≤ 8 := hW.2.1.1
  have hP := hM.2
  have hn := hM.1
  have e26 := hN 26 (by omega)
  have e27 := hN 27 (by omega)
  have cr := hok.2.2.2.2.1
  have cr6 := hok.2.2.2.1
  rw [eX12_heir]
  by_cases h1 : s = 0
  · have hr : ra_heir s N = 0 := if_pos h1
    rw [hr, if_neg (by decide)]
    simp (disch := (first | assumption | omega | exact nb_ix (by omega) (by assumption) (by omega) (by omega) | exact nb_ix (by omega) rfl (by omega) (by omega) | exact nb_ok (by omega) rfl | decide)) only [kX12_heir, hs, sq_mref0' hM, ↓if_pos, ↓if_neg, nb_add, nb_sub, nb_mul, Int.toNat_natCast, mm_kr_s, mm_kv_s, if_pos, if_neg, sq_tn, Int.toNat_zero, Int.reduceToNat, Int.reduceNeg, Nat.reduceAdd, Int.reduceAdd, Int.reduceEq, Int.reduceLT, Int.reduceLE, Int.zero_add, nb_ui_s, nb_ui_k, nb_ui_a, sp_min, sp_max, sp_bits]
    exact sq_ret (sq_AM_ref (k := 0))
  have h1' : ¬ (s : Int) = 0 := by omega
  by_cases h2 : 3 ≤ N 26
  · have hr : ra_heir s N = 2 := by unfold ra_heir; rw [if_neg h1, if_pos h2]
    rw [hr, if_neg (by decide)]
    have h20 : N 26 = 3 := by omega
    simp (disch := (first | assumption | omega | exact nb_ix (by omega) (by assumption) (by omega) (by omega) | exact nb_ix (by omega) rfl (by omega) (by omega) | exact nb_ok (by omega) rfl | decide)) only [kX12_heir, hs, hP, e26, h20, sq_mref2' hM, ↓if_pos, ↓if_neg, nb_add, nb_sub, nb_mul, Int.toNat_natCast, mm_kr_s, mm_kv_s, if_pos, if_neg, sq_tn, Int.toNat_zero, Int.reduceToNat, Int.reduceNeg, Nat.reduceAdd, Int.reduceAdd, Int.reduceEq, Int.reduceLT, Int.reduceLE, Int.zero_add, nb_ui_s, nb_ui_k, nb_ui_a, sp_min, sp_max, sp_bits]
    exact sq_ret (sq_AM_ref (k := 2))
  by_cases h3 : N 27 < 5
  · have hr : ra_heir s N = 3 := by unfold ra_heir; rw [if_neg h1, if_neg h2, if_pos h3]
    rw [hr, if_neg (by decide)]
    simp (disch := (first | assumption | omega | exact nb_ix (by omega) (by assumption) (by omega) (by omega) | exact nb_ix (by omega) rfl (by omega) (by omega) | exact nb_ok (by omega) rfl | decide)) only [kX12_heir, hs, hP, e26, e27, sq_mref3' hM, ↓if_pos, ↓if_neg, nb_add, nb_sub, nb_mul, Int.toNat_natCast, mm_kr_s, mm_kv_s, if_pos, if_neg, sq_tn, Int.toNat_zero, Int.reduceToNat, Int.reduceNeg, Nat.reduceAdd, Int.reduceAdd, Int.reduceEq, Int.reduceLT, Int.reduceLE, Int.zero_add, nb_ui_s, nb_ui_k, nb_ui_a, sp_min, sp_max, sp_bits]
    exact sq_ret (sq_AM_ref (k := 3))
  have hr : ra_heir s N = -1 := by unfold ra_heir; rw [if_neg h1, if_neg h2, if_neg h3]
  rw [hr, if_pos rfl]
  simp (disch := (first | assumption | omega | exact nb_ix (by omega) (by assumption) (by omega) (by omega) | exact nb_ix (by omega) rfl (by omega) (by omega) | exact nb_ok (by omega) rfl | decide)) only [kX12_heir, hs, hP, e26, e27, sq_mref0 hM, ↓if_pos, ↓if_neg, nb_add, nb_sub, nb_mul, Int.toNat_natCast, mm_kr_s, mm_kv_s, if_pos, if_neg, sq_tn, Int.toNat_zero, Int.reduceToNat, Int.reduceNeg, Nat.reduceAdd, Int.reduceAdd, Int.reduceEq, Int.reduceLT, Int.reduceLE, Int.zero_add, nb_ui_s, nb_ui_k, nb_ui_a, sp_min, sp_max, sp_bits]
  refine sq_kv (sq_mkeep (d := d + 8) hM hN hA) (fun J hJ => ?_)
  have hJN := sq_fk_mN hJ.2 hN
  have j27 := hJN 27 (by omega)
  simp (disch := (first | assumption | omega | exact nb_ix (by omega) (by assumption) (by omega) (by omega) | exact nb_ix (by omega) rfl (by omega) (by omega) | exact nb_ok (by omega) rfl | decide)) only [kX12_heir, hP, j27, ↓if_pos, ↓if_neg, nb_add, nb_sub, nb_mul, Int.toNat_natCast, mm_kr_s, mm_kv_s, if_pos, if_neg, sq_tn, Int.toNat_zero, Int.reduceToNat, Int.reduceNeg, Nat.reduceAdd, Int.reduceAdd, Int.reduceEq, Int.reduceLT, Int.reduceLE, Int.zero_add, nb_ui_s, nb_ui_k, nb_ui_a, sp_min, sp_max, sp_bits]
  refine sq_ret (sq_AM_done hJ ?_ ?_)
  · exact sq_fr_up (sq_fr_up (sq_fr_up (sq_fr_refl _ _) (by simp)) (by simp)) (by simp)
  · intro j hj
    have h4 := hJN j hj
    unfold rN_heir mm_ui
    grind
theorem ob_give (hC : sq_MM n c P I s D B g v ev N) (hA : rm_past I na H) (x : Int) : sq_X (some (.inl (if ra_give s N x = -1 then N 27 + x else -1))) n L P (sq_AM na H N (rN_give N x) (ra_give s N x) I) (mm_rn (d + 10) 216 [.inr (.inr (some 239)), .inl x] n I L P) := by
  obtain ⟨hW, hN, hok, hh⟩ := hC
  have hM := hW.1
  have ok := hM.ok
  have hs : I 239 26 = (s : Int) := hW.2.1.2.1
  have hs8 : s ≤ 8 := hW.2.1.1
  have hP := hM.2
  have hn := hM.1
  have e27 := hN 27 (by omega)
  have cr := hok.2.2.2.2.1
  rw [eX12_give]
  by_cases h1 : s = 0
  · have hr : ra_give s N x = 0 := if_pos h1
    rw [hr, if_neg (by decide)]
    simp (disch := (first | assumption | omega | exact nb_ix (by omega) (by assumption) (by omega) (by omega) | exact nb_ix (by omega) rfl (by omega) (by omega) | exact nb_ok (by omega) rfl | decide)) only [kX12_give, hs, sq_mref0' hM, ↓if_pos, ↓if_neg, nb_add, nb_sub, nb_mul, Int.toNat_natCast, mm_kr_s, mm_kv_s, if_pos, if_neg, sq_tn, Int.toNat_zero, Int.reduceToNat, Int.reduceNeg, Nat.reduceAdd, Int.reduceAdd, Int.reduceEq, Int.reduceLT, Int.reduceLE, Int.zero_add, nb_ui_s, nb_ui_k, nb_ui_a, sp_min, sp_max, sp_bits]
    exact sq_ret (sq_AM_ref (k := 0))
  have h1' : ¬ (s : Int) = 0 := by omega
  by_cases h2 : 1 ≤ x ∧ x ≤ 50
  case neg =>
    have hr : ra_give s N x = 1 := by unfold ra_give; rw [if_neg h1, if_pos h2]
    rw [hr, if_neg (by decide)]
    simp (disch := (first | assumption | omega | exact nb_ix (by omega) (by assumption) (by omega) (by omega) | exact nb_ix (by omega) rfl (by omega) (by omega) | exact nb_ok (by omega) rfl | decide)) only [kX12_give, hs, sp_min2, sq_mref1' hM, ↓if_pos, ↓if_neg, nb_add, nb_sub, nb_mul, Int.toNat_natCast, mm_kr_s, mm_kv_s, if_pos, if_neg, sq_tn, Int.toNat_zero, Int.reduceToNat, Int.reduceNeg, Nat.reduceAdd, Int.reduceAdd, Int.reduceEq, Int.reduceLT, Int.reduceLE, Int.zero_add, nb_ui_s, nb_ui_k, nb_ui_a, sp_min, sp_max, sp_bits]
    exact sq_ret (sq_AM_ref (k := 1))
  by_cases h3 : 999 < N 27 + x
  · have hr : ra_give s N x = 3 := by unfold ra_give; rw [if_neg h1, if_neg (not_not_intro h2), if_pos h3]
    rw [hr, if_neg (by decide)]
    simp (disch := (first | assumption | omega | exact nb_ix (by omega) (by assumption) (by omega) (by omega) | exact nb_ix (by omega) rfl (by omega) (by omega) | exact nb_ok (by omega) rfl | decide)) only [kX12_give, hs, sp_min2, hP, e27, sq_mref3' hM, ↓if_pos, ↓if_neg, nb_add, nb_sub, nb_mul, Int.toNat_natCast, mm_kr_s, mm_kv_s, if_pos, if_neg, sq_tn, Int.toNat_zero, Int.reduceToNat, Int.reduceNeg, Nat.reduceAdd, Int.reduceAdd, Int.reduceEq, Int.reduceLT, Int.reduceLE, Int.zero_add, nb_ui_s, nb_ui_k, nb_ui_a, sp_min, sp_max, sp_bits]
    exact sq_ret (sq_AM_ref (k := 3))
  have hr : ra_give s N x = -1 := by unfold ra_give; rw [if_neg h1, if_neg (not_not_intro h2), if_neg h3]
  rw [hr, if_pos rfl]
  simp (disch := (first | assumption | omega | exact nb_ix (by omega) (by assumption) (by omega) (by omega) | exact nb_ix (by omega) rfl (by omega) (by omega) | exact nb_ok (by omega) rfl | decide)) only [kX12_give, hs, sp_min2, hP, e27, sq_mref0 hM, ↓if_pos, ↓if_neg, nb_add, nb_sub, nb_mul, Int.toNat_natCast, mm_kr_s, mm_kv_s, if_pos, if_neg, sq_tn, Int.toNat_zero, Int.reduceToNat, Int.reduceNeg, Nat.reduceAdd, Int.reduceAdd, Int.reduceEq, Int.reduceLT, Int.reduceLE, Int.zero_add, nb_ui_s, nb_ui_k, nb_ui_a, sp_min, sp_max, sp_bits]
  refine sq_kv (sq_mkeep (d := d + 8) hM hN hA) (fun J hJ => ?_)
  have hJN := sq_fk_mN hJ.2 hN
  have j27 := hJN 27 (by omega)
  simp (disch := (first | assumption | omega | exact nb_ix (by omega) (by assumption) (by omega) (by omega) | exact nb_ix (by omega) rfl (by omega) (by omega) | exact nb_ok (by omega) rfl | decide)) only [kX12_give, hP, j27, ↓if_pos, ↓if_neg, nb_add, nb_sub, nb_mul, Int.toNat_natCast, mm_kr_s, mm_kv_s, if_pos, if_neg, sq_tn, Int.toNat_zero, Int.reduceToNat, Int.reduceNeg, Nat.reduceAdd, Int.reduceAdd, Int.reduceEq, Int.reduceLT, Int.reduceLE, Int.zero_add, nb_ui_s, nb_ui_k, nb_ui_a, sp_min, sp_max, sp_bits]
  refine sq_ret (sq_AM_done hJ ?_ ?_)
  · exact sq_fr_up (sq_fr_refl _ _) (by simp)
  · intro j hj
    have h4 := hJN j hj
    unfold rN_give mm_ui
    grind
theorem ob_beg (hC : sq_MM n c P I s D B g v ev N) (hA : rm_past I na H) (p k z : Int) : sq_X (some (.inl (if ra_beg s N p k z = -1 then (sp_pc (sv_am (sw_beg N p.toNat k z) s) : Nat) else -1))) n L P (sq_AM na H N (sw_beg N p.toNat k z) (ra_beg s N p k z) I) (mm_rn (d + 10) 215 [.inr (.inr (some 239)), .inl p, .inl k, .inl z] n I L P) := by
  obtain ⟨hW, hN, hok, hh⟩ := hC
  have hM := hW.1
  have ok := hM.ok
  have hs : I 239 26 = (s : Int) := hW.2.1.2.1
  have hs8 : s ≤ 8 := hW.2.1.1
  have his := sp_isSpot (d := d + 7) (L := L) hM p (I := I) (by omega)
  rw [hs] at his
  have hP := hM.2
  have hn := hM.1
  rw [eX12_begin]
  by_cases h1 : 0 ≤ p ∧ p < (s : Int)
  case neg =>
    have hr : ra_beg s N p k z = 0 := if_pos h1
    rw [hr, if_neg (by decide)]
    simp (disch := (first | assumption | omega | exact nb_ix (by omega) (by assumption) (by omega) (by omega) | exact nb_ix (by omega) rfl (by omega) (by omega) | exact nb_ok (by omega) rfl | decide)) only [kX12_begin, his, sq_mref0' hM, ↓if_pos, ↓if_neg, nb_add, nb_sub, nb_mul, Int.toNat_natCast, mm_kr_s, mm_kv_s, if_pos, if_neg, sq_tn, Int.toNat_zero, Int.reduceToNat, Int.reduceNeg, Nat.reduceAdd, Int.reduceAdd, Int.reduceEq, Int.reduceLT, Int.reduceLE, Int.zero_add, nb_ui_s, nb_ui_k, nb_ui_a, sp_min, sp_max, sp_bits]
    exact sq_ret (sq_AM_ref (k := 0))
  obtain ⟨q, rfl⟩ : ∃ k : Nat, p = (k : Int) := ⟨p.toNat, by omega⟩
  rw [Int.toNat_natCast]
  by_cases h2 : (0 ≤ k ∧ k ≤ 2) ∧ 1 ≤ z ∧ z ≤ 9
  case neg =>
    have hr : ra_beg s N q k z = 1 := by unfold ra_beg; rw [if_neg (not_not_intro h1), if_pos h2]
    rw [hr, if_neg (by decide)]
    by_cases k1 : 0 ≤ k ∧ k ≤ 2
    · have z1 : ¬ (1 ≤ z ∧ z ≤ 9) := fun zz => h2 ⟨k1, zz⟩
      simp (disch := (first | assumption | omega | exact nb_ix (by omega) (by assumption) (by omega) (by omega) | exact nb_ix (by omega) rfl (by omega) (by omega) | exact nb_ok (by omega) rfl | decide)) only [kX12_begin, his, sp_min2, sq_mref1' hM, ↓if_pos, ↓if_neg, nb_add, nb_sub, nb_mul, Int.toNat_natCast, mm_kr_s, mm_kv_s, if_pos, if_neg, sq_tn, Int.toNat_zero, Int.reduceToNat, Int.reduceNeg, Nat.reduceAdd, Int.reduceAdd, Int.reduceEq, Int.reduceLT, Int.reduceLE, Int.zero_add, nb_ui_s, nb_ui_k, nb_ui_a, sp_min, sp_max, sp_bits]
      exact sq_ret (sq_AM_ref (k := 1))
    · simp (disch := (first | assumption | omega | exact nb_ix (by omega) (by assumption) (by omega) (by omega) | exact nb_ix (by omega) rfl (by omega) (by omega) | exact nb_ok (by omega) rfl | decide)) only [kX12_begin, his, sp_min2, sq_mref1' hM, ↓if_pos, ↓if_neg, nb_add, nb_sub, nb_mul, Int.toNat_natCast, mm_kr_s, mm_kv_s, if_pos, if_neg, sq_tn, Int.toNat_zero, Int.reduceToNat, Int.reduceNeg, Nat.reduceAdd, Int.reduceAdd, Int.reduceEq, Int.reduceLT, Int.reduceLE, Int.zero_add, nb_ui_s, nb_ui_k, nb_ui_a, sp_min, sp_max, sp_bits]
      exact sq_ret (sq_AM_ref (k := 1))
  obtain ⟨h2a, h2b⟩ := h2
  have ez := hN (16 + q) (by omega)
  have zr := (hok.1 q (by omega)).2.2.1
  have hit := sp_isT (d := d + 8) (I := I) (L := L) hM (show q < 8 by omega)
  rw [ez] at hit
  by_cases h3 : 0 < N (16 + q)
  · have hr : ra_beg s N q k z = 2 := by unfold ra_beg; rw [if_neg (not_not_intro h1), if_neg (not_not_intro ⟨h2a, h2b⟩), Int.toNat_natCast, if_pos h3]
    rw [hr, if_neg (by decide)]
    rw [if_pos h3] at hit
    simp (disch := (first | assumption | omega | exact nb_ix (by omega) (by assumption) (by omega) (by omega) | exact nb_ix (by omega) rfl (by omega) (by omega) | exact nb_ok (by omega) rfl | decide)) only [kX12_begin, his, sp_min2, hit, sq_mref2' hM, ↓if_pos, ↓if_neg, nb_add, nb_sub, nb_mul, Int.toNat_natCast, mm_kr_s, mm_kv_s, if_pos, if_neg, sq_tn, Int.toNat_zero, Int.reduceToNat, Int.reduceNeg, Nat.reduceAdd, Int.reduceAdd, Int.reduceEq, Int.reduceLT, Int.reduceLE, Int.zero_add, nb_ui_s, nb_ui_k, nb_ui_a, sp_min, sp_max, sp_bits]
    exact sq_ret (sq_AM_ref (k := 2))
  have hr : ra_beg s N q k z = -1 := by unfold ra_beg; rw [if_neg (not_not_intro h1), if_neg (not_not_intro ⟨h2a, h2b⟩), Int.toNat_natCast, if_neg h3]
  rw [hr, if_pos rfl]
  rw [if_neg h3] at hit
  simp (disch := (first | assumption | omega | exact nb_ix (by omega) (by assumption) (by omega) (by omega) | exact nb_ix (by omega) rfl (by omega) (by omega) | exact nb_ok (by omega) rfl | decide)) only [kX12_begin, his, sp_min2, hit, sq_mref0 hM, ↓if_pos, ↓if_neg, nb_add, nb_sub, nb_mul, Int.toNat_natCast, mm_kr_s, mm_kv_s, if_pos, if_neg, sq_tn, Int.toNat_zero, Int.reduceToNat, Int.reduceNeg, Nat.reduceAdd, Int.reduceAdd, Int.reduceEq, Int.reduceLT, Int.reduceLE, Int.zero_add, nb_ui_s, nb_ui_k, nb_ui_a, sp_min, sp_max, sp_bits]
  refine sq_kv (sq_mkeep (d := d + 8) hM hN hA) (fun J hJ => ?_)
  have hJN := sq_fk_mN hJ.2 hN
  simp (disch := (first | assumption | omega | exact nb_ix (by omega) (by assumption) (by omega) (by omega) | exact nb_ix (by omega) rfl (by omega) (by omega) | exact nb_ok (by omega) rfl | decide)) only [kX12_begin, ↓if_pos, ↓if_neg, nb_add, nb_sub, nb_mul, Int.toNat_natCast, mm_kr_s, mm_kv_s, if_pos, if_neg, sq_tn, Int.toNat_zero, Int.reduceToNat, Int.reduceNeg, Nat.reduceAdd, Int.reduceAdd, Int.reduceEq, Int.reduceLT, Int.reduceLE, Int.zero_add, nb_ui_s, nb_ui_k, nb_ui_a, sp_min, sp_max, sp_bits]
  refine sq_kv (sq_mbeg (d := d + 8) hM (show q < 8 by omega) hJN) (fun K hK => ?_)
  have hWK := sq_MW_keepf (sq_fk_MW hJ.2 hW) hK.2 (by simp)
  have etr := sq_mtroub (d := d + 7) (L := L) hWK hK.1
  have hlt := sv_am_lt (N := sw_beg N q k z) hs8
  simp (disch := (first | assumption | omega | exact nb_ix (by omega) (by assumption) (by omega) (by omega) | exact nb_ix (by omega) rfl (by omega) (by omega) | exact nb_ok (by omega) rfl | decide)) only [kX12_begin, etr, ↓if_pos, ↓if_neg, nb_add, nb_sub, nb_mul, Int.toNat_natCast, mm_kr_s, mm_kv_s, if_pos, if_neg, sq_tn, Int.toNat_zero, Int.reduceToNat, Int.reduceNeg, Nat.reduceAdd, Int.reduceAdd, Int.reduceEq, Int.reduceLT, Int.reduceLE, Int.zero_add, nb_ui_s, nb_ui_k, nb_ui_a, sp_min, sp_max, sp_bits]
  exact sq_ret (sq_AM_done hJ hK.2 hK.1)
end AM
