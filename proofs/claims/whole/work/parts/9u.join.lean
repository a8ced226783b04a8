/-! towns: is it whole, lanes joined -/
def zwh (np nl : Nat) (la : Nat → Int) : Prop := 2 ≤ np ∧ ∀ l, l < nl → zlk np la l
/-- a town as the class holds it -/
def zTd (t : Nat) (I : mm_I) (ru : Nat → Int) (np : Nat) (pl : Nat → Int) (nl : Nat) (la : Nat → Int) : Prop := I t 0 = (np : Int) ∧ I t 1 = ru 0 ∧ I t 2 = ru 1 ∧ I t 3 = ru 2 ∧ (∀ p, p < np → I (t + 1) p = pl (2 * p) ∧ I (t + 2) p = pl (2 * p + 1) ∧ I (t + 3) p = (zBs la nl p : Int) ∧ I (t + 4) p = (sp_mask (fun o => decide (zDi (zBs la nl) 8 (8 * p + o) ≤ ru 1)) np : Nat)) ∧ ∀ p o, p < np → o < np → I (t + 5) (8 * p + o) = zDi (zBs la nl) 8 (8 * p + o)
theorem zl_min {A : Nat → Prop} : ∀ m, (¬ ∀ l, l < m → A l) → ∃ l0, l0 < m ∧ ¬ A l0 ∧ ∀ k, k < l0 → A k := by
  intro m
  induction m with
  | zero => intro h; exact absurd (fun l hl => by omega) h
  | succ m ih =>
    intro h
    by_cases h1 : ∀ l, l < m → A l
    · refine ⟨m, by omega, fun w => h (fun l hl => ?_), h1⟩
      by_cases e : l = m
      · rw [e]; exact w
      · exact h1 l (by omega)
    · obtain ⟨l0, a, b, c⟩ := ih h1
      exact ⟨l0, by omega, b, c⟩
section JL
variable {n t np nl rd : Nat} {P : mm_P} {ru pl la : Nat → Int}
set_option maxHeartbeats 4000000 in
theorem zU_jstep {d l : Nat} {I J L : mm_I} (hT : sp_T n P t) (ht : 7 ≤ t) (hn : 270 ≤ n) (p3 : P 3 0 = some 4 ∧ P 3 1 = some 5 ∧ P 3 2 = some 6) (hr : zts ru rd np pl nl la) (hc : zTc t I ru rd np pl nl la) (hl : l < nl) (hk : ∀ k, k < l + 1 → zlk np la k) (hJ : sq_fr [t + 3] I J ∧ ∀ p, p < np → J (t + 3) p = (zBs la l p : Int)) : ∃ K, mm_E (d + 1) 82 12 [.inr (.inr (some 3)), .inr (.inr (some t)), .inl ((l : Int))] [] [] n J L P = mm_E (d + 1) 82 12 [.inr (.inr (some 3)), .inr (.inr (some t)), .inl (((l + 1 : Nat) : Int))] [] [] n K L P ∧ sq_fr [t + 3] I K ∧ ∀ p, p < np → K (t + 3) p = (zBs la (l + 1) p : Int) := by
  have okT := hT.ok
  obtain ⟨r1, r2, r3, r4, r5, r6⟩ := hr
  obtain ⟨k1, k2, k3, k4, k5, k6, k7, k8⟩ := hc
  obtain ⟨z1, z2, z3, z4, z5⟩ := hk l (by omega)
  obtain ⟨a, ha⟩ : ∃ a : Nat, la (2 * l) = (a : Int) := ⟨(la (2 * l)).toNat, by omega⟩
  obtain ⟨b, hb⟩ : ∃ b : Nat, la (2 * l + 1) = (b : Int) := ⟨(la (2 * l + 1)).toNat, by omega⟩
  have hB := zBs_lt r2 l (fun k hk2 => hk k (by omega))
  have j3 : J 3 3 = (nl : Int) := by rw [hJ.1 3 (by simp; omega)]; exact k1
  have j5 : J 5 l = (a : Int) := by rw [hJ.1 5 (by simp; omega), (k8 l hl).1]; exact ha
  have j6 : J 6 l = (b : Int) := by rw [hJ.1 6 (by simp; omega), (k8 l hl).2]; exact hb
  have jt : J t 0 = (np : Int) := by rw [hJ.1 t (by simp)]; exact k3
  rw [ha] at z1 z2 z5
  rw [hb] at z3 z4 z5
  have h1 := sp_has (d := d) (L := L) (I := J) hT (a : Int)
  have h2 := sp_has (d := d) (L := L) (I := J) hT (b : Int)
  rw [jt, if_pos ⟨z1, z2⟩] at h1
  rw [jt, if_pos ⟨z3, z4⟩] at h2
  have hj := zU_join (d := d) (L := L) (I := J) (B := zBs la l) (a := a) (b := b) hT (by omega) (by omega) (by omega) ⟨hJ.2 a (by omega), hB a⟩ ⟨hJ.2 b (by omega), hB b⟩
  have c1 : ¬ (nl : Int) ≤ (l : Int) := by omega
  have e1 : (l : Int) + 1 = ((l + 1 : Nat) : Int) := by omega
  obtain ⟨q0, q1, q2⟩ := p3
  refine ⟨mm_ui (mm_ui J (t + 3) a (zsb (zBs la l a) b : Int)) (t + 3) b (zsb (zBs la l b) a : Int), ?_, sq_fr_up (sq_fr_up hJ.1 (by simp)) (by simp), fun p hp => ?_⟩
  · rw [hX10_joinLanes_12]
    simp (disch := (first | assumption | omega | exact nb_ix (by omega) (by assumption) (by omega) (by omega) | exact nb_ix (by omega) rfl (by omega) (by omega) | exact nb_ok (by omega) rfl | decide)) only [kX10_joinLanes, j3, q1, q2, j5, j6, h1, h2, hj, e1, ↓if_pos, ↓if_neg, nb_add, nb_sub, nb_mul, Int.toNat_natCast, mm_kr_s, mm_kv_s, if_pos, if_neg, sq_tn, Int.toNat_zero, Int.reduceToNat, Int.reduceNeg, Nat.reduceAdd, Int.reduceAdd, Int.reduceEq, Int.reduceLT, Int.reduceLE, Int.zero_add, nb_ui_s, nb_ui_k, nb_ui_a, sp_min, sp_max, sp_bits]
    done
  · have ez : zBs la (l + 1) p = if p = (la (2 * l + 1)).toNat then zsb (zBs la l p) (la (2 * l)).toNat else if p = (la (2 * l)).toNat then zsb (zBs la l p) (la (2 * l + 1)).toNat else zBs la l p := rfl
    rw [ez, ha, hb, Int.toNat_natCast, Int.toNat_natCast]
    by_cases e2 : p = b
    · subst e2; rw [nb_ui_s, if_pos rfl]
    · rw [nb_ui_k e2, if_neg e2]
      by_cases e3 : p = a
      · subst e3; rw [nb_ui_s, if_pos rfl]
      · rw [nb_ui_k e3, if_neg e3]; exact hJ.2 p hp
set_option maxHeartbeats 4000000 in
theorem zU_joins1 {d : Nat} {I L : mm_I} (hT : sp_T n P t) (ht : 7 ≤ t) (hn : 270 ≤ n) (p3 : P 3 0 = some 4 ∧ P 3 1 = some 5 ∧ P 3 2 = some 6) (hr : zts ru rd np pl nl la) (hc : zTc t I ru rd np pl nl la) (hw : zwh np nl la) : sq_X (some (.inl 1)) n L P (fun I' => sq_fr [t + 3, t + 4, t + 5] I I' ∧ zTd t I' ru np pl nl la) (mm_rn (d + 5) 82 [.inr (.inr (some 3)), .inr (.inr (some t))] n I L P) := by
  have okT := hT.ok
  have hr2 := hr.2.1
  have hcc := hc
  obtain ⟨k1, k2, k3, k4, k5, k6, k7, k8⟩ := hc
  have hw1 := hw.1
  have c0 : (2 : Int) ≤ (np : Int) := by omega
  rw [eX10_joinLanes]
  simp (disch := (first | assumption | omega | exact nb_ix (by omega) (by assumption) (by omega) (by omega) | exact nb_ix (by omega) rfl (by omega) (by omega) | exact nb_ok (by omega) rfl | decide)) only [kX10_joinLanes, k3, ↓if_pos, ↓if_neg, nb_add, nb_sub, nb_mul, Int.toNat_natCast, mm_kr_s, mm_kv_s, if_pos, if_neg, sq_tn, Int.toNat_zero, Int.reduceToNat, Int.reduceNeg, Nat.reduceAdd, Int.reduceAdd, Int.reduceEq, Int.reduceLT, Int.reduceLE, Int.zero_add, nb_ui_s, nb_ui_k, nb_ui_a, sp_min, sp_max, sp_bits]
  refine sq_loop (fun l (J : mm_I) => mm_E (d + 4) 82 12 [.inr (.inr (some 3)), .inr (.inr (some t)), .inl ((l : Int))] [] [] n J L P) (fun l J => sq_fr [t + 3] I J ∧ ∀ p, p < np → J (t + 3) p = (zBs la l p : Int)) nl ⟨sq_fr_refl _ I, fun p hp => (k7 p hp).2.2⟩ (fun l J hl hJ nx => ?_) (fun J hJ => ?_)
  · obtain ⟨K, hK, hK2⟩ := zU_jstep (d := d + 3) (L := L) hT ht hn p3 hr hcc hl (fun k hk => hw.2 k (by omega)) hJ
    show sq_X _ n L P _ (mm_E (d + 4) 82 12 [.inr (.inr (some 3)), .inr (.inr (some t)), .inl ((l : Int))] [] [] n J L P)
    rw [hK]
    exact nx K hK2
  · have j3 : J 3 3 = (nl : Int) := by rw [hJ.1 3 (by simp; omega)]; exact k1
    have c1 : (nl : Int) ≤ (nl : Int) := Int.le_refl _
    have hB := zBs_lt hr2 nl hw.2
    rw [hX10_joinLanes_12]
    simp (disch := (first | assumption | omega | exact nb_ix (by omega) (by assumption) (by omega) (by omega) | exact nb_ix (by omega) rfl (by omega) (by omega) | exact nb_ok (by omega) rfl | decide)) only [kX10_joinLanes, j3, ↓if_pos, ↓if_neg, nb_add, nb_sub, nb_mul, Int.toNat_natCast, mm_kr_s, mm_kv_s, if_pos, if_neg, sq_tn, Int.toNat_zero, Int.reduceToNat, Int.reduceNeg, Nat.reduceAdd, Int.reduceAdd, Int.reduceEq, Int.reduceLT, Int.reduceLE, Int.zero_add, nb_ui_s, nb_ui_k, nb_ui_a, sp_min, sp_max, sp_bits]
    refine sq_kv (zU_ways (d := d) (L := L) (np := np) (B := zBs la nl) hT ht hr2 (by rw [hJ.1 t (by simp)]; exact k3) (fun p hp => ⟨hJ.2 p hp, hB p⟩)) (fun K hK => ?_)
    have hD : ∀ p o, p < np → o < np → K (t + 5) (8 * p + o) = zDi (zBs la nl) 8 (8 * p + o) := fun p o hp ho => by
      rw [hK.2 p o hp ho]
      have := zDi_end (np := np) (zBs_in hr2 nl hw.2) (Nat.le_refl np) (8 - np) (by omega) p o hp ho
      rw [show np + (8 - np) = 8 by omega] at this
      exact this.symm
    have fK : sq_fr [t + 3, t + 5] I K := sq_fr_trans hJ.1 hK.1 (by simp) (by simp)
    simp (disch := (first | assumption | omega | exact nb_ix (by omega) (by assumption) (by omega) (by omega) | exact nb_ix (by omega) rfl (by omega) (by omega) | exact nb_ok (by omega) rfl | decide)) only [kX10_joinLanes, ↓if_pos, ↓if_neg, nb_add, nb_sub, nb_mul, Int.toNat_natCast, mm_kr_s, mm_kv_s, if_pos, if_neg, sq_tn, Int.toNat_zero, Int.reduceToNat, Int.reduceNeg, Nat.reduceAdd, Int.reduceAdd, Int.reduceEq, Int.reduceLT, Int.reduceLE, Int.zero_add, nb_ui_s, nb_ui_k, nb_ui_a, sp_min, sp_max, sp_bits]
    refine sq_kv (zU_views (d := d + 1) (L := L) (np := np) (D := zDi (zBs la nl) 8) (v := ru 1) hT ht hr2 (by rw [fK t (by simp)]; exact k3) (by rw [fK t (by simp)]; exact k5) hD) (fun G hG => ?_)
    simp (disch := (first | assumption | omega | exact nb_ix (by omega) (by assumption) (by omega) (by omega) | exact nb_ix (by omega) rfl (by omega) (by omega) | exact nb_ok (by omega) rfl | decide)) only [kX10_joinLanes, ↓if_pos, ↓if_neg, nb_add, nb_sub, nb_mul, Int.toNat_natCast, mm_kr_s, mm_kv_s, if_pos, if_neg, sq_tn, Int.toNat_zero, Int.reduceToNat, Int.reduceNeg, Nat.reduceAdd, Int.reduceAdd, Int.reduceEq, Int.reduceLT, Int.reduceLE, Int.zero_add, nb_ui_s, nb_ui_k, nb_ui_a, sp_min, sp_max, sp_bits]
    have fG : sq_fr [t + 3, t + 4, t + 5] I G := sq_fr_trans fK hG.1 (by simp) (by simp)
    refine sq_ret ⟨fG, ?_, ?_, ?_, ?_, fun p hp => ⟨?_, ?_, ?_, hG.2 p hp⟩, fun p o hp ho => ?_⟩
    · rw [fG t (by simp)]; exact k3
    · rw [fG t (by simp)]; exact k4
    · rw [fG t (by simp)]; exact k5
    · rw [fG t (by simp)]; exact k6
    · rw [fG (t + 1) (by simp)]; exact (k7 p hp).1
    · rw [fG (t + 2) (by simp)]; exact (k7 p hp).2.1
    · rw [hG.1 (t + 3) (by simp), hK.1 (t + 3) (by simp)]; exact hJ.2 p hp
    · rw [hG.1 (t + 5) (by simp)]; exact hD p o hp ho
set_option maxHeartbeats 4000000 in
theorem zU_joins0 {d : Nat} {I L : mm_I} (hT : sp_T n P t) (ht : 7 ≤ t) (hn : 270 ≤ n) (p3 : P 3 0 = some 4 ∧ P 3 1 = some 5 ∧ P 3 2 = some 6) (hr : zts ru rd np pl nl la) (hc : zTc t I ru rd np pl nl la) (hw : ¬ zwh np nl la) : sq_X (some (.inl 0)) n L P (fun I' => sq_fr [t + 3, t + 4, t + 5] I I') (mm_rn (d + 3) 82 [.inr (.inr (some 3)), .inr (.inr (some t))] n I L P) := by
  have okT := hT.ok
  have hcc := hc
  obtain ⟨k1, k2, k3, k4, k5, k6, k7, k8⟩ := hc
  have hr3 := hr.2.2.1
  have hr6 := hr.2.2.2.2.2
  obtain ⟨q0, q1, q2⟩ := p3
  rw [eX10_joinLanes]
  by_cases c0 : (2 : Int) ≤ (np : Int)
  · obtain ⟨l0, b1, b2, b3⟩ := zl_min nl (fun w => hw ⟨by omega, w⟩)
    simp (disch := (first | assumption | omega | exact nb_ix (by omega) (by assumption) (by omega) (by omega) | exact nb_ix (by omega) rfl (by omega) (by omega) | exact nb_ok (by omega) rfl | decide)) only [kX10_joinLanes, k3, ↓if_pos, ↓if_neg, nb_add, nb_sub, nb_mul, Int.toNat_natCast, mm_kr_s, mm_kv_s, if_pos, if_neg, sq_tn, Int.toNat_zero, Int.reduceToNat, Int.reduceNeg, Nat.reduceAdd, Int.reduceAdd, Int.reduceEq, Int.reduceLT, Int.reduceLE, Int.zero_add, nb_ui_s, nb_ui_k, nb_ui_a, sp_min, sp_max, sp_bits]
    refine sq_loop (fun l (J : mm_I) => mm_E (d + 2) 82 12 [.inr (.inr (some 3)), .inr (.inr (some t)), .inl ((l : Int))] [] [] n J L P) (fun l J => sq_fr [t + 3] I J ∧ ∀ p, p < np → J (t + 3) p = (zBs la l p : Int)) l0 ⟨sq_fr_refl _ I, fun p hp => (k7 p hp).2.2⟩ (fun l J hl hJ nx => ?_) (fun J hJ => ?_)
    · obtain ⟨K, hK, hK2⟩ := zU_jstep (d := d + 1) (L := L) hT ht hn ⟨q0, q1, q2⟩ hr hcc (show l < nl by omega) (fun k hk => b3 k (by omega)) hJ
      show sq_X _ n L P _ (mm_E (d + 2) 82 12 [.inr (.inr (some 3)), .inr (.inr (some t)), .inl ((l : Int))] [] [] n J L P)
      rw [hK]
      exact nx K hK2
    · have j3 : J 3 3 = (nl : Int) := by rw [hJ.1 3 (by simp; omega)]; exact k1
      have j5 : J 5 l0 = la (2 * l0) := by rw [hJ.1 5 (by simp; omega)]; exact (k8 l0 b1).1
      have j6 : J 6 l0 = la (2 * l0 + 1) := by rw [hJ.1 6 (by simp; omega)]; exact (k8 l0 b1).2
      have jt : J t 0 = (np : Int) := by rw [hJ.1 t (by simp)]; exact k3
      have c1 : ¬ (nl : Int) ≤ (l0 : Int) := by omega
      have h1 := sp_has (d := d + 1) (L := L) (I := J) hT (la (2 * l0))
      have h2 := sp_has (d := d + 1) (L := L) (I := J) hT (la (2 * l0 + 1))
      have fin : sq_fr [t + 3, t + 4, t + 5] I J := sq_fr_sub hJ.1 (by simp)
      rw [jt] at h1 h2
      rw [hX10_joinLanes_12]
      by_cases d1 : 0 ≤ la (2 * l0) ∧ la (2 * l0) < (np : Int)
      · rw [if_pos d1] at h1
        by_cases d2 : 0 ≤ la (2 * l0 + 1) ∧ la (2 * l0 + 1) < (np : Int)
        · rw [if_pos d2] at h2
          have d3 : la (2 * l0) = la (2 * l0 + 1) := Classical.byContradiction fun w => b2 ⟨d1.1, d1.2, d2.1, d2.2, w⟩
          simp (disch := (first | assumption | omega | exact nb_ix (by omega) (by assumption) (by omega) (by omega) | exact nb_ix (by omega) rfl (by omega) (by omega) | exact nb_ok (by omega) rfl | decide)) only [kX10_joinLanes, j3, q1, q2, j5, j6, h1, h2, ↓if_pos, ↓if_neg, nb_add, nb_sub, nb_mul, Int.toNat_natCast, mm_kr_s, mm_kv_s, if_pos, if_neg, sq_tn, Int.toNat_zero, Int.reduceToNat, Int.reduceNeg, Nat.reduceAdd, Int.reduceAdd, Int.reduceEq, Int.reduceLT, Int.reduceLE, Int.zero_add, nb_ui_s, nb_ui_k, nb_ui_a, sp_min, sp_max, sp_bits]
          exact sq_ret fin
        · rw [if_neg d2] at h2
          simp (disch := (first | assumption | omega | exact nb_ix (by omega) (by assumption) (by omega) (by omega) | exact nb_ix (by omega) rfl (by omega) (by omega) | exact nb_ok (by omega) rfl | decide)) only [kX10_joinLanes, j3, q1, q2, j5, j6, h1, h2, ↓if_pos, ↓if_neg, nb_add, nb_sub, nb_mul, Int.toNat_natCast, mm_kr_s, mm_kv_s, if_pos, if_neg, sq_tn, Int.toNat_zero, Int.reduceToNat, Int.reduceNeg, Nat.reduceAdd, Int.reduceAdd, Int.reduceEq, Int.reduceLT, Int.reduceLE, Int.zero_add, nb_ui_s, nb_ui_k, nb_ui_a, sp_min, sp_max, sp_bits]
          exact sq_ret fin
      · rw [if_neg d1] at h1
        simp (disch := (first | assumption | omega | exact nb_ix (by omega) (by assumption) (by omega) (by omega) | exact nb_ix (by omega) rfl (by omega) (by omega) | exact nb_ok (by omega) rfl | decide)) only [kX10_joinLanes, j3, q1, q2, j5, j6, h1, h2, ↓if_pos, ↓if_neg, nb_add, nb_sub, nb_mul, Int.toNat_natCast, mm_kr_s, mm_kv_s, if_pos, if_neg, sq_tn, Int.toNat_zero, Int.reduceToNat, Int.reduceNeg, Nat.reduceAdd, Int.reduceAdd, Int.reduceEq, Int.reduceLT, Int.reduceLE, Int.zero_add, nb_ui_s, nb_ui_k, nb_ui_a, sp_min, sp_max, sp_bits]
        exact sq_ret fin
  · simp (disch := (first | assumption | omega | exact nb_ix (by omega) (by assumption) (by omega) (by omega) | exact nb_ix (by omega) rfl (by omega) (by omega) | exact nb_ok (by omega) rfl | decide)) only [kX10_joinLanes, k3, ↓if_pos, ↓if_neg, nb_add, nb_sub, nb_mul, Int.toNat_natCast, mm_kr_s, mm_kv_s, if_pos, if_neg, sq_tn, Int.toNat_zero, Int.reduceToNat, Int.reduceNeg, Nat.reduceAdd, Int.reduceAdd, Int.reduceEq, Int.reduceLT, Int.reduceLE, Int.zero_add, nb_ui_s, nb_ui_k, nb_ui_a, sp_min, sp_max, sp_bits]
    exact sq_ret (sq_fr_refl _ I)
set_option maxHeartbeats 4000000 in
/-- the model's isWhole -/
theorem zU_whole {d : Nat} {I L : mm_I} (hM : sp_M n P) (hr : zts ru rd np pl nl la) (hc : zTm I ru np pl nl la) : ∃ w : Int, ((w = 1 ∧ zwh np nl la) ∨ (w = 0 ∧ ¬ zwh np nl la)) ∧ mm_rn (d + 1) 184 [.inr (.inr (some 239))] n I L P = some (some (.inl w), n, I, L, P) := by
  have ok := hM.ok
  obtain ⟨m0, m1, m2, m3, m4, m5, m6, m7, m8, m9, m10, m11, m12, m13, -⟩ := hM
  obtain ⟨k1, k2, k3, k4, k5⟩ := hc
  have hr3 := hr.2.2.1
  have hr6 := hr.2.2.2.2.2
  have key : ∀ (m l : Nat) (w : Int), l + m = nl → ((w = 1 ∧ zwh np l la) ∨ (w = 0 ∧ ¬ zwh np l la)) → ∃ w' : Int, ((w' = 1 ∧ zwh np nl la) ∨ (w' = 0 ∧ ¬ zwh np nl la)) ∧ mm_E d 184 16 [.inr (.inr (some 239)), .inl w, .inl ((l : Int))] [] [] n I L P = some (some (.inl w'), n, I, L, P) := by
    intro m
    induction m with
    | zero =>
      intro l w hl hw
      have e0 : l = nl := by omega
      subst e0
      refine ⟨w, hw, ?_⟩
      have c1 : (l : Int) ≤ (l : Int) := Int.le_refl _
      have hw2 : 0 ≤ w ∧ w < 2 := by rcases hw with h | h <;> rw [h.1] <;> decide
      rw [hX12_isWhole_16]
      simp (disch := (first | assumption | omega | exact nb_ix (by omega) (by assumption) (by omega) (by omega) | exact nb_ix (by omega) rfl (by omega) (by omega) | exact nb_ok (by omega) rfl | decide)) only [kX12_isWhole, k2, ↓if_pos, ↓if_neg, nb_add, nb_sub, nb_mul, Int.toNat_natCast, mm_kr_s, mm_kv_s, if_pos, if_neg, sq_tn, Int.toNat_zero, Int.reduceToNat, Int.reduceNeg, Nat.reduceAdd, Int.reduceAdd, Int.reduceEq, Int.reduceLT, Int.reduceLE, Int.zero_add, nb_ui_s, nb_ui_k, nb_ui_a, sp_min, sp_max, sp_bits]
      done
    | succ m ih =>
      intro l w hl hw
      have c1 : ¬ (nl : Int) ≤ (l : Int) := by omega
      have e1 : (l : Int) + 1 = ((l + 1 : Nat) : Int) := by omega
      have e2 : 2 * (l : Int) = ((2 * l : Nat) : Int) := by omega
      have e3 : ((2 * l : Nat) : Int) + 1 = ((2 * l + 1 : Nat) : Int) := by omega
      have g1 : I 252 (2 * l) = la (2 * l) := k5 _ (by omega)
      have g2 : I 252 (2 * l + 1) = la (2 * l + 1) := k5 _ (by omega)
      have g3 : 0 ≤ la (2 * l) := by have := (hr6 l (by omega) 0 (by decide)).1; exact this
      have g4 : 0 ≤ la (2 * l + 1) := by have := (hr6 l (by omega) 1 (by decide)).1; exact this
      have no : ¬ zlk np la l → ¬ zwh np (l + 1) la := fun h q => h (q.2 l (by omega))
      rcases hw with ⟨hw, hv⟩ | ⟨hw, hv⟩
      · subst hw
        by_cases d1 : (np : Int) ≤ la (2 * l)
        · obtain ⟨w', h1, h2⟩ := ih (l + 1) 0 (by omega) (Or.inr ⟨rfl, no (fun q => by have := q.2.1; omega)⟩)
          refine ⟨w', h1, ?_⟩
          rw [hX12_isWhole_16]
          simp (disch := (first | assumption | omega | exact nb_ix (by omega) (by assumption) (by omega) (by omega) | exact nb_ix (by omega) rfl (by omega) (by omega) | exact nb_ok (by omega) rfl | decide)) only [kX12_isWhole, k2, k1, m13, e2, g1, e1, ↓if_pos, ↓if_neg, nb_add, nb_sub, nb_mul, Int.toNat_natCast, mm_kr_s, mm_kv_s, if_pos, if_neg, sq_tn, Int.toNat_zero, Int.reduceToNat, Int.reduceNeg, Nat.reduceAdd, Int.reduceAdd, Int.reduceEq, Int.reduceLT, Int.reduceLE, Int.zero_add, nb_ui_s, nb_ui_k, nb_ui_a, sp_min, sp_max, sp_bits]
          exact h2
        · by_cases d2 : (np : Int) ≤ la (2 * l + 1)
          · obtain ⟨w', h1, h2⟩ := ih (l + 1) 0 (by omega) (Or.inr ⟨rfl, no (fun q => by have := q.2.2.2.1; omega)⟩)
            refine ⟨w', h1, ?_⟩
            rw [hX12_isWhole_16]
            simp (disch := (first | assumption | omega | exact nb_ix (by omega) (by assumption) (by omega) (by omega) | exact nb_ix (by omega) rfl (by omega) (by omega) | exact nb_ok (by omega) rfl | decide)) only [kX12_isWhole, k2, k1, m13, e2, e3, g1, g2, e1, ↓if_pos, ↓if_neg, nb_add, nb_sub, nb_mul, Int.toNat_natCast, mm_kr_s, mm_kv_s, if_pos, if_neg, sq_tn, Int.toNat_zero, Int.reduceToNat, Int.reduceNeg, Nat.reduceAdd, Int.reduceAdd, Int.reduceEq, Int.reduceLT, Int.reduceLE, Int.zero_add, nb_ui_s, nb_ui_k, nb_ui_a, sp_min, sp_max, sp_bits]
            exact h2
          · by_cases d3 : la (2 * l) = la (2 * l + 1)
            · obtain ⟨w', h1, h2⟩ := ih (l + 1) 0 (by omega) (Or.inr ⟨rfl, no (fun q => q.2.2.2.2 d3)⟩)
              refine ⟨w', h1, ?_⟩
              rw [hX12_isWhole_16]
              simp (disch := (first | assumption | omega | exact nb_ix (by omega) (by assumption) (by omega) (by omega) | exact nb_ix (by omega) rfl (by omega) (by omega) | exact nb_ok (by omega) rfl | decide)) only [kX12_isWhole, k2, k1, m13, e2, e3, g1, g2, e1, ↓if_pos, ↓if_neg, nb_add, nb_sub, nb_mul, Int.toNat_natCast, mm_kr_s, mm_kv_s, if_pos, if_neg, sq_tn, Int.toNat_zero, Int.reduceToNat, Int.reduceNeg, Nat.reduceAdd, Int.reduceAdd, Int.reduceEq, Int.reduceLT, Int.reduceLE, Int.zero_add, nb_ui_s, nb_ui_k, nb_ui_a, sp_min, sp_max, sp_bits]
              exact h2
            · obtain ⟨w', h1, h2⟩ := ih (l + 1) 1 (by omega) (Or.inl ⟨rfl, hv.1, fun k hk => by
                by_cases e : k = l
                · subst e; exact ⟨g3, by omega, g4, by omega, d3⟩
                · exact hv.2 k (by omega)⟩)
              refine ⟨w', h1, ?_⟩
              rw [hX12_isWhole_16]
              simp (disch := (first | assumption | omega | exact nb_ix (by omega) (by assumption) (by omega) (by omega) | exact nb_ix (by omega) rfl (by omega) (by omega) | exact nb_ok (by omega) rfl | decide)) only [kX12_isWhole, k2, k1, m13, e2, e3, g1, g2, e1, ↓if_pos, ↓if_neg, nb_add, nb_sub, nb_mul, Int.toNat_natCast, mm_kr_s, mm_kv_s, if_pos, if_neg, sq_tn, Int.toNat_zero, Int.reduceToNat, Int.reduceNeg, Nat.reduceAdd, Int.reduceAdd, Int.reduceEq, Int.reduceLT, Int.reduceLE, Int.zero_add, nb_ui_s, nb_ui_k, nb_ui_a, sp_min, sp_max, sp_bits]
              exact h2
      · subst hw
        obtain ⟨w', h1, h2⟩ := ih (l + 1) 0 (by omega) (Or.inr ⟨rfl, fun q => hv ⟨q.1, fun k hk => q.2 k (by omega)⟩⟩)
        refine ⟨w', h1, ?_⟩
        rw [hX12_isWhole_16]
        simp (disch := (first | assumption | omega | exact nb_ix (by omega) (by assumption) (by omega) (by omega) | exact nb_ix (by omega) rfl (by omega) (by omega) | exact nb_ok (by omega) rfl | decide)) only [kX12_isWhole, k2, e1, ↓if_pos, ↓if_neg, nb_add, nb_sub, nb_mul, Int.toNat_natCast, mm_kr_s, mm_kv_s, if_pos, if_neg, sq_tn, Int.toNat_zero, Int.reduceToNat, Int.reduceNeg, Nat.reduceAdd, Int.reduceAdd, Int.reduceEq, Int.reduceLT, Int.reduceLE, Int.zero_add, nb_ui_s, nb_ui_k, nb_ui_a, sp_min, sp_max, sp_bits]
        exact h2
  rw [eX12_isWhole]
  by_cases c : (np : Int) ≤ 1
  · obtain ⟨w', h1, h2⟩ := key nl 0 0 (by omega) (Or.inr ⟨rfl, fun q => by have := q.1; omega⟩)
    refine ⟨w', h1, ?_⟩
    simp (disch := (first | assumption | omega | exact nb_ix (by omega) (by assumption) (by omega) (by omega) | exact nb_ix (by omega) rfl (by omega) (by omega) | exact nb_ok (by omega) rfl | decide)) only [kX12_isWhole, k1, ↓if_pos, ↓if_neg, nb_add, nb_sub, nb_mul, Int.toNat_natCast, mm_kr_s, mm_kv_s, if_pos, if_neg, sq_tn, Int.toNat_zero, Int.reduceToNat, Int.reduceNeg, Nat.reduceAdd, Int.reduceAdd, Int.reduceEq, Int.reduceLT, Int.reduceLE, Int.zero_add, nb_ui_s, nb_ui_k, nb_ui_a, sp_min, sp_max, sp_bits]
    exact h2
  · obtain ⟨w', h1, h2⟩ := key nl 0 1 (by omega) (Or.inl ⟨rfl, by omega, fun k hk => by omega⟩)
    refine ⟨w', h1, ?_⟩
    simp (disch := (first | assumption | omega | exact nb_ix (by omega) (by assumption) (by omega) (by omega) | exact nb_ix (by omega) rfl (by omega) (by omega) | exact nb_ok (by omega) rfl | decide)) only [kX12_isWhole, k1, ↓if_pos, ↓if_neg, nb_add, nb_sub, nb_mul, Int.toNat_natCast, mm_kr_s, mm_kv_s, if_pos, if_neg, sq_tn, Int.toNat_zero, Int.reduceToNat, Int.reduceNeg, Nat.reduceAdd, Int.reduceAdd, Int.reduceEq, Int.reduceLT, Int.reduceLE, Int.zero_add, nb_ui_s, nb_ui_k, nb_ui_a, sp_min, sp_max, sp_bits]
    exact h2
end JL
