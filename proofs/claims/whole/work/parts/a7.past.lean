/-! the class's constructor -/
theorem zi_id {I : mm_I} {m : Nat} (h : ∀ j, I m j = 0) : mm_zi I m = I := by
  funext b j
  unfold mm_zi
  by_cases e : b = m
  · subst e; rw [if_pos rfl, h j]
  · rw [if_neg e]
theorem zp_id {P : mm_P} {m : Nat} (h : ∀ j, P m j = none) : mm_zp P m = P := by
  funext b j
  unfold mm_zp
  by_cases e : b = m
  · subst e; rw [if_pos rfl, h j]
  · rw [if_neg e]
theorem zty_n : ∀ k, k < 40 → mm_ty (50 + 4 * k) = (5, 9) ∧ mm_ty (50 + 4 * k + 1) = (20, 8) ∧ mm_ty (50 + 4 * k + 2) = (20, 8) ∧ mm_ty (50 + 4 * k + 3) = (20, 8) := by decide +kernel
/-- the past: forty nights -/
def zPN (P : mm_P) (a : Nat) : Prop := P a 0 = some (a + 1) ∧ P a 1 = some (a + 2) ∧ P a 2 = some (a + 3)
set_option maxHeartbeats 4000000 in
theorem zc50 {d : Nat} {I L : mm_I} {P : mm_P} (hL : ∀ m, mm_zi L m = L) (hI : ∀ m, 48 < m → m < 270 → mm_zi I m = I) (hP : ∀ m, 48 < m → m < 270 → ∀ j, P m j = none) : ∃ P', mm_rn (d + 2) 50 [.inr (.inr (some 48))] 49 I L P = some (none, 210, I, L, P') ∧ (∀ b, b < 48 → P' b = P b) ∧ P' 48 0 = some 49 ∧ (∀ k, k < 40 → P' 49 k = some (50 + 4 * k) ∧ zPN P' (50 + 4 * k)) ∧ (∀ b, 210 ≤ b → b < 270 → ∀ j, P' b j = none) := by
  have h49 : 49 < mm_NC ∧ mm_ty 49 = (23, Int.toNat 40) ∧ (0 : Int) ≤ 40 := by decide +kernel
  have ok48 : ∀ m, 48 < m → mm_ok m 48 6 := fun m hm => ⟨hm, by decide +kernel⟩
  have hP49 : mm_zp P 49 = P := zp_id (hP 49 (by decide) (by decide))
  rw [eX6_init]
  simp (disch := first | assumption | omega | exact ok48 _ (by omega)) only [kX6_init, Nat.reduceAdd, hL, hI, hP49]
  refine sq_loop (G := fun o => ∃ P', o = some (none, 210, I, L, P') ∧ (∀ b, b < 48 → P' b = P b) ∧ P' 48 0 = some 49 ∧ (∀ k, k < 40 → P' 49 k = some (50 + 4 * k) ∧ zPN P' (50 + 4 * k)) ∧ (∀ b, 210 ≤ b → b < 270 → ∀ j, P' b j = none)) (fun k (Q : mm_P) => mm_E (d + 1) 50 15 [.inr (.inr (some 48)), .inl ((k : Int))] [] [] (50 + 4 * k) I L Q) (fun k Q => (∀ b, b < 48 → Q b = P b) ∧ Q 48 0 = some 49 ∧ (∀ i, i < k → Q 49 i = some (50 + 4 * i) ∧ zPN Q (50 + 4 * i)) ∧ (∀ b, 50 + 4 * k ≤ b → b < 270 → ∀ j, Q b j = none)) 40 ⟨fun b hb => nb_up_r (by omega), nb_up_s, fun i hi => by omega, fun b h1 h2 j => by rw [nb_up_a (by omega)]; exact hP b (by omega) h2 j⟩ (fun k Q hk hQ nx => ?_) (fun Q hQ => ?_)
  · obtain ⟨q1, q2, q3, q4⟩ := hQ
    obtain ⟨y0, y1, y2, y3⟩ := zty_n k hk
    have c1 : ¬ (40 : Int) ≤ (k : Int) := by omega
    have e1 : (k : Int) + 1 = ((k + 1 : Nat) : Int) := by omega
    have hnew : 50 + 4 * k < mm_NC ∧ (mm_ty (50 + 4 * k)).1 = 5 := ⟨by show 50 + 4 * k < 270; omega, by rw [y0]⟩
    have z0 : mm_zp Q (50 + 4 * k) = Q := zp_id (q4 _ (by omega) (by omega))
    have z1 : mm_zp Q (50 + 4 * k + 1) = Q := zp_id (q4 _ (by omega) (by omega))
    have z2 : mm_zp Q (50 + 4 * k + 2) = Q := zp_id (q4 _ (by omega) (by omega))
    have z3 : mm_zp Q (50 + 4 * k + 3) = Q := zp_id (q4 _ (by omega) (by omega))
    have h39 := zc39 (d := d) (a := 50 + 4 * k) (I := I) (L := L) (P := Q) (by omega) (by rw [y0]) y1 y2 y3 hL
    rw [hI _ (by omega) (by omega), hI _ (by omega) (by omega), hI _ (by omega) (by omega), z1, z2, z3] at h39
    have ix : mm_ix (50 + 4 * k + 4) 49 23 (k : Int) := nb_ix (by omega) (show mm_ty 49 = (23, 40) by decide +kernel) (by omega) (by omega)
    have okn : mm_ok (50 + 4 * k + 4) (50 + 4 * k) 5 := ⟨by omega, by rw [y0]⟩
    have hI0 := hI (50 + 4 * k) (by omega) (by omega)
    have e4 : 50 + 4 * k + 4 = 50 + 4 * (k + 1) := by omega
    rw [hX6_init_15]
    simp (disch := first | assumption | omega | exact ok48 _ (by omega)) only [kX6_init, if_neg, q2, hL, hI0, z0, h39, zq_kv, Int.toNat_natCast, nb_add, e1]
    rw [e4]
    refine nx _ ⟨fun b hb => by rw [nb_up_r (by omega), nb_up_r (by omega), nb_up_r (by omega), nb_up_r (by omega)]; exact q1 b hb, by rw [nb_up_a (by decide), nb_up_a (by omega), nb_up_a (by omega), nb_up_a (by omega)]; exact q2, fun i hi => ?_, fun b h1 h2 j => by rw [nb_up_a (by omega), nb_up_a (by omega), nb_up_a (by omega), nb_up_a (by omega)]; exact q4 b (by omega) h2 j⟩
    by_cases c : i = k
    · subst c
      refine ⟨nb_up_s, ?_, ?_, ?_⟩
      · rw [nb_up_a (by omega), nb_up_k (by decide), nb_up_k (by decide), nb_up_s]
      · rw [nb_up_a (by omega), nb_up_k (by decide), nb_up_s]
      · rw [nb_up_a (by omega), nb_up_s]
    · obtain ⟨w1, w2⟩ := q3 i (by omega)
      refine ⟨by rw [nb_up_k c, nb_up_a (by omega), nb_up_a (by omega), nb_up_a (by omega)]; exact w1, ?_⟩
      unfold zPN at w2 ⊢
      rw [nb_up_r (by omega), nb_up_r (by omega), nb_up_r (by omega), nb_up_r (by omega)]
      exact w2
  · have c1 : (40 : Int) ≤ ((40 : Nat) : Int) := by decide
    rw [hX6_init_15]
    simp (disch := first | assumption | omega) only [kX6_init, if_pos]
    exact ⟨Q, rfl, hQ⟩
