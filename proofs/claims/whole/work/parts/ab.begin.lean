/-! the law's start: both made, the relation holds -/
def zσ0 : rS := (0, fun _ => 0, fun _ => 0, 0, 0, fun _ => 0, fun _ => 0, 0, 0, -1, fun _ => [], (fun _ => 0, 0, fun _ _ => 0, 0, fun _ _ => 0), 0, fun _ => 0, fun _ _ => 0, 0, fun _ => 0, fun _ => 0, fun _ => 0, fun _ => 0, (fun _ => 0, 0), 2, fun _ => 0)
def zI1 (I : mm_I) : mm_I := mm_ui (mm_ui (mm_ui (mm_ui (mm_ui (mm_ui I 0 5 0) 0 6 (-1)) 0 7 2) 0 13 0) 239 29 (-1)) 239 30 2
theorem zI1_0 {I : mm_I} (hI0 : ∀ b j, b < 1000000 → I b j = 0) : ∀ b j, b < 1000000 → ¬ (b = 0 ∧ (j = 6 ∨ j = 7)) → ¬ (b = 239 ∧ (j = 29 ∨ j = 30)) → zI1 I b j = 0 := by
  intro b j hb h1 h2
  unfold zI1 mm_ui
  have h0 := hI0 b j hb
  by_cases c : b = 0
  · subst c
    have c6 : ¬ j = 6 := fun q => h1 ⟨rfl, Or.inl q⟩
    have c7 : ¬ j = 7 := fun q => h1 ⟨rfl, Or.inr q⟩
    simp [c6, c7, h0]
  · by_cases c2 : b = 239
    · subst c2
      have c6 : ¬ j = 29 := fun q => h2 ⟨rfl, Or.inl q⟩
      have c7 : ¬ j = 30 := fun q => h2 ⟨rfl, Or.inr q⟩
      simp [c6, c7, h0]
    · simp [c, c2, h0]
theorem zσ0_RS : RS zσ0 := by
  have h99 : (0 : Int) ≤ 0 ∧ (0 : Int) ≤ 99 := by decide
  have h2 : (0 : Int) ≤ 0 ∧ (0 : Int) ≤ 2 := by decide
  have h9 : (0 : Int) ≤ 0 ∧ (0 : Int) ≤ 9 := by decide
  have h256 : 0 < 256 := by decide
  refine ⟨⟨by decide, fun _ => h99, fun _ => h256, by decide, by decide, fun p hp => absurd hp (Nat.not_lt_zero p), fun p hp => absurd hp (Nat.not_lt_zero p), by decide, fun p q hp => absurd hp (Nat.not_lt_zero p), fun p hp => absurd hp (Nat.not_lt_zero p)⟩, ⟨by decide, by decide, by decide⟩, ⟨⟨fun p hp => ⟨h99, h2, h9, fun _ => ⟨rfl, rfl⟩⟩, ⟨by decide, Or.inr rfl⟩, by decide, by decide, by decide, by decide, by decide⟩, by decide, ⟨by decide, by decide, fun k w hk => absurd hk (Nat.not_lt_zero k)⟩, by decide, fun i hi => absurd hi (Nat.not_lt_zero i), fun i hi => absurd hi (Nat.not_lt_zero i)⟩, ⟨Or.inl rfl, fun q => absurd q (by decide)⟩, ⟨by decide, fun i hi => absurd hi (Nat.not_lt_zero i)⟩, ⟨by decide, fun i hi => absurd hi (Nat.not_lt_zero i)⟩⟩
theorem RR_start {I : mm_I} {P : mm_P} (hI0 : ∀ b j, b < 1000000 → I b j = 0) (hS : zS I) (hP : sq_P 270 P 7 13) : RR 270 P (zI1 I) := by
  have h := zI1_0 hI0
  have z : ∀ b j, b < 1000000 → b ≠ 0 → b ≠ 239 → zI1 I b j = 0 := fun b j h1 h2 h3 => h b j h1 (fun q => h2 q.1) (fun q => h3 q.1)
  have z0 : ∀ j, j ≠ 6 → j ≠ 7 → zI1 I 0 j = 0 := fun j h1 h2 => h 0 j (by decide) (fun q => by have := q.2; omega) (fun q => absurd q.1 (by decide))
  have z9 : ∀ j, j ≠ 29 → j ≠ 30 → zI1 I 239 j = 0 := fun j h1 h2 => h 239 j (by decide) (fun q => absurd q.1 (by decide)) (fun q => by have := q.2; omega)
  have v6 : zI1 I 0 6 = -1 := by unfold zI1; rw [nb_ui_a (by decide), nb_ui_a (by decide), nb_ui_k (by decide), nb_ui_k (by decide), nb_ui_s]
  have v7 : zI1 I 0 7 = 2 := by unfold zI1; rw [nb_ui_a (by decide), nb_ui_a (by decide), nb_ui_k (by decide), nb_ui_s]
  have v29 : zI1 I 239 29 = -1 := by unfold zI1; rw [nb_ui_k (by decide), nb_ui_s]
  have v30 : zI1 I 239 30 = 2 := by unfold zI1; rw [nb_ui_s]
  have h99 : (0 : Int) ≤ 0 ∧ (0 : Int) ≤ 99 := by decide
  have h2 : (0 : Int) ≤ 0 ∧ (0 : Int) ≤ 2 := by decide
  have h9 : (0 : Int) ≤ 0 ∧ (0 : Int) ≤ 9 := by decide
  have h256 : 0 < 256 := by decide
  refine ⟨7, 13, zσ0, ⟨hP, ⟨⟨by decide, by decide, z 7 0 (by decide) (by decide) (by decide), fun p q hp => absurd hp (Nat.not_lt_zero p), fun _ => h99, fun p hp => absurd hp (Nat.not_lt_zero p), fun p hp => absurd hp (Nat.not_lt_zero p), z 7 1 (by decide) (by decide) (by decide), z 7 2 (by decide) (by decide) (by decide)⟩, fun p hp => absurd hp (Nat.not_lt_zero p), z 7 3 (by decide) (by decide) (by decide)⟩, ⟨z0 5 (by decide) (by decide), v6, fun i hi => absurd hi (Nat.not_lt_zero i)⟩, ⟨fun j hj => ?_, ⟨z 48 1 (by decide) (by decide) (by decide), by decide, z 48 2 (by decide) (by decide) (by decide), by decide, fun i hi => absurd hi (Nat.not_lt_zero i)⟩, fun k w h1 h2 => absurd h2 (Nat.not_lt_zero k)⟩, ⟨z0 13 (by decide) (by decide), Or.inl rfl, fun q => absurd q (by decide)⟩, ⟨z 218 4 (by decide) (by decide) (by decide), fun i hi => absurd hi (Nat.not_lt_zero i)⟩, ⟨z 1 1 (by decide) (by decide) (by decide), fun i hi => absurd hi (Nat.not_lt_zero i)⟩, v7, fun k hk => z 238 k (by decide) (by decide) (by decide)⟩, ⟨hP.2.2.1, ⟨⟨by decide, z9 26 (by decide) (by decide), fun k hk => ⟨z 256 k (by decide) (by decide) (by decide), h99⟩, fun p hp => ⟨z 255 p (by decide) (by decide) (by decide), h256⟩, z 253 0 (by decide) (by decide) (by decide), z 253 1 (by decide) (by decide) (by decide)⟩, fun p hp => absurd hp (Nat.not_lt_zero p), z 253 2 (by decide) (by decide) (by decide)⟩, ⟨z9 13 (by decide) (by decide), v29, fun i hi => absurd hi (Nat.not_lt_zero i)⟩, ⟨fun j hj => z 257 j (by decide) (by decide) (by decide), z9 33 (by decide) (by decide), by decide, fun i hi => absurd hi (Nat.not_lt_zero i)⟩, ⟨z9 46 (by decide) (by decide), fun q => absurd q (by decide)⟩, ⟨z9 42 (by decide) (by decide), fun i hi => absurd hi (Nat.not_lt_zero i)⟩, ⟨z9 2 (by decide) (by decide), fun i hi => absurd hi (Nat.not_lt_zero i)⟩, v30, fun k hk => z 258 k (by decide) (by decide) (by decide)⟩, zσ0_RS, hS.fr (fun b h1 h2 => ?_)⟩
  · unfold sq_rd
    split
    · exact z 41 j (by decide) (by decide) (by decide)
    · split
      · exact z 42 _ (by decide) (by decide) (by decide)
      · split
        · exact z 43 _ (by decide) (by decide) (by decide)
        · exact z 40 _ (by decide) (by decide) (by decide)
  · unfold zI1
    rw [nb_ui_r (by omega), nb_ui_r (by omega), nb_ui_r (by omega), nb_ui_r (by omega), nb_ui_r (by omega), nb_ui_r (by omega)]
set_option maxHeartbeats 4000000 in
theorem z_begin {d : Nat} {I : mm_I} {P : mm_P} (hI0 : ∀ b j, b < 1000000 → I b j = 0) (hP0 : ∀ b j, P b j = none) (hS : zS I) : ∃ P', mm_E (d + 4) 282 0 [.inr (.inr (some 1000006)), mm_junk, mm_junk, mm_junk, mm_junk, mm_junk, mm_junk] [] [] 0 I zL0 P = mm_E (d + 4) 282 23 [.inr (.inr (some 1000006)), .inr (.inr (some 0)), .inr (.inr (some 239)), .inr (.inr (some 269)), .inl 0, mm_junk, mm_junk] [] [] 270 (zI1 I) zL0 P' ∧ RR 270 P' (zI1 I) := by
  obtain ⟨P1, e, p1, p2, p3, p4⟩ := z83 (d := d) hI0 hP0
  have hPt := zP_start p1 p2 p3
  have hPB : ∀ m, 239 ≤ m → m < 270 → ∀ j, zTB P1 m j = none := fun m h1 h2 j => by rw [zTB_r (by omega) (by omega) (by omega) (by omega) (by omega) (by omega) (by omega) (by omega)]; exact p4 m (by omega) h2 j
  have hI : ∀ m, m < 270 → mm_zi I m = I := fun m hm => zi_id (fun j => hI0 m j (by omega))
  have hIB : ∀ m, 0 < m → m < 270 → mm_zi (mm_ui (mm_ui (mm_ui (mm_ui I 0 5 0) 0 6 (-1)) 0 7 2) 0 13 0) m = mm_ui (mm_ui (mm_ui (mm_ui I 0 5 0) 0 6 (-1)) 0 7 2) 0 13 0 := fun m h1 h2 => by rw [zi_ui (by omega), zi_ui (by omega), zi_ui (by omega), zi_ui (by omega), hI m h2]
  have e147 := zc147 (d := d + 3) (I := mm_ui (mm_ui (mm_ui (mm_ui I 0 5 0) 0 6 (-1)) 0 7 2) 0 13 0) (L := zL0) (P := zTB P1) zL0_z (fun m h1 h2 => hIB m (by omega) h2) (fun m h1 h2 => zp_id (hPB m (by omega) h2))
  have e147' : mm_rn (d + 4) 147 [.inr (.inr (some 239))] 240 (mm_ui (mm_ui (mm_ui (mm_ui I 0 5 0) 0 6 (-1)) 0 7 2) 0 13 0) zL0 (zTB P1) = some (none, 269, zI1 I, zL0, zTM (zTB P1)) := e147
  have n0 : 0 < mm_NC ∧ (mm_ty 0).1 = 11 := by decide +kernel
  have n239 : 239 < mm_NC ∧ (mm_ty 239).1 = 12 := by decide +kernel
  have a269 : 269 < mm_NC ∧ mm_ty 269 = (22, Int.toNat 1) ∧ (0 : Int) ≤ 1 := by decide +kernel
  have y1 : mm_zi I 0 = I := hI 0 (by decide)
  have y2 : mm_zp P 0 = P := zp_id (hP0 0)
  have y3 := hIB 239 (by decide) (by decide)
  have y4 : mm_zp (zTB P1) 239 = zTB P1 := zp_id (hPB 239 (by decide) (by decide))
  have y5 : mm_zi (zI1 I) 269 = zI1 I := zi_id (fun j => zI1_0 hI0 269 j (by decide) (fun q => absurd q.1 (by decide)) (fun q => absurd q.1 (by decide)))
  have y6 : mm_zp (zTM (zTB P1)) 269 = zTM (zTB P1) := zp_id (fun j => by rw [zTM_r (by decide)]; exact hPB 269 (by decide) (by decide) j)
  refine ⟨zTM (zTB P1), ?_, RR_start hI0 hS hPt⟩
  simp (disch := first | assumption | omega | decide) only [kL_law_s, Nat.reduceAdd, zL0_z, y1, y2, e, zq_kv, y3, y4, e147', y5, y6]
