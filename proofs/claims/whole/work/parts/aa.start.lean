/-! the start -/
def zL0 : mm_I := fun _ _ => 0
theorem zL0_z (m : Nat) : mm_zi zL0 m = zL0 := zi_id (fun _ => rfl)
set_option maxHeartbeats 4000000 in
theorem z83 {d : Nat} {I : mm_I} {P : mm_P} (hI0 : ∀ b j, b < 1000000 → I b j = 0) (hP0 : ∀ b j, P b j = none) : ∃ P1, mm_rn (d + 4) 83 [.inr (.inr (some 0))] 1 I zL0 P = some (none, 239, mm_ui (mm_ui (mm_ui (mm_ui I 0 5 0) 0 6 (-1)) 0 7 2) 0 13 0, zL0, zTB P1) ∧ (∀ b, b < 48 → P1 b = zTA P b) ∧ P1 48 0 = some 49 ∧ (∀ k, k < 40 → P1 49 k = some (50 + 4 * k) ∧ zPN P1 (50 + 4 * k)) ∧ (∀ b, 210 ≤ b → b < 270 → ∀ j, P1 b j = none) := by
  have hI : ∀ m, m < 270 → mm_zi I m = I := fun m hm => zi_id (fun j => hI0 m j (by omega))
  have hP : ∀ m, m < 270 → mm_zp P m = P := fun m hm => zp_id (fun j => hP0 m j)
  have hIA : ∀ m, 48 < m → m < 270 → mm_zi (mm_ui (mm_ui (mm_ui I 0 5 0) 0 6 (-1)) 0 7 2) m = mm_ui (mm_ui (mm_ui I 0 5 0) 0 6 (-1)) 0 7 2 := fun m h1 h2 => by rw [zi_ui (by omega), zi_ui (by omega), zi_ui (by omega), hI m h2]
  have hPA : ∀ m, 48 < m → m < 270 → ∀ j, zTA P m j = none := fun m h1 h2 j => by rw [zTA_r (by omega) (by omega) (by omega) (by omega) (by omega) (by omega) (by omega) (by omega) (by omega) (by omega) (by omega) (by omega) (by omega)]; exact hP0 m j
  obtain ⟨P1, e, p1, p2, p3, p4⟩ := zc50 (d := d + 1) zL0_z hIA hPA
  refine ⟨P1, ?_, p1, p2, p3, p4⟩
  rw [z83a (d := d) zL0_z hI hP]
  have e' : mm_rn (d + 3) 50 [.inr (.inr (some 48))] 49 (mm_ui (mm_ui (mm_ui I 0 5 0) 0 6 (-1)) 0 7 2) zL0 (zTA P) = some (none, 210, mm_ui (mm_ui (mm_ui I 0 5 0) 0 6 (-1)) 0 7 2, zL0, P1) := e
  unfold zTA at e'
  rw [e', zq_kv (by decide)]
  exact z83b (d := d) zL0_z (fun m h1 h2 => hIA m (by omega) h2) (fun m h1 h2 => zp_id (p4 m h1 h2))
set_option maxHeartbeats 8000000 in
set_option maxRecDepth 20000 in
theorem zP_start {P P1 : mm_P} (p1 : ∀ b, b < 48 → P1 b = zTA P b) (p2 : P1 48 0 = some 49) (p3 : ∀ k, k < 40 → P1 49 k = some (50 + 4 * k) ∧ zPN P1 (50 + 4 * k)) : sq_P 270 (zTM (zTB P1)) 7 13 := by
  obtain ⟨f1_0, f0_0, f3_0, f3_1, f3_2, f0_1, f7_4, f7_5, f7_6, f7_7, f7_8, f0_2, f13_4, f13_5, f13_6, f13_7, f13_8, f0_3, f0_4, f20_0, f20_2, f20_3, f19_0, f24_0, f24_2, f24_3, f19_1, f28_0, f28_2, f28_3, f19_2, f32_0, f32_2, f32_3, f19_3, f36_0, f36_2, f36_3, f19_4, f40_0, f40_1, f40_2, f0_8, f44_0, f44_1, f44_2, f0_9⟩ := zTA_f P
  obtain ⟨f0_10, f210_0, f210_1, f210_2, f0_11, f214_0, f214_1, f214_2, f0_12, f218_0, f218_1, f218_2, f218_3, f223_0, f223_1, f223_2, f218_5, f218_6, f0_14, f229_0, f229_1, f229_2, f228_0, f233_0, f233_1, f233_2, f228_1, f0_15, f0_16, f0_17⟩ := zTB_f P1
  obtain ⟨f239_1, f239_6, f239_7, f239_8, f239_9, f239_10, f239_11, f239_12, f239_15, f239_16, f239_17, f239_18, f239_19, f239_22, f239_23, f239_24, f239_25, f239_27, f239_28, f239_31, f239_32, f239_35, f239_38, f239_39, f239_40, f239_41, f239_43, f239_44, f239_45⟩ := zTM_f (zTB P1)
  have hm : ∀ b, b ≠ 239 → zTM (zTB P1) b = zTB P1 b := fun b hb => zTM_r hb
  have hb : ∀ b, b ≠ 0 → b < 210 → zTB P1 b = P1 b := fun b h0 h1 => zTB_r h0 (by omega) (by omega) (by omega) (by omega) (by omega) (by omega) (by omega)
  have h0 : ∀ j, j < 10 → zTM (zTB P1) 0 j = zTA P 0 j := fun j hj => by rw [hm 0 (by decide), zTB_0 (by omega) (by omega) (by omega) (by omega) (by omega) (by omega) (by omega), p1 0 (by decide)]
  have hlo : ∀ b, b ≠ 0 → b < 48 → zTM (zTB P1) b = zTA P b := fun b hb0 hb1 => by rw [hm b (by omega), hb b hb0 (by omega), p1 b hb1]
  have hmid : ∀ b, 48 ≤ b → b < 210 → zTM (zTB P1) b = P1 b := fun b h1 h2 => by rw [hm b (by omega), hb b (by omega) h2]
  refine ⟨by decide, by decide, ?_, ?_, ?_, fun a ha => ?_, ⟨?_, ?_⟩, ?_, fun i hi => ?_, fun i hi => ?_⟩
  · exact ⟨by decide, f239_1, f239_6, f239_7, f239_8, f239_9, f239_10, f239_11, f239_12, f239_15, f239_16, f239_17, f239_18, f239_19, f239_22, f239_23, f239_24, f239_25, f239_27, f239_28, f239_31, f239_32, f239_35, f239_38, f239_39, f239_40, f239_41, f239_43, f239_44, f239_45⟩
  · exact ⟨by decide, by decide +kernel, by decide +kernel, by decide +kernel, by decide +kernel, by decide +kernel, by decide +kernel, by rw [hlo 7 (by decide) (by decide)]; exact ⟨f7_4, f7_5, f7_6, f7_7, f7_8⟩⟩
  · exact ⟨by decide, by decide +kernel, by decide +kernel, by decide +kernel, by decide +kernel, by decide +kernel, by decide +kernel, by rw [hlo 13 (by decide) (by decide)]; exact ⟨f13_4, f13_5, f13_6, f13_7, f13_8⟩⟩
  · have tyN : ∀ a, (a = 40 ∨ a = 210 ∨ a = 223 ∨ a = 229 ∨ a = 233) → a + 3 < 270 ∧ mm_ty a = (5, 9) ∧ mm_ty (a + 1) = (20, 8) ∧ mm_ty (a + 2) = (20, 8) ∧ mm_ty (a + 3) = (20, 8) := by
      intro a h
      rcases h with e | e | e | e | e <;> subst e <;> decide +kernel
    rcases ha with e | e | e | e | e | e
    · obtain ⟨y1, y2, y3, y4, y5⟩ := tyN a (Or.inl e)
      subst e
      exact ⟨y1, y2, y3, y4, y5, by rw [hlo 40 (by decide) (by decide)]; exact ⟨f40_0, f40_1, f40_2⟩⟩
    · obtain ⟨y1, y2, y3, y4, y5⟩ := tyN a (Or.inr (Or.inl e))
      subst e
      exact ⟨y1, y2, y3, y4, y5, by rw [hm 210 (by decide)]; exact ⟨f210_0, f210_1, f210_2⟩⟩
    · obtain ⟨y1, y2, y3, y4, y5⟩ := tyN a (Or.inr (Or.inr (Or.inl e)))
      subst e
      exact ⟨y1, y2, y3, y4, y5, by rw [hm 223 (by decide)]; exact ⟨f223_0, f223_1, f223_2⟩⟩
    · obtain ⟨y1, y2, y3, y4, y5⟩ := tyN a (Or.inr (Or.inr (Or.inr (Or.inl e))))
      subst e
      exact ⟨y1, y2, y3, y4, y5, by rw [hm 229 (by decide)]; exact ⟨f229_0, f229_1, f229_2⟩⟩
    · obtain ⟨y1, y2, y3, y4, y5⟩ := tyN a (Or.inr (Or.inr (Or.inr (Or.inr e))))
      subst e
      exact ⟨y1, y2, y3, y4, y5, by rw [hm 233 (by decide)]; exact ⟨f233_0, f233_1, f233_2⟩⟩
    · obtain ⟨k, hk, rfl⟩ : ∃ k, k < 40 ∧ a = 50 + 4 * k := ⟨(a - 50) / 4, by omega, by omega⟩
      obtain ⟨y0, y1, y2, y3⟩ := zty_n k hk
      refine ⟨by omega, y0, y1, y2, y3, ?_⟩
      rw [hmid _ (by omega) (by omega)]
      exact (p3 k hk).2
  · rw [h0 2 (by decide)]; exact f0_2
  · rw [h0 3 (by decide)]; exact f0_3
  · rw [h0 0 (by decide), h0 1 (by decide), h0 4 (by decide), h0 8 (by decide), h0 9 (by decide), hm 0 (by decide), hlo 1 (by decide) (by decide), hlo 3 (by decide) (by decide), hlo 44 (by decide) (by decide), hm 214 (by decide), hmid 48 (by decide) (by decide), hm 218 (by decide), hm 228 (by decide)]
    exact ⟨f0_0, f0_1, f0_4, f0_8, f0_9, f0_10, f0_11, f0_12, f0_14, f0_15, f0_16, f0_17, f1_0, f3_0, f3_1, f3_2, f44_0, f44_1, f44_2, f214_0, f214_1, f214_2, p2, f218_0, f218_1, f218_2, f218_3, f218_5, f218_6, f228_0, f228_1⟩
  · have : i = 0 ∨ i = 1 ∨ i = 2 ∨ i = 3 ∨ i = 4 := by omega
    rw [hlo 19 (by decide) (by decide), hlo (20 + 4 * i) (by omega) (by omega)]
    rcases this with e | e | e | e | e <;> subst e
    · exact ⟨f19_0, f20_0, f20_2, f20_3⟩
    · exact ⟨f19_1, f24_0, f24_2, f24_3⟩
    · exact ⟨f19_2, f28_0, f28_2, f28_3⟩
    · exact ⟨f19_3, f32_0, f32_2, f32_3⟩
    · exact ⟨f19_4, f36_0, f36_2, f36_3⟩
  · rw [hmid 49 (by decide) (by decide)]; exact (p3 i hi).1
