/-! the two texts of the town's reader -/
theorem sr_a4 {E : sr_E} {k : Nat} : sr_a E (1000000 + k) = E.2.2.2.1 k := by
  unfold sr_a
  rw [if_neg (by omega), Nat.add_sub_cancel_left]
section SN8
variable {tab : sr_Tab} {cc : ByteArray} {mx : Nat} {own mnm : String} {pc : Nat}
theorem sn_dead : sr_Snd tab cc mx own mnm pc mm_dead := by
  intro E d p l e R s m args below meth c Q n0 n1 H locs cells slots ls lv ll st n I L P pc' lv' ll' st' n' I' L' P' hC hnm hM hR h hn hn1 hb1 hb2 hb3 k2
  cases h
theorem sn_getsC {i : Nat} (hd : decode cc pc = .ok (.getstatic i, 3)) (hw : Cond.fieldLink own i "java/lang/String" "COMPACT_STRINGS" "Z" ∈ sr_T) : sr_Snd tab cc mx own mnm pc (mm_push (.inl 1) (pc + 3)) :=
  sn_push (by show mm_rg 1; unfold mm_rg; omega) fun E d p l e R s m args below meth c Q H locs cells slots ls rest hC hS kk =>
    va_gets (C := "java/lang/String") hC.1 hC.2.1 hC.2.2.2.2.2.2.1.2.2.2.2.2.2.2.2.1 hS hC.2.2.2.1 (hC.2.2.2.2.1 _ hw) (fun x h => h) hd kk
theorem sn_sgR {idx : Nat} (hd : decode cc pc = .ok (.getfield idx, 3)) (hw : Cond.fieldLink own idx "java/lang/String" "value" "[B" ∈ sr_T) : sr_Snd tab cc mx own mnm pc (mm_sgR (pc + 3)) := by
  intro E d p l e R s m args below meth c Q n0 n1 H locs cells slots ls lv ll st n I L P pc' lv' ll' st' n' I' L' P' hC hnm hM hR h hn hn1 hb1 hb2 hb3 k2
  unfold mm_sgR at h
  split at h
  · rename_i a r
    split at h
    · rename_i hq
      simp only [Option.some.injEq, Sum.inl.injEq, Prod.mk.injEq] at h
      obtain ⟨rfl, rfl, rfl, rfl, rfl, rfl, rfl, rfl⟩ := h
      have hS := hC.2.2.2.2.2.2.1.2.2.2.2.2.2.2.1
      have k3 := k2 H locs cells slots ls (hR.st (sr_cons (v := .inr (.inr (some (a + 4)))) trivial hR.tl))
      rcases hq with rfl | rfl
      · exact vk_getf (own := own) hC.1 hC.2.1 (hS.1 0 (by decide)).2.2.1 hR.2.1 hC.2.2.2.1 (hC.2.2.2.2.1 _ hw) (fun x h => h) hd k3
      · exact vk_getf (own := own) hC.1 hC.2.1 (hS.1 1 (by decide)).2.2.1 hR.2.1 hC.2.2.2.1 (hC.2.2.2.2.1 _ hw) (fun x h => h) hd k3
    · cases h
  · cases h
theorem sn_sgI {idx : Nat} (hd : decode cc pc = .ok (.getfield idx, 3)) (hw : Cond.fieldLink own idx "java/lang/String" "coder" "B" ∈ sr_T) : sr_Snd tab cc mx own mnm pc (mm_sgI (pc + 3)) := by
  intro E d p l e R s m args below meth c Q n0 n1 H locs cells slots ls lv ll st n I L P pc' lv' ll' st' n' I' L' P' hC hnm hM hR h hn hn1 hb1 hb2 hb3 k2
  unfold mm_sgI at h
  split at h
  · rename_i a r
    split at h
    · rename_i hq
      simp only [Option.some.injEq, Sum.inl.injEq, Prod.mk.injEq] at h
      obtain ⟨rfl, rfl, rfl, rfl, rfl, rfl, rfl, rfl⟩ := h
      have hS := hC.2.2.2.2.2.2.1.2.2.2.2.2.2.2.1
      have k3 := k2 H locs cells slots ls (hR.st (sr_cons (v := .inl 0) so_r0 hR.tl))
      rcases hq with rfl | rfl
      · exact vk_getf (own := own) hC.1 hC.2.1 (hS.1 0 (by decide)).2.1 hR.2.1 hC.2.2.2.1 (hC.2.2.2.2.1 _ hw) (fun x h => h) hd k3
      · exact vk_getf (own := own) hC.1 hC.2.1 (hS.1 1 (by decide)).2.1 hR.2.1 hC.2.2.2.1 (hC.2.2.2.2.1 _ hw) (fun x h => h) hd k3
    · cases h
  · cases h
theorem sn_sble (hd : decode cc pc = .ok (.arraylength, 1)) : sr_Snd tab cc mx own mnm pc (mm_sble (pc + 1)) := by
  intro E d p l e R s m args below meth c Q n0 n1 H locs cells slots ls lv ll st n I L P pc' lv' ll' st' n' I' L' P' hC hnm hM hR h hn hn1 hb1 hb2 hb3 k2
  unfold mm_sble at h
  have hS := hC.2.2.2.2.2.2.1.2.2.2.2.2.2.2.1
  split at h
  · rename_i a r
    split at h
    · rename_i hq
      subst hq
      simp only [Option.some.injEq, Sum.inl.injEq, Prod.mk.injEq] at h
      obtain ⟨rfl, rfl, rfl, rfl, rfl, rfl, rfl, rfl⟩ := h
      have k3 := k2 H locs cells slots ls (hR.st (sr_cons (v := .inl 3) (by show mm_rg 3; unfold mm_rg; omega) hR.tl))
      exact va_tlen hC.1 hC.2.1 (hS.1 0 (by decide)).2.2.2 hR.2.1 rfl hd k3
    · split at h
      · rename_i hq
        subst hq
        simp only [Option.some.injEq, Sum.inl.injEq, Prod.mk.injEq] at h
        obtain ⟨rfl, rfl, rfl, rfl, rfl, rfl, rfl, rfl⟩ := h
        have k3 := k2 H locs cells slots ls (hR.st (sr_cons (v := .inl 7) (by show mm_rg 7; unfold mm_rg; omega) hR.tl))
        exact va_tlen hC.1 hC.2.1 (hS.1 1 (by decide)).2.2.2 hR.2.1 rfl hd k3
      · cases h
  · cases h
theorem sr_chr0 : ∀ j : Nat, j < 3 → mm_rg (mm_chr 1000004 (j : Int)) ∧ (([[115, 112, 108], [103, 101, 107, 119, 111, 97, 98]] : List (List Int32)).getD 0 []).getD j 0 = Int32.ofInt (mm_chr 1000004 (j : Int)) := by
  intro j hj
  match j, hj with
  | 0, _ => exact ⟨by unfold mm_rg mm_chr; decide, rfl⟩
  | 1, _ => exact ⟨by unfold mm_rg mm_chr; decide, rfl⟩
  | 2, _ => exact ⟨by unfold mm_rg mm_chr; decide, rfl⟩
theorem sr_chr1 : ∀ j : Nat, j < 7 → mm_rg (mm_chr 1000005 (j : Int)) ∧ (([[115, 112, 108], [103, 101, 107, 119, 111, 97, 98]] : List (List Int32)).getD 1 []).getD j 0 = Int32.ofInt (mm_chr 1000005 (j : Int)) := by
  intro j hj
  match j, hj with
  | 0, _ => exact ⟨by unfold mm_rg mm_chr; decide, rfl⟩
  | 1, _ => exact ⟨by unfold mm_rg mm_chr; decide, rfl⟩
  | 2, _ => exact ⟨by unfold mm_rg mm_chr; decide, rfl⟩
  | 3, _ => exact ⟨by unfold mm_rg mm_chr; decide, rfl⟩
  | 4, _ => exact ⟨by unfold mm_rg mm_chr; decide, rfl⟩
  | 5, _ => exact ⟨by unfold mm_rg mm_chr; decide, rfl⟩
  | 6, _ => exact ⟨by unfold mm_rg mm_chr; decide, rfl⟩
theorem sn_sbal (hd : decode cc pc = .ok (.baload, 1)) : sr_Snd tab cc mx own mnm pc (mm_sbal (pc + 1)) := by
  intro E d p l e R s m args below meth c Q n0 n1 H locs cells slots ls lv ll st n I L P pc' lv' ll' st' n' I' L' P' hC hnm hM hR h hn hn1 hb1 hb2 hb3 k2
  unfold mm_sbal at h
  have hS := hC.2.2.2.2.2.2.1.2.2.2.2.2.2.2.1
  split at h
  · rename_i i a r
    split at h
    · rename_i hq
      simp only [Option.some.injEq, Sum.inl.injEq, Prod.mk.injEq] at h
      obtain ⟨rfl, rfl, rfl, rfl, rfl, rfl, rfl, rfl⟩ := h
      have hi : mm_rg i := hR.hd
      rcases hq with ⟨rfl, h0, h1⟩ | ⟨rfl, h0, h1⟩
      · obtain ⟨f1, f2⟩ := sr_chr0 i.toNat (by omega)
        rw [Int.toNat_of_nonneg h0] at f1 f2
        have k3 := k2 H locs cells slots ls (hR.st (sr_cons (v := .inl (mm_chr (1000008 - 4) i)) f1 (fun u hu => hR.tl u (List.mem_cons_of_mem _ hu))))
        exact va_tb hC.1 hC.2.1 (hS.1 0 (by decide)).2.2.2 hR.2.1 (so_in (N := 3) hi h0 h1) (v := .int (Int32.ofInt (mm_chr 1000004 i))) (by rw [so_cl hi, f2]) hd k3
      · obtain ⟨f1, f2⟩ := sr_chr1 i.toNat (by omega)
        rw [Int.toNat_of_nonneg h0] at f1 f2
        have k3 := k2 H locs cells slots ls (hR.st (sr_cons (v := .inl (mm_chr (1000009 - 4) i)) f1 (fun u hu => hR.tl u (List.mem_cons_of_mem _ hu))))
        exact va_tb hC.1 hC.2.1 (hS.1 1 (by decide)).2.2.2 hR.2.1 (so_in (N := 7) hi h0 h1) (v := .int (Int32.ofInt (mm_chr 1000005 i))) (by rw [so_cl hi, f2]) hd k3
    · cases h
  · cases h
theorem so_i2c (x : Int) : ((Int32.ofInt x).toUInt32 % 65536).toInt32 = Int32.ofInt (mm_i2c x) := by
  rw [pk_char]
  unfold mm_i2c nI
  have h1 : (Int32.ofInt x).toBitVec.toNat = (x % 4294967296).toNat := by
    show (BitVec.ofInt 32 x).toNat = _
    rw [BitVec.toNat_ofInt]
    rfl
  rw [h1]
  show Int32.ofInt (((x % 4294967296).toNat % 65536 : Nat) : Int) = _
  congr 1
  omega
theorem sn_i2c (hd : decode cc pc = .ok (.i2c, 1)) : sr_Snd tab cc mx own mnm pc (mm_un mm_i2c (pc + 1)) := by
  intro E d p l e R s m args below meth c Q n0 n1 H locs cells slots ls lv ll st n I L P pc' lv' ll' st' n' I' L' P' hC hnm hM hR h hn hn1 hb1 hb2 hb3 k
  unfold mm_un at h
  split at h
  · rename_i x r
    simp only [Option.some.injEq, Sum.inl.injEq, Prod.mk.injEq] at h
    obtain ⟨rfl, rfl, rfl, rfl, rfl, rfl, rfl, rfl⟩ := h
    have k2 := k H locs cells slots ls (hR.st (sr_cons (v := .inl (mm_i2c x)) (by show mm_rg _; unfold mm_rg mm_i2c; omega) hR.tl))
    exact lv_i2c (x := Int32.ofInt x) hC.1 hC.2.1 hd (so_i2c x) k2
  · cases h
theorem st_rc (hd : decode cc pc = .ok (.ireturn, 1)) : sr_Ret cc mx own (some .char) pc (mm_rz 65536) := by
  intro E d p l e R s m args below meth c n0 H locs cells slots ls lv ll st n I L P a hC hr hlk hR h
  unfold mm_rz at h
  split at h
  · rename_i z
    split at h
    · rename_i hz
      simp only [Option.some.injEq, Sum.inr.injEq] at h
      subst h
      have hq : z.toNat < 65536 := by omega
      have hn := (pk_charN hq).1
      have e1 : nI z.toNat = Int32.ofInt z := by
        unfold nI
        show Int32.ofInt ((z.toNat : Nat) : Int) = _
        rw [Int.toNat_of_nonneg hz.1]
      rw [e1] at hn
      exact ⟨rfl, W.zret (ty := .char) hC.1 hC.2.1 hr hn (sr_Qof (ov := some (.inl z)) hR (fun v hv => by cases hv; exact hR.hd)) hR.2.1.2.2 hd hlk⟩
    · cases h
  · cases h
theorem st_rb (hd : decode cc pc = .ok (.ireturn, 1)) : sr_Ret cc mx own (some .byte) pc (mm_rz 128) := by
  intro E d p l e R s m args below meth c n0 H locs cells slots ls lv ll st n I L P a hC hr hlk hR h
  unfold mm_rz at h
  split at h
  · rename_i z
    split at h
    · rename_i hz
      simp only [Option.some.injEq, Sum.inr.injEq] at h
      subst h
      have hb : ∀ k : Nat, k < 128 → narrow .byte (.int (Int32.ofInt (k : Int))) = .int (Int32.ofInt (k : Int)) := by decide +kernel
      have hn := hb z.toNat (by omega)
      rw [Int.toNat_of_nonneg hz.1] at hn
      exact ⟨rfl, W.zret (ty := .byte) hC.1 hC.2.1 hr hn (sr_Qof (ov := some (.inl z)) hR (fun v hv => by cases hv; exact hR.hd)) hR.2.1.2.2 hd hlk⟩
    · cases h
  · cases h
end SN8
theorem nr_sgR {nx : Nat} : sr_NR (mm_sgR nx) := by
  intro R lv ll st n I L P a h
  unfold mm_sgR at h
  (repeat' split at h) <;> simp at h
theorem nr_sgI {nx : Nat} : sr_NR (mm_sgI nx) := by
  intro R lv ll st n I L P a h
  unfold mm_sgI at h
  (repeat' split at h) <;> simp at h
theorem nr_sble {nx : Nat} : sr_NR (mm_sble nx) := by
  intro R lv ll st n I L P a h
  unfold mm_sble at h
  (repeat' split at h) <;> simp at h
theorem nr_sbal {nx : Nat} : sr_NR (mm_sbal nx) := by
  intro R lv ll st n I L P a h
  unfold mm_sbal at h
  (repeat' split at h) <;> simp at h
theorem nr_dead : sr_NR mm_dead := by
  intro R lv ll st n I L P a h
  cases h
