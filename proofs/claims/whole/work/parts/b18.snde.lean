/-! arrays, making -/
theorem sr_ui_upd {I : mm_I} {a k : Nat} {z : Int} : (fun i => Int32.ofInt (mm_ui I a k z a i)) = upd (fun i => Int32.ofInt (I a i)) k (Int32.ofInt z) := by
  funext i
  unfold mm_ui
  by_cases h : i = k
  · subst h
    rw [if_pos ⟨rfl, rfl⟩, pk_us]
  · rw [if_neg (fun q => h q.2), pk_un h]
section SN5
variable {tab : sr_Tab} {cc : ByteArray} {mx : Nat} {own mnm : String} {pc : Nat}
theorem sr_cell {E : sr_E} {mx n0 : Nat} {s : State} {H : Heap} {locs : List Loc} {cells slots : Nat} {ls : Array Slot} {lv : List mm_V} {ll : List (Option Int)} {st : List mm_V} {n : Nat} {I L : mm_I} {P : mm_P} {a ci : Nat} (hR : sr_R E mx n0 s H locs cells slots ls lv ll st n I L P) (ha : a < n) (ht : (mm_ty a).1 = ci) (hc : ci ≠ 99) : (sr_w E n I L P)[a]? = some (sr_a E a, sr_c E I L P a) :=
  sr_w_get ha (sr_lt ht hc (Nat.lt_trans ha hR.1.2.1))
theorem sn_iald {nx : Nat} {cd t0 : Nat} {ty : FieldType} (hcd : cd = 20 ∧ t0 = 0 ∧ ty = .int ∨ cd = 21 ∧ t0 = 1 ∧ ty = .boolean)
    (hk : ∀ (E : sr_E) (p : Program) (l : Launch) (e : Env) (R : Room) (s : State) (m : MethodId) (args : Array Value) (below : List Frame) (meth : Method) (c : Code) (Q : State → Prop) (H : Heap) (locs : List Loc) (cells slots : Nat) (ls : Array Slot) (rest : List Value) (ws : va_W) (a q0 n : Nat) (cA : ClassId) (f : Nat → Int32) (i : Int32), p.tables.exec = Jvm.exec → c.code = cc → va_K E.1 sr_cl (sr_tys E) s → va_P E.1 sr_cl ws H → ws[q0]? = some (a, .inl (cA, n, .inl f)) → (sr_tys E)[t0]? = some (cA, ty) → vp_in i n → W p l e R s m args below meth c H locs cells slots Q (F0 m nx ls (.int (f i.toNatClampNeg) :: rest)) → W p l e R s m args below meth c H locs cells slots Q (F0 m pc ls (.int i :: .ref a :: rest))) : sr_Snd tab cc mx own mnm pc (mm_iald cd nx) := by
  intro E d p l e R s m args below meth c Q n0 n1 H locs cells slots ls lv ll st n I L P pc' lv' ll' st' n' I' L' P' hC hnm hM hR h hn hn1 hb1 hb2 hb3 k2
  unfold mm_iald at h
  split at h
  · rename_i i a r
    split at h
    · rename_i hq
      simp only [Option.some.injEq, Sum.inl.injEq, Prod.mk.injEq] at h
      obtain ⟨rfl, rfl, rfl, rfl, rfl, rfl, rfl, rfl⟩ := h
      obtain ⟨q1, q2, q3, q4⟩ := hq
      have hi : mm_rg i := hR.hd
      have he := sr_cell hR q1 q2 (by omega)
      have k3 := k2 H locs cells slots ls (hR.st (sr_cons (v := .inl (I a i.toNat)) (hR.1.2.2.2 a _).1 (fun u hu => hR.tl u (List.mem_cons_of_mem _ hu))))
      have e1 : sr_c E I L P a = .inl (E.2.1 t0, (mm_ty a).2, .inl (fun i => Int32.ofInt (I a i))) ∧ (sr_tys E)[t0]? = some (E.2.1 t0, ty) := by
        rcases hcd with ⟨h1, h2, h3⟩ | ⟨h1, h2, h3⟩
        · subst h2; subst h3
          exact ⟨sr_c_20 (q2.trans h1), rfl⟩
        · subst h2; subst h3
          exact ⟨sr_c_21 (q2.trans h1), rfl⟩
      rw [e1.1] at he
      refine hk E p l e R s m args below meth c Q H locs cells slots ls _ _ _ a _ _ _ (Int32.ofInt i) hC.1 hC.2.1 hC.2.2.2.2.2.1.1 hR.1.1 he e1.2 (so_in hi q3 q4) ?_
      rw [so_cl hi]
      exact k3
    · cases h
  · cases h
theorem sn_iaload (hd : decode cc pc = .ok (.iaload, 1)) : sr_Snd tab cc mx own mnm pc (mm_iald 20 (pc + 1)) :=
  sn_iald (t0 := 0) (ty := .int) (Or.inl ⟨rfl, rfl, rfl⟩) fun E p l e R s m args below meth c Q H locs cells slots ls rest ws a q0 n cA f i hx hb hK hP ha ht hin k => va_iald hx hb hK hP q0 0 ha ht hin hd k
theorem sn_baload (hd : decode cc pc = .ok (.baload, 1)) : sr_Snd tab cc mx own mnm pc (mm_iald 21 (pc + 1)) :=
  sn_iald (t0 := 1) (ty := .boolean) (Or.inr ⟨rfl, rfl, rfl⟩) fun E p l e R s m args below meth c Q H locs cells slots ls rest ws a q0 n cA f i hx hb hK hP ha ht hin k => va_zald hx hb hK hP q0 1 ha ht hin hd k
theorem sn_sald (hd : decode cc pc = .ok (.iaload, 1)) : sr_Snd tab cc mx own mnm pc (mm_sald 30 (pc + 1)) := by
  intro E d p l e R s m args below meth c Q n0 n1 H locs cells slots ls lv ll st n I L P pc' lv' ll' st' n' I' L' P' hC hnm hM hR h hn hn1 hb1 hb2 hb3 k2
  unfold mm_sald at h
  split at h
  · rename_i i a r
    split at h
    · rename_i hq
      simp only [Option.some.injEq, Sum.inl.injEq, Prod.mk.injEq] at h
      obtain ⟨rfl, rfl, rfl, rfl, rfl, rfl, rfl, rfl⟩ := h
      obtain ⟨q1, q2, q3, q4⟩ := hq
      have hi : mm_rg i := hR.hd
      have k3 := k2 H locs cells slots ls (hR.st (sr_cons (v := .inl (I a i.toNat)) (hR.1.2.2.2 a _).1 (fun u hu => hR.tl u (List.mem_cons_of_mem _ hu))))
      obtain ⟨k, rfl⟩ : ∃ k, a = 1000000 + k := ⟨a - 1000000, by omega⟩
      have hk4 : k < 4 := by
        refine Nat.lt_of_not_le fun hle => ?_
        unfold mm_ty at q2
        rw [if_neg (by omega), Nat.add_sub_cancel_left] at q2
        match k, hle, q2 with
        | 4, _, q2 => cases q2
        | 5, _, q2 => cases q2
        | 6, _, q2 => cases q2
        | 7, _, q2 => cases q2
        | 8, _, q2 => cases q2
        | 9, _, q2 => cases q2
        | k + 10, _, q2 => cases q2
      have hT := (hC.2.2.2.2.2.2.1.1 k hk4).2
      have e1 : sr_a E (1000000 + k) = E.2.2.2.1 k := by
        unfold sr_a
        rw [if_neg (by omega), Nat.add_sub_cancel_left]
      show W p l e R s m args below meth c H locs cells slots Q (F0 m pc ls (.int (Int32.ofInt i) :: .ref (sr_a E (1000000 + k)) :: r.map (sr_v E)))
      rw [e1]
      refine va_ti hC.1 hC.2.1 hT hR.2.1 (so_in hi q3 q4) (v := .int (Int32.ofInt (I (1000000 + k) i.toNat))) ?_ hd k3
      rw [so_cl hi, hR.1.2.2.1 _ _ (by omega)]
    · cases h
  · cases h
theorem sn_xald (hd : decode cc pc = .ok (.iaload, 1)) : sr_Snd tab cc mx own mnm pc (mm_xald (pc + 1)) := by
  intro E d p l e R s m args below meth c Q n0 n1 H locs cells slots ls lv ll st n I L P pc' lv' ll' st' n' I' L' P' hC hnm hM hR h hn hn1 hb1 hb2 hb3 k2
  unfold mm_xald at h
  split at h
  · rename_i i a r
    split at h
    · rename_i hq
      simp only [Option.some.injEq, Sum.inl.injEq, Prod.mk.injEq] at h
      obtain ⟨rfl, rfl, rfl, rfl, rfl, rfl, rfl, rfl⟩ := h
      obtain ⟨rfl, q3, q4⟩ := hq
      have hi : mm_rg i := hR.hd
      have k3 := k2 H locs cells slots ls (hR.st (sr_cons (v := .inl (I 1000006 i.toNat)) (hR.1.2.2.2 1000006 _).1 (fun u hu => hR.tl u (List.mem_cons_of_mem _ hu))))
      obtain ⟨-, hX, hlt, h0, -⟩ := hC.2.2.2.2.2.2.1
      rw [hR.1.2.2.1 _ _ (by omega)] at q4
      refine va_sld (A := sr_A E) hC.1 hC.2.1 hX (Nat.lt_of_lt_of_le hlt hC.2.2.2.2.2.2.2.1) (Nat.not_le.mpr hlt) hR.2.1 (so_in hi q3 (by rw [Int.toNat_of_nonneg h0]; exact q4)) hd ?_
      rw [so_cl hi, ← hR.1.2.2.1 _ _ (by omega)]
      exact k3
    · cases h
  · cases h
theorem sn_xlen (hd : decode cc pc = .ok (.arraylength, 1)) : sr_Snd tab cc mx own mnm pc (mm_xlen (pc + 1)) := by
  intro E d p l e R s m args below meth c Q n0 n1 H locs cells slots ls lv ll st n I L P pc' lv' ll' st' n' I' L' P' hC hnm hM hR h hn hn1 hb1 hb2 hb3 k2
  unfold mm_xlen at h
  split at h
  · rename_i a r
    split at h
    · rename_i hq
      simp only [Option.some.injEq, Sum.inl.injEq, Prod.mk.injEq] at h
      obtain ⟨rfl, rfl, rfl, rfl, rfl, rfl, rfl, rfl⟩ := h
      subst hq
      have k3 := k2 H locs cells slots ls (hR.st (sr_cons (v := .inl (I 1000006 5000)) (hR.1.2.2.2 1000006 _).1 hR.tl))
      obtain ⟨-, hX, hlt, h0, -⟩ := hC.2.2.2.2.2.2.1
      refine va_slen (A := sr_A E) hC.1 hC.2.1 hX (Nat.lt_of_lt_of_le hlt hC.2.2.2.2.2.2.2.1) (Nat.not_le.mpr hlt) hR.2.1 hd ?_
      have e1 : Int32.ofNat (E.2.2.2.2 1000006 5000).toNat = Int32.ofInt (I 1000006 5000) := by
        rw [hR.1.2.2.1 _ _ (by omega)]
        show Int32.ofInt ((E.2.2.2.2 1000006 5000).toNat : Int) = _
        rw [Int.toNat_of_nonneg h0]
      rw [e1]
      exact k3
    · cases h
  · cases h
theorem sn_iastore (hd : decode cc pc = .ok (.iastore, 1)) : sr_Snd tab cc mx own mnm pc (mm_iast 20 (pc + 1)) := by
  intro E d p l e R s m args below meth c Q n0 n1 H locs cells slots ls lv ll st n I L P pc' lv' ll' st' n' I' L' P' hC hnm hM hR h hn hn1 hb1 hb2 hb3 k2
  unfold mm_iast at h
  split at h
  · rename_i z i a r
    split at h
    · rename_i hq
      simp only [Option.some.injEq, Sum.inl.injEq, Prod.mk.injEq] at h
      obtain ⟨rfl, rfl, rfl, rfl, rfl, rfl, rfl, rfl⟩ := h
      obtain ⟨q1, q2, q3, q4⟩ := hq
      have hi : mm_rg i := hR.tl _ List.mem_cons_self
      have he := sr_cell hR q1 q2 (by omega)
      rw [sr_c_20 q2] at he
      refine va_iast hC.1 hC.2.1 hC.2.2.2.2.2.1.1 hR.1.1 sr_w_D hR.2.1 a 0 he rfl (so_in hi q3 q4) hd fun H1 locs1 hP1 hD1 hS1 => ?_
      rw [so_cl hi, sr_w_set (I' := mm_ui I a i.toNat z) (L' := L) (P' := P) (by rw [sr_c_20 q2, sr_ui_upd]) (fun b hb => sr_c_ext (sr_ui_ne hb) rfl rfl)] at hP1
      exact k2 H1 locs1 cells slots ls ⟨⟨hP1, hR.1.2.1, sr_st_lt hR.1 q1, sr_rg_ui hR.1.2.2.2 hR.hd⟩, hS1, hR.2.2.1, fun u hu => hR.tl u (List.mem_cons_of_mem _ (List.mem_cons_of_mem _ hu)), hR.2.2.2.2⟩
    · cases h
  · cases h
theorem sn_bastore (hd : decode cc pc = .ok (.bastore, 1)) : sr_Snd tab cc mx own mnm pc (mm_bast 21 (pc + 1)) := by
  intro E d p l e R s m args below meth c Q n0 n1 H locs cells slots ls lv ll st n I L P pc' lv' ll' st' n' I' L' P' hC hnm hM hR h hn hn1 hb1 hb2 hb3 k2
  unfold mm_bast at h
  split at h
  · rename_i z i a r
    split at h
    · rename_i hq
      simp only [Option.some.injEq, Sum.inl.injEq, Prod.mk.injEq] at h
      obtain ⟨rfl, rfl, rfl, rfl, rfl, rfl, rfl, rfl⟩ := h
      obtain ⟨q1, q2, q3, q4, q5⟩ := hq
      have hi : mm_rg i := hR.tl _ List.mem_cons_self
      have he := sr_cell hR q1 q2 (by omega)
      rw [sr_c_21 q2] at he
      have hz : vp_nar .boolean (Int32.ofInt z) = Int32.ofInt z := by rcases q5 with rfl | rfl <;> rfl
      refine va_zast hC.1 hC.2.1 hC.2.2.2.2.2.1.1 hR.1.1 sr_w_D hR.2.1 a 1 he rfl (so_in hi q3 q4) hd fun H1 locs1 hP1 hD1 hS1 => ?_
      rw [hz, so_cl hi, sr_w_set (I' := mm_ui I a i.toNat z) (L' := L) (P' := P) (by rw [sr_c_21 q2, sr_ui_upd]) (fun b hb => sr_c_ext (sr_ui_ne hb) rfl rfl)] at hP1
      exact k2 H1 locs1 cells slots ls ⟨⟨hP1, hR.1.2.1, sr_st_lt hR.1 q1, sr_rg_ui hR.1.2.2.2 hR.hd⟩, hS1, hR.2.2.1, fun u hu => hR.tl u (List.mem_cons_of_mem _ (List.mem_cons_of_mem _ hu)), hR.2.2.2.2⟩
    · cases h
  · cases h
theorem sn_laload (hd : decode cc pc = .ok (.laload, 1)) : sr_Snd tab cc mx own mnm pc (mm_lald 22 (pc + 1)) := by
  intro E d p l e R s m args below meth c Q n0 n1 H locs cells slots ls lv ll st n I L P pc' lv' ll' st' n' I' L' P' hC hnm hM hR h hn hn1 hb1 hb2 hb3 k2
  unfold mm_lald at h
  split at h
  · rename_i i a r
    split at h
    · rename_i hq
      simp only [Option.some.injEq, Sum.inl.injEq, Prod.mk.injEq] at h
      obtain ⟨rfl, rfl, rfl, rfl, rfl, rfl, rfl, rfl⟩ := h
      obtain ⟨q1, q2, q3, q4⟩ := hq
      have hi : mm_rg i := hR.hd
      have he := sr_cell hR q1 q2 (by omega)
      rw [sr_c_22 q2] at he
      have k3 := k2 H locs cells slots ls (hR.st (sr_cons (v := .inr (.inl (L a i.toNat))) (hR.1.2.2.2 a _).2 (fun u hu => hR.tl u (List.mem_cons_of_mem _ hu))))
      refine va_lald hC.1 hC.2.1 hC.2.2.2.2.2.1.1 hR.1.1 a 2 he rfl (so_in hi q3 q4) hd ?_
      rw [so_cl hi]
      exact k3
    · cases h
  · cases h
theorem sn_aaload {cd t0 : Nat} {C : String} (hcd : cd = 23 ∧ t0 = 3 ∧ C = RX5 ∨ cd = 24 ∧ t0 = 4 ∧ C = RX3) (hd : decode cc pc = .ok (.aaload, 1)) : sr_Snd tab cc mx own mnm pc (mm_aald cd (pc + 1)) := by
  intro E d p l e R s m args below meth c Q n0 n1 H locs cells slots ls lv ll st n I L P pc' lv' ll' st' n' I' L' P' hC hnm hM hR h hn hn1 hb1 hb2 hb3 k2
  unfold mm_aald at h
  split at h
  · rename_i i a r
    split at h
    · rename_i hq
      simp only [Option.some.injEq, Sum.inl.injEq, Prod.mk.injEq] at h
      obtain ⟨rfl, rfl, rfl, rfl, rfl, rfl, rfl, rfl⟩ := h
      obtain ⟨q1, q2, q3, q4⟩ := hq
      have hi : mm_rg i := hR.hd
      have he := sr_cell hR q1 q2 (by omega)
      have e1 : sr_c E I L P a = .inl (E.2.1 t0, (mm_ty a).2, .inr (.inr (.inr (.inr (fun i => (P a i).map (sr_a E)))))) ∧ (sr_tys E)[t0]? = some (E.2.1 t0, .object C) := by
        rcases hcd with ⟨h1, h2, h3⟩ | ⟨h1, h2, h3⟩
        · subst h2; subst h3
          exact ⟨sr_c_23 (q2.trans h1), rfl⟩
        · subst h2; subst h3
          exact ⟨sr_c_24 (q2.trans h1), rfl⟩
      rw [e1.1] at he
      have k3 := k2 H locs cells slots ls (hR.st (sr_cons (v := .inr (.inr (P a i.toNat))) trivial (fun u hu => hR.tl u (List.mem_cons_of_mem _ hu))))
      refine va_aldq hC.1 hC.2.1 hC.2.2.2.2.2.1.1 hR.1.1 a t0 he e1.2 (so_in hi q3 q4) hd ?_
      rw [so_cl hi]
      exact k3
    · cases h
  · cases h
theorem sn_aastore {cd ci t0 : Nat} {C : String} {T : u_T} {N : Nat} {ty0 : Nat → FieldType} (hc : sr_cok ci C T N ty0) (hcd : cd = 23 ∧ t0 = 3 ∧ C = RX5 ∨ cd = 24 ∧ t0 = 4 ∧ C = RX3) (hd : decode cc pc = .ok (.aastore, 1)) : sr_Snd tab cc mx own mnm pc (mm_aast cd ci (pc + 1)) := by
  intro E d p l e R s m args below meth c Q n0 n1 H locs cells slots ls lv ll st n I L P pc' lv' ll' st' n' I' L' P' hC hnm hM hR h hn hn1 hb1 hb2 hb3 k2
  unfold mm_aast at h
  split at h
  · rename_i v i a r
    split at h
    · rename_i hq
      simp only [Option.some.injEq, Sum.inl.injEq, Prod.mk.injEq] at h
      obtain ⟨rfl, rfl, rfl, rfl, rfl, rfl, rfl, rfl⟩ := h
      obtain ⟨q1, q2, q3, q4, q5, q6⟩ := hq
      have hi : mm_rg i := hR.tl _ List.mem_cons_self
      have he := sr_cell hR q1 q2 (by omega)
      have hv := sr_cell hR q5 q6 (by have := hc.2.1; omega)
      rw [sr_c_o q6 hc.2.1] at hv
      have e1 : ∀ P' : mm_P, sr_c E I L P' a = .inl (E.2.1 t0, (mm_ty a).2, .inr (.inr (.inr (.inr (fun i => (P' a i).map (sr_a E)))))) := by
        intro P'
        rcases hcd with ⟨h1, h2, h3⟩ | ⟨h1, h2, h3⟩
        · subst h2
          exact sr_c_23 (q2.trans h1)
        · subst h2
          exact sr_c_24 (q2.trans h1)
      have e2 : (sr_tys E)[t0]? = some (E.2.1 t0, .object C) := by
        rcases hcd with ⟨h1, h2, h3⟩ | ⟨h1, h2, h3⟩
        · subst h2; subst h3; rfl
        · subst h2; subst h3; rfl
      rw [e1] at he
      refine va_astq (r := (C, T, N)) hC.1 hC.2.1 hC.2.2.2.2.2.1.1 hR.1.1 sr_w_D hR.2.1 a t0 v ci he e2 hv hc.1 (so_in hi q3 q4) hd fun H1 locs1 hP1 hD1 hS1 => ?_
      rw [so_cl hi, sr_w_set (I' := I) (L' := L) (P' := mm_up P a i.toNat (some v)) (by
        rw [e1]
        congr 7
        funext j
        unfold mm_up va_up
        by_cases hj : j = i.toNat <;> simp [hj]) (fun b hb => sr_c_ext rfl rfl (sr_up_ne hb))] at hP1
      exact k2 H1 locs1 cells slots ls ⟨⟨hP1, hR.1.2⟩, hS1, hR.2.2.1, fun u hu => hR.tl u (List.mem_cons_of_mem _ (List.mem_cons_of_mem _ hu)), hR.2.2.2.2⟩
    · cases h
  · cases h
theorem sn_alen {cd : Nat} (hcd : cd = 20 ∨ cd = 24) (hd : decode cc pc = .ok (.arraylength, 1)) (hlen : ∀ a, a < mm_NC → (mm_ty a).2 < 10000) : sr_Snd tab cc mx own mnm pc (mm_alen cd (pc + 1)) := by
  intro E d p l e R s m args below meth c Q n0 n1 H locs cells slots ls lv ll st n I L P pc' lv' ll' st' n' I' L' P' hC hnm hM hR h hn hn1 hb1 hb2 hb3 k2
  unfold mm_alen at h
  split at h
  · rename_i a r
    split at h
    · rename_i hq
      simp only [Option.some.injEq, Sum.inl.injEq, Prod.mk.injEq] at h
      obtain ⟨rfl, rfl, rfl, rfl, rfl, rfl, rfl, rfl⟩ := h
      obtain ⟨q1, q2⟩ := hq
      have he := sr_cell hR q1 q2 (by omega)
      have hb := sr_lt q2 (by omega) (Nat.lt_trans q1 hR.1.2.1)
      have hl := hlen a hb
      have k3 := k2 H locs cells slots ls (hR.st (sr_cons (v := .inl ((mm_ty a).2 : Int)) (by show mm_rg _; unfold mm_rg; omega) hR.tl))
      have hv : Int32.ofNat (mm_ty a).2 = Int32.ofInt ((mm_ty a).2 : Int) := rfl
      rcases hcd with h1 | h1
      · rw [sr_c_20 (q2.trans h1)] at he
        exact va_alen hC.1 hC.2.1 hC.2.2.2.2.2.1.1 hR.1.1 a 0 he rfl hv hd k3
      · rw [sr_c_24 (q2.trans h1)] at he
        exact va_alen hC.1 hC.2.1 hC.2.2.2.2.2.1.1 hR.1.1 a 4 he rfl hv hd k3
    · cases h
  · cases h
end SN5
