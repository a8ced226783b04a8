/-! fields, arrays, making -/
def sr_cok (ci : Nat) (C : String) (T : u_T) (N : Nat) (ty0 : Nat → FieldType) : Prop := sr_cl[ci]? = some (C, T, N) ∧ ci < 20 ∧ (∀ w ∈ u_ws C T N, w ∈ sr_T) ∧ (mm_fks.getD ci []).length = N ∧ (∀ k, k < N → parseFieldDescriptor (T k).2.2.1 = some (ty0 k)) ∧ (∀ a, a < N → ∀ b, b < N → a ≠ b → (T a).2.1 ≠ (T b).2.1)
theorem sr_size {E : sr_E} {mx n0 : Nat} {p : Program} {l : Launch} {e : Env} {R : Room} {s : State} {m : MethodId} {args : Array Value} {below : List Frame} {meth : Method} {c : Code} {T : State} {H : Heap} {locs : List Loc} {cells slots : Nat} {ls : Array Slot} {lv : List mm_V} {ll : List (Option Int)} {st : List mm_V} {n : Nat} {I L : mm_I} {P : mm_P} (hR : sr_R E mx n0 s H locs cells slots ls lv ll st n I L P) (X : Stand p l e R s m args below meth c T locs cells slots) (hT : T.heap = H) (hn : n ≤ mm_NC) : H.size = E.2.2.1 + n := by
  obtain ⟨hH, hS, -, -, hc, -, hs⟩ := hR
  have h1 := X.heapSize
  rw [hT] at h1
  have h2 := hs (by omega)
  have h3 := hS.1
  by_cases hz : n = n0
  · omega
  · have h4 : (sr_a E (n - 1), sr_c E I L P (n - 1)).1 < H.size := (hH.1 (n - 1) _ (sr_w_get (by omega) (by omega))).lt
    have h5 : sr_a E (n - 1) = E.2.2.1 + (n - 1) := sr_a_lt (by unfold mm_NC at hn; omega)
    dsimp only at h4
    omega
theorem sr_ui_ne {I : mm_I} {a k : Nat} {z : Int} {b : Nat} (h : b ≠ a) : mm_ui I a k z b = I b := by
  funext j
  unfold mm_ui
  rw [if_neg (fun q => h q.1)]
theorem sr_up_ne {P : mm_P} {a k : Nat} {z : Option Nat} {b : Nat} (h : b ≠ a) : mm_up P a k z b = P b := by
  funext j
  unfold mm_up
  rw [if_neg (fun q => h q.1)]
theorem sr_ui_j {I : mm_I} {a k : Nat} {z : Int} {j : Nat} (h : j ≠ k) : mm_ui I a k z a j = I a j := by
  unfold mm_ui
  rw [if_neg (fun q => h q.2)]
theorem sr_up_j {P : mm_P} {a k : Nat} {z : Option Nat} {j : Nat} (h : j ≠ k) : mm_up P a k z a j = P a j := by
  unfold mm_up
  rw [if_neg (fun q => h q.2)]
theorem sr_f_ext {E : sr_E} {I L I' L' : mm_I} {P P' : mm_P} {a k kd : Nat} (h1 : I' a k = I a k) (h2 : L' a k = L a k) (h3 : P' a k = P a k) : sr_f E I' L' P' a k kd = sr_f E I L P a k kd := by
  unfold sr_f
  rw [h1, h2, h3]
theorem sr_rg_ui {I L : mm_I} {a k : Nat} {z : Int} (h : sr_rg I L) (hz : mm_rg z) : sr_rg (mm_ui I a k z) L := by
  intro b j
  refine ⟨?_, (h b j).2⟩
  unfold mm_ui
  split
  · exact hz
  · exact (h b j).1
theorem sr_rg_ul {I L : mm_I} {a k : Nat} {z : Int} (h : sr_rg I L) (hz : mm_rgl z) : sr_rg I (mm_ui L a k z) := by
  intro b j
  refine ⟨(h b j).1, ?_⟩
  unfold mm_ui
  split
  · exact hz
  · exact (h b j).2
section SN4
variable {tab : sr_Tab} {cc : ByteArray} {mx : Nat} {own mnm : String} {pc : Nat}
theorem sr_f_i {E : sr_E} {I L : mm_I} {P : mm_P} {a k kd : Nat} (h : kd = 0 ∨ kd = 3) : sr_f E I L P a k kd = .int (Int32.ofInt (I a k)) := by
  unfold sr_f; rw [if_neg (by omega), if_neg (by omega)]
theorem sr_f_r {E : sr_E} {I L : mm_I} {P : mm_P} {a k : Nat} : sr_f E I L P a k 2 = va_rf ((P a k).map (sr_a E)) := rfl
theorem sr_f_l {E : sr_E} {I L : mm_I} {P : mm_P} {a k : Nat} : sr_f E I L P a k 1 = .long (Int64.ofInt (L a k)) := rfl
theorem sr_getW {ci k idx : Nat} {C ref : String} {T : u_T} {N : Nat} {ty0 : Nat → FieldType} (hc : sr_cok ci C T N ty0) (hk : k < N) (hd : decode cc pc = .ok (.getfield idx, 3)) (hw : Cond.fieldLink own idx ref (T k).2.1 (T k).2.2.1 ∈ sr_T) (href : (T k).1 = ref)
    {E : sr_E} {d : Nat} {p : Program} {l : Launch} {e : Env} {R : Room} {s : State} {m : MethodId} {args : Array Value} {below : List Frame} {meth : Method} {c : Code} {Q : State → Prop} {n0 : Nat} {H : Heap} {locs : List Loc} {cells slots : Nat} {ls : Array Slot} {lv : List mm_V} {ll : List (Option Int)} {st : List mm_V} {n : Nat} {I L : mm_I} {P : mm_P} {a : Nat} {rest : List Value}
    (hC : sr_C E d cc mx own p R s m args c) (hR : sr_R E mx n0 s H locs cells slots ls lv ll st n I L P) (ha : a < n) (hta : (mm_ty a).1 = ci)
    (kk : W p l e R s m args below meth c H locs cells slots Q (F0 m (pc + 3) ls (sr_f E I L P a k (mm_kd ci k) :: rest))) : W p l e R s m args below meth c H locs cells slots Q (F0 m pc ls (.ref (sr_a E a) :: rest)) := by
  obtain ⟨c1, c2, c3, c4, c5, c6⟩ := hc
  have ha6 : a < 1000000 := Nat.lt_trans ha hR.1.2.1
  have hb := sr_lt hta (by omega) ha6
  have he := sr_w_get (E := E) (n := n) (I := I) (L := L) (P := P) ha hb
  rw [sr_c_o hta c2] at he
  exact va_get (ref := ref) hC.1 hC.2.1 hC.2.2.2.2.1 c3 hC.2.2.2.1 hC.2.2.2.2.2.1.1 hR.1.1 a he c1 k hk (hC.2.2.2.2.1 _ hw) (fun x h => by rw [← href]; exact h) (sr_fs_get (by rw [c4]; exact hk)) hd kk
theorem sn_getI {ci k idx : Nat} {C ref : String} {T : u_T} {N : Nat} {ty0 : Nat → FieldType} (hc : sr_cok ci C T N ty0) (hk : k < N) (hkd : mm_kd ci k = 0 ∨ mm_kd ci k = 3) (hd : decode cc pc = .ok (.getfield idx, 3)) (hw : Cond.fieldLink own idx ref (T k).2.1 (T k).2.2.1 ∈ sr_T) (href : (T k).1 = ref) : sr_Snd tab cc mx own mnm pc (mm_getI ci k (pc + 3)) := by
  intro E d p l e R s m args below meth c Q n0 n1 H locs cells slots ls lv ll st n I L P pc' lv' ll' st' n' I' L' P' hC hnm hM hR h hn hn1 hb1 hb2 hb3 k2
  unfold mm_getI at h
  split at h
  · rename_i a r
    split at h
    · rename_i hq
      simp only [Option.some.injEq, Sum.inl.injEq, Prod.mk.injEq] at h
      obtain ⟨rfl, rfl, rfl, rfl, rfl, rfl, rfl, rfl⟩ := h
      refine sr_getW hc hk hd hw href hC hR hq.1 hq.2 ?_
      rw [sr_f_i hkd]
      exact k2 H locs cells slots ls (hR.st (sr_cons (v := .inl (I a k)) (hR.1.2.2.2 a k).1 hR.tl))
    · cases h
  · cases h
theorem sn_getL {ci k idx : Nat} {C ref : String} {T : u_T} {N : Nat} {ty0 : Nat → FieldType} (hc : sr_cok ci C T N ty0) (hk : k < N) (hkd : mm_kd ci k = 1) (hd : decode cc pc = .ok (.getfield idx, 3)) (hw : Cond.fieldLink own idx ref (T k).2.1 (T k).2.2.1 ∈ sr_T) (href : (T k).1 = ref) : sr_Snd tab cc mx own mnm pc (mm_getL ci k (pc + 3)) := by
  intro E d p l e R s m args below meth c Q n0 n1 H locs cells slots ls lv ll st n I L P pc' lv' ll' st' n' I' L' P' hC hnm hM hR h hn hn1 hb1 hb2 hb3 k2
  unfold mm_getL at h
  split at h
  · rename_i a r
    split at h
    · rename_i hq
      simp only [Option.some.injEq, Sum.inl.injEq, Prod.mk.injEq] at h
      obtain ⟨rfl, rfl, rfl, rfl, rfl, rfl, rfl, rfl⟩ := h
      refine sr_getW hc hk hd hw href hC hR hq.1 hq.2 ?_
      rw [hkd, sr_f_l]
      exact k2 H locs cells slots ls (hR.st (sr_cons (v := .inr (.inl (L a k))) (hR.1.2.2.2 a k).2 hR.tl))
    · cases h
  · cases h
theorem sn_getR {ci k idx : Nat} {C ref : String} {T : u_T} {N : Nat} {ty0 : Nat → FieldType} (hc : sr_cok ci C T N ty0) (hk : k < N) (hkd : mm_kd ci k = 2) (hd : decode cc pc = .ok (.getfield idx, 3)) (hw : Cond.fieldLink own idx ref (T k).2.1 (T k).2.2.1 ∈ sr_T) (href : (T k).1 = ref) : sr_Snd tab cc mx own mnm pc (mm_getR ci k (pc + 3)) := by
  intro E d p l e R s m args below meth c Q n0 n1 H locs cells slots ls lv ll st n I L P pc' lv' ll' st' n' I' L' P' hC hnm hM hR h hn hn1 hb1 hb2 hb3 k2
  unfold mm_getR at h
  split at h
  · rename_i a r
    split at h
    · rename_i hq
      simp only [Option.some.injEq, Sum.inl.injEq, Prod.mk.injEq] at h
      obtain ⟨rfl, rfl, rfl, rfl, rfl, rfl, rfl, rfl⟩ := h
      refine sr_getW hc hk hd hw href hC hR hq.1 hq.2 ?_
      rw [hkd, sr_f_r]
      exact k2 H locs cells slots ls (hR.st (sr_cons (v := .inr (.inr (P a k))) trivial hR.tl))
    · cases h
  · cases h
/-- a field is written: the heap holds the world behind it -/
theorem sr_putW {ci k idx : Nat} {C ref : String} {T : u_T} {N : Nat} {ty0 : Nat → FieldType} (hc : sr_cok ci C T N ty0) (hk : k < N) (hd : decode cc pc = .ok (.putfield idx, 3)) (hw : Cond.fieldLink own idx ref (T k).2.1 (T k).2.2.1 ∈ sr_T) (href : (T k).1 = ref) (hfin : (T k).2.2.2 = false ∨ ((T k).2.2.2 = true ∧ mnm = "<init>" ∧ (T k).1 = own))
    {E : sr_E} {d : Nat} {p : Program} {l : Launch} {e : Env} {R : Room} {s : State} {m : MethodId} {args : Array Value} {below : List Frame} {meth : Method} {c : Code} {Q : State → Prop} {n0 : Nat} {H : Heap} {locs : List Loc} {cells slots : Nat} {ls : Array Slot} {lv : List mm_V} {ll : List (Option Int)} {st : List mm_V} {n : Nat} {I L I' L' : mm_I} {P P' : mm_P} {a : Nat} {v : Value} {rest : List Value}
    (hC : sr_C E d cc mx own p R s m args c) (hnm : meth.name = mnm) (hR : sr_R E mx n0 s H locs cells slots ls lv ll st n I L P) (ha : a < n) (hta : (mm_ty a).1 = ci)
    (hn : narrow (ty0 k) v = v) (hf : fits (ty0 k) v = true) (hv : sr_f E I' L' P' a k (mm_kd ci k) = v) (hoj : ∀ j, j ≠ k → sr_f E I' L' P' a j (mm_kd ci j) = sr_f E I L P a j (mm_kd ci j)) (ho : ∀ b, b ≠ a → I' b = I b ∧ L' b = L b ∧ P' b = P b)
    (kk : ∀ (H1 : Heap) (locs1 : List Loc), va_P E.1 sr_cl (sr_w E n I' L' P') H1 → va_S (sr_A E) s.heap H1 locs1 → W p l e R s m args below meth c H1 locs1 cells slots Q (F0 m (pc + 3) ls rest)) : W p l e R s m args below meth c H locs cells slots Q (F0 m pc ls (v :: .ref (sr_a E a) :: rest)) := by
  obtain ⟨c1, c2, c3, c4, c5, c6⟩ := hc
  have ha6 : a < 1000000 := Nat.lt_trans ha hR.1.2.1
  have hb := sr_lt hta (by omega) ha6
  have he := sr_w_get (E := E) (n := n) (I := I) (L := L) (P := P) ha hb
  rw [sr_c_o hta c2] at he
  have hset : (sr_w E n I L P).set a (sr_a E a, .inr (ci, (sr_fs E I L P a ci).set k v)) = sr_w E n I' L' P' := by
    refine sr_w_set ?_ (fun b hb => sr_c_ext (ho b hb).1 (ho b hb).2.1 (ho b hb).2.2)
    rw [sr_c_o hta c2, sr_fs_set hv hoj]
  rcases hfin with hfin | ⟨hfin, hmn, hdecl⟩
  · refine va_put (ref := ref) (ty := ty0 k) hC.1 hC.2.1 hC.2.2.2.2.1 c3 ty0 c5 c6 hC.2.2.2.1 hC.2.2.2.2.2.1.1 hR.1.1 sr_w_D hR.2.1 a he c1 k hk (hC.2.2.2.2.1 _ hw) (fun x h => by rw [← href]; exact h) hfin (c5 k hk) hn hf (by rw [sr_fs_len, c4]; exact hk) hd fun H1 locs1 hP1 hD1 hS1 => ?_
    rw [hset] at hP1
    exact kk H1 locs1 hP1 hS1
  · refine va_putF (ref := ref) (ty := ty0 k) hC.1 hC.2.1 hC.2.2.2.2.1 c3 ty0 c5 c6 hC.2.2.2.1 hC.2.2.2.2.2.1.1 hR.1.1 sr_w_D hR.2.1 a he c1 k hk (hC.2.2.2.2.1 _ hw) (fun x h => by rw [← href]; exact h) hfin (hnm.trans hmn) hdecl (c5 k hk) hn hf (by rw [sr_fs_len, c4]; exact hk) hd fun H1 locs1 hP1 hD1 hS1 => ?_
    rw [hset] at hP1
    exact kk H1 locs1 hP1 hS1
theorem sr_st_lt {E : sr_E} {n : Nat} {I L : mm_I} {P : mm_P} {H : Heap} {a k : Nat} {z : Int} (hH : sr_H E n I L P H) (ha : a < n) : ∀ b j, 1000000 ≤ b → mm_ui I a k z b j = E.2.2.2.2 b j := by
  intro b j hb
  rw [sr_ui_ne (by have := hH.2.1; omega)]
  exact hH.2.2.1 b j hb
theorem sn_putI {ci k idx : Nat} {C ref : String} {T : u_T} {N : Nat} {ty0 : Nat → FieldType} (hc : sr_cok ci C T N ty0) (hk : k < N) (hkd : mm_kd ci k = 0) (hty : ty0 k = .int) (hd : decode cc pc = .ok (.putfield idx, 3)) (hw : Cond.fieldLink own idx ref (T k).2.1 (T k).2.2.1 ∈ sr_T) (href : (T k).1 = ref) (hfin : (T k).2.2.2 = false ∨ ((T k).2.2.2 = true ∧ mnm = "<init>" ∧ (T k).1 = own)) : sr_Snd tab cc mx own mnm pc (mm_putI ci k (pc + 3)) := by
  intro E d p l e R s m args below meth c Q n0 n1 H locs cells slots ls lv ll st n I L P pc' lv' ll' st' n' I' L' P' hC hnm hM hR h hn hn1 hb1 hb2 hb3 k2
  unfold mm_putI at h
  split at h
  · rename_i z a r
    split at h
    · rename_i hq
      simp only [Option.some.injEq, Sum.inl.injEq, Prod.mk.injEq] at h
      obtain ⟨rfl, rfl, rfl, rfl, rfl, rfl, rfl, rfl⟩ := h
      refine sr_putW (I' := mm_ui I a k z) (L' := L) (P' := P) hc hk hd hw href hfin hC hnm hR hq.1 hq.2 (by rw [hty]; rfl) (by rw [hty]; rfl) (by rw [sr_f_i (Or.inl hkd)]; unfold mm_ui; rw [if_pos ⟨rfl, rfl⟩]; rfl) (fun j hj => sr_f_ext (sr_ui_j hj) rfl rfl) (fun b hb => ⟨sr_ui_ne hb, rfl, rfl⟩) fun H1 locs1 hP1 hS1 => ?_
      exact k2 H1 locs1 cells slots ls ⟨⟨hP1, hR.1.2.1, sr_st_lt hR.1 hq.1, sr_rg_ui hR.1.2.2.2 hR.hd⟩, hS1, hR.2.2.1, fun u hu => hR.tl u (List.mem_cons_of_mem _ hu), hR.2.2.2.2⟩
    · cases h
  · cases h
theorem sn_putZ {ci k idx : Nat} {C ref : String} {T : u_T} {N : Nat} {ty0 : Nat → FieldType} (hc : sr_cok ci C T N ty0) (hk : k < N) (hkd : mm_kd ci k = 3) (hty : ty0 k = .boolean) (hd : decode cc pc = .ok (.putfield idx, 3)) (hw : Cond.fieldLink own idx ref (T k).2.1 (T k).2.2.1 ∈ sr_T) (href : (T k).1 = ref) (hfin : (T k).2.2.2 = false ∨ ((T k).2.2.2 = true ∧ mnm = "<init>" ∧ (T k).1 = own)) : sr_Snd tab cc mx own mnm pc (mm_putZ ci k (pc + 3)) := by
  intro E d p l e R s m args below meth c Q n0 n1 H locs cells slots ls lv ll st n I L P pc' lv' ll' st' n' I' L' P' hC hnm hM hR h hn hn1 hb1 hb2 hb3 k2
  unfold mm_putZ at h
  split at h
  · rename_i z a r
    split at h
    · rename_i hq
      simp only [Option.some.injEq, Sum.inl.injEq, Prod.mk.injEq] at h
      obtain ⟨rfl, rfl, rfl, rfl, rfl, rfl, rfl, rfl⟩ := h
      refine sr_putW (I' := mm_ui I a k z) (L' := L) (P' := P) hc hk hd hw href hfin hC hnm hR hq.1 hq.2.1 (by rw [hty]; rcases hq.2.2 with rfl | rfl <;> rfl) (by rw [hty]; rcases hq.2.2 with rfl | rfl <;> rfl) (by rw [sr_f_i (Or.inr hkd)]; unfold mm_ui; rw [if_pos ⟨rfl, rfl⟩]; rfl) (fun j hj => sr_f_ext (sr_ui_j hj) rfl rfl) (fun b hb => ⟨sr_ui_ne hb, rfl, rfl⟩) fun H1 locs1 hP1 hS1 => ?_
      exact k2 H1 locs1 cells slots ls ⟨⟨hP1, hR.1.2.1, sr_st_lt hR.1 hq.1, sr_rg_ui hR.1.2.2.2 hR.hd⟩, hS1, hR.2.2.1, fun u hu => hR.tl u (List.mem_cons_of_mem _ hu), hR.2.2.2.2⟩
    · cases h
  · cases h
theorem sn_putL {ci k idx : Nat} {C ref : String} {T : u_T} {N : Nat} {ty0 : Nat → FieldType} (hc : sr_cok ci C T N ty0) (hk : k < N) (hkd : mm_kd ci k = 1) (hty : ty0 k = .long) (hd : decode cc pc = .ok (.putfield idx, 3)) (hw : Cond.fieldLink own idx ref (T k).2.1 (T k).2.2.1 ∈ sr_T) (href : (T k).1 = ref) (hfin : (T k).2.2.2 = false ∨ ((T k).2.2.2 = true ∧ mnm = "<init>" ∧ (T k).1 = own)) : sr_Snd tab cc mx own mnm pc (mm_putL ci k (pc + 3)) := by
  intro E d p l e R s m args below meth c Q n0 n1 H locs cells slots ls lv ll st n I L P pc' lv' ll' st' n' I' L' P' hC hnm hM hR h hn hn1 hb1 hb2 hb3 k2
  unfold mm_putL at h
  split at h
  · rename_i z a r
    split at h
    · rename_i hq
      simp only [Option.some.injEq, Sum.inl.injEq, Prod.mk.injEq] at h
      obtain ⟨rfl, rfl, rfl, rfl, rfl, rfl, rfl, rfl⟩ := h
      refine sr_putW (I' := I) (L' := mm_ui L a k z) (P' := P) hc hk hd hw href hfin hC hnm hR hq.1 hq.2 (by rw [hty]; rfl) (by rw [hty]; rfl) (by rw [hkd, sr_f_l]; unfold mm_ui; rw [if_pos ⟨rfl, rfl⟩]; rfl) (fun j hj => sr_f_ext rfl (sr_ui_j hj) rfl) (fun b hb => ⟨rfl, sr_ui_ne hb, rfl⟩) fun H1 locs1 hP1 hS1 => ?_
      exact k2 H1 locs1 cells slots ls ⟨⟨hP1, hR.1.2.1, hR.1.2.2.1, sr_rg_ul hR.1.2.2.2 hR.hd⟩, hS1, hR.2.2.1, fun u hu => hR.tl u (List.mem_cons_of_mem _ hu), hR.2.2.2.2⟩
    · cases h
  · cases h
theorem sn_putR {ci k idx : Nat} {C ref : String} {T : u_T} {N : Nat} {ty0 : Nat → FieldType} (hc : sr_cok ci C T N ty0) (hk : k < N) (hkd : mm_kd ci k = 2) (hty : (∃ x, ty0 k = .object x) ∨ ∃ x, ty0 k = .array x) (hd : decode cc pc = .ok (.putfield idx, 3)) (hw : Cond.fieldLink own idx ref (T k).2.1 (T k).2.2.1 ∈ sr_T) (href : (T k).1 = ref) (hfin : (T k).2.2.2 = false ∨ ((T k).2.2.2 = true ∧ mnm = "<init>" ∧ (T k).1 = own)) : sr_Snd tab cc mx own mnm pc (mm_putR ci k (pc + 3)) := by
  intro E d p l e R s m args below meth c Q n0 n1 H locs cells slots ls lv ll st n I L P pc' lv' ll' st' n' I' L' P' hC hnm hM hR h hn hn1 hb1 hb2 hb3 k2
  unfold mm_putR at h
  split at h
  · rename_i z a r
    split at h
    · rename_i hq
      simp only [Option.some.injEq, Sum.inl.injEq, Prod.mk.injEq] at h
      obtain ⟨rfl, rfl, rfl, rfl, rfl, rfl, rfl, rfl⟩ := h
      refine sr_putW (I' := I) (L' := L) (P' := mm_up P a k z) (v := va_rf (z.map (sr_a E))) hc hk hd hw href hfin hC hnm hR hq.1 hq.2 (by rcases hty with ⟨x, hx⟩ | ⟨x, hx⟩ <;> rw [hx] <;> cases z <;> rfl) (by rcases hty with ⟨x, hx⟩ | ⟨x, hx⟩ <;> rw [hx] <;> cases z <;> rfl) (by rw [hkd, sr_f_r]; unfold mm_up; rw [if_pos ⟨rfl, rfl⟩]) (fun j hj => sr_f_ext rfl rfl (sr_up_j hj)) (fun b hb => ⟨rfl, rfl, sr_up_ne hb⟩) fun H1 locs1 hP1 hS1 => ?_
      exact k2 H1 locs1 cells slots ls ⟨⟨hP1, hR.1.2⟩, hS1, hR.2.2.1, fun u hu => hR.tl u (List.mem_cons_of_mem _ hu), hR.2.2.2.2⟩
    · cases h
  · cases h
end SN4
