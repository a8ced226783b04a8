/-! stores, reckoning, branches, the stack -/
def sr_all (ls : Array Slot) : List (Nat × Value) := (List.range ls.size).filterMap (fun i => match (ls[i]? : Option Slot) with | some (Slot.val v) => some (i, v) | _ => none)
theorem sr_all_has {ls : Array Slot} {nL : Nat} (hs : ls.size = nL) (hw : lv_wf ls) : lv_has ls nL (sr_all ls) := by
  refine ⟨hs, hw, fun q hq => ?_⟩
  obtain ⟨i, -, hi⟩ := List.mem_filterMap.mp hq
  split at hi
  · rename_i v hv
    cases hi
    exact hv
  · cases hi
theorem sr_all_mem {ls : Array Slot} {i : Nat} {v : Value} (h : ls[i]? = some (.val v)) : (i, v) ∈ sr_all ls := by
  refine List.mem_filterMap.mpr ⟨i, List.mem_range.mpr (lv_lt h), ?_⟩
  rw [h]
theorem sr_L_set {E : sr_E} {ls ls' : Array Slot} {mx : Nat} {lv : List mm_V} {ll : List (Option Int)} {i : Nat} {v : mm_V} (hL : sr_L E ls mx lv ll) (hc : mm_c1 v = true) (hv : sr_vr v) (h' : lv_has ls' mx ((i, sr_v E v) :: (sr_all ls).filter (fun q => !(q.1 == i) && !(q.1 + 1 == i && q.2.category == 2)))) : sr_L E ls' mx (lv.set i v) (mm_off ll i) := by
  obtain ⟨g1, g2, g3⟩ := h'
  refine ⟨g1, by rw [List.length_set]; exact hL.2.1, g2, fun j u hu hcu => ?_, fun j z hz => ?_⟩
  · by_cases hji : j = i
    · subst hji
      have hlt : j < (lv.set j v).length := (List.getElem?_eq_some_iff.mp hu).1
      rw [List.length_set] at hlt
      rw [List.getElem?_set_self hlt] at hu
      cases hu
      exact ⟨g3 _ List.mem_cons_self, hv⟩
    · rw [List.getElem?_set_ne (fun h => hji h.symm)] at hu
      obtain ⟨h1, h2⟩ := hL.2.2.2.1 j u hu hcu
      refine ⟨g3 (j, sr_v E u) (List.mem_cons_of_mem _ (List.mem_filter.mpr ⟨sr_all_mem h1, ?_⟩)), h2⟩
      have h3 := sr_c1v (E := E) hcu
      simp [hji, h3]
  · unfold mm_off at hz
    by_cases hj1 : j = i - 1
    · subst hj1
      have hlt : i - 1 < ((ll.set i none).set (i - 1) none).length := (List.getElem?_eq_some_iff.mp hz).1
      rw [List.length_set] at hlt
      rw [List.getElem?_set_self hlt] at hz
      cases hz
    · rw [List.getElem?_set_ne (fun h => hj1 h.symm)] at hz
      by_cases hji : j = i
      · subst hji
        have hlt : j < (ll.set j none).length := (List.getElem?_eq_some_iff.mp hz).1
        rw [List.length_set] at hlt
        rw [List.getElem?_set_self hlt] at hz
        cases hz
      · rw [List.getElem?_set_ne (fun h => hji h.symm)] at hz
        obtain ⟨h1, h2⟩ := hL.2.2.2.2 j z hz
        refine ⟨g3 (j, _) (List.mem_cons_of_mem _ (List.mem_filter.mpr ⟨sr_all_mem h1, ?_⟩)), h2⟩
        have : ¬ j + 1 = i := by omega
        simp [hji, this]
theorem sr_L_setl {E : sr_E} {ls ls' : Array Slot} {mx : Nat} {lv : List mm_V} {ll : List (Option Int)} {i : Nat} {z : Int} (hL : sr_L E ls mx lv ll) (hz : mm_rgl z) (h' : lv_has ls' mx ((i, Value.long (Int64.ofInt z)) :: (sr_all ls).filter (fun q => !(q.1 == i) && (!(q.1 == i + 1) && !(q.1 + 1 == i && q.2.category == 2))))) : sr_L E ls' mx ((lv.set i mm_junk).set (i + 1) mm_junk) (((mm_off ll i).set (i + 1) none).set i (some z)) := by
  obtain ⟨g1, g2, g3⟩ := h'
  refine ⟨g1, by rw [List.length_set, List.length_set]; exact hL.2.1, g2, fun j u hu hcu => ?_, fun j w hw => ?_⟩
  · by_cases hj1 : j = i + 1
    · subst hj1
      have hlt : i + 1 < ((lv.set i mm_junk).set (i + 1) mm_junk).length := (List.getElem?_eq_some_iff.mp hu).1
      rw [List.length_set] at hlt
      rw [List.getElem?_set_self hlt] at hu
      cases hu
      cases hcu
    · rw [List.getElem?_set_ne (fun h => hj1 h.symm)] at hu
      by_cases hji : j = i
      · subst hji
        have hlt : j < (lv.set j mm_junk).length := (List.getElem?_eq_some_iff.mp hu).1
        rw [List.length_set] at hlt
        rw [List.getElem?_set_self hlt] at hu
        cases hu
        cases hcu
      · rw [List.getElem?_set_ne (fun h => hji h.symm)] at hu
        obtain ⟨h1, h2⟩ := hL.2.2.2.1 j u hu hcu
        refine ⟨g3 (j, sr_v E u) (List.mem_cons_of_mem _ (List.mem_filter.mpr ⟨sr_all_mem h1, ?_⟩)), h2⟩
        have h3 := sr_c1v (E := E) hcu
        simp [hji, hj1, h3]
  · by_cases hji : j = i
    · subst hji
      have hlt : j < (((mm_off ll j).set (j + 1) none).set j (some z)).length := (List.getElem?_eq_some_iff.mp hw).1
      rw [List.length_set] at hlt
      rw [List.getElem?_set_self hlt] at hw
      cases hw
      exact ⟨g3 _ List.mem_cons_self, hz⟩
    · rw [List.getElem?_set_ne (fun h => hji h.symm)] at hw
      by_cases hj1 : j = i + 1
      · subst hj1
        have hlt : i + 1 < ((mm_off ll i).set (i + 1) none).length := (List.getElem?_eq_some_iff.mp hw).1
        rw [List.length_set] at hlt
        rw [List.getElem?_set_self hlt] at hw
        cases hw
      · rw [List.getElem?_set_ne (fun h => hj1 h.symm)] at hw
        unfold mm_off at hw
        by_cases hj2 : j = i - 1
        · subst hj2
          have hlt : i - 1 < ((ll.set i none).set (i - 1) none).length := (List.getElem?_eq_some_iff.mp hw).1
          rw [List.length_set] at hlt
          rw [List.getElem?_set_self hlt] at hw
          cases hw
        · rw [List.getElem?_set_ne (fun h => hj2 h.symm), List.getElem?_set_ne (fun h => hji h.symm)] at hw
          obtain ⟨h1, h2⟩ := hL.2.2.2.2 j w hw
          refine ⟨g3 (j, _) (List.mem_cons_of_mem _ (List.mem_filter.mpr ⟨sr_all_mem h1, ?_⟩)), h2⟩
          have : ¬ j + 1 = i := by omega
          simp [hji, hj1, this]
section SN2
variable {tab : sr_Tab} {cc : ByteArray} {mx : Nat} {own mnm : String} {pc : Nat}
theorem sr_R.tl {E : sr_E} {mx n0 : Nat} {s : State} {H : Heap} {locs : List Loc} {cells slots : Nat} {ls : Array Slot} {lv : List mm_V} {ll : List (Option Int)} {v : mm_V} {st : List mm_V} {n : Nat} {I L : mm_I} {P : mm_P} (h : sr_R E mx n0 s H locs cells slots ls lv ll (v :: st) n I L P) : ∀ u ∈ st, sr_vr u := fun u hu => h.2.2.2.1 u (List.mem_cons_of_mem _ hu)
theorem sr_R.hd {E : sr_E} {mx n0 : Nat} {s : State} {H : Heap} {locs : List Loc} {cells slots : Nat} {ls : Array Slot} {lv : List mm_V} {ll : List (Option Int)} {v : mm_V} {st : List mm_V} {n : Nat} {I L : mm_I} {P : mm_P} (h : sr_R E mx n0 s H locs cells slots ls lv ll (v :: st) n I L P) : sr_vr v := h.2.2.2.1 v List.mem_cons_self
theorem sr_cons {v : mm_V} {st : List mm_V} (h1 : sr_vr v) (h2 : ∀ u ∈ st, sr_vr u) : ∀ u ∈ v :: st, sr_vr u := fun u hu => (List.mem_cons.mp hu).elim (fun e => by rw [e]; exact h1) (h2 u)
theorem sn_is {i nx : Nat} (hi : i < mx) (hk : ∀ (p : Program) (l : Launch) (e : Env) (R : Room) (s : State) (m : MethodId) (args : Array Value) (below : List Frame) (meth : Method) (c : Code) (Q : State → Prop) (H : Heap) (locs : List Loc) (cells slots : Nat) (ls : Array Slot) (rest : List Value) (x : Int32) (lv : List (Nat × Value)), p.tables.exec = Jvm.exec → c.code = cc → lv_has ls mx lv → (∀ ls' : Array Slot, lv_has ls' mx ((i, Value.int x) :: lv.filter (fun q => !(q.1 == i) && !(q.1 + 1 == i && q.2.category == 2))) → W p l e R s m args below meth c H locs cells slots Q (F0 m nx ls' rest)) → W p l e R s m args below meth c H locs cells slots Q (F0 m pc ls (.int x :: rest))) : sr_Snd tab cc mx own mnm pc (mm_is i nx) := by
  intro E d p l e R s m args below meth c Q n0 n1 H locs cells slots ls lv ll st n I L P pc' lv' ll' st' n' I' L' P' hC hnm hM hR h hn hn1 hb1 hb2 hb3 k
  unfold mm_is at h
  split at h
  · rename_i z r
    simp only [Option.some.injEq, Sum.inl.injEq, Prod.mk.injEq] at h
    obtain ⟨rfl, rfl, rfl, rfl, rfl, rfl, rfl, rfl⟩ := h
    refine hk p l e R s m args below meth c Q H locs cells slots ls _ (Int32.ofInt z) _ hC.1 hC.2.1 (sr_all_has hR.2.2.1.1 hR.2.2.1.2.2.1) fun ls' hl' => ?_
    exact k H locs cells slots ls' ⟨hR.1, hR.2.1, sr_L_set (v := .inl z) hR.2.2.1 rfl hR.hd hl', hR.tl, hR.2.2.2.2⟩
  · cases h
theorem sn_istore_n {j : Fin 4} {i : Nat} (hd : decode cc pc = .ok (.istore_n j, 1)) (hj : (j : Nat) = i) (hi : i < mx) : sr_Snd tab cc mx own mnm pc (mm_is i (pc + 1)) :=
  sn_is hi fun p l e R s m args below meth c Q H locs cells slots ls rest x lv hx hb hl k => lv_istore_n hx hb hd hj hl hi rfl k
theorem sn_istore {i : Nat} (hd : decode cc pc = .ok (.istore i, 2)) (hi : i < mx) : sr_Snd tab cc mx own mnm pc (mm_is i (pc + 2)) :=
  sn_is hi fun p l e R s m args below meth c Q H locs cells slots ls rest x lv hx hb hl k => lv_istore hx hb hd hl hi rfl k
theorem sn_as {i nx : Nat} (hi : i < mx) (hk : ∀ (p : Program) (l : Launch) (e : Env) (R : Room) (s : State) (m : MethodId) (args : Array Value) (below : List Frame) (meth : Method) (c : Code) (Q : State → Prop) (H : Heap) (locs : List Loc) (cells slots : Nat) (ls : Array Slot) (rest : List Value) (x : Option Nat) (lv : List (Nat × Value)), p.tables.exec = Jvm.exec → c.code = cc → lv_has ls mx lv → (∀ ls' : Array Slot, lv_has ls' mx ((i, va_rf x) :: lv.filter (fun q => !(q.1 == i) && !(q.1 + 1 == i && q.2.category == 2))) → W p l e R s m args below meth c H locs cells slots Q (F0 m nx ls' rest)) → W p l e R s m args below meth c H locs cells slots Q (F0 m pc ls (va_rf x :: rest))) : sr_Snd tab cc mx own mnm pc (mm_as i nx) := by
  intro E d p l e R s m args below meth c Q n0 n1 H locs cells slots ls lv ll st n I L P pc' lv' ll' st' n' I' L' P' hC hnm hM hR h hn hn1 hb1 hb2 hb3 k
  unfold mm_as at h
  split at h
  · rename_i z r
    simp only [Option.some.injEq, Sum.inl.injEq, Prod.mk.injEq] at h
    obtain ⟨rfl, rfl, rfl, rfl, rfl, rfl, rfl, rfl⟩ := h
    refine hk p l e R s m args below meth c Q H locs cells slots ls _ (z.map (sr_a E)) _ hC.1 hC.2.1 (sr_all_has hR.2.2.1.1 hR.2.2.1.2.2.1) fun ls' hl' => ?_
    exact k H locs cells slots ls' ⟨hR.1, hR.2.1, sr_L_set (v := .inr (.inr z)) hR.2.2.1 rfl trivial hl', hR.tl, hR.2.2.2.2⟩
  · cases h
theorem sn_astore_n {j : Fin 4} {i : Nat} (hd : decode cc pc = .ok (.astore_n j, 1)) (hj : (j : Nat) = i) (hi : i < mx) : sr_Snd tab cc mx own mnm pc (mm_as i (pc + 1)) :=
  sn_as hi fun p l e R s m args below meth c Q H locs cells slots ls rest x lv hx hb hl k => by
    cases x with
    | none => exact lv_astore_nN hx hb hd hj hl hi rfl k
    | some a => exact lv_astore_n hx hb hd hj hl hi rfl k
theorem sn_astore {i : Nat} (hd : decode cc pc = .ok (.astore i, 2)) (hi : i < mx) : sr_Snd tab cc mx own mnm pc (mm_as i (pc + 2)) :=
  sn_as hi fun p l e R s m args below meth c Q H locs cells slots ls rest x lv hx hb hl k => by
    cases x with
    | none => exact lv_astoreN hx hb hd hl hi rfl k
    | some a => exact lv_astore hx hb hd hl hi rfl k
theorem sn_ls {i nx : Nat} (hi : i + 1 < mx) (hk : ∀ (p : Program) (l : Launch) (e : Env) (R : Room) (s : State) (m : MethodId) (args : Array Value) (below : List Frame) (meth : Method) (c : Code) (Q : State → Prop) (H : Heap) (locs : List Loc) (cells slots : Nat) (ls : Array Slot) (rest : List Value) (x : Int64) (lv : List (Nat × Value)), p.tables.exec = Jvm.exec → c.code = cc → lv_has ls mx lv → (∀ ls' : Array Slot, lv_has ls' mx ((i, Value.long x) :: lv.filter (fun q => !(q.1 == i) && (!(q.1 == i + 1) && !(q.1 + 1 == i && q.2.category == 2)))) → W p l e R s m args below meth c H locs cells slots Q (F0 m nx ls' rest)) → W p l e R s m args below meth c H locs cells slots Q (F0 m pc ls (.long x :: rest))) : sr_Snd tab cc mx own mnm pc (mm_lst i nx) := by
  intro E d p l e R s m args below meth c Q n0 n1 H locs cells slots ls lv ll st n I L P pc' lv' ll' st' n' I' L' P' hC hnm hM hR h hn hn1 hb1 hb2 hb3 k
  unfold mm_lst at h
  split at h
  · rename_i z r
    simp only [Option.some.injEq, Sum.inl.injEq, Prod.mk.injEq] at h
    obtain ⟨rfl, rfl, rfl, rfl, rfl, rfl, rfl, rfl⟩ := h
    refine hk p l e R s m args below meth c Q H locs cells slots ls _ (Int64.ofInt z) _ hC.1 hC.2.1 (sr_all_has hR.2.2.1.1 hR.2.2.1.2.2.1) fun ls' hl' => ?_
    exact k H locs cells slots ls' ⟨hR.1, hR.2.1, sr_L_setl hR.2.2.1 hR.hd hl', hR.tl, hR.2.2.2.2⟩
  · cases h
theorem sn_lstore_n {j : Fin 4} {i : Nat} (hd : decode cc pc = .ok (.lstore_n j, 1)) (hj : (j : Nat) = i) (hi : i + 1 < mx) : sr_Snd tab cc mx own mnm pc (mm_lst i (pc + 1)) :=
  sn_ls hi fun p l e R s m args below meth c Q H locs cells slots ls rest x lv hx hb hl k => lv_lstore_n hx hb hd hj hl hi rfl k
theorem sn_lstore {i : Nat} (hd : decode cc pc = .ok (.lstore i, 2)) (hi : i + 1 < mx) : sr_Snd tab cc mx own mnm pc (mm_lst i (pc + 2)) :=
  sn_ls hi fun p l e R s m args below meth c Q H locs cells slots ls rest x lv hx hb hl k => lv_lstore hx hb hd hl hi rfl k
theorem sn_iinc {i : Nat} {q : Int} (hd : decode cc pc = .ok (.iinc i q, 3)) (hi : i < mx) (hq : mm_rg q) : sr_Snd tab cc mx own mnm pc (mm_iinc i q (pc + 3)) := by
  intro E d p l e R s m args below meth c Q n0 n1 H locs cells slots ls lv ll st n I L P pc' lv' ll' st' n' I' L' P' hC hnm hM hR h hn hn1 hb1 hb2 hb3 k
  unfold mm_iinc at h
  split at h
  · rename_i z hz
    simp only [Option.some.injEq, Sum.inl.injEq, Prod.mk.injEq] at h
    obtain ⟨rfl, rfl, rfl, rfl, rfl, rfl, rfl, rfl⟩ := h
    obtain ⟨h1, h2⟩ := hR.2.2.1.2.2.2.1 i _ hz rfl
    obtain ⟨kk, hkk⟩ := List.getElem?_of_mem (sr_all_mem h1)
    refine lv_iinc (x := Int32.ofInt z) (v := Int32.ofInt (mm_add z q)) hC.1 hC.2.1 hd (sr_all_has hR.2.2.1.1 hR.2.2.1.2.2.1) hkk (so_add z q).symm hi rfl fun ls' hl' => ?_
    exact k H locs cells slots ls' ⟨hR.1, hR.2.1, sr_L_set (v := .inl (mm_add z q)) hR.2.2.1 rfl (so_wr _) hl', hR.2.2.2⟩
  · cases h
/-- reckoning with two ints -/
theorem sn_bi {f : Int → Int → Int} {nx : Nat} (hf : ∀ x y, mm_rg x → mm_rg y → mm_rg (f x y)) (hk : ∀ (p : Program) (l : Launch) (e : Env) (R : Room) (s : State) (m : MethodId) (args : Array Value) (below : List Frame) (meth : Method) (c : Code) (Q : State → Prop) (H : Heap) (locs : List Loc) (cells slots : Nat) (ls : Array Slot) (rest : List Value) (x y : Int), p.tables.exec = Jvm.exec → c.code = cc → mm_rg x → mm_rg y → W p l e R s m args below meth c H locs cells slots Q (F0 m nx ls (.int (Int32.ofInt (f x y)) :: rest)) → W p l e R s m args below meth c H locs cells slots Q (F0 m pc ls (.int (Int32.ofInt y) :: .int (Int32.ofInt x) :: rest))) : sr_Snd tab cc mx own mnm pc (mm_bi f nx) := by
  intro E d p l e R s m args below meth c Q n0 n1 H locs cells slots ls lv ll st n I L P pc' lv' ll' st' n' I' L' P' hC hnm hM hR h hn hn1 hb1 hb2 hb3 k
  unfold mm_bi at h
  split at h
  · rename_i y x r
    simp only [Option.some.injEq, Sum.inl.injEq, Prod.mk.injEq] at h
    obtain ⟨rfl, rfl, rfl, rfl, rfl, rfl, rfl, rfl⟩ := h
    have hy : mm_rg y := hR.hd
    have hx : mm_rg x := hR.tl _ List.mem_cons_self
    refine hk p l e R s m args below meth c Q H locs cells slots ls _ x y hC.1 hC.2.1 hx hy ?_
    exact k H locs cells slots ls (hR.st (sr_cons (hf x y hx hy) (fun u hu => hR.tl u (List.mem_cons_of_mem _ hu))))
  · cases h
theorem sn_iadd (hd : decode cc pc = .ok (.iadd, 1)) : sr_Snd tab cc mx own mnm pc (mm_bi mm_add (pc + 1)) :=
  sn_bi (fun x y _ _ => so_wr _) fun p l e R s m args below meth c Q H locs cells slots ls rest x y hx hb _ _ k => lv_iadd hx hb hd (by rw [← so_add]; exact k)
theorem sn_isub (hd : decode cc pc = .ok (.isub, 1)) : sr_Snd tab cc mx own mnm pc (mm_bi mm_sub (pc + 1)) :=
  sn_bi (fun x y _ _ => so_wr _) fun p l e R s m args below meth c Q H locs cells slots ls rest x y hx hb _ _ k => lv_isub hx hb hd (by rw [← so_sub]; exact k)
theorem sn_imul (hd : decode cc pc = .ok (.imul, 1)) : sr_Snd tab cc mx own mnm pc (mm_bi mm_mul (pc + 1)) :=
  sn_bi (fun x y _ _ => so_wr _) fun p l e R s m args below meth c Q H locs cells slots ls rest x y hx hb _ _ k => lv_imul hx hb hd (by rw [← so_mul]; exact k)
theorem sn_iand (hd : decode cc pc = .ok (.iand, 1)) : sr_Snd tab cc mx own mnm pc (mm_bi mm_and (pc + 1)) :=
  sn_bi (fun x y _ _ => so_rt _) fun p l e R s m args below meth c Q H locs cells slots ls rest x y hx hb _ _ k => lv_iand hx hb hd (by unfold mm_and at k; rw [so_of] at k; exact k)
theorem sn_ior (hd : decode cc pc = .ok (.ior, 1)) : sr_Snd tab cc mx own mnm pc (mm_bi mm_or (pc + 1)) :=
  sn_bi (fun x y _ _ => so_rt _) fun p l e R s m args below meth c Q H locs cells slots ls rest x y hx hb _ _ k => lv_ior hx hb hd (by unfold mm_or at k; rw [so_of] at k; exact k)
theorem sn_ixor (hd : decode cc pc = .ok (.ixor, 1)) : sr_Snd tab cc mx own mnm pc (mm_bi mm_xor (pc + 1)) :=
  sn_bi (fun x y _ _ => so_rt _) fun p l e R s m args below meth c Q H locs cells slots ls rest x y hx hb _ _ k => lv_ixor hx hb hd (by unfold mm_xor at k; rw [so_of] at k; exact k)
theorem sn_ishl (hd : decode cc pc = .ok (.ishl, 1)) : sr_Snd tab cc mx own mnm pc (mm_bi mm_shl (pc + 1)) :=
  sn_bi (fun x y _ _ => so_rt _) fun p l e R s m args below meth c Q H locs cells slots ls rest x y hx hb _ _ k => lv_ishl hx hb hd (by unfold mm_shl at k; rw [so_of] at k; exact k)
theorem sn_ishr (hd : decode cc pc = .ok (.ishr, 1)) : sr_Snd tab cc mx own mnm pc (mm_bi mm_shr (pc + 1)) :=
  sn_bi (fun x y _ _ => so_rt _) fun p l e R s m args below meth c Q H locs cells slots ls rest x y hx hb _ _ k => lv_ishr hx hb hd (by unfold mm_shr at k; rw [so_of] at k; exact k)
theorem sn_iushr (hd : decode cc pc = .ok (.iushr, 1)) : sr_Snd tab cc mx own mnm pc (mm_bi mm_ushr (pc + 1)) :=
  sn_bi (fun x y _ _ => so_rt _) fun p l e R s m args below meth c Q H locs cells slots ls rest x y hx hb _ _ k => lv_iushr hx hb hd rfl (by unfold mm_ushr at k; rw [so_of] at k; exact k)
theorem sn_di {f : Int → Int → Int} {nx : Nat} (hk : ∀ (p : Program) (l : Launch) (e : Env) (R : Room) (s : State) (m : MethodId) (args : Array Value) (below : List Frame) (meth : Method) (c : Code) (Q : State → Prop) (H : Heap) (locs : List Loc) (cells slots : Nat) (ls : Array Slot) (rest : List Value) (x y : Int), p.tables.exec = Jvm.exec → c.code = cc → mm_rg x → mm_rg y → ¬ Int32.ofInt y = 0 → W p l e R s m args below meth c H locs cells slots Q (F0 m nx ls (.int (Int32.ofInt (mm_w (f x y))) :: rest)) → W p l e R s m args below meth c H locs cells slots Q (F0 m pc ls (.int (Int32.ofInt y) :: .int (Int32.ofInt x) :: rest))) : sr_Snd tab cc mx own mnm pc (mm_di f nx) := by
  intro E d p l e R s m args below meth c Q n0 n1 H locs cells slots ls lv ll st n I L P pc' lv' ll' st' n' I' L' P' hC hnm hM hR h hn hn1 hb1 hb2 hb3 k
  unfold mm_di at h
  split at h
  · rename_i y x r
    split at h
    · cases h
    · rename_i hy0
      simp only [Option.some.injEq, Sum.inl.injEq, Prod.mk.injEq] at h
      obtain ⟨rfl, rfl, rfl, rfl, rfl, rfl, rfl, rfl⟩ := h
      have hy : mm_rg y := hR.hd
      have hx : mm_rg x := hR.tl _ List.mem_cons_self
      refine hk p l e R s m args below meth c Q H locs cells slots ls _ x y hC.1 hC.2.1 hx hy (fun h0 => hy0 ((so_eq hy so_r0).mp h0)) ?_
      exact k H locs cells slots ls (hR.st (sr_cons (so_wr _) (fun u hu => hR.tl u (List.mem_cons_of_mem _ hu))))
  · cases h
theorem sn_idiv (hd : decode cc pc = .ok (.idiv, 1)) : sr_Snd tab cc mx own mnm pc (mm_di Int.tdiv (pc + 1)) :=
  sn_di fun p l e R s m args below meth c Q H locs cells slots ls rest x y hx hb hrx hry h0 k => lv_idiv hx hb hd h0 (by rw [← so_div hrx hry]; exact k)
theorem sn_irem (hd : decode cc pc = .ok (.irem, 1)) : sr_Snd tab cc mx own mnm pc (mm_di Int.tmod (pc + 1)) :=
  sn_di fun p l e R s m args below meth c Q H locs cells slots ls rest x y hx hb hrx hry h0 k => lv_irem hx hb hd h0 (by rw [← so_rem hrx hry]; exact k)
theorem sn_ineg (hd : decode cc pc = .ok (.ineg, 1)) : sr_Snd tab cc mx own mnm pc (mm_un mm_neg (pc + 1)) := by
  intro E d p l e R s m args below meth c Q n0 n1 H locs cells slots ls lv ll st n I L P pc' lv' ll' st' n' I' L' P' hC hnm hM hR h hn hn1 hb1 hb2 hb3 k
  unfold mm_un at h
  split at h
  · rename_i x r
    simp only [Option.some.injEq, Sum.inl.injEq, Prod.mk.injEq] at h
    obtain ⟨rfl, rfl, rfl, rfl, rfl, rfl, rfl, rfl⟩ := h
    have k2 := k H locs cells slots ls (hR.st (sr_cons (v := .inl (mm_neg x)) (so_wr _) hR.tl))
    refine lv_ineg (x := Int32.ofInt x) hC.1 hC.2.1 hd ?_
    rw [← so_neg]
    exact k2
  · cases h
/-- longs -/
theorem sn_bl {f : Int → Int → Int} {nx : Nat} (hf : ∀ x y, mm_rgl x → mm_rgl y → mm_rgl (f x y)) (hk : ∀ (p : Program) (l : Launch) (e : Env) (R : Room) (s : State) (m : MethodId) (args : Array Value) (below : List Frame) (meth : Method) (c : Code) (Q : State → Prop) (H : Heap) (locs : List Loc) (cells slots : Nat) (ls : Array Slot) (rest : List Value) (x y : Int), p.tables.exec = Jvm.exec → c.code = cc → W p l e R s m args below meth c H locs cells slots Q (F0 m nx ls (.long (Int64.ofInt (f x y)) :: rest)) → W p l e R s m args below meth c H locs cells slots Q (F0 m pc ls (.long (Int64.ofInt y) :: .long (Int64.ofInt x) :: rest))) : sr_Snd tab cc mx own mnm pc (mm_bl f nx) := by
  intro E d p l e R s m args below meth c Q n0 n1 H locs cells slots ls lv ll st n I L P pc' lv' ll' st' n' I' L' P' hC hnm hM hR h hn hn1 hb1 hb2 hb3 k
  unfold mm_bl at h
  split at h
  · rename_i y x r
    simp only [Option.some.injEq, Sum.inl.injEq, Prod.mk.injEq] at h
    obtain ⟨rfl, rfl, rfl, rfl, rfl, rfl, rfl, rfl⟩ := h
    have hy : mm_rgl y := hR.hd
    have hx : mm_rgl x := hR.tl _ List.mem_cons_self
    refine hk p l e R s m args below meth c Q H locs cells slots ls _ x y hC.1 hC.2.1 ?_
    exact k H locs cells slots ls (hR.st (sr_cons (v := .inr (.inl (f x y))) (hf x y hx hy) (fun u hu => hR.tl u (List.mem_cons_of_mem _ hu))))
  · cases h
theorem sn_ladd (hd : decode cc pc = .ok (.ladd, 1)) : sr_Snd tab cc mx own mnm pc (mm_bl mm_laddl (pc + 1)) :=
  sn_bl (fun x y _ _ => so_wrl _) fun p l e R s m args below meth c Q H locs cells slots ls rest x y hx hb k => lv_ladd hx hb hd (by rw [← so_laddl]; exact k)
theorem sn_lsub (hd : decode cc pc = .ok (.lsub, 1)) : sr_Snd tab cc mx own mnm pc (mm_bl mm_lsubl (pc + 1)) :=
  sn_bl (fun x y _ _ => so_wrl _) fun p l e R s m args below meth c Q H locs cells slots ls rest x y hx hb k => lv_lsub hx hb hd (by rw [← so_lsubl]; exact k)
theorem sn_lmul (hd : decode cc pc = .ok (.lmul, 1)) : sr_Snd tab cc mx own mnm pc (mm_bl mm_lmull (pc + 1)) :=
  sn_bl (fun x y _ _ => so_wrl _) fun p l e R s m args below meth c Q H locs cells slots ls rest x y hx hb k => lv_lmul hx hb hd (by rw [← so_lmull]; exact k)
theorem sn_land (hd : decode cc pc = .ok (.land, 1)) : sr_Snd tab cc mx own mnm pc (mm_bl mm_landl (pc + 1)) :=
  sn_bl (fun x y _ _ => so_rtl _) fun p l e R s m args below meth c Q H locs cells slots ls rest x y hx hb k => lv_land hx hb hd (by unfold mm_landl at k; rw [so_ofl] at k; exact k)
theorem sn_lor (hd : decode cc pc = .ok (.lor, 1)) : sr_Snd tab cc mx own mnm pc (mm_bl mm_lorl (pc + 1)) :=
  sn_bl (fun x y _ _ => so_rtl _) fun p l e R s m args below meth c Q H locs cells slots ls rest x y hx hb k => lv_lor hx hb hd (by unfold mm_lorl at k; rw [so_ofl] at k; exact k)
theorem so_r0l : mm_rgl 0 := by unfold mm_rgl; omega
theorem sn_dl {f : Int → Int → Int} {nx : Nat} (hk : ∀ (p : Program) (l : Launch) (e : Env) (R : Room) (s : State) (m : MethodId) (args : Array Value) (below : List Frame) (meth : Method) (c : Code) (Q : State → Prop) (H : Heap) (locs : List Loc) (cells slots : Nat) (ls : Array Slot) (rest : List Value) (x y : Int), p.tables.exec = Jvm.exec → c.code = cc → mm_rgl x → mm_rgl y → ¬ Int64.ofInt y = 0 → W p l e R s m args below meth c H locs cells slots Q (F0 m nx ls (.long (Int64.ofInt (mm_wl (f x y))) :: rest)) → W p l e R s m args below meth c H locs cells slots Q (F0 m pc ls (.long (Int64.ofInt y) :: .long (Int64.ofInt x) :: rest))) : sr_Snd tab cc mx own mnm pc (mm_dl f nx) := by
  intro E d p l e R s m args below meth c Q n0 n1 H locs cells slots ls lv ll st n I L P pc' lv' ll' st' n' I' L' P' hC hnm hM hR h hn hn1 hb1 hb2 hb3 k
  unfold mm_dl at h
  split at h
  · rename_i y x r
    split at h
    · cases h
    · rename_i hy0
      simp only [Option.some.injEq, Sum.inl.injEq, Prod.mk.injEq] at h
      obtain ⟨rfl, rfl, rfl, rfl, rfl, rfl, rfl, rfl⟩ := h
      have hy : mm_rgl y := hR.hd
      have hx : mm_rgl x := hR.tl _ List.mem_cons_self
      refine hk p l e R s m args below meth c Q H locs cells slots ls _ x y hC.1 hC.2.1 hx hy (fun h0 => hy0 ((so_eql hy so_r0l).mp h0)) ?_
      exact k H locs cells slots ls (hR.st (sr_cons (v := .inr (.inl _)) (so_wrl _) (fun u hu => hR.tl u (List.mem_cons_of_mem _ hu))))
  · cases h
theorem sn_ldiv (hd : decode cc pc = .ok (.ldiv, 1)) : sr_Snd tab cc mx own mnm pc (mm_dl Int.tdiv (pc + 1)) :=
  sn_dl fun p l e R s m args below meth c Q H locs cells slots ls rest x y hx hb hrx hry h0 k => lv_ldiv hx hb hd h0 (by rw [← so_ldiv hrx hry]; exact k)
theorem sn_lrem (hd : decode cc pc = .ok (.lrem, 1)) : sr_Snd tab cc mx own mnm pc (mm_dl Int.tmod (pc + 1)) :=
  sn_dl fun p l e R s m args below meth c Q H locs cells slots ls rest x y hx hb hrx hry h0 k => lv_lrem hx hb hd h0 (by rw [← so_lrem hrx hry]; exact k)
theorem sn_sl {f : Int → Int → Int} {nx : Nat} (hf : ∀ x y, mm_rgl (f x y)) (hk : ∀ (p : Program) (l : Launch) (e : Env) (R : Room) (s : State) (m : MethodId) (args : Array Value) (below : List Frame) (meth : Method) (c : Code) (Q : State → Prop) (H : Heap) (locs : List Loc) (cells slots : Nat) (ls : Array Slot) (rest : List Value) (x y : Int), p.tables.exec = Jvm.exec → c.code = cc → W p l e R s m args below meth c H locs cells slots Q (F0 m nx ls (.long (Int64.ofInt (f x y)) :: rest)) → W p l e R s m args below meth c H locs cells slots Q (F0 m pc ls (.int (Int32.ofInt y) :: .long (Int64.ofInt x) :: rest))) : sr_Snd tab cc mx own mnm pc (mm_sl f nx) := by
  intro E d p l e R s m args below meth c Q n0 n1 H locs cells slots ls lv ll st n I L P pc' lv' ll' st' n' I' L' P' hC hnm hM hR h hn hn1 hb1 hb2 hb3 k
  unfold mm_sl at h
  split at h
  · rename_i y x r
    simp only [Option.some.injEq, Sum.inl.injEq, Prod.mk.injEq] at h
    obtain ⟨rfl, rfl, rfl, rfl, rfl, rfl, rfl, rfl⟩ := h
    refine hk p l e R s m args below meth c Q H locs cells slots ls _ x y hC.1 hC.2.1 ?_
    exact k H locs cells slots ls (hR.st (sr_cons (v := .inr (.inl (f x y))) (hf x y) (fun u hu => hR.tl u (List.mem_cons_of_mem _ hu))))
  · cases h
theorem sn_lushr (hd : decode cc pc = .ok (.lushr, 1)) : sr_Snd tab cc mx own mnm pc (mm_sl mm_lushr (pc + 1)) :=
  sn_sl (fun x y => so_rtl _) fun p l e R s m args below meth c Q H locs cells slots ls rest x y hx hb k => lv_lushr hx hb hd rfl (by unfold mm_lushr at k; rw [so_ofl] at k; exact k)
theorem sn_lshl (hd : decode cc pc = .ok (.lshl, 1)) : sr_Snd tab cc mx own mnm pc (mm_sl mm_lshl (pc + 1)) :=
  sn_sl (fun x y => so_rtl _) fun p l e R s m args below meth c Q H locs cells slots ls rest x y hx hb k => lv_lshl hx hb hd rfl (by unfold mm_lshl at k; rw [so_ofl] at k; exact k)
theorem sn_lcmp (hd : decode cc pc = .ok (.lcmp, 1)) : sr_Snd tab cc mx own mnm pc (mm_lcmp (pc + 1)) := by
  intro E d p l e R s m args below meth c Q n0 n1 H locs cells slots ls lv ll st n I L P pc' lv' ll' st' n' I' L' P' hC hnm hM hR h hn hn1 hb1 hb2 hb3 k
  unfold mm_lcmp at h
  split at h
  · rename_i y x r
    simp only [Option.some.injEq, Sum.inl.injEq, Prod.mk.injEq] at h
    obtain ⟨rfl, rfl, rfl, rfl, rfl, rfl, rfl, rfl⟩ := h
    have hy : mm_rgl y := hR.hd
    have hx : mm_rgl x := hR.tl _ List.mem_cons_self
    have k2 := k H locs cells slots ls (hR.st (sr_cons (v := .inl (if x < y then -1 else if x = y then 0 else 1)) (by show mm_rg _; unfold mm_rg; split <;> (try split) <;> omega) (fun u hu => hR.tl u (List.mem_cons_of_mem _ hu))))
    refine W.lcmp (x := Int64.ofInt x) (y := Int64.ofInt y) hC.1 hC.2.1 hd ?_
    have e1 : lg_cmp (Int64.ofInt x) (Int64.ofInt y) = Int32.ofInt (if x < y then -1 else if x = y then 0 else 1) := by
      unfold lg_cmp
      have a1 : (Int64.ofInt x > Int64.ofInt y) ↔ y < x := so_ltl hy hx
      have a2 : (Int64.ofInt x = Int64.ofInt y) ↔ x = y := so_eql hx hy
      by_cases h1 : x < y
      · rw [if_neg (fun h => absurd (a1.mp h) (by omega)), if_neg (fun h => absurd (a2.mp h) (by omega)), if_pos h1]
        rfl
      · by_cases h2 : x = y
        · rw [if_neg (fun h => absurd (a1.mp h) (by omega)), if_pos (a2.mpr h2), if_neg h1, if_pos h2]
          rfl
        · rw [if_pos (a1.mpr (by omega)), if_neg h1, if_neg h2]
          rfl
    rw [e1]
    exact k2
  · cases h
theorem sn_i2l (hd : decode cc pc = .ok (.i2l, 1)) : sr_Snd tab cc mx own mnm pc (mm_i2l (pc + 1)) := by
  intro E d p l e R s m args below meth c Q n0 n1 H locs cells slots ls lv ll st n I L P pc' lv' ll' st' n' I' L' P' hC hnm hM hR h hn hn1 hb1 hb2 hb3 k
  unfold mm_i2l at h
  split at h
  · rename_i x r
    simp only [Option.some.injEq, Sum.inl.injEq, Prod.mk.injEq] at h
    obtain ⟨rfl, rfl, rfl, rfl, rfl, rfl, rfl, rfl⟩ := h
    have hx : mm_rg x := hR.hd
    have hxl : mm_rgl x := by unfold mm_rg at hx; unfold mm_rgl; omega
    exact lv_i2l (x := Int32.ofInt x) hC.1 hC.2.1 hd (so_i2l hx) (k H locs cells slots ls (hR.st (sr_cons (v := .inr (.inl x)) hxl hR.tl)))
  · cases h
theorem sn_l2i (hd : decode cc pc = .ok (.l2i, 1)) : sr_Snd tab cc mx own mnm pc (mm_l2i (pc + 1)) := by
  intro E d p l e R s m args below meth c Q n0 n1 H locs cells slots ls lv ll st n I L P pc' lv' ll' st' n' I' L' P' hC hnm hM hR h hn hn1 hb1 hb2 hb3 k
  unfold mm_l2i at h
  split at h
  · rename_i x r
    simp only [Option.some.injEq, Sum.inl.injEq, Prod.mk.injEq] at h
    obtain ⟨rfl, rfl, rfl, rfl, rfl, rfl, rfl, rfl⟩ := h
    exact lv_l2i (x := Int64.ofInt x) hC.1 hC.2.1 hd (so_l2i x) (k H locs cells slots ls (hR.st (sr_cons (v := .inl (mm_w x)) (so_wr x) hR.tl)))
  · cases h
end SN2
