/-! calls -/
theorem mm_ret_inv {lv lv' : List mm_V} {ll ll' : List (Option Int)} {r st' : List mm_V} {nx pc' n' : Nat} {b : Bool} {o : Option mm_A} {I' L' : mm_I} {P' : mm_P} (h : mm_ret lv ll r nx b o = some (.inl (pc', lv', ll', st', n', I', L', P'))) : ∃ ov : Option mm_V, o = some (ov, n', I', L', P') ∧ pc' = nx ∧ lv' = lv ∧ ll' = ll ∧ st' = ov.toList ++ r := by
  unfold mm_ret at h
  split at h
  · simp only [Option.some.injEq, Sum.inl.injEq, Prod.mk.injEq] at h
    obtain ⟨rfl, rfl, rfl, rfl, rfl, rfl, rfl, rfl⟩ := h
    exact ⟨_, rfl, rfl, rfl, rfl, rfl⟩
  · simp only [Option.some.injEq, Sum.inl.injEq, Prod.mk.injEq] at h
    obtain ⟨rfl, rfl, rfl, rfl, rfl, rfl, rfl, rfl⟩ := h
    exact ⟨_, rfl, rfl, rfl, rfl, rfl⟩
  · cases h
theorem sr_K.warm {E : sr_E} {s U : State} (hW : s.WarmedH U.vm) (h : sr_K E s) : sr_K E U := by
  obtain ⟨h1, h2, h3, h4⟩ := h
  refine ⟨va_K.moved hW.alike h1, fun w hw => ?_, va_AO.moved hW.alike h3, va_AO.moved hW.alike h4⟩
  have h5 := h2 w hw
  have h6 := (List.mem_filter.mp hw).2
  unfold sr_isN at h6
  split at h6
  · exact va_Nw.warmM hW h5
  · exact va_Nw.warmD hW h5
  · exact va_Nw.warmC hW h5
  · cases h6
theorem sr_Z.warm {E : sr_E} {s U : State} {H H1 : Heap} (hW : s.WarmedH U.vm) (hk : ∀ a : Nat, a < H.size → ¬ sr_A E a → H1[a]? = H[a]?) (h : sr_Z E s H) : sr_Z E U H1 := by
  obtain ⟨h1, h2, h3, h4, h5, h6, h7, h8, h9, h10, h11, h12⟩ := h
  refine ⟨fun k hk4 => ⟨va_Z.moved hW.alike ((h1 k hk4).1.kept hk), va_T.moved hW.alike ((h1 k hk4).2.kept hk)⟩, va_X.moved hW.alike (h2.kept ?_), h3, h4, h5.warm hW, h6.warm hW, h7.warm hW, vk_S.moved hW.alike (h8.kept hk), va_Z.moved hW.alike (h9.kept hk), va_Zq.moved hW.alike (h10.kept hk), vx_Zq.moved hW.alike (h11.kept hk), vx_Zq.moved hW.alike (h12.kept hk)⟩
  obtain ⟨scr, g1, -⟩ := h2
  exact hk _ (Array.getElem?_eq_some_iff.mp g1).1 (Nat.not_le.mpr h3)
theorem sr_goodT : GoodIn sr_T sr_T := fun w hw => ⟨hw, good_of_word (List.mem_filter.mp hw).2⟩
theorem sr_goodC {w : Cond} (h : w ∈ sr_T) : GoodIn sr_T (w :: sr_T) := fun u hu => (List.mem_cons.mp hu).elim (fun e => by rw [e]; exact sr_goodT w h) (sr_goodT u)
theorem sr_blind {E : sr_E} {args : List mm_V} {n : Nat} {I L : mm_I} {P : mm_P} : FrameBlind (sr_P E args n I L P) := by
  intro a U g mk h
  obtain ⟨h1, h2, h3, h4, h5, h6⟩ := h
  have hW : U.WarmedH (U.calling g mk a).vm := State.WarmedH.refl U
  exact ⟨h1, h2.warm hW, h3.warm hW (fun _ _ _ => rfl), h4, h5, h6⟩
section SN7
variable {tab : sr_Tab} {cc : ByteArray} {mx : Nat} {own mnm : String} {pc : Nat}
/-- what is so at a call -/
theorem sr_pre {E : sr_E} {d : Nat} {p : Program} {l : Launch} {e : Env} {R : Room} {s : State} {m : MethodId} {args : Array Value} {below : List Frame} {meth : Method} {c : Code} {T : State} {n0 : Nat} {H : Heap} {locs : List Loc} {cells slots : Nat} {ls : Array Slot} {lv : List mm_V} {ll : List (Option Int)} {st : List mm_V} {n : Nat} {I L : mm_I} {P : mm_P} {av : List mm_V}
    (hC : sr_C E d cc mx own p R s m args c) (hR : sr_R E mx n0 s H locs cells slots ls lv ll st n I L P) (X : Stand p l e R s m args below meth c T locs cells slots) (hT : T.heap = H) : ∀ U : State, U.heap = H → s.WarmedH U.vm → sr_P E av n I L P (av.map (sr_v E)).toArray U := by
  intro U hU hW
  refine ⟨rfl, hC.2.2.2.2.2.1.warm hW, ?_, ?_, ?_, fun hn => ?_⟩
  · rw [hU]
    exact hC.2.2.2.2.2.2.1.warm hW hR.2.1.2.1
  · rw [hU]; exact hR.1
  · rw [hU]; exact Nat.le_trans hC.2.2.2.2.2.2.2.1 hR.2.1.1
  · rw [hU]; exact sr_size hR X hT hn
/-- a call by its run -/
theorem sr_call {E : sr_E} {p : Program} {l : Launch} {e : Env} {R : Room} {s : State} {m : MethodId} {args : Array Value} {below : List Frame} {meth : Method} {c : Code} {Q : State → Prop} {n0 : Nat} {H : Heap} {locs : List Loc} {cells slots mc ms : Nat} {ls : Array Slot} {lv : List mm_V} {ll : List (Option Int)} {st r : List mm_V} {n n' : Nat} {I L I' L' : mm_I} {P P' : mm_P} {ov : Option mm_V} {a : Array Value}
    (hR : sr_R E mx n0 s H locs cells slots ls lv ll st n I L P) (hmc : mc + n = n') (hms : ms + sr_sl n = sr_sl n') (hr : ∀ v ∈ r, sr_vr v)
    (run : va_Run p l e R s m args below meth c H locs cells slots mc ms (F0 m pc ls (st.map (sr_v E))) (r.map (sr_v E)) (sr_Q E (ov, n', I', L', P') a) (sr_A E))
    (k : ∀ (H' : Heap) (locs' : List Loc) (cells' slots' : Nat) (ls' : Array Slot), sr_R E mx n0 s H' locs' cells' slots' ls' lv ll (ov.toList ++ r) n' I' L' P' → W p l e R s m args below meth c H' locs' cells' slots' Q (F0 m (pc + 3) ls' ((ov.toList ++ r).map (sr_v E)))) : W p l e R s m args below meth c H locs cells slots Q (F0 m pc ls (st.map (sr_v E))) := by
  intro T hT X
  obtain ⟨v, st₀, t, T', L1, h0, X', hL, e1, e2, ⟨hv, hH', hF, hvr⟩, go⟩ := run T hT X
  have hv2 : v = ov.map (sr_v E) := Outcome.returned.inj hv
  obtain ⟨hz, hkp⟩ := hF
  rw [h0] at hz hkp
  have hS := hR.2.1
  have hR' : sr_R E mx n0 s T'.heap (locs ++ L1) (cells + mc) (slots + ms) ls lv ll (ov.toList ++ r) n' I' L' P' := by
    refine ⟨by rw [e1]; exact hH', ⟨Nat.le_trans hS.1 (by rw [e1]; exact hz), fun q h1 h2 => ?_, fun q hq => ?_⟩, hR.2.2.1, fun u hu => ?_, by have := hR.2.2.2.2.1; omega, by have := hR.2.2.2.2.2.1; omega, hR.2.2.2.2.2.2⟩
    · rw [e1, hkp q (Nat.lt_of_lt_of_le h1 hS.1) h2]
      exact hS.2.1 q h1 h2
    · rcases List.mem_append.mp hq with h | h
      · exact hS.2.2 q h
      · exact hL q h
    · rcases List.mem_append.mp hu with h | h
      · exact hvr u (Option.mem_toList.mp h)
      · exact hr u h
  obtain ⟨t2, a1, b1⟩ := k T'.heap (locs ++ L1) (cells + mc) (slots + ms) ls hR' T' rfl X'
  refine ⟨t2, go t2 ?_, b1⟩
  have e3 : (ov.toList ++ r).map (sr_v E) = v.toList ++ r.map (sr_v E) := by
    rw [hv2, List.map_append]
    cases ov <;> rfl
  rw [e3] at a1
  exact a1
set_option maxRecDepth 100000 in
theorem sr_rmR {d mc ms mx' : Nat} {R : Room} (h1 : d + 9 ≤ R.frames) (h2 : 60 * (d + 9) ≤ R.locals) (hm : mx' ≤ 41) : (sr_rm d mc ms).frames + 1 ≤ R.frames ∧ 8 + (mx' + 11) + (sr_rm d mc ms).locals ≤ R.locals := by
  unfold sr_rm
  dsimp only
  exact ⟨by omega, by omega⟩
theorem sr_take {st : List mm_V} {na : Nat} {x : mm_V} {r : List mm_V} (h : st.drop na = x :: r) : st = st.take na ++ x :: r := by rw [← h, List.take_append_drop]
theorem sn_cV {y ci na idx mx' : Nat} {rb : Bool} {yn : MethodName} {cb : ByteArray} {rt : Option FieldType} {C : String} {T : u_T} {N : Nat} {ty0 : Nat → FieldType} (hd : decode cc pc = .ok (.invokevirtual idx, 3)) (ht : tab y = some (yn, .code yn cb mx' rt)) (hc : sr_cok ci C T N ty0) (hm : mx' ≤ 41)
    (hy : yn.cls = C ∧ yn.cls ≠ "java/lang/invoke/MethodHandle" ∧ yn.cls ≠ "java/lang/invoke/VarHandle" ∧ (parseMethodDescriptor yn.desc).map (fun d => d.parameters.length) = some na)
    (w1 : Cond.methodLink own idx yn ∈ sr_T) (w2 : Cond.instanceMethod yn ∈ sr_T) (w3 : Cond.selects C yn yn ∈ sr_T) (w4 : Cond.initialized C ∈ sr_T) (w5 : Cond.code yn cb mx' rt ∈ sr_T) : sr_Snd tab cc mx own mnm pc (mm_cV y ci na rb (pc + 3)) := by
  intro E d p l e R s m args below meth c Q n0 n1 H locs cells slots ls lv ll st n I L P pc' lv' ll' st' n' I' L' P' hC hnm hM hR h hn hn1 hb1 hb2 hb3 k2
  unfold mm_cV at h
  split at h
  · rename_i a r hdrop
    split at h
    · rename_i hq
      obtain ⟨q1, q2, q3, q4⟩ := hq
      obtain ⟨ov, ho, rfl, rfl, rfl, rfl⟩ := mm_ret_inv h
      have hts := hC.2.2.2.2.1
      have hst := sr_take hdrop
      have hall : ∀ v ∈ st.take na, sr_vr v := fun v hv => hR.2.2.2.1 v (List.mem_of_mem_take hv)
      have hr : ∀ v ∈ r, sr_vr v := fun v hv => hR.2.2.2.1 v (by rw [hst]; simp [hv])
      have hmsl : sr_sl n ≤ sr_sl n' := sr_sl_mono hn
      obtain ⟨mc, hmc⟩ : ∃ mc, mc + n = n' := ⟨n' - n, by omega⟩
      obtain ⟨ms, hms⟩ : ∃ ms, ms + sr_sl n = sr_sl n' := ⟨sr_sl n' - sr_sl n, by omega⟩
      have hMet := hM y yn _ ht _ n I L P _ ho hn mc ms hmc hms (by show n' < _; omega) (fun v hv => (List.mem_cons.mp hv).elim (fun e => by rw [e]; trivial) (fun h => hall v (List.mem_reverse.mp h)))
      have he := sr_cell hR q1 q2 (by have := hc.2.1; omega)
      rw [sr_c_o q2 hc.2.1] at he
      have hrcv := va_recv hC.2.2.2.2.2.1.1 hR.1.1 hc.1 he
      have hcB : CallB R s args own idx yn cb mx' rt (Cond.code yn cb mx' rt :: sr_T) (sr_rm d mc ms) mc ms na := callB_of na hts (sr_goodC w5) rfl rfl rfl (by rw [hy.1]; exact hts _ w4) (hts _ w1) hy.2 (sr_rmR hC.2.2.2.2.2.2.2.2.1 hC.2.2.2.2.2.2.2.2.2 hm)
      have hcells : cells + n0 = n := hR.2.2.2.2.1
      have hslots : slots + sr_sl n0 = sr_sl n := hR.2.2.2.2.2.1
      have hsl1 : sr_sl n' ≤ sr_sl n1 := sr_sl_mono hn1
      intro T0 hT X
      suffices K : W p l e R s m args below meth c H locs cells slots Q (F0 m pc ls (st.map (sr_v E))) from K T0 hT X
      refine sr_call hR hmc hms hr (va_runV (As := ((st.take na).reverse).map (sr_v E)) (rest := r.map (sr_v E)) (b := sr_a E a) ⟨hC.1, hC.2.1, hC.2.2.1, hC.2.2.2.1, hts⟩ hMet ⟨hcB, hts _ w2, hts _ w3⟩ ⟨sr_blind, hrcv, sr_pre hC hR X hT⟩ rfl ?_ hR.2.2.1.1 ?_ (lv_room (by rw [sr_cats]; exact q3)) hd ⟨by omega, by omega⟩) k2
      · rw [List.length_map, List.length_reverse, List.length_take, Nat.min_eq_left q4]
      · show st.map (sr_v E) = _
        rw [List.map_reverse, List.reverse_reverse]
        conv => lhs; rw [hst]
        rw [List.map_append]
        rfl
    · cases h
  · cases h
theorem sn_cW {y na idx mx' : Nat} {yn : MethodName} {cb : ByteArray} {rt : Option FieldType} (hd : decode cc pc = .ok (.invokevirtual idx, 3)) (ht : tab y = some (yn, .code yn cb mx' rt)) (hm : mx' ≤ 41)
    (hy : yn.cls = "java/lang/String" ∧ yn.cls ≠ "java/lang/invoke/MethodHandle" ∧ yn.cls ≠ "java/lang/invoke/VarHandle" ∧ (parseMethodDescriptor yn.desc).map (fun d => d.parameters.length) = some na)
    (w1 : Cond.methodLink own idx yn ∈ sr_T) (w2 : Cond.instanceMethod yn ∈ sr_T) (w3 : Cond.selects "java/lang/String" yn yn ∈ sr_T) (w4 : Cond.initialized "java/lang/String" ∈ sr_T) (w5 : Cond.code yn cb mx' rt ∈ sr_T) : sr_Snd tab cc mx own mnm pc (mm_cW y na (pc + 3)) := by
  intro E d p l e R s m args below meth c Q n0 n1 H locs cells slots ls lv ll st n I L P pc' lv' ll' st' n' I' L' P' hC hnm hM hR h hn hn1 hb1 hb2 hb3 k2
  unfold mm_cW at h
  split at h
  · rename_i a r hdrop
    split at h
    · rename_i hq
      obtain ⟨q1, q3, q4⟩ := hq
      obtain ⟨ov, ho, rfl, rfl, rfl, rfl⟩ := mm_ret_inv h
      have hts := hC.2.2.2.2.1
      have hst := sr_take hdrop
      have hall : ∀ v ∈ st.take na, sr_vr v := fun v hv => hR.2.2.2.1 v (List.mem_of_mem_take hv)
      have hr : ∀ v ∈ r, sr_vr v := fun v hv => hR.2.2.2.1 v (by rw [hst]; simp [hv])
      have hmsl : sr_sl n ≤ sr_sl n' := sr_sl_mono hn
      obtain ⟨mc, hmc⟩ : ∃ mc, mc + n = n' := ⟨n' - n, by omega⟩
      obtain ⟨ms, hms⟩ : ∃ ms, ms + sr_sl n = sr_sl n' := ⟨sr_sl n' - sr_sl n, by omega⟩
      have hMet := hM y yn _ ht _ n I L P _ ho hn mc ms hmc hms (by show n' < _; omega) (fun v hv => (List.mem_cons.mp hv).elim (fun e => by rw [e]; trivial) (fun h => hall v (List.mem_reverse.mp h)))
      have hrcv : ∃ cell : Cell, H[sr_a E a]? = some cell ∧ cell.vm.isStatics = false ∧ s.vm.findClass "java/lang/String" = some cell.cls := by
        have hvS := hC.2.2.2.2.2.2.1.2.2.2.2.2.2.2.1
        rcases q1 with rfl | rfl
        · exact vk_recv (i := 0) hvS (by decide) hR.2.1
        · exact vk_recv (i := 1) hvS (by decide) hR.2.1
      have hcB : CallB R s args own idx yn cb mx' rt (Cond.code yn cb mx' rt :: sr_T) (sr_rm d mc ms) mc ms na := callB_of na hts (sr_goodC w5) rfl rfl rfl (by rw [hy.1]; exact hts _ w4) (hts _ w1) hy.2 (sr_rmR hC.2.2.2.2.2.2.2.2.1 hC.2.2.2.2.2.2.2.2.2 hm)
      have hcells : cells + n0 = n := hR.2.2.2.2.1
      have hslots : slots + sr_sl n0 = sr_sl n := hR.2.2.2.2.2.1
      have hsl1 : sr_sl n' ≤ sr_sl n1 := sr_sl_mono hn1
      intro T0 hT X
      suffices K : W p l e R s m args below meth c H locs cells slots Q (F0 m pc ls (st.map (sr_v E))) from K T0 hT X
      refine sr_call hR hmc hms hr (va_runV (C := "java/lang/String") (As := ((st.take na).reverse).map (sr_v E)) (rest := r.map (sr_v E)) (b := sr_a E a) ⟨hC.1, hC.2.1, hC.2.2.1, hC.2.2.2.1, hts⟩ hMet ⟨hcB, hts _ w2, hts _ w3⟩ ⟨sr_blind, hrcv, sr_pre hC hR X hT⟩ rfl ?_ hR.2.2.1.1 ?_ (lv_room (by rw [sr_cats]; exact q3)) hd ⟨by omega, by omega⟩) k2
      · rw [List.length_map, List.length_reverse, List.length_take, Nat.min_eq_left q4]
      · show st.map (sr_v E) = _
        rw [List.map_reverse, List.reverse_reverse]
        conv => lhs; rw [hst]
        rw [List.map_append]
        rfl
    · cases h
  · cases h
theorem sn_cS {y na idx mx' : Nat} {rb : Bool} {yn : MethodName} {cb : ByteArray} {rt : Option FieldType} (hd : decode cc pc = .ok (.invokestatic idx, 3)) (ht : tab y = some (yn, .code yn cb mx' rt)) (hm : mx' ≤ 41)
    (hy : yn.cls ≠ "java/lang/invoke/MethodHandle" ∧ yn.cls ≠ "java/lang/invoke/VarHandle" ∧ (parseMethodDescriptor yn.desc).map (fun d => d.parameters.length) = some na)
    (w1 : Cond.methodLink own idx yn ∈ sr_T) (w2 : Cond.static yn ∈ sr_T) (w4 : Cond.initialized yn.cls ∈ sr_T) (w5 : Cond.code yn cb mx' rt ∈ sr_T) : sr_Snd tab cc mx own mnm pc (mm_cS y na rb (pc + 3)) := by
  intro E d p l e R s m args below meth c Q n0 n1 H locs cells slots ls lv ll st n I L P pc' lv' ll' st' n' I' L' P' hC hnm hM hR h hn hn1 hb1 hb2 hb3 k2
  unfold mm_cS at h
  split at h
  · rename_i hq
    obtain ⟨q3, q4⟩ := hq
    obtain ⟨ov, ho, rfl, rfl, rfl, rfl⟩ := mm_ret_inv h
    have hts := hC.2.2.2.2.1
    have hall : ∀ v ∈ st.take na, sr_vr v := fun v hv => hR.2.2.2.1 v (List.mem_of_mem_take hv)
    have hr : ∀ v ∈ st.drop na, sr_vr v := fun v hv => hR.2.2.2.1 v (List.mem_of_mem_drop hv)
    have hmsl : sr_sl n ≤ sr_sl n' := sr_sl_mono hn
    obtain ⟨mc, hmc⟩ : ∃ mc, mc + n = n' := ⟨n' - n, by omega⟩
    obtain ⟨ms, hms⟩ : ∃ ms, ms + sr_sl n = sr_sl n' := ⟨sr_sl n' - sr_sl n, by omega⟩
    have hMet := hM y yn _ ht _ n I L P _ ho hn mc ms hmc hms (by show n' < _; omega) (fun v hv => hall v (List.mem_reverse.mp hv))
    have hcB : CallB R s args own idx yn cb mx' rt (Cond.code yn cb mx' rt :: sr_T) (sr_rm d mc ms) mc ms na := callB_of na hts (sr_goodC w5) rfl rfl rfl (hts _ w4) (hts _ w1) hy (sr_rmR hC.2.2.2.2.2.2.2.2.1 hC.2.2.2.2.2.2.2.2.2 hm)
    have hcells : cells + n0 = n := hR.2.2.2.2.1
    have hslots : slots + sr_sl n0 = sr_sl n := hR.2.2.2.2.2.1
    have hsl1 : sr_sl n' ≤ sr_sl n1 := sr_sl_mono hn1
    intro T0 hT X
    suffices K : W p l e R s m args below meth c H locs cells slots Q (F0 m pc ls (st.map (sr_v E))) from K T0 hT X
    refine sr_call hR hmc hms hr (va_runS (As := ((st.take na).reverse).map (sr_v E)) (rest := (st.drop na).map (sr_v E)) ⟨hC.1, hC.2.1, hC.2.2.1, hC.2.2.2.1, hts⟩ hMet ⟨hcB, hts _ w2⟩ ⟨sr_blind, sr_pre hC hR X hT⟩ rfl ?_ hR.2.2.1.1 ?_ (lv_room (by rw [sr_cats]; exact q3)) hd ⟨by omega, by omega⟩) k2
    · rw [List.length_map, List.length_reverse, List.length_take, Nat.min_eq_left q4]
    · show st.map (sr_v E) = _
      rw [List.map_reverse, List.reverse_reverse, ← List.map_append, List.take_append_drop]
  · cases h
theorem sn_cSW {y na idx mx' : Nat} {rb : Bool} {yn : MethodName} {cb : ByteArray} {rt : Option FieldType} {hh : List (Nat × Nat × Nat × Nat)} (hd : decode cc pc = .ok (.invokestatic idx, 3)) (ht : tab y = some (yn, .codeWith yn cb mx' rt hh)) (hm : mx' ≤ 41)
    (hy : yn.cls ≠ "java/lang/invoke/MethodHandle" ∧ yn.cls ≠ "java/lang/invoke/VarHandle" ∧ (parseMethodDescriptor yn.desc).map (fun d => d.parameters.length) = some na)
    (w1 : Cond.methodLink own idx yn ∈ sr_T) (w2 : Cond.static yn ∈ sr_T) (w4 : Cond.initialized yn.cls ∈ sr_T) (w5 : Cond.codeWith yn cb mx' rt hh ∈ sr_T) : sr_Snd tab cc mx own mnm pc (mm_cS y na rb (pc + 3)) := by
  intro E d p l e R s m args below meth c Q n0 n1 H locs cells slots ls lv ll st n I L P pc' lv' ll' st' n' I' L' P' hC hnm hM hR h hn hn1 hb1 hb2 hb3 k2
  unfold mm_cS at h
  split at h
  · rename_i hq
    obtain ⟨q3, q4⟩ := hq
    obtain ⟨ov, ho, rfl, rfl, rfl, rfl⟩ := mm_ret_inv h
    have hts := hC.2.2.2.2.1
    have hall : ∀ v ∈ st.take na, sr_vr v := fun v hv => hR.2.2.2.1 v (List.mem_of_mem_take hv)
    have hr : ∀ v ∈ st.drop na, sr_vr v := fun v hv => hR.2.2.2.1 v (List.mem_of_mem_drop hv)
    have hmsl : sr_sl n ≤ sr_sl n' := sr_sl_mono hn
    obtain ⟨mc, hmc⟩ : ∃ mc, mc + n = n' := ⟨n' - n, by omega⟩
    obtain ⟨ms, hms⟩ : ∃ ms, ms + sr_sl n = sr_sl n' := ⟨sr_sl n' - sr_sl n, by omega⟩
    have hMet := hM y yn _ ht _ n I L P _ ho hn mc ms hmc hms (by show n' < _; omega) (fun v hv => hall v (List.mem_reverse.mp hv))
    have hcW : vx_CSW R s args own idx yn cb mx' rt hh (Cond.codeWith yn cb mx' rt hh :: sr_T) (sr_rm d mc ms) mc ms na := by
      obtain ⟨r1, r2⟩ := sr_rmR (mc := mc) (ms := ms) hC.2.2.2.2.2.2.2.2.1 hC.2.2.2.2.2.2.2.2.2 hm
      refine ⟨⟨rfl, rfl, r1, r2, pay_in hts (sr_goodC w5), List.mem_cons_self⟩, hts _ w5, hts _ w4, ⟨hy.1, hy.2.1⟩, fun sig h => ?_, hts _ w1, hts _ w2⟩
      have h2 := hy.2.2
      rw [h] at h2
      exact (Option.some.inj h2).symm
    have hcells : cells + n0 = n := hR.2.2.2.2.1
    have hslots : slots + sr_sl n0 = sr_sl n := hR.2.2.2.2.2.1
    have hsl1 : sr_sl n' ≤ sr_sl n1 := sr_sl_mono hn1
    intro T0 hT X
    suffices K : W p l e R s m args below meth c H locs cells slots Q (F0 m pc ls (st.map (sr_v E))) from K T0 hT X
    refine sr_call hR hmc hms hr (vx_runSW (As := ((st.take na).reverse).map (sr_v E)) (rest := (st.drop na).map (sr_v E)) ⟨hC.1, hC.2.1, hC.2.2.1, hC.2.2.2.1, hts⟩ hMet hcW ⟨sr_blind, sr_pre hC hR X hT⟩ rfl ?_ hR.2.2.1.1 ?_ (lv_room (by rw [sr_cats]; exact q3)) hd ⟨by omega, by omega⟩) k2
    · rw [List.length_map, List.length_reverse, List.length_take, Nat.min_eq_left q4]
    · show st.map (sr_v E) = _
      rw [List.map_reverse, List.reverse_reverse, ← List.map_append, List.take_append_drop]
  · cases h
theorem sn_cI {y na idx mx' : Nat} {yn : MethodName} {cb : ByteArray} {host : String} (hd : decode cc pc = .ok (.invokespecial idx, 3)) (ht : tab y = some (yn, .code yn cb mx' none)) (hm : mx' ≤ 41) (hi : yn.name = "<init>")
    (hy : yn.cls ≠ "java/lang/invoke/MethodHandle" ∧ yn.cls ≠ "java/lang/invoke/VarHandle" ∧ (parseMethodDescriptor yn.desc).map (fun d => d.parameters.length) = some na)
    (w1 : Cond.methodLink own idx yn ∈ sr_T ∨ Cond.methodLinkNest own idx yn host ∈ sr_N) (w2 : Cond.instanceMethod yn ∈ sr_T) (w4 : Cond.initialized yn.cls ∈ sr_T) (w5 : Cond.code yn cb mx' none ∈ sr_T) : sr_Snd tab cc mx own mnm pc (mm_cI y na (pc + 3)) := by
  intro E d p l e R s m args below meth c Q n0 n1 H locs cells slots ls lv ll st n I L P pc' lv' ll' st' n' I' L' P' hC hnm hM hR h hn hn1 hb1 hb2 hb3 k2
  unfold mm_cI at h
  split at h
  · rename_i a r hdrop
    split at h
    · rename_i hq
      obtain ⟨q1, q3, q4⟩ := hq
      obtain ⟨ov, ho, rfl, rfl, rfl, rfl⟩ := mm_ret_inv h
      have hts := hC.2.2.2.2.1
      have hst := sr_take hdrop
      have hall : ∀ v ∈ st.take na, sr_vr v := fun v hv => hR.2.2.2.1 v (List.mem_of_mem_take hv)
      have hr : ∀ v ∈ r, sr_vr v := fun v hv => hR.2.2.2.1 v (by rw [hst]; simp [hv])
      have hmsl : sr_sl n ≤ sr_sl n' := sr_sl_mono hn
      obtain ⟨mc, hmc⟩ : ∃ mc, mc + n = n' := ⟨n' - n, by omega⟩
      obtain ⟨ms, hms⟩ : ∃ ms, ms + sr_sl n = sr_sl n' := ⟨sr_sl n' - sr_sl n, by omega⟩
      have hMet := hM y yn _ ht _ n I L P _ ho hn mc ms hmc hms (by show n' < _; omega) (fun v hv => (List.mem_cons.mp hv).elim (fun e => by rw [e]; trivial) (fun h => hall v (List.mem_reverse.mp h)))
      have hcells : cells + n0 = n := hR.2.2.2.2.1
      have hslots : slots + sr_sl n0 = sr_sl n := hR.2.2.2.2.2.1
      have hsl1 : sr_sl n' ≤ sr_sl n1 := sr_sl_mono hn1
      have hsk : st.map (sr_v E) = (((st.take na).reverse).map (sr_v E)).reverse ++ .ref (sr_a E a) :: r.map (sr_v E) := by
        rw [List.map_reverse, List.reverse_reverse]
        conv => lhs; rw [hst]
        rw [List.map_append]
        rfl
      have hln : (((st.take na).reverse).map (sr_v E)).length = na := by rw [List.length_map, List.length_reverse, List.length_take, Nat.min_eq_left q4]
      intro T0 hT X
      suffices K : W p l e R s m args below meth c H locs cells slots Q (F0 m pc ls (st.map (sr_v E))) from K T0 hT X
      rcases w1 with w1 | w1
      · have hcB : CallB R s args own idx yn cb mx' none (Cond.code yn cb mx' none :: sr_T) (sr_rm d mc ms) mc ms na := callB_of na hts (sr_goodC w5) rfl rfl rfl (hts _ w4) (hts _ w1) hy (sr_rmR hC.2.2.2.2.2.2.2.2.1 hC.2.2.2.2.2.2.2.2.2 hm)
        exact sr_call hR hmc hms hr (va_runI (As := ((st.take na).reverse).map (sr_v E)) (rest := r.map (sr_v E)) (b := sr_a E a) ⟨hC.1, hC.2.1, hC.2.2.1, hC.2.2.2.1, hts⟩ hMet ⟨hcB, hi, hts _ w2⟩ ⟨sr_blind, sr_pre hC hR X hT⟩ rfl hln hR.2.2.1.1 hsk (lv_room (by rw [sr_cats]; exact q3)) hd ⟨by omega, by omega⟩) k2
      · have hcN := va_cnB (R := R) (maxL := mx') (rm := sr_rm d mc ms) (mc := mc) (ms := ms) na hts (sr_goodC w5) rfl rfl rfl (hC.2.2.2.2.2.1.2.1 _ w1) (hts _ w4) hy (sr_rmR hC.2.2.2.2.2.2.2.2.1 hC.2.2.2.2.2.2.2.2.2 hm)
        exact sr_call hR hmc hms hr (va_runIN (As := ((st.take na).reverse).map (sr_v E)) (rest := r.map (sr_v E)) (b := sr_a E a) ⟨hC.1, hC.2.1, hC.2.2.1, hC.2.2.2.1, hts⟩ hMet ⟨hcN, hi, hts _ w2⟩ ⟨sr_blind, sr_pre hC hR X hT⟩ rfl hln hR.2.2.1.1 hsk (lv_room (by rw [sr_cats]; exact q3)) hd ⟨by omega, by omega⟩) k2
    · cases h
  · cases h
end SN7
