/-! EACH STEP OF THE MACHINE IS FOLLOWED -/
def sr_vr : mm_V → Prop
  | .inl z => mm_rg z
  | .inr (.inl z) => mm_rgl z
  | .inr (.inr _) => True
def sr_L (E : sr_E) (ls : Array Slot) (nL : Nat) (lv : List mm_V) (ll : List (Option Int)) : Prop :=
  ls.size = nL ∧ lv.length = nL ∧ lv_wf ls ∧ (∀ (i : Nat) (v : mm_V), lv[i]? = some v → mm_c1 v = true → ls[i]? = some (.val (sr_v E v)) ∧ sr_vr v) ∧ (∀ (i : Nat) (z : Int), ll[i]? = some (some z) → ls[i]? = some (.val (.long (Int64.ofInt z))) ∧ mm_rgl z)
def sr_C (E : sr_E) (d : Nat) (cc : ByteArray) (mx : Nat) (own : String) (p : Program) (R : Room) (s : State) (m : MethodId) (args : Array Value) (c : Code) : Prop :=
  p.tables.exec = Jvm.exec ∧ c.code = cc ∧ c.maxLocals = mx ∧ s.vm.findClass own = some m.cls ∧ (∀ w ∈ sr_T, w.before args s = true) ∧ sr_K E s ∧ sr_Z E s s.heap ∧ E.2.2.1 ≤ s.heap.size ∧ d + 9 ≤ R.frames ∧ 60 * (d + 9) ≤ R.locals
def sr_R (E : sr_E) (mx n0 : Nat) (s : State) (H : Heap) (locs : List Loc) (cells slots : Nat) (ls : Array Slot) (lv : List mm_V) (ll : List (Option Int)) (st : List mm_V) (n : Nat) (I L : mm_I) (P : mm_P) : Prop :=
  sr_H E n I L P H ∧ va_S (sr_A E) s.heap H locs ∧ sr_L E ls mx lv ll ∧ (∀ v ∈ st, sr_vr v) ∧ cells + n0 = n ∧ slots + sr_sl n0 = sr_sl n ∧ (n0 ≤ mm_NC → s.heap.size = E.2.2.1 + n0)
/-- what a call's contract is -/
def sr_Q (E : sr_E) (a : mm_A) : Array Value → State → Outcome → State → Prop := fun _ st oc t =>
  oc = .returned (a.1.map (sr_v E)) ∧ sr_H E a.2.1 a.2.2.1 a.2.2.2.1 a.2.2.2.2 t.heap ∧ va_F (sr_A E) st t ∧ ∀ v, a.1 = some v → sr_vr v
def sr_P (E : sr_E) (args : List mm_V) (n : Nat) (I L : mm_I) (P : mm_P) : Array Value → State → Prop :=
  va_Pc (args.map (sr_v E)) (fun U => sr_K E U ∧ sr_Z E U U.heap ∧ sr_H E n I L P U.heap ∧ E.2.2.1 ≤ U.heap.size ∧ (n ≤ mm_NC → U.heap.size = E.2.2.1 + n))
def sr_rm (d mc ms : Nat) : Room := { frames := d + 8, cells := mc, slots := ms, locals := 60 * (d + 8) }
def sr_Met (E : sr_E) (l : Launch) (d : Nat) (yn : MethodName) (hd : Cond) (args : List mm_V) (n : Nat) (I L : mm_I) (P : mm_P) (a : mm_A) : Prop :=
  ∀ mc ms : Nat, mc + n = a.2.1 → ms + sr_sl n = sr_sl a.2.1 → a.2.1 < 1000000 → (∀ v ∈ args, sr_vr v) → Met l yn (hd :: sr_T) (sr_rm d mc ms) (sr_P E args n I L P) (sr_Q E a) mc ms (sr_A E)
abbrev sr_Tab : Type := Nat → Option (MethodName × Cond)
def sr_Calls (E : sr_E) (l : Launch) (tab : sr_Tab) (d : Nat) : Prop :=
  ∀ (y : Nat) (yn : MethodName) (hd : Cond), tab y = some (yn, hd) → ∀ (args : List mm_V) (n : Nat) (I L : mm_I) (P : mm_P) (a : mm_A), mm_rn d y args n I L P = some a → n ≤ a.2.1 → sr_Met E l d yn hd args n I L P a
def sr_Snd (tab : sr_Tab) (cc : ByteArray) (mx : Nat) (own mnm : String) (pc : Nat) (t : mm_T) : Prop :=
  ∀ (E : sr_E) (d : Nat) (p : Program) (l : Launch) (e : Env) (R : Room) (s : State) (m : MethodId) (args : Array Value) (below : List Frame) (meth : Method) (c : Code) (Q : State → Prop) (n0 n1 : Nat) (H : Heap) (locs : List Loc) (cells slots : Nat) (ls : Array Slot) (lv : List mm_V) (ll : List (Option Int)) (st : List mm_V) (n : Nat) (I L : mm_I) (P : mm_P)
    (pc' : Nat) (lv' : List mm_V) (ll' : List (Option Int)) (st' : List mm_V) (n' : Nat) (I' L' : mm_I) (P' : mm_P),
    sr_C E d cc mx own p R s m args c → meth.name = mnm → sr_Calls E l tab d → sr_R E mx n0 s H locs cells slots ls lv ll st n I L P →
    t (mm_rn d) lv ll st n I L P = some (.inl (pc', lv', ll', st', n', I', L', P')) → n ≤ n' → n' ≤ n1 → n1 ≤ n0 + R.cells → sr_sl n1 ≤ sr_sl n0 + R.slots → n1 < 1000000 →
    (∀ (H' : Heap) (locs' : List Loc) (cells' slots' : Nat) (ls' : Array Slot), sr_R E mx n0 s H' locs' cells' slots' ls' lv' ll' st' n' I' L' P' → W p l e R s m args below meth c H' locs' cells' slots' Q (F0 m pc' ls' (st'.map (sr_v E)))) →
    W p l e R s m args below meth c H locs cells slots Q (F0 m pc ls (st.map (sr_v E)))
section SN
variable {tab : sr_Tab} {cc : ByteArray} {mx : Nat} {own mnm : String} {pc : Nat}
/-- steps that touch the stack alone -/
theorem sr_R.st {E : sr_E} {mx n0 : Nat} {s : State} {H : Heap} {locs : List Loc} {cells slots : Nat} {ls : Array Slot} {lv : List mm_V} {ll : List (Option Int)} {st st' : List mm_V} {n : Nat} {I L : mm_I} {P : mm_P} (h : sr_R E mx n0 s H locs cells slots ls lv ll st n I L P) (h' : ∀ v ∈ st', sr_vr v) : sr_R E mx n0 s H locs cells slots ls lv ll st' n I L P := ⟨h.1, h.2.1, h.2.2.1, h', h.2.2.2.2⟩
theorem sr_c1v {E : sr_E} {v : mm_V} (h : mm_c1 v = true) : (sr_v E v).category = 1 := by
  match v, h with
  | .inl z, _ => rfl
  | .inr (.inr none), _ => rfl
  | .inr (.inr (some a)), _ => rfl
theorem sn_push {v : mm_V} {nx : Nat} (hv : sr_vr v) (hk : ∀ (E : sr_E) (d : Nat) (p : Program) (l : Launch) (e : Env) (R : Room) (s : State) (m : MethodId) (args : Array Value) (below : List Frame) (meth : Method) (c : Code) (Q : State → Prop) (H : Heap) (locs : List Loc) (cells slots : Nat) (ls : Array Slot) (rest : List Value), sr_C E d cc mx own p R s m args c → va_S (sr_A E) s.heap H locs → W p l e R s m args below meth c H locs cells slots Q (F0 m nx ls (sr_v E v :: rest)) → W p l e R s m args below meth c H locs cells slots Q (F0 m pc ls rest)) : sr_Snd tab cc mx own mnm pc (mm_push v nx) := by
  intro E d p l e R s m args below meth c Q n0 n1 H locs cells slots ls lv ll st n I L P pc' lv' ll' st' n' I' L' P' hC hnm hM hR h hn hn1 hb1 hb2 hb3 k
  unfold mm_push at h
  simp only [Option.some.injEq, Sum.inl.injEq, Prod.mk.injEq] at h
  obtain ⟨rfl, rfl, rfl, rfl, rfl, rfl, rfl, rfl⟩ := h
  refine hk E d p l e R s m args below meth c Q H locs cells slots ls _ hC hR.2.1 ?_
  exact k H locs cells slots ls (hR.st (fun u hu => (List.mem_cons.mp hu).elim (fun e => by rw [e]; exact hv) (hR.2.2.2.1 u)))
theorem sn_iconst {z : Int} (hd : decode cc pc = .ok (.iconst z, 1)) (hz : mm_rg z) : sr_Snd tab cc mx own mnm pc (mm_push (.inl z) (pc + 1)) :=
  sn_push hz fun E d p l e R s m args below meth c Q H locs cells slots ls rest hC _ k => lv_iconst hC.1 hC.2.1 hd rfl k
theorem sn_bipush {z : Int} (hd : decode cc pc = .ok (.bipush z, 2)) (hz : mm_rg z) (hv : (Int8.ofInt z).toInt32 = Int32.ofInt z) : sr_Snd tab cc mx own mnm pc (mm_push (.inl z) (pc + 2)) :=
  sn_push hz fun E d p l e R s m args below meth c Q H locs cells slots ls rest hC _ k => lv_bipush hC.1 hC.2.1 hd hv k
theorem sn_sipush {z : Int} (hd : decode cc pc = .ok (.sipush z, 3)) (hz : mm_rg z) (hv : (Int16.ofInt z).toInt32 = Int32.ofInt z) : sr_Snd tab cc mx own mnm pc (mm_push (.inl z) (pc + 3)) :=
  sn_push hz fun E d p l e R s m args below meth c Q H locs cells slots ls rest hC _ k => lv_sipush hC.1 hC.2.1 hd hv k
theorem sn_ldc {z : Int} {i : Nat} (hd : decode cc pc = .ok (.ldc i, 2)) (hz : mm_rg z) (hw : Cond.constant own i (Int32.ofInt z) ∈ sr_T) : sr_Snd tab cc mx own mnm pc (mm_push (.inl z) (pc + 2)) :=
  sn_push hz fun E d p l e R s m args below meth c Q H locs cells slots ls rest hC _ k => lv_ldc hC.1 hC.2.1 hC.2.2.2.1 (hC.2.2.2.2.1 _ hw) hd k
theorem sn_ldcw {z : Int} {i : Nat} (hd : decode cc pc = .ok (.ldc_w i, 3)) (hz : mm_rg z) (hw : Cond.constant own i (Int32.ofInt z) ∈ sr_T) : sr_Snd tab cc mx own mnm pc (mm_push (.inl z) (pc + 3)) :=
  sn_push hz fun E d p l e R s m args below meth c Q H locs cells slots ls rest hC _ k => lv_ldcw hC.1 hC.2.1 hC.2.2.2.1 (hC.2.2.2.2.1 _ hw) hd k
theorem sn_ldc2 {z : Int} {i : Nat} (hd : decode cc pc = .ok (.ldc2_w i, 3)) (hz : mm_rgl z) (hw : Cond.constantLong own i (Int64.ofInt z) ∈ sr_T) : sr_Snd tab cc mx own mnm pc (mm_push (.inr (.inl z)) (pc + 3)) :=
  sn_push hz fun E d p l e R s m args below meth c Q H locs cells slots ls rest hC _ k => lv_ldc2 hC.1 hC.2.1 hC.2.2.2.1 (hC.2.2.2.2.1 _ hw) hd k
theorem sn_lconst {z : Int} {n : Fin 2} (hd : decode cc pc = .ok (.lconst n, 1)) (hz : mm_rgl z) (hv : Int64.ofNat (n : Nat) = Int64.ofInt z) : sr_Snd tab cc mx own mnm pc (mm_push (.inr (.inl z)) (pc + 1)) :=
  sn_push hz fun E d p l e R s m args below meth c Q H locs cells slots ls rest hC _ k => lv_lconst hC.1 hC.2.1 hd hv k
theorem sn_null (hd : decode cc pc = .ok (.aconst_null, 1)) : sr_Snd tab cc mx own mnm pc (mm_push (.inr (.inr none)) (pc + 1)) :=
  sn_push trivial fun E d p l e R s m args below meth c Q H locs cells slots ls rest hC _ k => lv_null hC.1 hC.2.1 hd k
theorem sn_gets {i k : Nat} {f : String} (hd : decode cc pc = .ok (.getstatic i, 3)) (hk : k < 4) (hf : ["FIRST", "LEAST", "MOST", "USUAL"].getD k "" = f) (hw : Cond.fieldLink own i RX10 f "[I" ∈ sr_T) : sr_Snd tab cc mx own mnm pc (mm_push (.inr (.inr (some (1000000 + k)))) (pc + 3)) :=
  sn_push trivial fun E d p l e R s m args below meth c Q H locs cells slots ls rest hC hS kk => by
    have hZ := (hC.2.2.2.2.2.2.1.1 k hk).1
    rw [hf] at hZ
    refine va_gets (C := RX10) hC.1 hC.2.1 hZ hS hC.2.2.2.1 (hC.2.2.2.2.1 _ hw) (fun x h => h) hd ?_
    have e1 : sr_a E (1000000 + k) = E.2.2.2.1 k := by
      unfold sr_a
      rw [if_neg (by omega), Nat.add_sub_cancel_left]
    have e2 : sr_v E (.inr (.inr (some (1000000 + k)))) = .ref (E.2.2.2.1 k) := by
      show va_rf (some (sr_a E (1000000 + k))) = _
      rw [e1]
      rfl
    rw [← e2]
    exact kk
theorem sn_ldcS {i k : Nat} {tx : String} (hd : decode cc pc = .ok (.ldc i, 2)) (hk : k < 1000000) (hr : ∀ (E : sr_E) (U : State) (H : Heap), sr_Z E U H → vk_R own i tx (E.2.2.2.1 k) U) : sr_Snd tab cc mx own mnm pc (mm_push (.inr (.inr (some (1000000 + k)))) (pc + 2)) :=
  sn_push trivial fun E d p l e R s m args below meth c Q H locs cells slots ls rest hC hS kk => by
    refine va_ldcS hC.1 hC.2.1 hC.2.2.2.1 (hr E s s.heap hC.2.2.2.2.2.2.1) hd ?_
    have e1 : sr_a E (1000000 + k) = E.2.2.2.1 k := by
      unfold sr_a
      rw [if_neg (by omega), Nat.add_sub_cancel_left]
    have e2 : sr_v E (.inr (.inr (some (1000000 + k)))) = .ref (E.2.2.2.1 k) := by
      show va_rf (some (sr_a E (1000000 + k))) = _
      rw [e1]
      rfl
    rw [← e2]
    exact kk
/-- loads -/
theorem sn_il {i nx : Nat} (hk : ∀ (p : Program) (l : Launch) (e : Env) (R : Room) (s : State) (m : MethodId) (args : Array Value) (below : List Frame) (meth : Method) (c : Code) (Q : State → Prop) (H : Heap) (locs : List Loc) (cells slots : Nat) (ls : Array Slot) (rest : List Value) (x : Int32), p.tables.exec = Jvm.exec → c.code = cc → ls[i]? = some (.val (.int x)) → W p l e R s m args below meth c H locs cells slots Q (F0 m nx ls (.int x :: rest)) → W p l e R s m args below meth c H locs cells slots Q (F0 m pc ls rest)) : sr_Snd tab cc mx own mnm pc (mm_il i nx) := by
  intro E d p l e R s m args below meth c Q n0 n1 H locs cells slots ls lv ll st n I L P pc' lv' ll' st' n' I' L' P' hC hnm hM hR h hn hn1 hb1 hb2 hb3 k
  unfold mm_il at h
  split at h
  · rename_i z hz
    simp only [Option.some.injEq, Sum.inl.injEq, Prod.mk.injEq] at h
    obtain ⟨rfl, rfl, rfl, rfl, rfl, rfl, rfl, rfl⟩ := h
    obtain ⟨h1, h2⟩ := hR.2.2.1.2.2.2.1 i _ hz rfl
    refine hk p l e R s m args below meth c Q H locs cells slots ls _ (Int32.ofInt z) hC.1 hC.2.1 h1 ?_
    exact k H locs cells slots ls (hR.st (fun u hu => (List.mem_cons.mp hu).elim (fun e => by rw [e]; exact h2) (hR.2.2.2.1 u)))
  · cases h
theorem sn_iload_n {j : Fin 4} {i : Nat} (hd : decode cc pc = .ok (.iload_n j, 1)) (hi : (j : Nat) = i) : sr_Snd tab cc mx own mnm pc (mm_il i (pc + 1)) :=
  sn_il fun p l e R s m args below meth c Q H locs cells slots ls rest x hx hb hl k => lv_iload_n hx hb hd hi hl k
theorem sn_iload {i : Nat} (hd : decode cc pc = .ok (.iload i, 2)) : sr_Snd tab cc mx own mnm pc (mm_il i (pc + 2)) :=
  sn_il fun p l e R s m args below meth c Q H locs cells slots ls rest x hx hb hl k => lv_iload hx hb hd hl k
theorem sn_al {i nx : Nat} (hk : ∀ (p : Program) (l : Launch) (e : Env) (R : Room) (s : State) (m : MethodId) (args : Array Value) (below : List Frame) (meth : Method) (c : Code) (Q : State → Prop) (H : Heap) (locs : List Loc) (cells slots : Nat) (ls : Array Slot) (rest : List Value) (x : Option Nat), p.tables.exec = Jvm.exec → c.code = cc → ls[i]? = some (.val (va_rf x)) → W p l e R s m args below meth c H locs cells slots Q (F0 m nx ls (va_rf x :: rest)) → W p l e R s m args below meth c H locs cells slots Q (F0 m pc ls rest)) : sr_Snd tab cc mx own mnm pc (mm_al i nx) := by
  intro E d p l e R s m args below meth c Q n0 n1 H locs cells slots ls lv ll st n I L P pc' lv' ll' st' n' I' L' P' hC hnm hM hR h hn hn1 hb1 hb2 hb3 k
  unfold mm_al at h
  split at h
  · rename_i z hz
    simp only [Option.some.injEq, Sum.inl.injEq, Prod.mk.injEq] at h
    obtain ⟨rfl, rfl, rfl, rfl, rfl, rfl, rfl, rfl⟩ := h
    obtain ⟨h1, h2⟩ := hR.2.2.1.2.2.2.1 i _ hz rfl
    refine hk p l e R s m args below meth c Q H locs cells slots ls _ (z.map (sr_a E)) hC.1 hC.2.1 h1 ?_
    exact k H locs cells slots ls (hR.st (fun u hu => (List.mem_cons.mp hu).elim (fun e => by rw [e]; exact h2) (hR.2.2.2.1 u)))
  · cases h
theorem sn_aload_n {j : Fin 4} {i : Nat} (hd : decode cc pc = .ok (.aload_n j, 1)) (hi : (j : Nat) = i) : sr_Snd tab cc mx own mnm pc (mm_al i (pc + 1)) :=
  sn_al fun p l e R s m args below meth c Q H locs cells slots ls rest x hx hb hl k => by
    cases x with
    | none => exact lv_aload_nN hx hb hd hi hl k
    | some a => exact lv_aload_n hx hb hd hi hl k
theorem sn_aload {i : Nat} (hd : decode cc pc = .ok (.aload i, 2)) : sr_Snd tab cc mx own mnm pc (mm_al i (pc + 2)) :=
  sn_al fun p l e R s m args below meth c Q H locs cells slots ls rest x hx hb hl k => by
    cases x with
    | none => exact lv_aloadN hx hb hd hl k
    | some a => exact lv_aload hx hb hd hl k
theorem sn_ll {i nx : Nat} (hk : ∀ (p : Program) (l : Launch) (e : Env) (R : Room) (s : State) (m : MethodId) (args : Array Value) (below : List Frame) (meth : Method) (c : Code) (Q : State → Prop) (H : Heap) (locs : List Loc) (cells slots : Nat) (ls : Array Slot) (rest : List Value) (x : Int64), p.tables.exec = Jvm.exec → c.code = cc → ls[i]? = some (.val (.long x)) → W p l e R s m args below meth c H locs cells slots Q (F0 m nx ls (.long x :: rest)) → W p l e R s m args below meth c H locs cells slots Q (F0 m pc ls rest)) : sr_Snd tab cc mx own mnm pc (mm_lld i nx) := by
  intro E d p l e R s m args below meth c Q n0 n1 H locs cells slots ls lv ll st n I L P pc' lv' ll' st' n' I' L' P' hC hnm hM hR h hn hn1 hb1 hb2 hb3 k
  unfold mm_lld at h
  split at h
  · rename_i z hz
    simp only [Option.some.injEq, Sum.inl.injEq, Prod.mk.injEq] at h
    obtain ⟨rfl, rfl, rfl, rfl, rfl, rfl, rfl, rfl⟩ := h
    obtain ⟨h1, h2⟩ := hR.2.2.1.2.2.2.2 i _ hz
    refine hk p l e R s m args below meth c Q H locs cells slots ls _ (Int64.ofInt z) hC.1 hC.2.1 h1 ?_
    exact k H locs cells slots ls (hR.st (fun u hu => (List.mem_cons.mp hu).elim (fun e => by rw [e]; exact h2) (hR.2.2.2.1 u)))
  · cases h
theorem sn_lload_n {j : Fin 4} {i : Nat} (hd : decode cc pc = .ok (.lload_n j, 1)) (hi : (j : Nat) = i) : sr_Snd tab cc mx own mnm pc (mm_lld i (pc + 1)) :=
  sn_ll fun p l e R s m args below meth c Q H locs cells slots ls rest x hx hb hl k => lv_lload_n hx hb hd hi hl k
theorem sn_lload {i : Nat} (hd : decode cc pc = .ok (.lload i, 2)) : sr_Snd tab cc mx own mnm pc (mm_lld i (pc + 2)) :=
  sn_ll fun p l e R s m args below meth c Q H locs cells slots ls rest x hx hb hl k => lv_lload hx hb hd hl k
end SN
