/-! THE START: the ground of the machine at the law's entry, and the law's own rows -/
def R_law : String := "BelievedOnceLaw"
def lw_P (b : Addr) (xs : List Int32) (args : Array Value) (s : State) : Prop := args = #[.ref b] ∧ s.IntsAt b xs ∧ xs.length ≤ 3072 ∧ (Jvm.Cond.and given_1 narrow_1).before args s = true
def lw_Q (_ : Array Value) (s : State) (o : Outcome) (t : State) : Prop := o = .returned (some (.int 1)) ∧ Framed s o t [] 601024 7293034
def lw_Z (below : List Frame) (a : Array Value) (s : State) : State → Prop := fun t => ∃ o, t.status = .running ∧ Ended t below o ∧ lw_Q a s o t
/-- the law's own end, with 1 on the stack, nothing written that was there before, its room as the claim has it -/
theorem lw_ret {p : Program} {l : Launch} {e : Env} {s : State} {m : MethodId} {below : List Frame} {meth : Method} {c : Code} {b : Nat} (hx : p.tables.exec = Jvm.exec) (hb : c.code = code) (hr : meth.sig.returnType = ret) (hlocks : meth.locks = false) {pc : Nat} {H : Heap} {ls : Array Slot} (hdg : decode code pc = .ok (.ireturn, 1)) : W p l e room_1 s m #[Value.ref b] below meth c H [] 601024 7293034 (lw_Z below #[Value.ref b] s) (F0 m pc ls [.int 1]) := by
  intro T hT X
  obtain ⟨fs, hret, hrun, hended, hW, hframe⟩ := X.leave (v := some (.int 1)) (hlocks := hlocks) (fun h => by rw [hr] at h; cases h)
  have hmeth' : T.vm.method? m = some meth := X.method'
  refine ⟨T.setFrames fs, ?_, .returned (some (.int 1)), hrun, hended, rfl, ⟨_, rfl⟩, hW, hframe⟩
  jvm_step X.here [X.here.top, hx, hb, hdg, hmeth', hr, ret, narrow_b1]
  (try refine ⟨rfl, ?_⟩); (try refine ⟨rfl, ?_⟩)
  first | (intro acts; rw [hret _ acts rfl rfl rfl]) | rw [hret _ _ rfl rfl rfl]
  exact Steps.refl _
/-- what holds at the law's entry: the machine, the code, the tables' words (any of lw_tbl by 'hts w (by decide +kernel)'), the script of L ints xs at the cell b, what the Statement gives of the start (any of its parts by flat_of_before) -/
def lw_At (p : Program) (s : State) (m : MethodId) (meth : Method) (c : Code) (b L : Nat) (xs : Nat → Int32) : Prop :=
  p.tables.exec = Jvm.exec ∧ c.code = code ∧ meth.sig.returnType = ret ∧ c.maxLocals = 7 ∧ s.vm.findClass R_law = some m.cls ∧ (∀ w ∈ lw_tbl, w.before #[Value.ref b] s = true) ∧ va_X b L xs s s.heap ∧ b < s.heap.size ∧ meth.locks = false ∧ (Jvm.Cond.and given_1 narrow_1).before #[Value.ref b] s = true
/-- the ints that stand there before: four rows of TownReader, the script -/
def st_row (a : Nat) : List Int := if a = 1000000 then [0, 3, 5, 7] else if a = 1000001 then [1, 0, 0, 1, 0, 0, 0] else if a = 1000002 then [5, 4, 99, 99, 9, 7, 7] else if a = 1000003 then [2, 1, 20, 20, 1, 0, 1] else []
def st_I (L : Nat) (xs : Nat → Int32) : mm_I := fun a j => if a = 1000006 then (if j = 5000 then (L : Int) else if j < L then (xs j).toInt else 0) else (st_row a).getD j 0
theorem st_isN : ∀ w : Cond, sr_isN w = true → w.onTables = true := by
  intro w h
  cases w <;> first | rfl | cases h
theorem st_cls {s : State} {C : String} {T : u_T} {N : Nat} (h : ∃ (cC : ClassId) (iS : Nat → Nat), u_Kn s C T N cC iS) : ∃ r : ClassId × (Nat → Nat), ∀ q : vw_C, some (C, T, N) = some q → u_Kn s q.1 q.2.1 q.2.2 r.1 r.2 := by
  obtain ⟨cC, iS, h⟩ := h
  exact ⟨(cC, iS), fun q hq => by cases hq; exact h⟩
theorem st_arrP {s : State} {args : Array Value} {ty : FieldType} (hno : va_RA s = va_RA s) (h : (Cond.arrayClass ty).before args s = true) (hty : ∀ C, ty ≠ .object C) : ∃ c : ClassId, ArrOfT s c ty ∧ va_RA s c ty := by
  obtain ⟨c, k, comp, h1, h2, h3⟩ := Cond.arrayClass_spec h
  refine ⟨c, fun n z => ⟨fun k h => (by cases h), k, h2, comp, h3⟩, ?_⟩
  unfold va_RA
  split
  · exact absurd rfl (hty _)
  · exact h1
theorem st_arrO {s : State} {args : Array Value} {C : String} (h : (Cond.arrayOver (.object C)).before args s = true) : ∃ c : ClassId, ArrOfT s c (.object C) ∧ va_RA s c (.object C) := by
  obtain ⟨comp, c, k, h1, h2, h3, h4, h5⟩ := Cond.arrayOver_spec h
  exact ⟨c, fun n z => ⟨fun k h => (by cases h), k, h3, comp, h4⟩, k, comp, h3, h4, h1, h5⟩
theorem sn_i0 : Cond.instantiable RX0 4 ∈ sr_T := sr_in1 371 (by decide +kernel) (by decide +kernel)
theorem sn_i1 : Cond.instantiable RX1 3 ∈ sr_T := sr_in1 303 (by decide +kernel) (by decide +kernel)
theorem sn_i2 : Cond.instantiable RX2 7 ∈ sr_T := sr_in1 339 (by decide +kernel) (by decide +kernel)
theorem sn_i3 : Cond.instantiable RX3 5 ∈ sr_T := sr_in1 235 (by decide +kernel) (by decide +kernel)
theorem sn_i5 : Cond.instantiable RX5 9 ∈ sr_T := sr_in1 258 (by decide +kernel) (by decide +kernel)
theorem sn_i6 : Cond.instantiable RX6 3 ∈ sr_T := sr_in1 319 (by decide +kernel) (by decide +kernel)
theorem sn_i7 : Cond.instantiable RX7 2 ∈ sr_T := sr_in1 395 (by decide +kernel) (by decide +kernel)
theorem sn_i8 : Cond.instantiable RX8 3 ∈ sr_T := sr_in1 140 (by decide +kernel) (by decide +kernel)
theorem sn_i9 : Cond.instantiable RX9 9 ∈ sr_T := sr_in1 183 (by decide +kernel) (by decide +kernel)
theorem sn_i10 : Cond.instantiable RX10 5 ∈ sr_T := sr_in1 161 (by decide +kernel) (by decide +kernel)
theorem sn_i11 : Cond.instantiable RX11 18 ∈ sr_T := sr_in1 132 (by decide +kernel) (by decide +kernel)
theorem sn_i12 : Cond.instantiable RX12 47 ∈ sr_T := sr_in1 1199 (by decide +kernel) (by decide +kernel)
theorem ta_0 : Cond.arrayClass .int ∈ sr_T := sr_in1 159 (by decide +kernel) (by decide +kernel)
theorem ta_1 : Cond.arrayClass .boolean ∈ sr_T := sr_in1 369 (by decide +kernel) (by decide +kernel)
theorem ta_2 : Cond.arrayClass .long ∈ sr_T := sr_in1 1819 (by decide +kernel) (by decide +kernel)
theorem ta_3 : Cond.arrayOver (.object RX5) ∈ lw_tbl := List.mem_of_getElem? (i := 325) (by decide +kernel)
theorem ta_4 : Cond.arrayOver (.object RX3) ∈ lw_tbl := List.mem_of_getElem? (i := 234) (by decide +kernel)
theorem st_K {s : State} {args : Array Value} (hts : ∀ w ∈ lw_tbl, w.before args s = true) : ∃ (D : va_G) (tA : Nat → ClassId), ∀ (B : Nat) (ad : Nat → Nat) (J : mm_I), sr_K (D, tA, B, ad, J) s := by
  have hts' : ∀ w ∈ sr_T, w.before args s = true := fun w hw => hts w (List.mem_filter.mp hw).1
  have hk : ∀ k : Nat, ∃ r : ClassId × (Nat → Nat), ∀ q : vw_C, sr_cl[k]? = some q → u_Kn s q.1 q.2.1 q.2.2 r.1 r.2 := by
    intro k
    match k with
    | 0 => exact st_cls (u_known hts' sr_ok0.2.2.1 (hts' _ sn_i0))
    | 1 => exact st_cls (u_known hts' sr_ok1.2.2.1 (hts' _ sn_i1))
    | 2 => exact st_cls (u_known hts' sr_ok2.2.2.1 (hts' _ sn_i2))
    | 3 => exact st_cls (u_known hts' sr_ok3.2.2.1 (hts' _ sn_i3))
    | 4 => exact st_cls (u_known hts' sr_ok5.2.2.1 (hts' _ sn_i5))
    | 5 => exact st_cls (u_known hts' sr_ok5.2.2.1 (hts' _ sn_i5))
    | 6 => exact st_cls (u_known hts' sr_ok6.2.2.1 (hts' _ sn_i6))
    | 7 => exact st_cls (u_known hts' sr_ok7.2.2.1 (hts' _ sn_i7))
    | 8 => exact st_cls (u_known hts' sr_ok8.2.2.1 (hts' _ sn_i8))
    | 9 => exact st_cls (u_known hts' sr_ok9.2.2.1 (hts' _ sn_i9))
    | 10 => exact st_cls (u_known hts' sr_ok10.2.2.1 (hts' _ sn_i10))
    | 11 => exact st_cls (u_known hts' sr_ok11.2.2.1 (hts' _ sn_i11))
    | 12 => exact st_cls (u_known hts' sr_ok12.2.2.1 (hts' _ sn_i12))
    | k + 13 => exact ⟨(0, fun _ => 0), fun q h => by simp [sr_cl] at h⟩
  obtain ⟨f, hf⟩ := Classical.axiomOfChoice hk
  have ht : ∀ k : Nat, ∃ c : ClassId, ∀ q : ClassId × FieldType, (sr_tys (((fun c => (f c).1), (fun c => (f c).2)), (fun _ => c), 0, (fun _ => 0), (fun _ _ => 0)))[k]? = some q → ArrOfT s q.1 q.2 ∧ va_RA s q.1 q.2 := by
    intro k
    match k with
    | 0 => obtain ⟨c, h1, h2⟩ := st_arrP (ty := .int) rfl (hts' _ ta_0) (fun _ h => by cases h); exact ⟨c, fun q h => by cases h; exact ⟨h1, h2⟩⟩
    | 1 => obtain ⟨c, h1, h2⟩ := st_arrP (ty := .boolean) rfl (hts' _ ta_1) (fun _ h => by cases h); exact ⟨c, fun q h => by cases h; exact ⟨h1, h2⟩⟩
    | 2 => obtain ⟨c, h1, h2⟩ := st_arrP (ty := .long) rfl (hts' _ ta_2) (fun _ h => by cases h); exact ⟨c, fun q h => by cases h; exact ⟨h1, h2⟩⟩
    | 3 => obtain ⟨c, h1, h2⟩ := st_arrO (C := RX5) (hts _ ta_3); exact ⟨c, fun q h => by cases h; exact ⟨h1, h2⟩⟩
    | 4 => obtain ⟨c, h1, h2⟩ := st_arrO (C := RX3) (hts _ ta_4); exact ⟨c, fun q h => by cases h; exact ⟨h1, h2⟩⟩
    | k + 5 => exact ⟨0, fun q h => by simp [sr_tys] at h⟩
  obtain ⟨g, hg⟩ := Classical.axiomOfChoice ht
  refine ⟨((fun c => (f c).1), (fun c => (f c).2)), g, fun B ad J => ⟨⟨fun c q hq => hf c q hq, fun k q hq => ?_⟩, fun w hw => ?_, va_AO.of (hts _ ta_3), va_AO.of (hts _ ta_4)⟩⟩
  · match k, hq with
    | 0, hq => exact hg 0 q hq
    | 1, hq => exact hg 1 q hq
    | 2, hq => exact hg 2 q hq
    | 3, hq => exact hg 3 q hq
    | 4, hq => exact hg 4 q hq
    | k + 5, hq => simp [sr_tys] at hq
  · have h1 := List.mem_filter.mp hw
    exact va_Nw.of (st_isN w h1.2) (hts w h1.1)
theorem si_10 : Cond.initialized RX10 ∈ lw_tbl := List.mem_of_getElem? (i := 108) (by decide +kernel)
theorem si_S : Cond.initialized "java/lang/String" ∈ lw_tbl := List.mem_of_getElem? (i := 118) (by decide +kernel)
theorem si_P : Cond.initialized "jdk/internal/util/Preconditions" ∈ lw_tbl := List.mem_of_getElem? (i := 120) (by decide +kernel)
theorem si_T : Cond.initialized "java/lang/Throwable" ∈ lw_tbl := List.mem_of_getElem? (i := 124) (by decide +kernel)
theorem sl_0 : Cond.laysStatic "BelievedOnce$TownReader" "FIRST" "[I" ∈ lw_tbl := List.mem_of_getElem? (i := 492) (by decide +kernel)
theorem sl_1 : Cond.laysStatic "BelievedOnce$TownReader" "LEAST" "[I" ∈ lw_tbl := List.mem_of_getElem? (i := 578) (by decide +kernel)
theorem sl_2 : Cond.laysStatic "BelievedOnce$TownReader" "MOST" "[I" ∈ lw_tbl := List.mem_of_getElem? (i := 580) (by decide +kernel)
theorem sl_3 : Cond.laysStatic "BelievedOnce$TownReader" "USUAL" "[I" ∈ lw_tbl := List.mem_of_getElem? (i := 494) (by decide +kernel)
theorem sl_4 : Cond.laysStatic "java/lang/String" "COMPACT_STRINGS" "Z" ∈ lw_tbl := List.mem_of_getElem? (i := 513) (by decide +kernel)
theorem sl_5 : Cond.laysStatic "jdk/internal/util/Preconditions" "SIOOBE_FORMATTER" "Ljava/util/function/BiFunction;" ∈ lw_tbl := List.mem_of_getElem? (i := 536) (by decide +kernel)
theorem sl_6 : Cond.laysStatic "java/lang/Throwable" "UNASSIGNED_STACK" "[Ljava/lang/StackTraceElement;" ∈ lw_tbl := List.mem_of_getElem? (i := 1160) (by decide +kernel)
theorem sl_7 : Cond.laysStatic "java/lang/Throwable" "SUPPRESSED_SENTINEL" "Ljava/util/List;" ∈ lw_tbl := List.mem_of_getElem? (i := 1162) (by decide +kernel)
theorem sf_0 : Cond.stringRef "BelievedOnce$TownReader" 63 "spl" ∈ lw_tbl := List.mem_of_getElem? (i := 503) (by decide +kernel)
theorem sf_1 : Cond.stringRef "BelievedOnce$TownReader" 98 "gekwoab" ∈ lw_tbl := List.mem_of_getElem? (i := 567) (by decide +kernel)
theorem sf_2 : Cond.stringRef "BelievedOnce" 186 "no such PLACE, or nothing such to tell of it" ∈ lw_tbl := List.mem_of_getElem? (i := 1172) (by decide +kernel)
theorem hs_cs : Cond.eq (.static "java/lang/String" "COMPACT_STRINGS" "Z") (.int 1) ∈ flatC (Jvm.Cond.and given_1 narrow_1) := List.mem_of_getElem? (i := 21) (by decide +kernel)
theorem hs_sf : Cond.isRef (.static "jdk/internal/util/Preconditions" "SIOOBE_FORMATTER" "Ljava/util/function/BiFunction;") ∈ flatC (Jvm.Cond.and given_1 narrow_1) := List.mem_of_getElem? (i := 22) (by decide +kernel)
theorem hs_us : Cond.isRef (.static "java/lang/Throwable" "UNASSIGNED_STACK" "[Ljava/lang/StackTraceElement;") ∈ flatC (Jvm.Cond.and given_1 narrow_1) := List.mem_of_getElem? (i := 46) (by decide +kernel)
theorem hs_ss : Cond.isRef (.static "java/lang/Throwable" "SUPPRESSED_SENTINEL" "Ljava/util/List;") ∈ flatC (Jvm.Cond.and given_1 narrow_1) := List.mem_of_getElem? (i := 47) (by decide +kernel)
theorem st_s0 {s : State} {args : Array Value} (hs : ∀ c ∈ flatC (Jvm.Cond.and given_1 narrow_1), c.before args s = true) {A : Nat → Prop} (hA : ∀ a : Nat, a < s.heap.size → ¬ A a) : ∃ t : Nat, (Term.static "BelievedOnce$TownReader" "FIRST" "[I").eval args s none [] s = some (.ref t) ∧ va_T .int t 4 (fun j => .int (Int32.ofInt ((st_row 1000000).getD j 0))) A s s.heap := by
  refine va_Tof (by decide) (hs _ (List.mem_of_getElem? (i := 5) (by decide +kernel))) (va_eqt (z := 4) (hs _ (List.mem_of_getElem? (i := 6) (by decide +kernel)))) (fun j hj => ?_) hA
  match j, hj with
  | 0, _ => exact va_eqt (z := 0) (hs _ (List.mem_of_getElem? (i := 7) (by decide +kernel)))
  | 1, _ => exact va_eqt (z := 3) (hs _ (List.mem_of_getElem? (i := 8) (by decide +kernel)))
  | 2, _ => exact va_eqt (z := 5) (hs _ (List.mem_of_getElem? (i := 9) (by decide +kernel)))
  | 3, _ => exact va_eqt (z := 7) (hs _ (List.mem_of_getElem? (i := 10) (by decide +kernel)))
  | j + 4, h => exact absurd h (by omega)
theorem st_s1 {s : State} {args : Array Value} (hs : ∀ c ∈ flatC (Jvm.Cond.and given_1 narrow_1), c.before args s = true) {A : Nat → Prop} (hA : ∀ a : Nat, a < s.heap.size → ¬ A a) : ∃ t : Nat, (Term.static "BelievedOnce$TownReader" "LEAST" "[I").eval args s none [] s = some (.ref t) ∧ va_T .int t 7 (fun j => .int (Int32.ofInt ((st_row 1000001).getD j 0))) A s s.heap := by
  refine va_Tof (by decide) (hs _ (List.mem_of_getElem? (i := 27) (by decide +kernel))) (va_eqt (z := 7) (hs _ (List.mem_of_getElem? (i := 28) (by decide +kernel)))) (fun j hj => ?_) hA
  match j, hj with
  | 0, _ => exact va_eqt (z := 1) (hs _ (List.mem_of_getElem? (i := 29) (by decide +kernel)))
  | 1, _ => exact va_eqt (z := 0) (hs _ (List.mem_of_getElem? (i := 30) (by decide +kernel)))
  | 2, _ => exact va_eqt (z := 0) (hs _ (List.mem_of_getElem? (i := 31) (by decide +kernel)))
  | 3, _ => exact va_eqt (z := 1) (hs _ (List.mem_of_getElem? (i := 32) (by decide +kernel)))
  | 4, _ => exact va_eqt (z := 0) (hs _ (List.mem_of_getElem? (i := 33) (by decide +kernel)))
  | 5, _ => exact va_eqt (z := 0) (hs _ (List.mem_of_getElem? (i := 34) (by decide +kernel)))
  | 6, _ => exact va_eqt (z := 0) (hs _ (List.mem_of_getElem? (i := 35) (by decide +kernel)))
  | j + 7, h => exact absurd h (by omega)
theorem st_s2 {s : State} {args : Array Value} (hs : ∀ c ∈ flatC (Jvm.Cond.and given_1 narrow_1), c.before args s = true) {A : Nat → Prop} (hA : ∀ a : Nat, a < s.heap.size → ¬ A a) : ∃ t : Nat, (Term.static "BelievedOnce$TownReader" "MOST" "[I").eval args s none [] s = some (.ref t) ∧ va_T .int t 7 (fun j => .int (Int32.ofInt ((st_row 1000002).getD j 0))) A s s.heap := by
  refine va_Tof (by decide) (hs _ (List.mem_of_getElem? (i := 37) (by decide +kernel))) (va_eqt (z := 7) (hs _ (List.mem_of_getElem? (i := 38) (by decide +kernel)))) (fun j hj => ?_) hA
  match j, hj with
  | 0, _ => exact va_eqt (z := 5) (hs _ (List.mem_of_getElem? (i := 39) (by decide +kernel)))
  | 1, _ => exact va_eqt (z := 4) (hs _ (List.mem_of_getElem? (i := 40) (by decide +kernel)))
  | 2, _ => exact va_eqt (z := 99) (hs _ (List.mem_of_getElem? (i := 41) (by decide +kernel)))
  | 3, _ => exact va_eqt (z := 99) (hs _ (List.mem_of_getElem? (i := 42) (by decide +kernel)))
  | 4, _ => exact va_eqt (z := 9) (hs _ (List.mem_of_getElem? (i := 43) (by decide +kernel)))
  | 5, _ => exact va_eqt (z := 7) (hs _ (List.mem_of_getElem? (i := 44) (by decide +kernel)))
  | 6, _ => exact va_eqt (z := 7) (hs _ (List.mem_of_getElem? (i := 45) (by decide +kernel)))
  | j + 7, h => exact absurd h (by omega)
theorem st_s3 {s : State} {args : Array Value} (hs : ∀ c ∈ flatC (Jvm.Cond.and given_1 narrow_1), c.before args s = true) {A : Nat → Prop} (hA : ∀ a : Nat, a < s.heap.size → ¬ A a) : ∃ t : Nat, (Term.static "BelievedOnce$TownReader" "USUAL" "[I").eval args s none [] s = some (.ref t) ∧ va_T .int t 7 (fun j => .int (Int32.ofInt ((st_row 1000003).getD j 0))) A s s.heap := by
  refine va_Tof (by decide) (hs _ (List.mem_of_getElem? (i := 12) (by decide +kernel))) (va_eqt (z := 7) (hs _ (List.mem_of_getElem? (i := 13) (by decide +kernel)))) (fun j hj => ?_) hA
  match j, hj with
  | 0, _ => exact va_eqt (z := 2) (hs _ (List.mem_of_getElem? (i := 14) (by decide +kernel)))
  | 1, _ => exact va_eqt (z := 1) (hs _ (List.mem_of_getElem? (i := 15) (by decide +kernel)))
  | 2, _ => exact va_eqt (z := 20) (hs _ (List.mem_of_getElem? (i := 16) (by decide +kernel)))
  | 3, _ => exact va_eqt (z := 20) (hs _ (List.mem_of_getElem? (i := 17) (by decide +kernel)))
  | 4, _ => exact va_eqt (z := 1) (hs _ (List.mem_of_getElem? (i := 18) (by decide +kernel)))
  | 5, _ => exact va_eqt (z := 0) (hs _ (List.mem_of_getElem? (i := 19) (by decide +kernel)))
  | 6, _ => exact va_eqt (z := 1) (hs _ (List.mem_of_getElem? (i := 20) (by decide +kernel)))
  | j + 7, h => exact absurd h (by omega)
abbrev st_tm : Nat → Term := fun i => if i = 0 then .string "BelievedOnce$TownReader" 63 else .string "BelievedOnce$TownReader" 98
theorem st_str {s : State} {args : Array Value} (hs : ∀ c ∈ flatC (Jvm.Cond.and given_1 narrow_1), c.before args s = true) {A : Nat → Prop} (hA : ∀ a : Nat, a < s.heap.size → ¬ A a) : ∃ adK adV : Nat → Nat, vk_S 2 [3, 7] [[115, 112, 108], [103, 101, 107, 119, 111, 97, 98]] adK adV A s s.heap ∧ ∀ i : Nat, i < 2 → (st_tm i).eval args s none [] s = some (.ref (adK i)) := by
  refine vk_Sof (tm := st_tm) (fun i hi => ?_) (fun i hi => ?_) (fun i hi => ?_) (fun i hi => ?_) (fun i hi => ?_) (fun i hi j hj => ?_) (fun i j hi hj hij => ?_) hA
  · match i, hi with
    | 0, _ => exact by decide
    | 1, _ => exact by decide
    | i + 2, h => exact absurd h (by omega)
  · match i, hi with
    | 0, _ => exact hs _ (List.mem_of_getElem? (i := 88) (by decide +kernel))
    | 1, _ => exact hs _ (List.mem_of_getElem? (i := 95) (by decide +kernel))
    | i + 2, h => exact absurd h (by omega)
  · match i, hi with
    | 0, _ => exact hs _ (List.mem_of_getElem? (i := 89) (by decide +kernel))
    | 1, _ => exact hs _ (List.mem_of_getElem? (i := 96) (by decide +kernel))
    | i + 2, h => exact absurd h (by omega)
  · match i, hi with
    | 0, _ => exact hs _ (List.mem_of_getElem? (i := 90) (by decide +kernel))
    | 1, _ => exact hs _ (List.mem_of_getElem? (i := 97) (by decide +kernel))
    | i + 2, h => exact absurd h (by omega)
  · match i, hi with
    | 0, _ => exact hs _ (List.mem_of_getElem? (i := 91) (by decide +kernel))
    | 1, _ => exact hs _ (List.mem_of_getElem? (i := 98) (by decide +kernel))
    | i + 2, h => exact absurd h (by omega)
  · match i, hi with
    | 0, _ =>
      match j, hj with
      | 0, _ => exact hs _ (List.mem_of_getElem? (i := 92) (by decide +kernel))
      | 1, _ => exact hs _ (List.mem_of_getElem? (i := 93) (by decide +kernel))
      | 2, _ => exact hs _ (List.mem_of_getElem? (i := 94) (by decide +kernel))
      | j + 3, h => exact absurd (show j + 3 < 3 from h) (by omega)
    | 1, _ =>
      match j, hj with
      | 0, _ => exact hs _ (List.mem_of_getElem? (i := 99) (by decide +kernel))
      | 1, _ => exact hs _ (List.mem_of_getElem? (i := 100) (by decide +kernel))
      | 2, _ => exact hs _ (List.mem_of_getElem? (i := 101) (by decide +kernel))
      | 3, _ => exact hs _ (List.mem_of_getElem? (i := 102) (by decide +kernel))
      | 4, _ => exact hs _ (List.mem_of_getElem? (i := 103) (by decide +kernel))
      | 5, _ => exact hs _ (List.mem_of_getElem? (i := 104) (by decide +kernel))
      | 6, _ => exact hs _ (List.mem_of_getElem? (i := 105) (by decide +kernel))
      | j + 7, h => exact absurd (show j + 7 < 7 from h) (by omega)
    | i + 2, h => exact absurd h (by omega)
  · match i, j, hi, hj, hij with
    | 0, 0, _, _, h => exact absurd rfl h
    | 1, 1, _, _, h => exact absurd rfl h
    | 0, 1, _, _, _ => exact Or.inl (hs _ (List.mem_of_getElem? (i := 106) (by decide +kernel)))
    | 1, 0, _, _, _ => exact Or.inr (hs _ (List.mem_of_getElem? (i := 106) (by decide +kernel)))
    | i + 2, _, h, _, _ => exact absurd h (by omega)
    | _, j + 2, _, h, _ => exact absurd h (by omega)
theorem st_msg {s : State} {args : Array Value} (hs : ∀ c ∈ flatC (Jvm.Cond.and given_1 narrow_1), c.before args s = true) : ∃ t : Nat, (Term.string "BelievedOnce" 186).eval args s none [] s = some (.ref t) := by
  obtain ⟨a, c, cA, kA, q1, -⟩ := Cond.exactly_spec (args := args) (first := s) (o := none) (s := s) (idx := []) (t := .string "BelievedOnce" 186) (cls := "java/lang/String") (hs _ (List.mem_of_getElem? (i := 107) (by decide +kernel)))
  exact ⟨a, q1⟩
theorem st_Z {s : State} {b L : Nat} {xs : Nat → Int32} (hL : L ≤ 3072) (hts : ∀ w ∈ lw_tbl, w.before #[Value.ref b] s = true) (hX : va_X b L xs s s.heap) (hbl : b < s.heap.size) (hgv : (Jvm.Cond.and given_1 narrow_1).before #[Value.ref b] s = true) (D : va_G) (tA : Nat → ClassId) : ∃ ad : Nat → Nat, sr_Z (D, tA, s.heap.size, ad, st_I L xs) s s.heap ∧ ad 6 = b := by
  have hs := flat_of_before _ hgv
  have hA : ∀ a : Nat, a < s.heap.size → ¬ (fun q : Nat => s.heap.size ≤ q) a := fun a h => Nat.not_le.mpr h
  obtain ⟨t0, e0, T0⟩ := st_s0 hs hA
  obtain ⟨t1, e1, T1⟩ := st_s1 hs hA
  obtain ⟨t2, e2, T2⟩ := st_s2 hs hA
  obtain ⟨t3, e3, T3⟩ := st_s3 hs hA
  obtain ⟨adK, adV, hS, hE⟩ := st_str hs hA
  obtain ⟨tm, hm⟩ := st_msg hs
  refine ⟨fun k => if k = 0 then t0 else if k = 1 then t1 else if k = 2 then t2 else if k = 3 then t3 else if k = 4 then adK 0 else if k = 5 then adK 1 else if k = 6 then b else if k = 7 then tm else if k = 8 then adV 0 else adV 1, ⟨fun k hk => ?_, ?_, hbl, ?_, ?_, ?_, ?_, ?_, ?_, ?_, ?_, ?_⟩, rfl⟩
  · match k, hk with
    | 0, _ => exact ⟨va_Zof (hts _ sl_0) (hts _ si_10) e0 hA, T0⟩
    | 1, _ => exact ⟨va_Zof (hts _ sl_1) (hts _ si_10) e1 hA, T1⟩
    | 2, _ => exact ⟨va_Zof (hts _ sl_2) (hts _ si_10) e2 hA, T2⟩
    | 3, _ => exact ⟨va_Zof (hts _ sl_3) (hts _ si_10) e3 hA, T3⟩
    | k + 4, h => exact absurd h (by omega)
  · obtain ⟨scr, h1, h2, h3, h4, h5⟩ := hX
    refine ⟨scr, h1, h2, h3, ?_, fun j hj => ?_⟩
    · rw [h4]; rfl
    · have hj2 : j < L := hj
      rw [h5 j hj2]
      have e9 : st_I L xs 1000006 j = (xs j).toInt := by
        show (if j = 5000 then (L : Int) else if j < L then (xs j).toInt else 0) = _
        rw [if_neg (by omega), if_pos hj2]
      show some (Value.int (xs j)) = some (Value.int (Int32.ofInt (st_I L xs 1000006 j)))
      rw [e9, Int32.ofInt_toInt]
  · exact Int.natCast_nonneg L
  · exact vk_R.of (hts _ sf_0) (hE 0 (by omega))
  · exact vk_R.of (hts _ sf_1) (hE 1 (by omega))
  · exact vk_R.of (hts _ sf_2) hm
  · refine ⟨fun i hi => ?_, fun i j hi hj he => ?_⟩
    · match i, hi with
      | 0, h => exact hS.1 0 h
      | 1, h => exact hS.1 1 h
      | i + 2, h => exact absurd h (by omega)
    · match i, j, hi, hj, he with
      | 0, 0, _, _, _ => rfl
      | 1, 1, _, _, _ => rfl
      | 0, 1, h, h', he => exact hS.2 0 1 h h' he
      | 1, 0, h, h', he => exact hS.2 1 0 h h' he
      | i + 2, _, h, _, _ => exact absurd h (by omega)
      | _, j + 2, _, h, _ => exact absurd h (by omega)
  · exact va_Zof (hts _ sl_4) (hts _ si_S) (va_eqt (hs _ hs_cs)) hA
  · exact va_Zqof (hts _ sl_5) (hts _ si_P) (hs _ hs_sf) hA
  · exact vx_Zqof (hts _ sl_6) (hts _ si_T) (hs _ hs_us) hA
  · exact vx_Zqof (hts _ sl_7) (hts _ si_T) (hs _ hs_ss) hA
theorem st_rgl (l : List Int) (h : (l.all fun z => decide (-2147483648 ≤ z) && decide (z < 2147483648)) = true) (j : Nat) : mm_rg (l.getD j 0) := by
  rw [List.getD_eq_getElem?_getD]
  cases hj : l[j]? with
  | none => exact so_r0
  | some z => exact sr_rgb (List.all_eq_true.mp h z (List.mem_of_getElem? hj))
theorem st_rg {L : Nat} {xs : Nat → Int32} (hL : L ≤ 3072) : sr_rg (st_I L xs) (fun _ _ => 0) := by
  intro a j
  refine ⟨?_, (by unfold mm_rgl; omega : mm_rgl 0)⟩
  unfold st_I
  split
  · split
    · unfold mm_rg; omega
    · split
      · exact so_rt _
      · exact so_r0
  · refine st_rgl _ ?_ j
    unfold st_row
    repeat' split
    all_goals decide
