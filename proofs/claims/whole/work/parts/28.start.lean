/-! THE START: the ground of the machine at the law's entry, and the law's own rows -/
def R_law : String := "BelievedOnceLaw"
def lw_P (b : Addr) (xs : List Int32) (args : Array Value) (s : State) : Prop := args = #[.ref b] ∧ s.IntsAt b xs ∧ xs.length ≤ 3072 ∧ (Jvm.Cond.and given_1 narrow_1).before args s = true
def lw_Q (_ : Array Value) (s : State) (o : Outcome) (t : State) : Prop := o = .returned (some (.int 1)) ∧ Framed s o t [] 601024 7293034
def lw_Z (below : List Frame) (a : Array Value) (s : State) : State → Prop := fun t => ∃ o, t.status = .running ∧ Ended t below o ∧ lw_Q a s o t
/-- the law's own end, with 1 on the stack, nothing written that was there before, its room as the claim has it -/
theorem lw_ret {p : Program} {l : Launch} {e : Env} {s : State} {m : MethodId} {below : List Frame} {meth : Method} {c : Code} {b : Nat} (hx : p.tables.exec = Jvm.exec) (hb : c.code = code) (hr : meth.sig.returnType = ret) (hlocks : meth.locks = false) {pc : Nat} {H : Heap} {ls : Array Slot} (hdg : decode code pc = .ok (.ireturn, 1)) : W p l e room_1 s m #[Value.ref b] below meth c H [] 601024 7293034 (lw_Z below #[Value.ref b] s) (F0 m pc ls [.int 1]) := by
  intro T hT X
  obtain ⟨fs, hret, hrun, hended, hW, hframe⟩ := X.leave (v := some (.int 1)) (hlocks := hlocks) (fun h => by rw [hr] at h; cases h)
  have hmeth' : T.vm.method? m = some meth := X.method'
  refine ⟨T.setFrames fs, ?_, .returned (some (.int 1)), hrun, hended, rfl, ⟨_, rfl⟩, hW, hframe⟩
  jvm_step X.here [X.here.top, hx, hb, hdg, hmeth', hr, ret, narrow_b1]
  (try refine ⟨rfl, ?_⟩); (try refine ⟨rfl, ?_⟩)
  first | (intro acts; rw [hret _ acts rfl rfl rfl]) | rw [hret _ _ rfl rfl rfl]
  exact Steps.refl _
/-- what holds at the law's entry: the machine, the code, the tables' words (any of lw_tbl by 'hts w (by decide +kernel)'), the script of L ints xs at the cell b, what the Statement gives of the start (any of its parts by flat_of_before) -/
def lw_At (p : Program) (s : State) (m : MethodId) (meth : Method) (c : Code) (b L : Nat) (xs : Nat → Int32) : Prop :=
  p.tables.exec = Jvm.exec ∧ c.code = code ∧ meth.sig.returnType = ret ∧ c.maxLocals = 7 ∧ s.vm.findClass R_law = some m.cls ∧ (∀ w ∈ lw_tbl, w.before #[Value.ref b] s = true) ∧ va_X b L xs s s.heap ∧ b < s.heap.size ∧ meth.locks = false ∧ (Jvm.Cond.and given_1 narrow_1).before #[Value.ref b] s = true
/-- the ints that stand there before: four rows of TownReader, the script -/
def st_row (a : Nat) : List Int := if a = 1000000 then [0, 3, 5, 7] else if a = 1000001 then [1, 0, 0, 1, 0, 0, 0] else if a = 1000002 then [5, 4, 99, 99, 9, 7, 7] else if a = 1000003 then [2, 1, 20, 20, 1, 0, 1] else []
def st_I (L : Nat) (xs : Nat → Int32) : mm_I := fun a j => if a = 1000006 then (if j = 5000 then (L : Int) else if j < L then (xs j).toInt else 0) else (st_row a).getD j 0
theorem st_isN : ∀ w : Cond, sr_isN w = true → w.onTables = true := by
  intro w h
  cases w <;> first | rfl | cases h
theorem st_cls {s : State} {C : String} {T : u_T} {N : Nat} (h : ∃ (cC : ClassId) (iS : Nat → Nat), u_Kn s C T N cC iS) : ∃ r : ClassId × (Nat → Nat), ∀ q : vw_C, some (C, T, N) = some q → u_Kn s q.1 q.2.1 q.2.2 r.1 r.2 := by
  obtain ⟨cC, iS, h⟩ := h
  exact ⟨(cC, iS), fun q hq => by cases hq; exact h⟩
theorem st_arrP {s : State} {args : Array Value} {ty : FieldType} (hno : va_RA s = va_RA s) (h : (Cond.arrayClass ty).before args s = true) (hty : ∀ C, ty ≠ .object C) : ∃ c : ClassId, ArrOfT s c ty ∧ va_RA s c ty := by
  obtain ⟨c, k, comp, h1, h2, h3⟩ := Cond.arrayClass_spec h
  refine ⟨c, fun n z => ⟨fun k h => (by cases h), k, h2, comp, h3⟩, ?_⟩
  unfold va_RA
  split
  · exact absurd rfl (hty _)
  · exact h1
theorem st_arrO {s : State} {args : Array Value} {C : String} (h : (Cond.arrayOver (.object C)).before args s = true) : ∃ c : ClassId, ArrOfT s c (.object C) ∧ va_RA s c (.object C) := by
  obtain ⟨comp, c, k, h1, h2, h3, h4, h5⟩ := Cond.arrayOver_spec h
  exact ⟨c, fun n z => ⟨fun k h => (by cases h), k, h3, comp, h4⟩, k, comp, h3, h4, h1, h5⟩
theorem sn_i0 : Cond.instantiable RX0 4 ∈ sr_T := sr_in1 373 (by decide +kernel) (by decide +kernel)
theorem sn_i1 : Cond.instantiable RX1 3 ∈ sr_T := sr_in1 305 (by decide +kernel) (by decide +kernel)
theorem sn_i2 : Cond.instantiable RX2 7 ∈ sr_T := sr_in1 341 (by decide +kernel) (by decide +kernel)
theorem sn_i3 : Cond.instantiable RX3 5 ∈ sr_T := sr_in1 236 (by decide +kernel) (by decide +kernel)
theorem sn_i5 : Cond.instantiable RX5 9 ∈ sr_T := sr_in1 259 (by decide +kernel) (by decide +kernel)
theorem sn_i6 : Cond.instantiable RX6 3 ∈ sr_T := sr_in1 321 (by decide +kernel) (by decide +kernel)
theorem sn_i7 : Cond.instantiable RX7 2 ∈ sr_T := sr_in1 397 (by decide +kernel) (by decide +kernel)
theorem sn_i8 : Cond.instantiable RX8 3 ∈ sr_T := sr_in1 139 (by decide +kernel) (by decide +kernel)
theorem sn_i9 : Cond.instantiable RX9 9 ∈ sr_T := sr_in1 182 (by decide +kernel) (by decide +kernel)
theorem sn_i10 : Cond.instantiable RX10 5 ∈ sr_T := sr_in1 160 (by decide +kernel) (by decide +kernel)
theorem sn_i11 : Cond.instantiable RX11 18 ∈ sr_T := sr_in1 131 (by decide +kernel) (by decide +kernel)
theorem sn_i12 : Cond.instantiable RX12 47 ∈ sr_T := sr_in1 1170 (by decide +kernel) (by decide +kernel)
theorem ta_0 : Cond.arrayClass .int ∈ sr_T := sr_in1 158 (by decide +kernel) (by decide +kernel)
theorem ta_1 : Cond.arrayClass .boolean ∈ sr_T := sr_in1 371 (by decide +kernel) (by decide +kernel)
theorem ta_2 : Cond.arrayClass .long ∈ sr_T := sr_in1 1790 (by decide +kernel) (by decide +kernel)
theorem ta_3 : Cond.arrayOver (.object RX5) ∈ lw_tbl := List.mem_of_getElem? (i := 327) (by decide +kernel)
theorem ta_4 : Cond.arrayOver (.object RX3) ∈ lw_tbl := List.mem_of_getElem? (i := 235) (by decide +kernel)
theorem st_K {s : State} {args : Array Value} (hts : ∀ w ∈ lw_tbl, w.before args s = true) : ∃ (D : va_G) (tA : Nat → ClassId), ∀ (B : Nat) (ad : Nat → Nat) (J : mm_I), sr_K (D, tA, B, ad, J) s := by
  have hts' : ∀ w ∈ sr_T, w.before args s = true := fun w hw => hts w (List.mem_filter.mp hw).1
  have hk : ∀ k : Nat, ∃ r : ClassId × (Nat → Nat), ∀ q : vw_C, sr_cl[k]? = some q → u_Kn s q.1 q.2.1 q.2.2 r.1 r.2 := by
    intro k
    match k with
    | 0 => exact st_cls (u_known hts' sr_ok0.2.2.1 (hts' _ sn_i0))
    | 1 => exact st_cls (u_known hts' sr_ok1.2.2.1 (hts' _ sn_i1))
    | 2 => exact st_cls (u_known hts' sr_ok2.2.2.1 (hts' _ sn_i2))
    | 3 => exact st_cls (u_known hts' sr_ok3.2.2.1 (hts' _ sn_i3))
    | 4 => exact st_cls (u_known hts' sr_ok5.2.2.1 (hts' _ sn_i5))
    | 5 => exact st_cls (u_known hts' sr_ok5.2.2.1 (hts' _ sn_i5))
    | 6 => exact st_cls (u_known hts' sr_ok6.2.2.1 (hts' _ sn_i6))
    | 7 => exact st_cls (u_known hts' sr_ok7.2.2.1 (hts' _ sn_i7))
    | 8 => exact st_cls (u_known hts' sr_ok8.2.2.1 (hts' _ sn_i8))
    | 9 => exact st_cls (u_known hts' sr_ok9.2.2.1 (hts' _ sn_i9))
    | 10 => exact st_cls (u_known hts' sr_ok10.2.2.1 (hts' _ sn_i10))
    | 11 => exact st_cls (u_known hts' sr_ok11.2.2.1 (hts' _ sn_i11))
    | 12 => exact st_cls (u_known hts' sr_ok12.2.2.1 (hts' _ sn_i12))
    | k + 13 => exact ⟨(0, fun _ => 0), fun q h => by simp [sr_cl] at h⟩
  obtain ⟨f, hf⟩ := Classical.axiomOfChoice hk
  have ht : ∀ k : Nat, ∃ c : ClassId, ∀ q : ClassId × FieldType, (sr_tys (((fun c => (f c).1), (fun c => (f c).2)), (fun _ => c), 0, (fun _ => 0), (fun _ _ => 0)))[k]? = some q → ArrOfT s q.1 q.2 ∧ va_RA s q.1 q.2 := by
    intro k
    match k with
    | 0 => obtain ⟨c, h1, h2⟩ := st_arrP (ty := .int) rfl (hts' _ ta_0) (fun _ h => by cases h); exact ⟨c, fun q h => by cases h; exact ⟨h1, h2⟩⟩
    | 1 => obtain ⟨c, h1, h2⟩ := st_arrP (ty := .boolean) rfl (hts' _ ta_1) (fun _ h => by cases h); exact ⟨c, fun q h => by cases h; exact ⟨h1, h2⟩⟩
    | 2 => obtain ⟨c, h1, h2⟩ := st_arrP (ty := .long) rfl (hts' _ ta_2) (fun _ h => by cases h); exact ⟨c, fun q h => by cases h; exact ⟨h1, h2⟩⟩
    | 3 => obtain ⟨c, h1, h2⟩ := st_arrO (C := RX5) (hts _ ta_3); exact ⟨c, fun q h => by cases h; exact ⟨h1, h2⟩⟩
    | 4 => obtain ⟨c, h1, h2⟩ := st_arrO (C := RX3) (hts _ ta_4); exact ⟨c, fun q h => by cases h; exact ⟨h1, h2⟩⟩
    | k + 5 => exact ⟨0, fun q h => by simp [sr_tys] at h⟩
  obtain ⟨g, hg⟩ := Classical.axiomOfChoice ht
  refine ⟨((fun c => (f c).1), (fun c => (f c).2)), g, fun B ad J => ⟨⟨fun c q hq => hf c q hq, fun k q hq => ?_⟩, fun w hw => ?_, va_AO.of (hts _ ta_3), va_AO.of (hts _ ta_4)⟩⟩
  · match k, hq with
    | 0, hq => exact hg 0 q hq
    | 1, hq => exact hg 1 q hq
    | 2, hq => exact hg 2 q hq
    | 3, hq => exact hg 3 q hq
    | 4, hq => exact hg 4 q hq
    | k + 5, hq => simp [sr_tys] at hq
  · have h1 := List.mem_filter.mp hw
    exact va_Nw.of (st_isN w h1.2) (hts w h1.1)
theorem si_10 : Cond.initialized RX10 ∈ lw_tbl := List.mem_of_getElem? (i := 107) (by decide +kernel)
theorem si_S : Cond.initialized "java/lang/String" ∈ lw_tbl := List.mem_of_getElem? (i := 117) (by decide +kernel)
theorem si_P : Cond.initialized "jdk/internal/util/Preconditions" ∈ lw_tbl := List.mem_of_getElem? (i := 119) (by decide +kernel)
theorem si_T : Cond.initialized "java/lang/Throwable" ∈ lw_tbl := List.mem_of_getElem? (i := 123) (by decide +kernel)
theorem sl_0 : Cond.laysStatic "BelievedOnce$TownReader" "FIRST" "[I" ∈ lw_tbl := List.mem_of_getElem? (i := 494) (by decide +kernel)
theorem sl_1 : Cond.laysStatic "BelievedOnce$TownReader" "LEAST" "[I" ∈ lw_tbl := List.mem_of_getElem? (i := 580) (by decide +kernel)
theorem sl_2 : Cond.laysStatic "BelievedOnce$TownReader" "MOST" "[I" ∈ lw_tbl := List.mem_of_getElem? (i := 582) (by decide +kernel)
theorem sl_3 : Cond.laysStatic "BelievedOnce$TownReader" "USUAL" "[I" ∈ lw_tbl := List.mem_of_getElem? (i := 496) (by decide +kernel)
theorem sl_4 : Cond.laysStatic "java/lang/String" "COMPACT_STRINGS" "Z" ∈ lw_tbl := List.mem_of_getElem? (i := 515) (by decide +kernel)
theorem sl_5 : Cond.laysStatic "jdk/internal/util/Preconditions" "SIOOBE_FORMATTER" "Ljava/util/function/BiFunction;" ∈ lw_tbl := List.mem_of_getElem? (i := 538) (by decide +kernel)
theorem sl_6 : Cond.laysStatic "java/lang/Throwable" "UNASSIGNED_STACK" "[Ljava/lang/StackTraceElement;" ∈ lw_tbl := List.mem_of_getElem? (i := 1131) (by decide +kernel)
theorem sl_7 : Cond.laysStatic "java/lang/Throwable" "SUPPRESSED_SENTINEL" "Ljava/util/List;" ∈ lw_tbl := List.mem_of_getElem? (i := 1133) (by decide +kernel)
theorem sf_0 : Cond.stringRef "BelievedOnce$TownReader" 63 "spl" ∈ lw_tbl := List.mem_of_getElem? (i := 505) (by decide +kernel)
theorem sf_1 : Cond.stringRef "BelievedOnce$TownReader" 98 "gekwoab" ∈ lw_tbl := List.mem_of_getElem? (i := 569) (by decide +kernel)
theorem sf_2 : Cond.stringRef "BelievedOnce" 176 "no such PLACE, or nothing such to tell of it" ∈ lw_tbl := List.mem_of_getElem? (i := 1143) (by decide +kernel)
theorem hs_cs : Cond.eq (.static "java/lang/String" "COMPACT_STRINGS" "Z") (.int 1) ∈ flatC (Jvm.Cond.and given_1 narrow_1) := List.mem_of_getElem? (i := 21) (by decide +kernel)
theorem hs_sf : Cond.isRef (.static "jdk/internal/util/Preconditions" "SIOOBE_FORMATTER" "Ljava/util/function/BiFunction;") ∈ flatC (Jvm.Cond.and given_1 narrow_1) := List.mem_of_getElem? (i := 22) (by decide +kernel)
theorem hs_us : Cond.isRef (.static "java/lang/Throwable" "UNASSIGNED_STACK" "[Ljava/lang/StackTraceElement;") ∈ flatC (Jvm.Cond.and given_1 narrow_1) := List.mem_of_getElem? (i := 46) (by decide +kernel)
theorem hs_ss : Cond.isRef (.static "java/lang/Throwable" "SUPPRESSED_SENTINEL" "Ljava/util/List;") ∈ flatC (Jvm.Cond.and given_1 narrow_1) := List.mem_of_getElem? (i := 47) (by decide +kernel)
theorem st_s0 {s : State} {args : Array Value} (hs : ∀ c ∈ flatC (Jvm.Cond.and given_1 narrow_1), c.before args s = true) {A : Nat → Prop} (hA : ∀ a : Nat, a < s.heap.size → ¬ A a) : ∃ t : Nat, (Term.static "BelievedOnce$TownReader" "FIRST" "[I").eval args s none [] s = some (.ref t) ∧ va_T .int t 4 (fun j => .int (Int32.ofInt ((st_row 1000000).getD j 0))) A s s.heap := by
  refine va_Tof (by decide) (hs _ (List.mem_of_getElem? (i := 5) (by decide +kernel))) (va_eqt (z := 4) (hs _ (List.mem_of_getElem? (i := 6) (by decide +kernel)))) (fun j hj => ?_) hA
  match j, hj with
  | 0, _ => exact va_eqt (z := 0) (hs _ (List.mem_of_getElem? (i := 7) (by decide +kernel)))
  | 1, _ => exact va_eqt (z := 3) (hs _ (List.mem_of_getElem? (i := 8) (by decide +kernel)))
  | 2, _ => exact va_eqt (z := 5) (hs _ (List.mem_of_getElem? (i := 9) (by decide +kernel)))
  | 3, _ => exact va_eqt (z := 7) (hs _ (List.mem_of_getElem? (i := 10) (by decide +kernel)))
  | j + 4, h => exact absurd h (by omega)
theorem st_s1 {s : State} {args : Array Value} (hs : ∀ c ∈ flatC (Jvm.Cond.and given_1 narrow_1), c.before args s = true) {A : Nat → Prop} (hA : ∀ a : Nat, a < s.heap.size → ¬ A a) : ∃ t : Nat, (Term.static "BelievedOnce$TownReader" "LEAST" "[I").eval args s none [] s = some (.ref t) ∧ va_T .int t 7 (fun j => .int (Int32.ofInt ((st_row 1000001).getD j 0))) A s s.heap := by
  refine va_Tof (by decide) (hs _ (List.mem_of_getElem? (i := 27) (by decide +kernel))) (va_eqt (z := 7) (hs _ (List.mem_of_getElem? (i := 28) (by decide +kernel)))) (fun j hj => ?_) hA
  match j, hj with
  | 0, _ => exact va_eqt (z := 1) (hs _ (List.mem_of_getElem? (i := 29) (by decide +kernel)))
  | 1, _ => exact va_eqt (z := 0) (hs _ (List.mem_of_getElem? (i := 30) (by decide +kernel)))
  | 2, _ => exact va_eqt (z := 0) (hs _ (List.mem_of_getElem? (i := 31) (by decide +kernel)))
  | 3, _ => exact va_eqt (z := 1) (hs _ (List.mem_of_getElem? (i := 32) (by decide +kernel)))
  | 4, _ => exact va_eqt (z := 0) (hs _ (List.mem_of_getElem? (i := 33) (by decide +kernel)))
  | 5, _ => exact va_eqt (z := 0) (hs _ (List.mem_of_getElem? (i := 34) (by decide +kernel)))
  | 6, _ => exact va_eqt (z := 0) (hs _ (List.mem_of_getElem? (i := 35) (by decide +kernel)))
  | j + 7, h => exact absurd h (by omega)
theorem st_s2 {s : State} {args : Array Value} (hs : ∀ c ∈ flatC (Jvm.Cond.and given_1 narrow_1), c.before args s = true) {A : Nat → Prop} (hA : ∀ a : Nat, a < s.heap.size → ¬ A a) : ∃ t : Nat, (Term.static "BelievedOnce$TownReader" "MOST" "[I").eval args s none [] s = some (.ref t) ∧ va_T .int t 7 (fun j => .int (Int32.ofInt ((st_row 1000002).getD j 0))) A s s.heap := by
  refine va_Tof (by decide) (hs _ (List.mem_of_getElem? (i := 37) (by decide +kernel))) (va_eqt (z := 7) (hs _ (List.mem_of_getElem? (i := 38) (by decide +kernel)))) (fun j hj => ?_) hA
  match j, hj with
  | 0, _ => exact va_eqt (z := 5) (hs _ (List.mem_of_getElem? (i := 39) (by decide +kernel)))
  | 1, _ => exact va_eqt (z := 4) (hs _ (List.mem_of_getElem? (i := 40) (by decide +kernel)))
  | 2, _ => exact va_eqt (z := 99) (hs _ (List.mem_of_getElem? (i := 41) (by decide +kernel)))
  | 3, _ => exact va_eqt (z := 99) (hs _ (List.mem_of_getElem? (i := 42) (by decide +kernel)))
  | 4, _ => exact va_eqt (z := 9) (hs _ (List.mem_of_getElem? (i := 43) (by decide +kernel)))
  | 5, _ => exact va_eqt (z := 7) (hs _ (List.mem_of_getElem? (i := 44) (by decide +kernel)))
  | 6, _ => exact va_eqt (z := 7) (hs _ (List.mem_of_getElem? (i := 45) (by decide +kernel)))
  | j + 7, h => exact absurd h (by omega)
theorem st_s3 {s : State} {args : Array Value} (hs : ∀ c ∈ flatC (Jvm.Cond.and given_1 narrow_1), c.before args s = true) {A : Nat → Prop} (hA : ∀ a : Nat, a < s.heap.size → ¬ A a) : ∃ t : Nat, (Term.static "BelievedOnce$TownReader" "USUAL" "[I").eval args s none [] s = some (.ref t) ∧ va_T .int t 7 (fun j => .int (Int32.ofInt ((st_row 1000003).getD j 0))) A s s.heap := by
  refine va_Tof (by decide) (hs _ (List.mem_of_getElem? (i := 12) (by decide +kernel))) (va_eqt (z := 7) (hs _ (List.mem_of_getElem? (i := 13) (by decide +kernel)))) (fun j hj => ?_) hA
  match j, hj with
  | 0, _ => exact va_eqt (z := 2) (hs _ (List.mem_of_getElem? (i := 14) (by decide +kernel)))
  | 1, _ => exact va_eqt (z := 1) (hs _ (List.mem_of_getElem? (i := 15) (by decide +kernel)))
  | 2, _ => exact va_eqt (z := 20) (hs _ (List.mem_of_getElem? (i := 16) (by decide +kernel)))
  | 3, _ => exact va_eqt (z := 20) (hs _ (List.mem_of_getElem? (i := 17) (by decide +kernel)))
  | 4, _ => exact va_eqt (z := 1) (hs _ (List.mem_of_getElem? (i := 18) (by decide +kernel)))
  | 5, _ => exact va_eqt (z := 0) (hs _ (List.mem_of_getElem? (i := 19) (by decide +kernel)))
  | 6, _ => exact va_eqt (z := 1) (hs _ (List.mem_of_getElem? (i := 20) (by decide +kernel)))
  | j + 7, h => exact absurd h (by omega)
abbrev st_tm : Nat → Term := fun i => if i = 0 then .string "BelievedOnce$TownReader" 63 else .string "BelievedOnce$TownReader" 98
theorem st_str {s : State} {args : Array Value} (hs : ∀ c ∈ flatC (Jvm.Cond.and given_1 narrow_1), c.before args s = true) {A : Nat → Prop} (hA : ∀ a : Nat, a < s.heap.size → ¬ A a) : ∃ adK adV : Nat → Nat, vk_S 2 [3, 7] [[115, 112, 108], [103, 101, 107, 119, 111, 97, 98]] adK adV A s s.heap ∧ ∀ i : Nat, i < 2 → (st_tm i).eval args s none [] s = some (.ref (adK i)) := by
  refine vk_Sof (tm := st_tm) (fun i hi => ?_) (fun i hi => ?_) (fun i hi => ?_) (fun i hi => ?_) (fun i hi => ?_) (fun i hi j hj => ?_) (fun i j hi hj hij => ?_) hA
  · match i, hi with
    | 0, _ => exact by decide
    | 1, _ => exact by decide
    | i + 2, h => exact absurd h (by omega)
  · match i, hi with
    | 0, _ => exact hs _ (List.mem_of_getElem? (i := 88) (by decide +kernel))
    | 1, _ => exact hs _ (List.mem_of_getElem? (i := 95) (by decide +kernel))
    | i + 2, h => exact absurd h (by omega)
  · match i, hi with
    | 0, _ => exact hs _ (List.mem_of_getElem? (i := 89) (by decide +kernel))
    | 1, _ => exact hs _ (List.mem_of_getElem? (i := 96) (by decide +kernel))
    | i + 2, h => exact absurd h (by omega)
  · match i, hi with
    | 0, _ => exact hs _ (List.mem_of_getElem? (i := 90) (by decide +kernel))
    | 1, _ => exact hs _ (List.mem_of_getElem? (i := 97) (by decide +kernel))
    | i + 2, h => exact absurd h (by omega)
  · match i, hi with
    | 0, _ => exact hs _ (List.mem_of_getElem? (i := 91) (by decide +kernel))
    | 1, _ => exact hs _ (List.mem_of_getElem? (i := 98) (by decide +kernel))
    | i + 2, h => exact absurd h (by omega)
  · match i, hi with
    | 0, _ =>
      match j, hj with
      | 0, _ => exact hs _ (List.mem_of_getElem? (i := 92) (by decide +kernel))
      | 1, _ => exact hs _ (List.mem_of_getElem? (i := 93) (by decide +kernel))
      | 2, _ => exact hs _ (List.mem_of_getElem? (i := 94) (by decide +kernel))
      | j + 3, h => exact absurd (show j + 3 < 3 from h) (by omega)
    | 1, _ =>
      match j, hj with
      | 0, _ => exact hs _ (List.mem_of_getElem? (i := 99) (by decide +kernel))
      | 1, _ => exact hs _ (List.mem_of_getElem? (i := 100) (by decide +kernel))
      | 2, _ => exact hs _ (List.mem_of_getElem? (i := 101) (by decide +kernel))
      | 3, _ => exact hs _ (List.mem_of_getElem? (i := 102) (by decide +kernel))
      | 4, _ => exact hs _ (List.mem_of_getElem? (i := 103) (by decide +kernel))
      | 5, _ => exact hs _ (List.mem_of_getElem? (i := 104) (by decide +kernel))
      | 6, _ => exact hs _ (List.mem_of_getElem? (i := 105) (by decide +kernel))
      | j + 7, h => exact absurd (show j + 7 < 7 from h) (by omega)
    | i + 2, h => exact absurd h (by omega)
  · match i, j, hi, hj, hij with
    | 0, 0, _, _, h => exact absurd rfl h
    | 1, 1, _, _, h => exact absurd rfl h
    | 0, 1, _, _, _ => exact Or.inl (hs _ (List.mem_of_getElem? (i := 106) (by decide +kernel)))
    | 1, 0, _, _, _ => exact Or.inr (hs _ (List.mem_of_getElem? (i := 106) (by decide +kernel)))
    | i + 2, _, h, _, _ => exact absurd h (by omega)
    | _, j + 2, _, h, _ => exact absurd h (by omega)
theorem st_msg {s : State} {args : Array Value} (hs : ∀ c ∈ flatC (Jvm.Cond.and given_1 narrow_1), c.before args s = true) : ∃ t : Nat, (Term.string "BelievedOnce" 176).eval args s none [] s = some (.ref t) := by
  obtain ⟨a, c, cA, kA, q1, -⟩ := Cond.exactly_spec (args := args) (first := s) (o := none) (s := s) (idx := []) (t := .string "BelievedOnce" 176) (cls := "java/lang/String") (hs _ (List.mem_of_getElem? (i := 107) (by decide +kernel)))
  exact ⟨a, q1⟩
theorem st_Z {s : State} {b L : Nat} {xs : Nat → Int32} (hL : L ≤ 3072) (hts : ∀ w ∈ lw_tbl, w.before #[Value.ref b] s = true) (hX : va_X b L xs s s.heap) (hbl : b < s.heap.size) (hgv : (Jvm.Cond.and given_1 narrow_1).before #[Value.ref b] s = true) (D : va_G) (tA : Nat → ClassId) : ∃ ad : Nat → Nat, sr_Z (D, tA, s.heap.size, ad, st_I L xs) s s.heap ∧ ad 6 = b := by
  have hs := flat_of_before _ hgv
  have hA : ∀ a : Nat, a < s.heap.size → ¬ (fun q : Nat => s.heap.size ≤ q) a := fun a h => Nat.not_le.mpr h
  obtain ⟨t0, e0, T0⟩ := st_s0 hs hA
  obtain ⟨t1, e1, T1⟩ := st_s1 hs hA
  obtain ⟨t2, e2, T2⟩ := st_s2 hs hA
  obtain ⟨t3, e3, T3⟩ := st_s3 hs hA
  obtain ⟨adK, adV, hS, hE⟩ := st_str hs hA
  obtain ⟨tm, hm⟩ := st_msg hs
  refine ⟨fun k => if k = 0 then t0 else if k = 1 then t1 else if k = 2 then t2 else if k = 3 then t3 else if k = 4 then adK 0 else if k = 5 then adK 1 else if k = 6 then b else if k = 7 then tm else if k = 8 then adV 0 else adV 1, ⟨fun k hk => ?_, ?_, hbl, ?_, ?_, ?_, ?_, ?_, ?_, ?_, ?_, ?_⟩, rfl⟩
  · match k, hk with
    | 0, _ => exact ⟨va_Zof (hts _ sl_0) (hts _ si_10) e0 hA, T0⟩
    | 1, _ => exact ⟨va_Zof (hts _ sl_1) (hts _ si_10) e1 hA, T1⟩
    | 2, _ => exact ⟨va_Zof (hts _ sl_2) (hts _ si_10) e2 hA, T2⟩
    | 3, _ => exact ⟨va_Zof (hts _ sl_3) (hts _ si_10) e3 hA, T3⟩
    | k + 4, h => exact absurd h (by omega)
  · obtain ⟨scr, h1, h2, h3, h4, h5⟩ := hX
    refine ⟨scr, h1, h2, h3, ?_, fun j hj => ?_⟩
    · rw [h4]; rfl
    · have hj2 : j < L := hj
      rw [h5 j hj2]
      have e9 : st_I L xs 1000006 j = (xs j).toInt := by
        show (if j = 5000 then (L : Int) else if j < L then (xs j).toInt else 0) = _
        rw [if_neg (by omega), if_pos hj2]
      show some (Value.int (xs j)) = some (Value.int (Int32.ofInt (st_I L xs 1000006 j)))
      rw [e9, Int32.ofInt_toInt]
  · exact Int.natCast_nonneg L
  · exact vk_R.of (hts _ sf_0) (hE 0 (by omega))
  · exact vk_R.of (hts _ sf_1) (hE 1 (by omega))
  · exact vk_R.of (hts _ sf_2) hm
  · refine ⟨fun i hi => ?_, fun i j hi hj he => ?_⟩
    · match i, hi with
      | 0, h => exact hS.1 0 h
      | 1, h => exact hS.1 1 h
      | i + 2, h => exact absurd h (by omega)
    · match i, j, hi, hj, he with
      | 0, 0, _, _, _ => rfl
      | 1, 1, _, _, _ => rfl
      | 0, 1, h, h', he => exact hS.2 0 1 h h' he
      | 1, 0, h, h', he => exact hS.2 1 0 h h' he
      | i + 2, _, h, _, _ => exact absurd h (by omega)
      | _, j + 2, _, h, _ => exact absurd h (by omega)
  · exact va_Zof (hts _ sl_4) (hts _ si_S) (va_eqt (hs _ hs_cs)) hA
  · exact va_Zqof (hts _ sl_5) (hts _ si_P) (hs _ hs_sf) hA
  · exact vx_Zqof (hts _ sl_6) (hts _ si_T) (hs _ hs_us) hA
  · exact vx_Zqof (hts _ sl_7) (hts _ si_T) (hs _ hs_ss) hA
theorem st_rgl (l : List Int) (h : (l.all fun z => decide (-2147483648 ≤ z) && decide (z < 2147483648)) = true) (j : Nat) : mm_rg (l.getD j 0) := by
  rw [List.getD_eq_getElem?_getD]
  cases hj : l[j]? with
  | none => exact so_r0
  | some z => exact sr_rgb (List.all_eq_true.mp h z (List.mem_of_getElem? hj))
theorem st_rg {L : Nat} {xs : Nat → Int32} (hL : L ≤ 3072) : sr_rg (st_I L xs) (fun _ _ => 0) := by
  intro a j
  refine ⟨?_, by unfold mm_rgl; omega⟩
  unfold st_I
  split
  · split
    · unfold mm_rg; omega
    · split
      · exact so_rt _
      · exact so_r0
  · refine st_rgl _ ?_ j
    unfold st_row
    repeat' split
    all_goals decide
/-! the law's own rows -/
def st_ok (mnm : String) (q : Nat × mm_T) : Prop := (sr_Snd sr_tb code 7 RL mnm q.1 q.2 ∧ sr_NR q.2) ∨ (q.2 = mm_rz 2 ∧ decode code q.1 = .ok (.ireturn, 1))
def mc_0 : List (Nat × mm_T) := [(0, mm_new 11 3), (3, mm_dup 4), (4, mm_cI 83 0 7), (7, mm_as 1 8), (8, mm_new 12 11), (11, mm_dup 12), (12, mm_cI 147 0 15), (15, mm_as 2 16), (16, mm_push (.inl 1) 17), (17, mm_newa 22 19), (19, mm_as 3 20), (20, mm_push (.inl 0) 21), (21, mm_is 4 23), (23, mm_il 4 25), (25, mm_al 0 26), (26, mm_xlen 27), (27, mm_push (.inl 6) 29), (29, mm_bi mm_sub 30), (30, mm_ic (fun x y => decide (y < x)) 1500 33), (33, mm_al 0 34), (34, mm_il 4 36), (36, mm_xald 37), (37, mm_push (.inl 63) 39), (39, mm_bi mm_and 40), (40, mm_swi [(0, 212), (1, 285), (2, 310), (3, 335), (4, 360), (5, 385), (6, 453), (7, 490), (8, 515), (9, 540), (10, 565), (11, 590), (12, 603), (13, 616), (14, 629), (15, 678), (16, 703), (17, 772), (18, 797), (19, 810), (20, 847), (21, 872), (22, 909), (23, 934), (24, 971), (25, 984), (26, 1021), (27, 1058), (28, 1071), (29, 1148), (30, 1173), (31, 1198), (32, 1271), (33, 1320), (34, 1381), (35, 1418), (36, 1443), (37, 1456), (38, 1469)] 1494), (212, mm_al 1 213), (213, mm_al 0 214), (214, mm_il 4 216), (216, mm_push (.inl 1) 217), (217, mm_bi mm_add 218), (218, mm_xald 219), (219, mm_al 0 220), (220, mm_il 4 222), (222, mm_push (.inl 2) 223), (223, mm_bi mm_add 224), (224, mm_xald 225), (225, mm_al 0 226), (226, mm_il 4 228), (228, mm_push (.inl 3) 229), (229, mm_bi mm_add 230), (230, mm_xald 231), (231, mm_al 0 232), (232, mm_il 4 234), (234, mm_push (.inl 4) 235), (235, mm_bi mm_add 236), (236, mm_xald 237), (237, mm_al 0 238), (238, mm_il 4 240), (240, mm_push (.inl 5) 241), (241, mm_bi mm_add 242), (242, mm_xald 243), (243, mm_cV 84 11 5 true 246), (246, mm_al 2 247), (247, mm_al 0 248), (248, mm_il 4 250), (250, mm_push (.inl 1) 251), (251, mm_bi mm_add 252), (252, mm_xald 253), (253, mm_al 0 254), (254, mm_il 4 256)]
set_option maxRecDepth 100000 in
theorem mc_ok0 (mnm : String) : ∀ q ∈ mc_0, st_ok mnm q :=
  (sr_fm (Or.inl ⟨sn_new (idx := 8) sr_ok11 sr_kk11 sr_ln11 (by decide +kernel) tw_996 tw_997 tw_433, nr_new⟩) 
  (sr_fm (Or.inl ⟨sn_dup (by decide +kernel), nr_dup⟩) 
  (sr_fm (Or.inl ⟨sn_cI (idx := 15) (host := "") (by decide +kernel) rfl (by decide) rfl ym_83.2 (Or.inl tw_998) tw_999 tw_433 tw_1000, nr_cI⟩) 
  (sr_fm (Or.inl ⟨sn_astore_n (j := 1) (i := 1) (by decide +kernel) rfl (by decide), nr_as⟩) 
  (sr_fm (Or.inl ⟨sn_new (idx := 16) sr_ok12 sr_kk12 sr_ln12 (by decide +kernel) tw_1001 tw_1002 tw_670, nr_new⟩) 
  (sr_fm (Or.inl ⟨sn_dup (by decide +kernel), nr_dup⟩) 
  (sr_fm (Or.inl ⟨sn_cI (idx := 18) (host := "") (by decide +kernel) rfl (by decide) rfl ym_147.2 (Or.inl tw_1003) tw_1004 tw_670 tw_1005, nr_cI⟩) 
  (sr_fm (Or.inl ⟨sn_astore_n (j := 2) (i := 2) (by decide +kernel) rfl (by decide), nr_as⟩) 
  (sr_fm (Or.inl ⟨sn_iconst (by decide +kernel) (sr_rgb rfl), nr_push⟩) 
  (sr_fm (Or.inl ⟨sn_newarray (t0 := 2) (aty := .long) (Or.inr (Or.inr ⟨rfl, rfl, rfl⟩)) sr_len (by decide +kernel) tw_1006, nr_newa⟩) 
  (sr_fm (Or.inl ⟨sn_astore_n (j := 3) (i := 3) (by decide +kernel) rfl (by decide), nr_as⟩) 
  (sr_fm (Or.inl ⟨sn_iconst (by decide +kernel) (sr_rgb rfl), nr_push⟩) 
  (sr_fm (Or.inl ⟨sn_istore (by decide +kernel) (by decide), nr_is⟩) 
  (sr_fm (Or.inl ⟨sn_iload (by decide +kernel), nr_il⟩) 
  (sr_fm (Or.inl ⟨sn_aload_n (j := 0) (i := 0) (by decide +kernel) rfl, nr_al⟩) 
  (sr_fm (Or.inl ⟨sn_xlen (by decide +kernel), nr_xlen⟩) 
  (sr_fm (Or.inl ⟨sn_bipush (by decide +kernel) (sr_rgb rfl) rfl, nr_push⟩) 
  (sr_fm (Or.inl ⟨sn_isub (by decide +kernel), nr_bi⟩) 
  (sr_fm (Or.inl ⟨sn_ic_gt (off := 1470) (by decide +kernel) (by decide), nr_ic⟩) 
  (sr_fm (Or.inl ⟨sn_aload_n (j := 0) (i := 0) (by decide +kernel) rfl, nr_al⟩) 
  (sr_fm (Or.inl ⟨sn_iload (by decide +kernel), nr_il⟩) 
  (sr_fm (Or.inl ⟨sn_xald (by decide +kernel), nr_xald⟩) 
  (sr_fm (Or.inl ⟨sn_bipush (by decide +kernel) (sr_rgb rfl) rfl, nr_push⟩) 
  (sr_fm (Or.inl ⟨sn_iand (by decide +kernel), nr_bi⟩) 
  (sr_fm (Or.inl ⟨sn_tsw (dflt := 1454) (lo := 0) (hi := 38) (offs := #[172, 245, 270, 295, 320, 345, 413, 450, 475, 500, 525, 550, 563, 576, 589, 638, 663, 732, 757, 770, 807, 832, 869, 894, 931, 944, 981, 1018, 1031, 1108, 1133, 1158, 1231, 1280, 1341, 1378, 1403, 1416, 1429]) (len := 172) (by decide +kernel) rfl (by decide) (by decide) (by decide), nr_swi⟩) 
  (sr_fm (Or.inl ⟨sn_aload_n (j := 1) (i := 1) (by decide +kernel) rfl, nr_al⟩) 
  (sr_fm (Or.inl ⟨sn_aload_n (j := 0) (i := 0) (by decide +kernel) rfl, nr_al⟩) 
  (sr_fm (Or.inl ⟨sn_iload (by decide +kernel), nr_il⟩) 
  (sr_fm (Or.inl ⟨sn_iconst (by decide +kernel) (sr_rgb rfl), nr_push⟩) 
  (sr_fm (Or.inl ⟨sn_iadd (by decide +kernel), nr_bi⟩) 
  (sr_fm (Or.inl ⟨sn_xald (by decide +kernel), nr_xald⟩) 
  (sr_fm (Or.inl ⟨sn_aload_n (j := 0) (i := 0) (by decide +kernel) rfl, nr_al⟩) 
  (sr_fm (Or.inl ⟨sn_iload (by decide +kernel), nr_il⟩) 
  (sr_fm (Or.inl ⟨sn_iconst (by decide +kernel) (sr_rgb rfl), nr_push⟩) 
  (sr_fm (Or.inl ⟨sn_iadd (by decide +kernel), nr_bi⟩) 
  (sr_fm (Or.inl ⟨sn_xald (by decide +kernel), nr_xald⟩) 
  (sr_fm (Or.inl ⟨sn_aload_n (j := 0) (i := 0) (by decide +kernel) rfl, nr_al⟩) 
  (sr_fm (Or.inl ⟨sn_iload (by decide +kernel), nr_il⟩) 
  (sr_fm (Or.inl ⟨sn_iconst (by decide +kernel) (sr_rgb rfl), nr_push⟩) 
  (sr_fm (Or.inl ⟨sn_iadd (by decide +kernel), nr_bi⟩) 
  (sr_fm (Or.inl ⟨sn_xald (by decide +kernel), nr_xald⟩) 
  (sr_fm (Or.inl ⟨sn_aload_n (j := 0) (i := 0) (by decide +kernel) rfl, nr_al⟩) 
  (sr_fm (Or.inl ⟨sn_iload (by decide +kernel), nr_il⟩) 
  (sr_fm (Or.inl ⟨sn_iconst (by decide +kernel) (sr_rgb rfl), nr_push⟩) 
  (sr_fm (Or.inl ⟨sn_iadd (by decide +kernel), nr_bi⟩) 
  (sr_fm (Or.inl ⟨sn_xald (by decide +kernel), nr_xald⟩) 
  (sr_fm (Or.inl ⟨sn_aload_n (j := 0) (i := 0) (by decide +kernel) rfl, nr_al⟩) 
  (sr_fm (Or.inl ⟨sn_iload (by decide +kernel), nr_il⟩) 
  (sr_fm (Or.inl ⟨sn_iconst (by decide +kernel) (sr_rgb rfl), nr_push⟩) 
  (sr_fm (Or.inl ⟨sn_iadd (by decide +kernel), nr_bi⟩) 
  (sr_fm (Or.inl ⟨sn_xald (by decide +kernel), nr_xald⟩) 
  (sr_fm (Or.inl ⟨sn_cV (idx := 19) (by decide +kernel) rfl sr_ok11 (by decide) ym_84 tw_1007 tw_1008 tw_1009 tw_433 tw_1010, nr_cV⟩) 
  (sr_fm (Or.inl ⟨sn_aload_n (j := 2) (i := 2) (by decide +kernel) rfl, nr_al⟩) 
  (sr_fm (Or.inl ⟨sn_aload_n (j := 0) (i := 0) (by decide +kernel) rfl, nr_al⟩) 
  (sr_fm (Or.inl ⟨sn_iload (by decide +kernel), nr_il⟩) 
  (sr_fm (Or.inl ⟨sn_iconst (by decide +kernel) (sr_rgb rfl), nr_push⟩) 
  (sr_fm (Or.inl ⟨sn_iadd (by decide +kernel), nr_bi⟩) 
  (sr_fm (Or.inl ⟨sn_xald (by decide +kernel), nr_xald⟩) 
  (sr_fm (Or.inl ⟨sn_aload_n (j := 0) (i := 0) (by decide +kernel) rfl, nr_al⟩) 
  (sr_fm (Or.inl ⟨sn_iload (by decide +kernel), nr_il⟩) sr_fn))))))))))))))))))))))))))))))))))))))))))))))))))))))))))))
def mc_1 : List (Nat × mm_T) := [(256, mm_push (.inl 2) 257), (257, mm_bi mm_add 258), (258, mm_xald 259), (259, mm_al 0 260), (260, mm_il 4 262), (262, mm_push (.inl 3) 263), (263, mm_bi mm_add 264), (264, mm_xald 265), (265, mm_al 0 266), (266, mm_il 4 268), (268, mm_push (.inl 4) 269), (269, mm_bi mm_add 270), (270, mm_xald 271), (271, mm_al 0 272), (272, mm_il 4 274), (274, mm_push (.inl 5) 275), (275, mm_bi mm_add 276), (276, mm_xald 277), (277, mm_cV 150 12 5 true 280), (280, mm_ic (fun x y => decide (x = y)) 1494 283), (283, mm_push (.inl 0) 284), (284, mm_rz 2), (285, mm_al 1 286), (286, mm_al 0 287), (287, mm_il 4 289), (289, mm_push (.inl 1) 290), (290, mm_bi mm_add 291), (291, mm_xald 292), (292, mm_cV 86 11 1 true 295), (295, mm_al 2 296), (296, mm_al 0 297), (297, mm_il 4 299), (299, mm_push (.inl 1) 300), (300, mm_bi mm_add 301), (301, mm_xald 302), (302, mm_cV 151 12 1 true 305), (305, mm_ic (fun x y => decide (x = y)) 1494 308), (308, mm_push (.inl 0) 309), (309, mm_rz 2), (310, mm_al 1 311), (311, mm_al 0 312), (312, mm_il 4 314), (314, mm_push (.inl 1) 315), (315, mm_bi mm_add 316), (316, mm_xald 317), (317, mm_cV 87 11 1 true 320), (320, mm_al 2 321), (321, mm_al 0 322), (322, mm_il 4 324), (324, mm_push (.inl 1) 325), (325, mm_bi mm_add 326), (326, mm_xald 327), (327, mm_cV 186 12 1 true 330), (330, mm_ic (fun x y => decide (x = y)) 1494 333), (333, mm_push (.inl 0) 334), (334, mm_rz 2), (335, mm_al 1 336), (336, mm_al 0 337), (337, mm_il 4 339), (339, mm_push (.inl 1) 340)]
set_option maxRecDepth 100000 in
theorem mc_ok1 (mnm : String) : ∀ q ∈ mc_1, st_ok mnm q :=
  (sr_fm (Or.inl ⟨sn_iconst (by decide +kernel) (sr_rgb rfl), nr_push⟩) 
  (sr_fm (Or.inl ⟨sn_iadd (by decide +kernel), nr_bi⟩) 
  (sr_fm (Or.inl ⟨sn_xald (by decide +kernel), nr_xald⟩) 
  (sr_fm (Or.inl ⟨sn_aload_n (j := 0) (i := 0) (by decide +kernel) rfl, nr_al⟩) 
  (sr_fm (Or.inl ⟨sn_iload (by decide +kernel), nr_il⟩) 
  (sr_fm (Or.inl ⟨sn_iconst (by decide +kernel) (sr_rgb rfl), nr_push⟩) 
  (sr_fm (Or.inl ⟨sn_iadd (by decide +kernel), nr_bi⟩) 
  (sr_fm (Or.inl ⟨sn_xald (by decide +kernel), nr_xald⟩) 
  (sr_fm (Or.inl ⟨sn_aload_n (j := 0) (i := 0) (by decide +kernel) rfl, nr_al⟩) 
  (sr_fm (Or.inl ⟨sn_iload (by decide +kernel), nr_il⟩) 
  (sr_fm (Or.inl ⟨sn_iconst (by decide +kernel) (sr_rgb rfl), nr_push⟩) 
  (sr_fm (Or.inl ⟨sn_iadd (by decide +kernel), nr_bi⟩) 
  (sr_fm (Or.inl ⟨sn_xald (by decide +kernel), nr_xald⟩) 
  (sr_fm (Or.inl ⟨sn_aload_n (j := 0) (i := 0) (by decide +kernel) rfl, nr_al⟩) 
  (sr_fm (Or.inl ⟨sn_iload (by decide +kernel), nr_il⟩) 
  (sr_fm (Or.inl ⟨sn_iconst (by decide +kernel) (sr_rgb rfl), nr_push⟩) 
  (sr_fm (Or.inl ⟨sn_iadd (by decide +kernel), nr_bi⟩) 
  (sr_fm (Or.inl ⟨sn_xald (by decide +kernel), nr_xald⟩) 
  (sr_fm (Or.inl ⟨sn_cV (idx := 23) (by decide +kernel) rfl sr_ok12 (by decide) ym_150 tw_1011 tw_1012 tw_1013 tw_670 tw_1014, nr_cV⟩) 
  (sr_fm (Or.inl ⟨sn_ic_eq (off := 1214) (by decide +kernel) (by decide), nr_ic⟩) 
  (sr_fm (Or.inl ⟨sn_iconst (by decide +kernel) (sr_rgb rfl), nr_push⟩) 
  (sr_fm (Or.inr ⟨rfl, by decide +kernel⟩) 
  (sr_fm (Or.inl ⟨sn_aload_n (j := 1) (i := 1) (by decide +kernel) rfl, nr_al⟩) 
  (sr_fm (Or.inl ⟨sn_aload_n (j := 0) (i := 0) (by decide +kernel) rfl, nr_al⟩) 
  (sr_fm (Or.inl ⟨sn_iload (by decide +kernel), nr_il⟩) 
  (sr_fm (Or.inl ⟨sn_iconst (by decide +kernel) (sr_rgb rfl), nr_push⟩) 
  (sr_fm (Or.inl ⟨sn_iadd (by decide +kernel), nr_bi⟩) 
  (sr_fm (Or.inl ⟨sn_xald (by decide +kernel), nr_xald⟩) 
  (sr_fm (Or.inl ⟨sn_cV (idx := 24) (by decide +kernel) rfl sr_ok11 (by decide) ym_86 tw_1015 tw_1016 tw_1017 tw_433 tw_1018, nr_cV⟩) 
  (sr_fm (Or.inl ⟨sn_aload_n (j := 2) (i := 2) (by decide +kernel) rfl, nr_al⟩) 
  (sr_fm (Or.inl ⟨sn_aload_n (j := 0) (i := 0) (by decide +kernel) rfl, nr_al⟩) 
  (sr_fm (Or.inl ⟨sn_iload (by decide +kernel), nr_il⟩) 
  (sr_fm (Or.inl ⟨sn_iconst (by decide +kernel) (sr_rgb rfl), nr_push⟩) 
  (sr_fm (Or.inl ⟨sn_iadd (by decide +kernel), nr_bi⟩) 
  (sr_fm (Or.inl ⟨sn_xald (by decide +kernel), nr_xald⟩) 
  (sr_fm (Or.inl ⟨sn_cV (idx := 28) (by decide +kernel) rfl sr_ok12 (by decide) ym_151 tw_1019 tw_1020 tw_1021 tw_670 tw_1022, nr_cV⟩) 
  (sr_fm (Or.inl ⟨sn_ic_eq (off := 1189) (by decide +kernel) (by decide), nr_ic⟩) 
  (sr_fm (Or.inl ⟨sn_iconst (by decide +kernel) (sr_rgb rfl), nr_push⟩) 
  (sr_fm (Or.inr ⟨rfl, by decide +kernel⟩) 
  (sr_fm (Or.inl ⟨sn_aload_n (j := 1) (i := 1) (by decide +kernel) rfl, nr_al⟩) 
  (sr_fm (Or.inl ⟨sn_aload_n (j := 0) (i := 0) (by decide +kernel) rfl, nr_al⟩) 
  (sr_fm (Or.inl ⟨sn_iload (by decide +kernel), nr_il⟩) 
  (sr_fm (Or.inl ⟨sn_iconst (by decide +kernel) (sr_rgb rfl), nr_push⟩) 
  (sr_fm (Or.inl ⟨sn_iadd (by decide +kernel), nr_bi⟩) 
  (sr_fm (Or.inl ⟨sn_xald (by decide +kernel), nr_xald⟩) 
  (sr_fm (Or.inl ⟨sn_cV (idx := 29) (by decide +kernel) rfl sr_ok11 (by decide) ym_87 tw_1023 tw_1024 tw_1025 tw_433 tw_1026, nr_cV⟩) 
  (sr_fm (Or.inl ⟨sn_aload_n (j := 2) (i := 2) (by decide +kernel) rfl, nr_al⟩) 
  (sr_fm (Or.inl ⟨sn_aload_n (j := 0) (i := 0) (by decide +kernel) rfl, nr_al⟩) 
  (sr_fm (Or.inl ⟨sn_iload (by decide +kernel), nr_il⟩) 
  (sr_fm (Or.inl ⟨sn_iconst (by decide +kernel) (sr_rgb rfl), nr_push⟩) 
  (sr_fm (Or.inl ⟨sn_iadd (by decide +kernel), nr_bi⟩) 
  (sr_fm (Or.inl ⟨sn_xald (by decide +kernel), nr_xald⟩) 
  (sr_fm (Or.inl ⟨sn_cV (idx := 33) (by decide +kernel) rfl sr_ok12 (by decide) ym_186 tw_1027 tw_1028 tw_1029 tw_670 tw_1030, nr_cV⟩) 
  (sr_fm (Or.inl ⟨sn_ic_eq (off := 1164) (by decide +kernel) (by decide), nr_ic⟩) 
  (sr_fm (Or.inl ⟨sn_iconst (by decide +kernel) (sr_rgb rfl), nr_push⟩) 
  (sr_fm (Or.inr ⟨rfl, by decide +kernel⟩) 
  (sr_fm (Or.inl ⟨sn_aload_n (j := 1) (i := 1) (by decide +kernel) rfl, nr_al⟩) 
  (sr_fm (Or.inl ⟨sn_aload_n (j := 0) (i := 0) (by decide +kernel) rfl, nr_al⟩) 
  (sr_fm (Or.inl ⟨sn_iload (by decide +kernel), nr_il⟩) 
  (sr_fm (Or.inl ⟨sn_iconst (by decide +kernel) (sr_rgb rfl), nr_push⟩) sr_fn))))))))))))))))))))))))))))))))))))))))))))))))))))))))))))
def mc_2 : List (Nat × mm_T) := [(340, mm_bi mm_add 341), (341, mm_xald 342), (342, mm_cV 88 11 1 true 345), (345, mm_al 2 346), (346, mm_al 0 347), (347, mm_il 4 349), (349, mm_push (.inl 1) 350), (350, mm_bi mm_add 351), (351, mm_xald 352), (352, mm_cV 190 12 1 true 355), (355, mm_ic (fun x y => decide (x = y)) 1494 358), (358, mm_push (.inl 0) 359), (359, mm_rz 2), (360, mm_al 1 361), (361, mm_al 0 362), (362, mm_il 4 364), (364, mm_push (.inl 1) 365), (365, mm_bi mm_add 366), (366, mm_xald 367), (367, mm_cV 91 11 1 true 370), (370, mm_al 2 371), (371, mm_al 0 372), (372, mm_il 4 374), (374, mm_push (.inl 1) 375), (375, mm_bi mm_add 376), (376, mm_xald 377), (377, mm_cV 200 12 1 true 380), (380, mm_ic (fun x y => decide (x = y)) 1494 383), (383, mm_push (.inl 0) 384), (384, mm_rz 2), (385, mm_al 1 386), (386, mm_al 0 387), (387, mm_il 4 389), (389, mm_push (.inl 1) 390), (390, mm_bi mm_add 391), (391, mm_xald 392), (392, mm_al 0 393), (393, mm_il 4 395), (395, mm_push (.inl 2) 396), (396, mm_bi mm_add 397), (397, mm_xald 398), (398, mm_al 3 399), (399, mm_cS 281 4 true 402), (402, mm_is 5 404), (404, mm_al 2 405), (405, mm_al 0 406), (406, mm_il 4 408), (408, mm_push (.inl 1) 409), (409, mm_bi mm_add 410), (410, mm_xald 411), (411, mm_al 0 412), (412, mm_il 4 414), (414, mm_push (.inl 2) 415), (415, mm_bi mm_add 416), (416, mm_xald 417), (417, mm_cV 201 12 2 true 420), (420, mm_is 6 422), (422, mm_al 2 423), (423, mm_cV 148 12 0 true 426), (426, mm_il 5 428)]
set_option maxRecDepth 100000 in
theorem mc_ok2 (mnm : String) : ∀ q ∈ mc_2, st_ok mnm q :=
  (sr_fm (Or.inl ⟨sn_iadd (by decide +kernel), nr_bi⟩) 
  (sr_fm (Or.inl ⟨sn_xald (by decide +kernel), nr_xald⟩) 
  (sr_fm (Or.inl ⟨sn_cV (idx := 34) (by decide +kernel) rfl sr_ok11 (by decide) ym_88 tw_1031 tw_1032 tw_1033 tw_433 tw_1034, nr_cV⟩) 
  (sr_fm (Or.inl ⟨sn_aload_n (j := 2) (i := 2) (by decide +kernel) rfl, nr_al⟩) 
  (sr_fm (Or.inl ⟨sn_aload_n (j := 0) (i := 0) (by decide +kernel) rfl, nr_al⟩) 
  (sr_fm (Or.inl ⟨sn_iload (by decide +kernel), nr_il⟩) 
  (sr_fm (Or.inl ⟨sn_iconst (by decide +kernel) (sr_rgb rfl), nr_push⟩) 
  (sr_fm (Or.inl ⟨sn_iadd (by decide +kernel), nr_bi⟩) 
  (sr_fm (Or.inl ⟨sn_xald (by decide +kernel), nr_xald⟩) 
  (sr_fm (Or.inl ⟨sn_cV (idx := 37) (by decide +kernel) rfl sr_ok12 (by decide) ym_190 tw_1035 tw_1036 tw_1037 tw_670 tw_1038, nr_cV⟩) 
  (sr_fm (Or.inl ⟨sn_ic_eq (off := 1139) (by decide +kernel) (by decide), nr_ic⟩) 
  (sr_fm (Or.inl ⟨sn_iconst (by decide +kernel) (sr_rgb rfl), nr_push⟩) 
  (sr_fm (Or.inr ⟨rfl, by decide +kernel⟩) 
  (sr_fm (Or.inl ⟨sn_aload_n (j := 1) (i := 1) (by decide +kernel) rfl, nr_al⟩) 
  (sr_fm (Or.inl ⟨sn_aload_n (j := 0) (i := 0) (by decide +kernel) rfl, nr_al⟩) 
  (sr_fm (Or.inl ⟨sn_iload (by decide +kernel), nr_il⟩) 
  (sr_fm (Or.inl ⟨sn_iconst (by decide +kernel) (sr_rgb rfl), nr_push⟩) 
  (sr_fm (Or.inl ⟨sn_iadd (by decide +kernel), nr_bi⟩) 
  (sr_fm (Or.inl ⟨sn_xald (by decide +kernel), nr_xald⟩) 
  (sr_fm (Or.inl ⟨sn_cV (idx := 38) (by decide +kernel) rfl sr_ok11 (by decide) ym_91 tw_1039 tw_1040 tw_1041 tw_433 tw_1042, nr_cV⟩) 
  (sr_fm (Or.inl ⟨sn_aload_n (j := 2) (i := 2) (by decide +kernel) rfl, nr_al⟩) 
  (sr_fm (Or.inl ⟨sn_aload_n (j := 0) (i := 0) (by decide +kernel) rfl, nr_al⟩) 
  (sr_fm (Or.inl ⟨sn_iload (by decide +kernel), nr_il⟩) 
  (sr_fm (Or.inl ⟨sn_iconst (by decide +kernel) (sr_rgb rfl), nr_push⟩) 
  (sr_fm (Or.inl ⟨sn_iadd (by decide +kernel), nr_bi⟩) 
  (sr_fm (Or.inl ⟨sn_xald (by decide +kernel), nr_xald⟩) 
  (sr_fm (Or.inl ⟨sn_cV (idx := 41) (by decide +kernel) rfl sr_ok12 (by decide) ym_200 tw_1043 tw_1044 tw_1045 tw_670 tw_1046, nr_cV⟩) 
  (sr_fm (Or.inl ⟨sn_ic_eq (off := 1114) (by decide +kernel) (by decide), nr_ic⟩) 
  (sr_fm (Or.inl ⟨sn_iconst (by decide +kernel) (sr_rgb rfl), nr_push⟩) 
  (sr_fm (Or.inr ⟨rfl, by decide +kernel⟩) 
  (sr_fm (Or.inl ⟨sn_aload_n (j := 1) (i := 1) (by decide +kernel) rfl, nr_al⟩) 
  (sr_fm (Or.inl ⟨sn_aload_n (j := 0) (i := 0) (by decide +kernel) rfl, nr_al⟩) 
  (sr_fm (Or.inl ⟨sn_iload (by decide +kernel), nr_il⟩) 
  (sr_fm (Or.inl ⟨sn_iconst (by decide +kernel) (sr_rgb rfl), nr_push⟩) 
  (sr_fm (Or.inl ⟨sn_iadd (by decide +kernel), nr_bi⟩) 
  (sr_fm (Or.inl ⟨sn_xald (by decide +kernel), nr_xald⟩) 
  (sr_fm (Or.inl ⟨sn_aload_n (j := 0) (i := 0) (by decide +kernel) rfl, nr_al⟩) 
  (sr_fm (Or.inl ⟨sn_iload (by decide +kernel), nr_il⟩) 
  (sr_fm (Or.inl ⟨sn_iconst (by decide +kernel) (sr_rgb rfl), nr_push⟩) 
  (sr_fm (Or.inl ⟨sn_iadd (by decide +kernel), nr_bi⟩) 
  (sr_fm (Or.inl ⟨sn_xald (by decide +kernel), nr_xald⟩) 
  (sr_fm (Or.inl ⟨sn_aload_n (j := 3) (i := 3) (by decide +kernel) rfl, nr_al⟩) 
  (sr_fm (Or.inl ⟨sn_cSW (idx := 42) (by decide +kernel) rfl (by decide) ym_281.2 tw_1048 tw_1049 tw_1050 tw_1047, nr_cS⟩) 
  (sr_fm (Or.inl ⟨sn_istore (by decide +kernel) (by decide), nr_is⟩) 
  (sr_fm (Or.inl ⟨sn_aload_n (j := 2) (i := 2) (by decide +kernel) rfl, nr_al⟩) 
  (sr_fm (Or.inl ⟨sn_aload_n (j := 0) (i := 0) (by decide +kernel) rfl, nr_al⟩) 
  (sr_fm (Or.inl ⟨sn_iload (by decide +kernel), nr_il⟩) 
  (sr_fm (Or.inl ⟨sn_iconst (by decide +kernel) (sr_rgb rfl), nr_push⟩) 
  (sr_fm (Or.inl ⟨sn_iadd (by decide +kernel), nr_bi⟩) 
  (sr_fm (Or.inl ⟨sn_xald (by decide +kernel), nr_xald⟩) 
  (sr_fm (Or.inl ⟨sn_aload_n (j := 0) (i := 0) (by decide +kernel) rfl, nr_al⟩) 
  (sr_fm (Or.inl ⟨sn_iload (by decide +kernel), nr_il⟩) 
  (sr_fm (Or.inl ⟨sn_iconst (by decide +kernel) (sr_rgb rfl), nr_push⟩) 
  (sr_fm (Or.inl ⟨sn_iadd (by decide +kernel), nr_bi⟩) 
  (sr_fm (Or.inl ⟨sn_xald (by decide +kernel), nr_xald⟩) 
  (sr_fm (Or.inl ⟨sn_cV (idx := 47) (by decide +kernel) rfl sr_ok12 (by decide) ym_201 tw_1051 tw_1052 tw_1053 tw_670 tw_1054, nr_cV⟩) 
  (sr_fm (Or.inl ⟨sn_istore (by decide +kernel) (by decide), nr_is⟩) 
  (sr_fm (Or.inl ⟨sn_aload_n (j := 2) (i := 2) (by decide +kernel) rfl, nr_al⟩) 
  (sr_fm (Or.inl ⟨sn_cV (idx := 48) (by decide +kernel) rfl sr_ok12 (by decide) ym_148 tw_1055 tw_1056 tw_1057 tw_670 tw_1058, nr_cV⟩) 
  (sr_fm (Or.inl ⟨sn_iload (by decide +kernel), nr_il⟩) sr_fn))))))))))))))))))))))))))))))))))))))))))))))))))))))))))))
def mc_3 : List (Nat × mm_T) := [(428, mm_ic (fun x y => decide (x = y)) 433 431), (431, mm_push (.inl 0) 432), (432, mm_rz 2), (433, mm_il 5 435), (435, mm_if (fun x => decide (x ≠ 0)) 450 438), (438, mm_al 3 439), (439, mm_push (.inl 0) 440), (440, mm_lald 22 441), (441, mm_il 6 443), (443, mm_i2l 444), (444, mm_lcmp 445), (445, mm_if (fun x => decide (x = 0)) 450 448), (448, mm_push (.inl 0) 449), (449, mm_rz 2), (450, mm_go 1494), (453, mm_al 1 454), (454, mm_al 0 455), (455, mm_il 4 457), (457, mm_push (.inl 1) 458), (458, mm_bi mm_add 459), (459, mm_xald 460), (460, mm_al 0 461), (461, mm_il 4 463), (463, mm_push (.inl 2) 464), (464, mm_bi mm_add 465), (465, mm_xald 466), (466, mm_cV 94 11 2 true 469), (469, mm_al 2 470), (470, mm_al 0 471), (471, mm_il 4 473), (473, mm_push (.inl 1) 474), (474, mm_bi mm_add 475), (475, mm_xald 476), (476, mm_al 0 477), (477, mm_il 4 479), (479, mm_push (.inl 2) 480), (480, mm_bi mm_add 481), (481, mm_xald 482), (482, mm_cV 202 12 2 true 485), (485, mm_ic (fun x y => decide (x = y)) 1494 488), (488, mm_push (.inl 0) 489), (489, mm_rz 2), (490, mm_al 1 491), (491, mm_al 0 492), (492, mm_il 4 494), (494, mm_push (.inl 1) 495), (495, mm_bi mm_add 496), (496, mm_xald 497), (497, mm_cV 95 11 1 true 500), (500, mm_al 2 501), (501, mm_al 0 502), (502, mm_il 4 504), (504, mm_push (.inl 1) 505), (505, mm_bi mm_add 506), (506, mm_xald 507), (507, mm_cV 203 12 1 true 510), (510, mm_ic (fun x y => decide (x = y)) 1494 513), (513, mm_push (.inl 0) 514), (514, mm_rz 2), (515, mm_al 1 516)]
set_option maxRecDepth 100000 in
theorem mc_ok3 (mnm : String) : ∀ q ∈ mc_3, st_ok mnm q :=
  (sr_fm (Or.inl ⟨sn_ic_eq (off := 5) (by decide +kernel) (by decide), nr_ic⟩) 
  (sr_fm (Or.inl ⟨sn_iconst (by decide +kernel) (sr_rgb rfl), nr_push⟩) 
  (sr_fm (Or.inr ⟨rfl, by decide +kernel⟩) 
  (sr_fm (Or.inl ⟨sn_iload (by decide +kernel), nr_il⟩) 
  (sr_fm (Or.inl ⟨sn_if_ne (off := 15) (by decide +kernel) (by decide), nr_if⟩) 
  (sr_fm (Or.inl ⟨sn_aload_n (j := 3) (i := 3) (by decide +kernel) rfl, nr_al⟩) 
  (sr_fm (Or.inl ⟨sn_iconst (by decide +kernel) (sr_rgb rfl), nr_push⟩) 
  (sr_fm (Or.inl ⟨sn_laload (by decide +kernel), nr_lald⟩) 
  (sr_fm (Or.inl ⟨sn_iload (by decide +kernel), nr_il⟩) 
  (sr_fm (Or.inl ⟨sn_i2l (by decide +kernel), nr_i2l⟩) 
  (sr_fm (Or.inl ⟨sn_lcmp (by decide +kernel), nr_lcmp⟩) 
  (sr_fm (Or.inl ⟨sn_if_eq (off := 5) (by decide +kernel) (by decide), nr_if⟩) 
  (sr_fm (Or.inl ⟨sn_iconst (by decide +kernel) (sr_rgb rfl), nr_push⟩) 
  (sr_fm (Or.inr ⟨rfl, by decide +kernel⟩) 
  (sr_fm (Or.inl ⟨sn_goto (off := 1044) (by decide +kernel) (by decide), nr_go⟩) 
  (sr_fm (Or.inl ⟨sn_aload_n (j := 1) (i := 1) (by decide +kernel) rfl, nr_al⟩) 
  (sr_fm (Or.inl ⟨sn_aload_n (j := 0) (i := 0) (by decide +kernel) rfl, nr_al⟩) 
  (sr_fm (Or.inl ⟨sn_iload (by decide +kernel), nr_il⟩) 
  (sr_fm (Or.inl ⟨sn_iconst (by decide +kernel) (sr_rgb rfl), nr_push⟩) 
  (sr_fm (Or.inl ⟨sn_iadd (by decide +kernel), nr_bi⟩) 
  (sr_fm (Or.inl ⟨sn_xald (by decide +kernel), nr_xald⟩) 
  (sr_fm (Or.inl ⟨sn_aload_n (j := 0) (i := 0) (by decide +kernel) rfl, nr_al⟩) 
  (sr_fm (Or.inl ⟨sn_iload (by decide +kernel), nr_il⟩) 
  (sr_fm (Or.inl ⟨sn_iconst (by decide +kernel) (sr_rgb rfl), nr_push⟩) 
  (sr_fm (Or.inl ⟨sn_iadd (by decide +kernel), nr_bi⟩) 
  (sr_fm (Or.inl ⟨sn_xald (by decide +kernel), nr_xald⟩) 
  (sr_fm (Or.inl ⟨sn_cV (idx := 52) (by decide +kernel) rfl sr_ok11 (by decide) ym_94 tw_1059 tw_1060 tw_1061 tw_433 tw_1062, nr_cV⟩) 
  (sr_fm (Or.inl ⟨sn_aload_n (j := 2) (i := 2) (by decide +kernel) rfl, nr_al⟩) 
  (sr_fm (Or.inl ⟨sn_aload_n (j := 0) (i := 0) (by decide +kernel) rfl, nr_al⟩) 
  (sr_fm (Or.inl ⟨sn_iload (by decide +kernel), nr_il⟩) 
  (sr_fm (Or.inl ⟨sn_iconst (by decide +kernel) (sr_rgb rfl), nr_push⟩) 
  (sr_fm (Or.inl ⟨sn_iadd (by decide +kernel), nr_bi⟩) 
  (sr_fm (Or.inl ⟨sn_xald (by decide +kernel), nr_xald⟩) 
  (sr_fm (Or.inl ⟨sn_aload_n (j := 0) (i := 0) (by decide +kernel) rfl, nr_al⟩) 
  (sr_fm (Or.inl ⟨sn_iload (by decide +kernel), nr_il⟩) 
  (sr_fm (Or.inl ⟨sn_iconst (by decide +kernel) (sr_rgb rfl), nr_push⟩) 
  (sr_fm (Or.inl ⟨sn_iadd (by decide +kernel), nr_bi⟩) 
  (sr_fm (Or.inl ⟨sn_xald (by decide +kernel), nr_xald⟩) 
  (sr_fm (Or.inl ⟨sn_cV (idx := 55) (by decide +kernel) rfl sr_ok12 (by decide) ym_202 tw_1063 tw_1064 tw_1065 tw_670 tw_1066, nr_cV⟩) 
  (sr_fm (Or.inl ⟨sn_ic_eq (off := 1009) (by decide +kernel) (by decide), nr_ic⟩) 
  (sr_fm (Or.inl ⟨sn_iconst (by decide +kernel) (sr_rgb rfl), nr_push⟩) 
  (sr_fm (Or.inr ⟨rfl, by decide +kernel⟩) 
  (sr_fm (Or.inl ⟨sn_aload_n (j := 1) (i := 1) (by decide +kernel) rfl, nr_al⟩) 
  (sr_fm (Or.inl ⟨sn_aload_n (j := 0) (i := 0) (by decide +kernel) rfl, nr_al⟩) 
  (sr_fm (Or.inl ⟨sn_iload (by decide +kernel), nr_il⟩) 
  (sr_fm (Or.inl ⟨sn_iconst (by decide +kernel) (sr_rgb rfl), nr_push⟩) 
  (sr_fm (Or.inl ⟨sn_iadd (by decide +kernel), nr_bi⟩) 
  (sr_fm (Or.inl ⟨sn_xald (by decide +kernel), nr_xald⟩) 
  (sr_fm (Or.inl ⟨sn_cV (idx := 56) (by decide +kernel) rfl sr_ok11 (by decide) ym_95 tw_1067 tw_1068 tw_1069 tw_433 tw_1070, nr_cV⟩) 
  (sr_fm (Or.inl ⟨sn_aload_n (j := 2) (i := 2) (by decide +kernel) rfl, nr_al⟩) 
  (sr_fm (Or.inl ⟨sn_aload_n (j := 0) (i := 0) (by decide +kernel) rfl, nr_al⟩) 
  (sr_fm (Or.inl ⟨sn_iload (by decide +kernel), nr_il⟩) 
  (sr_fm (Or.inl ⟨sn_iconst (by decide +kernel) (sr_rgb rfl), nr_push⟩) 
  (sr_fm (Or.inl ⟨sn_iadd (by decide +kernel), nr_bi⟩) 
  (sr_fm (Or.inl ⟨sn_xald (by decide +kernel), nr_xald⟩) 
  (sr_fm (Or.inl ⟨sn_cV (idx := 59) (by decide +kernel) rfl sr_ok12 (by decide) ym_203 tw_1071 tw_1072 tw_1073 tw_670 tw_1074, nr_cV⟩) 
  (sr_fm (Or.inl ⟨sn_ic_eq (off := 984) (by decide +kernel) (by decide), nr_ic⟩) 
  (sr_fm (Or.inl ⟨sn_iconst (by decide +kernel) (sr_rgb rfl), nr_push⟩) 
  (sr_fm (Or.inr ⟨rfl, by decide +kernel⟩) 
  (sr_fm (Or.inl ⟨sn_aload_n (j := 1) (i := 1) (by decide +kernel) rfl, nr_al⟩) sr_fn))))))))))))))))))))))))))))))))))))))))))))))))))))))))))))
def mc_4 : List (Nat × mm_T) := [(516, mm_al 0 517), (517, mm_il 4 519), (519, mm_push (.inl 1) 520), (520, mm_bi mm_add 521), (521, mm_xald 522), (522, mm_cV 97 11 1 true 525), (525, mm_al 2 526), (526, mm_al 0 527), (527, mm_il 4 529), (529, mm_push (.inl 1) 530), (530, mm_bi mm_add 531), (531, mm_xald 532), (532, mm_cV 204 12 1 true 535), (535, mm_ic (fun x y => decide (x = y)) 1494 538), (538, mm_push (.inl 0) 539), (539, mm_rz 2), (540, mm_al 1 541), (541, mm_al 0 542), (542, mm_il 4 544), (544, mm_push (.inl 1) 545), (545, mm_bi mm_add 546), (546, mm_xald 547), (547, mm_cV 99 11 1 true 550), (550, mm_al 2 551), (551, mm_al 0 552), (552, mm_il 4 554), (554, mm_push (.inl 1) 555), (555, mm_bi mm_add 556), (556, mm_xald 557), (557, mm_cV 208 12 1 true 560), (560, mm_ic (fun x y => decide (x = y)) 1494 563), (563, mm_push (.inl 0) 564), (564, mm_rz 2), (565, mm_al 1 566), (566, mm_al 0 567), (567, mm_il 4 569), (569, mm_push (.inl 1) 570), (570, mm_bi mm_add 571), (571, mm_xald 572), (572, mm_cV 101 11 1 true 575), (575, mm_al 2 576), (576, mm_al 0 577), (577, mm_il 4 579), (579, mm_push (.inl 1) 580), (580, mm_bi mm_add 581), (581, mm_xald 582), (582, mm_cV 209 12 1 true 585), (585, mm_ic (fun x y => decide (x = y)) 1494 588), (588, mm_push (.inl 0) 589), (589, mm_rz 2), (590, mm_al 1 591), (591, mm_cV 102 11 0 true 594), (594, mm_al 2 595), (595, mm_cV 211 12 0 true 598), (598, mm_ic (fun x y => decide (x = y)) 1494 601), (601, mm_push (.inl 0) 602), (602, mm_rz 2), (603, mm_al 1 604), (604, mm_cV 103 11 0 true 607), (607, mm_al 2 608)]
set_option maxRecDepth 100000 in
theorem mc_ok4 (mnm : String) : ∀ q ∈ mc_4, st_ok mnm q :=
  (sr_fm (Or.inl ⟨sn_aload_n (j := 0) (i := 0) (by decide +kernel) rfl, nr_al⟩) 
  (sr_fm (Or.inl ⟨sn_iload (by decide +kernel), nr_il⟩) 
  (sr_fm (Or.inl ⟨sn_iconst (by decide +kernel) (sr_rgb rfl), nr_push⟩) 
  (sr_fm (Or.inl ⟨sn_iadd (by decide +kernel), nr_bi⟩) 
  (sr_fm (Or.inl ⟨sn_xald (by decide +kernel), nr_xald⟩) 
  (sr_fm (Or.inl ⟨sn_cV (idx := 60) (by decide +kernel) rfl sr_ok11 (by decide) ym_97 tw_1075 tw_1076 tw_1077 tw_433 tw_1078, nr_cV⟩) 
  (sr_fm (Or.inl ⟨sn_aload_n (j := 2) (i := 2) (by decide +kernel) rfl, nr_al⟩) 
  (sr_fm (Or.inl ⟨sn_aload_n (j := 0) (i := 0) (by decide +kernel) rfl, nr_al⟩) 
  (sr_fm (Or.inl ⟨sn_iload (by decide +kernel), nr_il⟩) 
  (sr_fm (Or.inl ⟨sn_iconst (by decide +kernel) (sr_rgb rfl), nr_push⟩) 
  (sr_fm (Or.inl ⟨sn_iadd (by decide +kernel), nr_bi⟩) 
  (sr_fm (Or.inl ⟨sn_xald (by decide +kernel), nr_xald⟩) 
  (sr_fm (Or.inl ⟨sn_cV (idx := 63) (by decide +kernel) rfl sr_ok12 (by decide) ym_204 tw_1079 tw_1080 tw_1081 tw_670 tw_1082, nr_cV⟩) 
  (sr_fm (Or.inl ⟨sn_ic_eq (off := 959) (by decide +kernel) (by decide), nr_ic⟩) 
  (sr_fm (Or.inl ⟨sn_iconst (by decide +kernel) (sr_rgb rfl), nr_push⟩) 
  (sr_fm (Or.inr ⟨rfl, by decide +kernel⟩) 
  (sr_fm (Or.inl ⟨sn_aload_n (j := 1) (i := 1) (by decide +kernel) rfl, nr_al⟩) 
  (sr_fm (Or.inl ⟨sn_aload_n (j := 0) (i := 0) (by decide +kernel) rfl, nr_al⟩) 
  (sr_fm (Or.inl ⟨sn_iload (by decide +kernel), nr_il⟩) 
  (sr_fm (Or.inl ⟨sn_iconst (by decide +kernel) (sr_rgb rfl), nr_push⟩) 
  (sr_fm (Or.inl ⟨sn_iadd (by decide +kernel), nr_bi⟩) 
  (sr_fm (Or.inl ⟨sn_xald (by decide +kernel), nr_xald⟩) 
  (sr_fm (Or.inl ⟨sn_cV (idx := 64) (by decide +kernel) rfl sr_ok11 (by decide) ym_99 tw_1083 tw_1084 tw_1085 tw_433 tw_1086, nr_cV⟩) 
  (sr_fm (Or.inl ⟨sn_aload_n (j := 2) (i := 2) (by decide +kernel) rfl, nr_al⟩) 
  (sr_fm (Or.inl ⟨sn_aload_n (j := 0) (i := 0) (by decide +kernel) rfl, nr_al⟩) 
  (sr_fm (Or.inl ⟨sn_iload (by decide +kernel), nr_il⟩) 
  (sr_fm (Or.inl ⟨sn_iconst (by decide +kernel) (sr_rgb rfl), nr_push⟩) 
  (sr_fm (Or.inl ⟨sn_iadd (by decide +kernel), nr_bi⟩) 
  (sr_fm (Or.inl ⟨sn_xald (by decide +kernel), nr_xald⟩) 
  (sr_fm (Or.inl ⟨sn_cV (idx := 67) (by decide +kernel) rfl sr_ok12 (by decide) ym_208 tw_1087 tw_1088 tw_1089 tw_670 tw_1090, nr_cV⟩) 
  (sr_fm (Or.inl ⟨sn_ic_eq (off := 934) (by decide +kernel) (by decide), nr_ic⟩) 
  (sr_fm (Or.inl ⟨sn_iconst (by decide +kernel) (sr_rgb rfl), nr_push⟩) 
  (sr_fm (Or.inr ⟨rfl, by decide +kernel⟩) 
  (sr_fm (Or.inl ⟨sn_aload_n (j := 1) (i := 1) (by decide +kernel) rfl, nr_al⟩) 
  (sr_fm (Or.inl ⟨sn_aload_n (j := 0) (i := 0) (by decide +kernel) rfl, nr_al⟩) 
  (sr_fm (Or.inl ⟨sn_iload (by decide +kernel), nr_il⟩) 
  (sr_fm (Or.inl ⟨sn_iconst (by decide +kernel) (sr_rgb rfl), nr_push⟩) 
  (sr_fm (Or.inl ⟨sn_iadd (by decide +kernel), nr_bi⟩) 
  (sr_fm (Or.inl ⟨sn_xald (by decide +kernel), nr_xald⟩) 
  (sr_fm (Or.inl ⟨sn_cV (idx := 68) (by decide +kernel) rfl sr_ok11 (by decide) ym_101 tw_1091 tw_1092 tw_1093 tw_433 tw_1094, nr_cV⟩) 
  (sr_fm (Or.inl ⟨sn_aload_n (j := 2) (i := 2) (by decide +kernel) rfl, nr_al⟩) 
  (sr_fm (Or.inl ⟨sn_aload_n (j := 0) (i := 0) (by decide +kernel) rfl, nr_al⟩) 
  (sr_fm (Or.inl ⟨sn_iload (by decide +kernel), nr_il⟩) 
  (sr_fm (Or.inl ⟨sn_iconst (by decide +kernel) (sr_rgb rfl), nr_push⟩) 
  (sr_fm (Or.inl ⟨sn_iadd (by decide +kernel), nr_bi⟩) 
  (sr_fm (Or.inl ⟨sn_xald (by decide +kernel), nr_xald⟩) 
  (sr_fm (Or.inl ⟨sn_cV (idx := 71) (by decide +kernel) rfl sr_ok12 (by decide) ym_209 tw_1095 tw_1096 tw_1097 tw_670 tw_1098, nr_cV⟩) 
  (sr_fm (Or.inl ⟨sn_ic_eq (off := 909) (by decide +kernel) (by decide), nr_ic⟩) 
  (sr_fm (Or.inl ⟨sn_iconst (by decide +kernel) (sr_rgb rfl), nr_push⟩) 
  (sr_fm (Or.inr ⟨rfl, by decide +kernel⟩) 
  (sr_fm (Or.inl ⟨sn_aload_n (j := 1) (i := 1) (by decide +kernel) rfl, nr_al⟩) 
  (sr_fm (Or.inl ⟨sn_cV (idx := 72) (by decide +kernel) rfl sr_ok11 (by decide) ym_102 tw_1099 tw_1100 tw_1101 tw_433 tw_1102, nr_cV⟩) 
  (sr_fm (Or.inl ⟨sn_aload_n (j := 2) (i := 2) (by decide +kernel) rfl, nr_al⟩) 
  (sr_fm (Or.inl ⟨sn_cV (idx := 75) (by decide +kernel) rfl sr_ok12 (by decide) ym_211 tw_1103 tw_1104 tw_1105 tw_670 tw_1106, nr_cV⟩) 
  (sr_fm (Or.inl ⟨sn_ic_eq (off := 896) (by decide +kernel) (by decide), nr_ic⟩) 
  (sr_fm (Or.inl ⟨sn_iconst (by decide +kernel) (sr_rgb rfl), nr_push⟩) 
  (sr_fm (Or.inr ⟨rfl, by decide +kernel⟩) 
  (sr_fm (Or.inl ⟨sn_aload_n (j := 1) (i := 1) (by decide +kernel) rfl, nr_al⟩) 
  (sr_fm (Or.inl ⟨sn_cV (idx := 76) (by decide +kernel) rfl sr_ok11 (by decide) ym_103 tw_1107 tw_1108 tw_1109 tw_433 tw_1110, nr_cV⟩) 
  (sr_fm (Or.inl ⟨sn_aload_n (j := 2) (i := 2) (by decide +kernel) rfl, nr_al⟩) sr_fn))))))))))))))))))))))))))))))))))))))))))))))))))))))))))))
def mc_5 : List (Nat × mm_T) := [(608, mm_cV 212 12 0 true 611), (611, mm_ic (fun x y => decide (x = y)) 1494 614), (614, mm_push (.inl 0) 615), (615, mm_rz 2), (616, mm_al 1 617), (617, mm_cV 104 11 0 true 620), (620, mm_al 2 621), (621, mm_cV 213 12 0 true 624), (624, mm_ic (fun x y => decide (x = y)) 1494 627), (627, mm_push (.inl 0) 628), (628, mm_rz 2), (629, mm_al 1 630), (630, mm_al 0 631), (631, mm_il 4 633), (633, mm_push (.inl 1) 634), (634, mm_bi mm_add 635), (635, mm_xald 636), (636, mm_al 0 637), (637, mm_il 4 639), (639, mm_push (.inl 2) 640), (640, mm_bi mm_add 641), (641, mm_xald 642), (642, mm_al 0 643), (643, mm_il 4 645), (645, mm_push (.inl 3) 646), (646, mm_bi mm_add 647), (647, mm_xald 648), (648, mm_cV 105 11 3 true 651), (651, mm_al 2 652), (652, mm_al 0 653), (653, mm_il 4 655), (655, mm_push (.inl 1) 656), (656, mm_bi mm_add 657), (657, mm_xald 658), (658, mm_al 0 659), (659, mm_il 4 661), (661, mm_push (.inl 2) 662), (662, mm_bi mm_add 663), (663, mm_xald 664), (664, mm_al 0 665), (665, mm_il 4 667), (667, mm_push (.inl 3) 668), (668, mm_bi mm_add 669), (669, mm_xald 670), (670, mm_cV 215 12 3 true 673), (673, mm_ic (fun x y => decide (x = y)) 1494 676), (676, mm_push (.inl 0) 677), (677, mm_rz 2), (678, mm_al 1 679), (679, mm_al 0 680), (680, mm_il 4 682), (682, mm_push (.inl 1) 683), (683, mm_bi mm_add 684), (684, mm_xald 685), (685, mm_cV 106 11 1 true 688), (688, mm_al 2 689), (689, mm_al 0 690), (690, mm_il 4 692), (692, mm_push (.inl 1) 693), (693, mm_bi mm_add 694)]
set_option maxRecDepth 100000 in
theorem mc_ok5 (mnm : String) : ∀ q ∈ mc_5, st_ok mnm q :=
  (sr_fm (Or.inl ⟨sn_cV (idx := 79) (by decide +kernel) rfl sr_ok12 (by decide) ym_212 tw_1111 tw_1112 tw_1113 tw_670 tw_1114, nr_cV⟩) 
  (sr_fm (Or.inl ⟨sn_ic_eq (off := 883) (by decide +kernel) (by decide), nr_ic⟩) 
  (sr_fm (Or.inl ⟨sn_iconst (by decide +kernel) (sr_rgb rfl), nr_push⟩) 
  (sr_fm (Or.inr ⟨rfl, by decide +kernel⟩) 
  (sr_fm (Or.inl ⟨sn_aload_n (j := 1) (i := 1) (by decide +kernel) rfl, nr_al⟩) 
  (sr_fm (Or.inl ⟨sn_cV (idx := 80) (by decide +kernel) rfl sr_ok11 (by decide) ym_104 tw_1115 tw_1116 tw_1117 tw_433 tw_1118, nr_cV⟩) 
  (sr_fm (Or.inl ⟨sn_aload_n (j := 2) (i := 2) (by decide +kernel) rfl, nr_al⟩) 
  (sr_fm (Or.inl ⟨sn_cV (idx := 83) (by decide +kernel) rfl sr_ok12 (by decide) ym_213 tw_1119 tw_1120 tw_1121 tw_670 tw_1122, nr_cV⟩) 
  (sr_fm (Or.inl ⟨sn_ic_eq (off := 870) (by decide +kernel) (by decide), nr_ic⟩) 
  (sr_fm (Or.inl ⟨sn_iconst (by decide +kernel) (sr_rgb rfl), nr_push⟩) 
  (sr_fm (Or.inr ⟨rfl, by decide +kernel⟩) 
  (sr_fm (Or.inl ⟨sn_aload_n (j := 1) (i := 1) (by decide +kernel) rfl, nr_al⟩) 
  (sr_fm (Or.inl ⟨sn_aload_n (j := 0) (i := 0) (by decide +kernel) rfl, nr_al⟩) 
  (sr_fm (Or.inl ⟨sn_iload (by decide +kernel), nr_il⟩) 
  (sr_fm (Or.inl ⟨sn_iconst (by decide +kernel) (sr_rgb rfl), nr_push⟩) 
  (sr_fm (Or.inl ⟨sn_iadd (by decide +kernel), nr_bi⟩) 
  (sr_fm (Or.inl ⟨sn_xald (by decide +kernel), nr_xald⟩) 
  (sr_fm (Or.inl ⟨sn_aload_n (j := 0) (i := 0) (by decide +kernel) rfl, nr_al⟩) 
  (sr_fm (Or.inl ⟨sn_iload (by decide +kernel), nr_il⟩) 
  (sr_fm (Or.inl ⟨sn_iconst (by decide +kernel) (sr_rgb rfl), nr_push⟩) 
  (sr_fm (Or.inl ⟨sn_iadd (by decide +kernel), nr_bi⟩) 
  (sr_fm (Or.inl ⟨sn_xald (by decide +kernel), nr_xald⟩) 
  (sr_fm (Or.inl ⟨sn_aload_n (j := 0) (i := 0) (by decide +kernel) rfl, nr_al⟩) 
  (sr_fm (Or.inl ⟨sn_iload (by decide +kernel), nr_il⟩) 
  (sr_fm (Or.inl ⟨sn_iconst (by decide +kernel) (sr_rgb rfl), nr_push⟩) 
  (sr_fm (Or.inl ⟨sn_iadd (by decide +kernel), nr_bi⟩) 
  (sr_fm (Or.inl ⟨sn_xald (by decide +kernel), nr_xald⟩) 
  (sr_fm (Or.inl ⟨sn_cV (idx := 84) (by decide +kernel) rfl sr_ok11 (by decide) ym_105 tw_1123 tw_1124 tw_1125 tw_433 tw_1126, nr_cV⟩) 
  (sr_fm (Or.inl ⟨sn_aload_n (j := 2) (i := 2) (by decide +kernel) rfl, nr_al⟩) 
  (sr_fm (Or.inl ⟨sn_aload_n (j := 0) (i := 0) (by decide +kernel) rfl, nr_al⟩) 
  (sr_fm (Or.inl ⟨sn_iload (by decide +kernel), nr_il⟩) 
  (sr_fm (Or.inl ⟨sn_iconst (by decide +kernel) (sr_rgb rfl), nr_push⟩) 
  (sr_fm (Or.inl ⟨sn_iadd (by decide +kernel), nr_bi⟩) 
  (sr_fm (Or.inl ⟨sn_xald (by decide +kernel), nr_xald⟩) 
  (sr_fm (Or.inl ⟨sn_aload_n (j := 0) (i := 0) (by decide +kernel) rfl, nr_al⟩) 
  (sr_fm (Or.inl ⟨sn_iload (by decide +kernel), nr_il⟩) 
  (sr_fm (Or.inl ⟨sn_iconst (by decide +kernel) (sr_rgb rfl), nr_push⟩) 
  (sr_fm (Or.inl ⟨sn_iadd (by decide +kernel), nr_bi⟩) 
  (sr_fm (Or.inl ⟨sn_xald (by decide +kernel), nr_xald⟩) 
  (sr_fm (Or.inl ⟨sn_aload_n (j := 0) (i := 0) (by decide +kernel) rfl, nr_al⟩) 
  (sr_fm (Or.inl ⟨sn_iload (by decide +kernel), nr_il⟩) 
  (sr_fm (Or.inl ⟨sn_iconst (by decide +kernel) (sr_rgb rfl), nr_push⟩) 
  (sr_fm (Or.inl ⟨sn_iadd (by decide +kernel), nr_bi⟩) 
  (sr_fm (Or.inl ⟨sn_xald (by decide +kernel), nr_xald⟩) 
  (sr_fm (Or.inl ⟨sn_cV (idx := 88) (by decide +kernel) rfl sr_ok12 (by decide) ym_215 tw_1127 tw_1128 tw_1129 tw_670 tw_1130, nr_cV⟩) 
  (sr_fm (Or.inl ⟨sn_ic_eq (off := 821) (by decide +kernel) (by decide), nr_ic⟩) 
  (sr_fm (Or.inl ⟨sn_iconst (by decide +kernel) (sr_rgb rfl), nr_push⟩) 
  (sr_fm (Or.inr ⟨rfl, by decide +kernel⟩) 
  (sr_fm (Or.inl ⟨sn_aload_n (j := 1) (i := 1) (by decide +kernel) rfl, nr_al⟩) 
  (sr_fm (Or.inl ⟨sn_aload_n (j := 0) (i := 0) (by decide +kernel) rfl, nr_al⟩) 
  (sr_fm (Or.inl ⟨sn_iload (by decide +kernel), nr_il⟩) 
  (sr_fm (Or.inl ⟨sn_iconst (by decide +kernel) (sr_rgb rfl), nr_push⟩) 
  (sr_fm (Or.inl ⟨sn_iadd (by decide +kernel), nr_bi⟩) 
  (sr_fm (Or.inl ⟨sn_xald (by decide +kernel), nr_xald⟩) 
  (sr_fm (Or.inl ⟨sn_cV (idx := 89) (by decide +kernel) rfl sr_ok11 (by decide) ym_106 tw_1131 tw_1132 tw_1133 tw_433 tw_1134, nr_cV⟩) 
  (sr_fm (Or.inl ⟨sn_aload_n (j := 2) (i := 2) (by decide +kernel) rfl, nr_al⟩) 
  (sr_fm (Or.inl ⟨sn_aload_n (j := 0) (i := 0) (by decide +kernel) rfl, nr_al⟩) 
  (sr_fm (Or.inl ⟨sn_iload (by decide +kernel), nr_il⟩) 
  (sr_fm (Or.inl ⟨sn_iconst (by decide +kernel) (sr_rgb rfl), nr_push⟩) 
  (sr_fm (Or.inl ⟨sn_iadd (by decide +kernel), nr_bi⟩) sr_fn))))))))))))))))))))))))))))))))))))))))))))))))))))))))))))
def mc_6 : List (Nat × mm_T) := [(694, mm_xald 695), (695, mm_cV 216 12 1 true 698), (698, mm_ic (fun x y => decide (x = y)) 1494 701), (701, mm_push (.inl 0) 702), (702, mm_rz 2), (703, mm_al 1 704), (704, mm_al 0 705), (705, mm_il 4 707), (707, mm_push (.inl 1) 708), (708, mm_bi mm_add 709), (709, mm_xald 710), (710, mm_al 0 711), (711, mm_il 4 713), (713, mm_push (.inl 2) 714), (714, mm_bi mm_add 715), (715, mm_xald 716), (716, mm_i2l 717), (717, mm_push (.inl 32) 719), (719, mm_sl mm_lshl 720), (720, mm_al 0 721), (721, mm_il 4 723), (723, mm_push (.inl 3) 724), (724, mm_bi mm_add 725), (725, mm_xald 726), (726, mm_i2l 727), (727, mm_push (.inr (.inl 4294967295)) 730), (730, mm_bl mm_landl 731), (731, mm_bl mm_lorl 732), (732, mm_cV 107 11 2 true 735), (735, mm_al 2 736), (736, mm_al 0 737), (737, mm_il 4 739), (739, mm_push (.inl 1) 740), (740, mm_bi mm_add 741), (741, mm_xald 742), (742, mm_al 0 743), (743, mm_il 4 745), (745, mm_push (.inl 2) 746), (746, mm_bi mm_add 747), (747, mm_xald 748), (748, mm_i2l 749), (749, mm_push (.inl 32) 751), (751, mm_sl mm_lshl 752), (752, mm_al 0 753), (753, mm_il 4 755), (755, mm_push (.inl 3) 756), (756, mm_bi mm_add 757), (757, mm_xald 758), (758, mm_i2l 759), (759, mm_push (.inr (.inl 4294967295)) 762), (762, mm_bl mm_landl 763), (763, mm_bl mm_lorl 764), (764, mm_cV 219 12 2 true 767), (767, mm_ic (fun x y => decide (x = y)) 1494 770), (770, mm_push (.inl 0) 771), (771, mm_rz 2), (772, mm_al 1 773), (773, mm_al 0 774), (774, mm_il 4 776), (776, mm_push (.inl 1) 777)]
set_option maxRecDepth 100000 in
theorem mc_ok6 (mnm : String) : ∀ q ∈ mc_6, st_ok mnm q :=
  (sr_fm (Or.inl ⟨sn_xald (by decide +kernel), nr_xald⟩) 
  (sr_fm (Or.inl ⟨sn_cV (idx := 92) (by decide +kernel) rfl sr_ok12 (by decide) ym_216 tw_1135 tw_1136 tw_1137 tw_670 tw_1138, nr_cV⟩) 
  (sr_fm (Or.inl ⟨sn_ic_eq (off := 796) (by decide +kernel) (by decide), nr_ic⟩) 
  (sr_fm (Or.inl ⟨sn_iconst (by decide +kernel) (sr_rgb rfl), nr_push⟩) 
  (sr_fm (Or.inr ⟨rfl, by decide +kernel⟩) 
  (sr_fm (Or.inl ⟨sn_aload_n (j := 1) (i := 1) (by decide +kernel) rfl, nr_al⟩) 
  (sr_fm (Or.inl ⟨sn_aload_n (j := 0) (i := 0) (by decide +kernel) rfl, nr_al⟩) 
  (sr_fm (Or.inl ⟨sn_iload (by decide +kernel), nr_il⟩) 
  (sr_fm (Or.inl ⟨sn_iconst (by decide +kernel) (sr_rgb rfl), nr_push⟩) 
  (sr_fm (Or.inl ⟨sn_iadd (by decide +kernel), nr_bi⟩) 
  (sr_fm (Or.inl ⟨sn_xald (by decide +kernel), nr_xald⟩) 
  (sr_fm (Or.inl ⟨sn_aload_n (j := 0) (i := 0) (by decide +kernel) rfl, nr_al⟩) 
  (sr_fm (Or.inl ⟨sn_iload (by decide +kernel), nr_il⟩) 
  (sr_fm (Or.inl ⟨sn_iconst (by decide +kernel) (sr_rgb rfl), nr_push⟩) 
  (sr_fm (Or.inl ⟨sn_iadd (by decide +kernel), nr_bi⟩) 
  (sr_fm (Or.inl ⟨sn_xald (by decide +kernel), nr_xald⟩) 
  (sr_fm (Or.inl ⟨sn_i2l (by decide +kernel), nr_i2l⟩) 
  (sr_fm (Or.inl ⟨sn_bipush (by decide +kernel) (sr_rgb rfl) rfl, nr_push⟩) 
  (sr_fm (Or.inl ⟨sn_lshl (by decide +kernel), nr_sl⟩) 
  (sr_fm (Or.inl ⟨sn_aload_n (j := 0) (i := 0) (by decide +kernel) rfl, nr_al⟩) 
  (sr_fm (Or.inl ⟨sn_iload (by decide +kernel), nr_il⟩) 
  (sr_fm (Or.inl ⟨sn_iconst (by decide +kernel) (sr_rgb rfl), nr_push⟩) 
  (sr_fm (Or.inl ⟨sn_iadd (by decide +kernel), nr_bi⟩) 
  (sr_fm (Or.inl ⟨sn_xald (by decide +kernel), nr_xald⟩) 
  (sr_fm (Or.inl ⟨sn_i2l (by decide +kernel), nr_i2l⟩) 
  (sr_fm (Or.inl ⟨sn_ldc2 (i := 93) (by decide +kernel) (sr_rgbl rfl) tw_1139, nr_push⟩) 
  (sr_fm (Or.inl ⟨sn_land (by decide +kernel), nr_bl⟩) 
  (sr_fm (Or.inl ⟨sn_lor (by decide +kernel), nr_bl⟩) 
  (sr_fm (Or.inl ⟨sn_cV (idx := 95) (by decide +kernel) rfl sr_ok11 (by decide) ym_107 tw_1140 tw_1141 tw_1142 tw_433 tw_1143, nr_cV⟩) 
  (sr_fm (Or.inl ⟨sn_aload_n (j := 2) (i := 2) (by decide +kernel) rfl, nr_al⟩) 
  (sr_fm (Or.inl ⟨sn_aload_n (j := 0) (i := 0) (by decide +kernel) rfl, nr_al⟩) 
  (sr_fm (Or.inl ⟨sn_iload (by decide +kernel), nr_il⟩) 
  (sr_fm (Or.inl ⟨sn_iconst (by decide +kernel) (sr_rgb rfl), nr_push⟩) 
  (sr_fm (Or.inl ⟨sn_iadd (by decide +kernel), nr_bi⟩) 
  (sr_fm (Or.inl ⟨sn_xald (by decide +kernel), nr_xald⟩) 
  (sr_fm (Or.inl ⟨sn_aload_n (j := 0) (i := 0) (by decide +kernel) rfl, nr_al⟩) 
  (sr_fm (Or.inl ⟨sn_iload (by decide +kernel), nr_il⟩) 
  (sr_fm (Or.inl ⟨sn_iconst (by decide +kernel) (sr_rgb rfl), nr_push⟩) 
  (sr_fm (Or.inl ⟨sn_iadd (by decide +kernel), nr_bi⟩) 
  (sr_fm (Or.inl ⟨sn_xald (by decide +kernel), nr_xald⟩) 
  (sr_fm (Or.inl ⟨sn_i2l (by decide +kernel), nr_i2l⟩) 
  (sr_fm (Or.inl ⟨sn_bipush (by decide +kernel) (sr_rgb rfl) rfl, nr_push⟩) 
  (sr_fm (Or.inl ⟨sn_lshl (by decide +kernel), nr_sl⟩) 
  (sr_fm (Or.inl ⟨sn_aload_n (j := 0) (i := 0) (by decide +kernel) rfl, nr_al⟩) 
  (sr_fm (Or.inl ⟨sn_iload (by decide +kernel), nr_il⟩) 
  (sr_fm (Or.inl ⟨sn_iconst (by decide +kernel) (sr_rgb rfl), nr_push⟩) 
  (sr_fm (Or.inl ⟨sn_iadd (by decide +kernel), nr_bi⟩) 
  (sr_fm (Or.inl ⟨sn_xald (by decide +kernel), nr_xald⟩) 
  (sr_fm (Or.inl ⟨sn_i2l (by decide +kernel), nr_i2l⟩) 
  (sr_fm (Or.inl ⟨sn_ldc2 (i := 93) (by decide +kernel) (sr_rgbl rfl) tw_1139, nr_push⟩) 
  (sr_fm (Or.inl ⟨sn_land (by decide +kernel), nr_bl⟩) 
  (sr_fm (Or.inl ⟨sn_lor (by decide +kernel), nr_bl⟩) 
  (sr_fm (Or.inl ⟨sn_cV (idx := 99) (by decide +kernel) rfl sr_ok12 (by decide) ym_219 tw_1144 tw_1145 tw_1146 tw_670 tw_1147, nr_cV⟩) 
  (sr_fm (Or.inl ⟨sn_ic_eq (off := 727) (by decide +kernel) (by decide), nr_ic⟩) 
  (sr_fm (Or.inl ⟨sn_iconst (by decide +kernel) (sr_rgb rfl), nr_push⟩) 
  (sr_fm (Or.inr ⟨rfl, by decide +kernel⟩) 
  (sr_fm (Or.inl ⟨sn_aload_n (j := 1) (i := 1) (by decide +kernel) rfl, nr_al⟩) 
  (sr_fm (Or.inl ⟨sn_aload_n (j := 0) (i := 0) (by decide +kernel) rfl, nr_al⟩) 
  (sr_fm (Or.inl ⟨sn_iload (by decide +kernel), nr_il⟩) 
  (sr_fm (Or.inl ⟨sn_iconst (by decide +kernel) (sr_rgb rfl), nr_push⟩) sr_fn))))))))))))))))))))))))))))))))))))))))))))))))))))))))))))
def mc_7 : List (Nat × mm_T) := [(777, mm_bi mm_add 778), (778, mm_xald 779), (779, mm_cV 112 11 1 true 782), (782, mm_al 2 783), (783, mm_al 0 784), (784, mm_il 4 786), (786, mm_push (.inl 1) 787), (787, mm_bi mm_add 788), (788, mm_xald 789), (789, mm_cV 220 12 1 true 792), (792, mm_ic (fun x y => decide (x = y)) 1494 795), (795, mm_push (.inl 0) 796), (796, mm_rz 2), (797, mm_al 1 798), (798, mm_cV 113 11 0 true 801), (801, mm_al 2 802), (802, mm_cV 221 12 0 true 805), (805, mm_ic (fun x y => decide (x = y)) 1494 808), (808, mm_push (.inl 0) 809), (809, mm_rz 2), (810, mm_al 1 811), (811, mm_al 0 812), (812, mm_il 4 814), (814, mm_push (.inl 1) 815), (815, mm_bi mm_add 816), (816, mm_xald 817), (817, mm_al 0 818), (818, mm_il 4 820), (820, mm_push (.inl 2) 821), (821, mm_bi mm_add 822), (822, mm_xald 823), (823, mm_cV 114 11 2 true 826), (826, mm_al 2 827), (827, mm_al 0 828), (828, mm_il 4 830), (830, mm_push (.inl 1) 831), (831, mm_bi mm_add 832), (832, mm_xald 833), (833, mm_al 0 834), (834, mm_il 4 836), (836, mm_push (.inl 2) 837), (837, mm_bi mm_add 838), (838, mm_xald 839), (839, mm_cV 222 12 2 true 842), (842, mm_ic (fun x y => decide (x = y)) 1494 845), (845, mm_push (.inl 0) 846), (846, mm_rz 2), (847, mm_al 1 848), (848, mm_al 0 849), (849, mm_il 4 851), (851, mm_push (.inl 1) 852), (852, mm_bi mm_add 853), (853, mm_xald 854), (854, mm_cV 116 11 1 true 857), (857, mm_al 2 858), (858, mm_al 0 859), (859, mm_il 4 861), (861, mm_push (.inl 1) 862), (862, mm_bi mm_add 863), (863, mm_xald 864)]
set_option maxRecDepth 100000 in
theorem mc_ok7 (mnm : String) : ∀ q ∈ mc_7, st_ok mnm q :=
  (sr_fm (Or.inl ⟨sn_iadd (by decide +kernel), nr_bi⟩) 
  (sr_fm (Or.inl ⟨sn_xald (by decide +kernel), nr_xald⟩) 
  (sr_fm (Or.inl ⟨sn_cV (idx := 100) (by decide +kernel) rfl sr_ok11 (by decide) ym_112 tw_1148 tw_1149 tw_1150 tw_433 tw_1151, nr_cV⟩) 
  (sr_fm (Or.inl ⟨sn_aload_n (j := 2) (i := 2) (by decide +kernel) rfl, nr_al⟩) 
  (sr_fm (Or.inl ⟨sn_aload_n (j := 0) (i := 0) (by decide +kernel) rfl, nr_al⟩) 
  (sr_fm (Or.inl ⟨sn_iload (by decide +kernel), nr_il⟩) 
  (sr_fm (Or.inl ⟨sn_iconst (by decide +kernel) (sr_rgb rfl), nr_push⟩) 
  (sr_fm (Or.inl ⟨sn_iadd (by decide +kernel), nr_bi⟩) 
  (sr_fm (Or.inl ⟨sn_xald (by decide +kernel), nr_xald⟩) 
  (sr_fm (Or.inl ⟨sn_cV (idx := 103) (by decide +kernel) rfl sr_ok12 (by decide) ym_220 tw_1152 tw_1153 tw_1154 tw_670 tw_1155, nr_cV⟩) 
  (sr_fm (Or.inl ⟨sn_ic_eq (off := 702) (by decide +kernel) (by decide), nr_ic⟩) 
  (sr_fm (Or.inl ⟨sn_iconst (by decide +kernel) (sr_rgb rfl), nr_push⟩) 
  (sr_fm (Or.inr ⟨rfl, by decide +kernel⟩) 
  (sr_fm (Or.inl ⟨sn_aload_n (j := 1) (i := 1) (by decide +kernel) rfl, nr_al⟩) 
  (sr_fm (Or.inl ⟨sn_cV (idx := 104) (by decide +kernel) rfl sr_ok11 (by decide) ym_113 tw_1156 tw_1157 tw_1158 tw_433 tw_1159, nr_cV⟩) 
  (sr_fm (Or.inl ⟨sn_aload_n (j := 2) (i := 2) (by decide +kernel) rfl, nr_al⟩) 
  (sr_fm (Or.inl ⟨sn_cV (idx := 107) (by decide +kernel) rfl sr_ok12 (by decide) ym_221 tw_1160 tw_1161 tw_1162 tw_670 tw_1163, nr_cV⟩) 
  (sr_fm (Or.inl ⟨sn_ic_eq (off := 689) (by decide +kernel) (by decide), nr_ic⟩) 
  (sr_fm (Or.inl ⟨sn_iconst (by decide +kernel) (sr_rgb rfl), nr_push⟩) 
  (sr_fm (Or.inr ⟨rfl, by decide +kernel⟩) 
  (sr_fm (Or.inl ⟨sn_aload_n (j := 1) (i := 1) (by decide +kernel) rfl, nr_al⟩) 
  (sr_fm (Or.inl ⟨sn_aload_n (j := 0) (i := 0) (by decide +kernel) rfl, nr_al⟩) 
  (sr_fm (Or.inl ⟨sn_iload (by decide +kernel), nr_il⟩) 
  (sr_fm (Or.inl ⟨sn_iconst (by decide +kernel) (sr_rgb rfl), nr_push⟩) 
  (sr_fm (Or.inl ⟨sn_iadd (by decide +kernel), nr_bi⟩) 
  (sr_fm (Or.inl ⟨sn_xald (by decide +kernel), nr_xald⟩) 
  (sr_fm (Or.inl ⟨sn_aload_n (j := 0) (i := 0) (by decide +kernel) rfl, nr_al⟩) 
  (sr_fm (Or.inl ⟨sn_iload (by decide +kernel), nr_il⟩) 
  (sr_fm (Or.inl ⟨sn_iconst (by decide +kernel) (sr_rgb rfl), nr_push⟩) 
  (sr_fm (Or.inl ⟨sn_iadd (by decide +kernel), nr_bi⟩) 
  (sr_fm (Or.inl ⟨sn_xald (by decide +kernel), nr_xald⟩) 
  (sr_fm (Or.inl ⟨sn_cV (idx := 108) (by decide +kernel) rfl sr_ok11 (by decide) ym_114 tw_1164 tw_1165 tw_1166 tw_433 tw_1167, nr_cV⟩) 
  (sr_fm (Or.inl ⟨sn_aload_n (j := 2) (i := 2) (by decide +kernel) rfl, nr_al⟩) 
  (sr_fm (Or.inl ⟨sn_aload_n (j := 0) (i := 0) (by decide +kernel) rfl, nr_al⟩) 
  (sr_fm (Or.inl ⟨sn_iload (by decide +kernel), nr_il⟩) 
  (sr_fm (Or.inl ⟨sn_iconst (by decide +kernel) (sr_rgb rfl), nr_push⟩) 
  (sr_fm (Or.inl ⟨sn_iadd (by decide +kernel), nr_bi⟩) 
  (sr_fm (Or.inl ⟨sn_xald (by decide +kernel), nr_xald⟩) 
  (sr_fm (Or.inl ⟨sn_aload_n (j := 0) (i := 0) (by decide +kernel) rfl, nr_al⟩) 
  (sr_fm (Or.inl ⟨sn_iload (by decide +kernel), nr_il⟩) 
  (sr_fm (Or.inl ⟨sn_iconst (by decide +kernel) (sr_rgb rfl), nr_push⟩) 
  (sr_fm (Or.inl ⟨sn_iadd (by decide +kernel), nr_bi⟩) 
  (sr_fm (Or.inl ⟨sn_xald (by decide +kernel), nr_xald⟩) 
  (sr_fm (Or.inl ⟨sn_cV (idx := 111) (by decide +kernel) rfl sr_ok12 (by decide) ym_222 tw_1168 tw_1169 tw_1170 tw_670 tw_1171, nr_cV⟩) 
  (sr_fm (Or.inl ⟨sn_ic_eq (off := 652) (by decide +kernel) (by decide), nr_ic⟩) 
  (sr_fm (Or.inl ⟨sn_iconst (by decide +kernel) (sr_rgb rfl), nr_push⟩) 
  (sr_fm (Or.inr ⟨rfl, by decide +kernel⟩) 
  (sr_fm (Or.inl ⟨sn_aload_n (j := 1) (i := 1) (by decide +kernel) rfl, nr_al⟩) 
  (sr_fm (Or.inl ⟨sn_aload_n (j := 0) (i := 0) (by decide +kernel) rfl, nr_al⟩) 
  (sr_fm (Or.inl ⟨sn_iload (by decide +kernel), nr_il⟩) 
  (sr_fm (Or.inl ⟨sn_iconst (by decide +kernel) (sr_rgb rfl), nr_push⟩) 
  (sr_fm (Or.inl ⟨sn_iadd (by decide +kernel), nr_bi⟩) 
  (sr_fm (Or.inl ⟨sn_xald (by decide +kernel), nr_xald⟩) 
  (sr_fm (Or.inl ⟨sn_cV (idx := 112) (by decide +kernel) rfl sr_ok11 (by decide) ym_116 tw_1172 tw_1173 tw_1174 tw_433 tw_1175, nr_cV⟩) 
  (sr_fm (Or.inl ⟨sn_aload_n (j := 2) (i := 2) (by decide +kernel) rfl, nr_al⟩) 
  (sr_fm (Or.inl ⟨sn_aload_n (j := 0) (i := 0) (by decide +kernel) rfl, nr_al⟩) 
  (sr_fm (Or.inl ⟨sn_iload (by decide +kernel), nr_il⟩) 
  (sr_fm (Or.inl ⟨sn_iconst (by decide +kernel) (sr_rgb rfl), nr_push⟩) 
  (sr_fm (Or.inl ⟨sn_iadd (by decide +kernel), nr_bi⟩) 
  (sr_fm (Or.inl ⟨sn_xald (by decide +kernel), nr_xald⟩) sr_fn))))))))))))))))))))))))))))))))))))))))))))))))))))))))))))
def mc_8 : List (Nat × mm_T) := [(864, mm_cV 227 12 1 true 867), (867, mm_ic (fun x y => decide (x = y)) 1494 870), (870, mm_push (.inl 0) 871), (871, mm_rz 2), (872, mm_al 1 873), (873, mm_al 0 874), (874, mm_il 4 876), (876, mm_push (.inl 1) 877), (877, mm_bi mm_add 878), (878, mm_xald 879), (879, mm_al 0 880), (880, mm_il 4 882), (882, mm_push (.inl 2) 883), (883, mm_bi mm_add 884), (884, mm_xald 885), (885, mm_cV 117 11 2 true 888), (888, mm_al 2 889), (889, mm_al 0 890), (890, mm_il 4 892), (892, mm_push (.inl 1) 893), (893, mm_bi mm_add 894), (894, mm_xald 895), (895, mm_al 0 896), (896, mm_il 4 898), (898, mm_push (.inl 2) 899), (899, mm_bi mm_add 900), (900, mm_xald 901), (901, mm_cV 228 12 2 true 904), (904, mm_ic (fun x y => decide (x = y)) 1494 907), (907, mm_push (.inl 0) 908), (908, mm_rz 2), (909, mm_al 1 910), (910, mm_al 0 911), (911, mm_il 4 913), (913, mm_push (.inl 1) 914), (914, mm_bi mm_add 915), (915, mm_xald 916), (916, mm_cV 118 11 1 true 919), (919, mm_al 2 920), (920, mm_al 0 921), (921, mm_il 4 923), (923, mm_push (.inl 1) 924), (924, mm_bi mm_add 925), (925, mm_xald 926), (926, mm_cV 229 12 1 true 929), (929, mm_ic (fun x y => decide (x = y)) 1494 932), (932, mm_push (.inl 0) 933), (933, mm_rz 2), (934, mm_al 1 935), (935, mm_al 0 936), (936, mm_il 4 938), (938, mm_push (.inl 1) 939), (939, mm_bi mm_add 940), (940, mm_xald 941), (941, mm_al 0 942), (942, mm_il 4 944), (944, mm_push (.inl 2) 945), (945, mm_bi mm_add 946), (946, mm_xald 947), (947, mm_cV 119 11 2 true 950)]
set_option maxRecDepth 100000 in
theorem mc_ok8 (mnm : String) : ∀ q ∈ mc_8, st_ok mnm q :=
  (sr_fm (Or.inl ⟨sn_cV (idx := 115) (by decide +kernel) rfl sr_ok12 (by decide) ym_227 tw_1176 tw_1177 tw_1178 tw_670 tw_1179, nr_cV⟩) 
  (sr_fm (Or.inl ⟨sn_ic_eq (off := 627) (by decide +kernel) (by decide), nr_ic⟩) 
  (sr_fm (Or.inl ⟨sn_iconst (by decide +kernel) (sr_rgb rfl), nr_push⟩) 
  (sr_fm (Or.inr ⟨rfl, by decide +kernel⟩) 
  (sr_fm (Or.inl ⟨sn_aload_n (j := 1) (i := 1) (by decide +kernel) rfl, nr_al⟩) 
  (sr_fm (Or.inl ⟨sn_aload_n (j := 0) (i := 0) (by decide +kernel) rfl, nr_al⟩) 
  (sr_fm (Or.inl ⟨sn_iload (by decide +kernel), nr_il⟩) 
  (sr_fm (Or.inl ⟨sn_iconst (by decide +kernel) (sr_rgb rfl), nr_push⟩) 
  (sr_fm (Or.inl ⟨sn_iadd (by decide +kernel), nr_bi⟩) 
  (sr_fm (Or.inl ⟨sn_xald (by decide +kernel), nr_xald⟩) 
  (sr_fm (Or.inl ⟨sn_aload_n (j := 0) (i := 0) (by decide +kernel) rfl, nr_al⟩) 
  (sr_fm (Or.inl ⟨sn_iload (by decide +kernel), nr_il⟩) 
  (sr_fm (Or.inl ⟨sn_iconst (by decide +kernel) (sr_rgb rfl), nr_push⟩) 
  (sr_fm (Or.inl ⟨sn_iadd (by decide +kernel), nr_bi⟩) 
  (sr_fm (Or.inl ⟨sn_xald (by decide +kernel), nr_xald⟩) 
  (sr_fm (Or.inl ⟨sn_cV (idx := 116) (by decide +kernel) rfl sr_ok11 (by decide) ym_117 tw_1180 tw_1181 tw_1182 tw_433 tw_1183, nr_cV⟩) 
  (sr_fm (Or.inl ⟨sn_aload_n (j := 2) (i := 2) (by decide +kernel) rfl, nr_al⟩) 
  (sr_fm (Or.inl ⟨sn_aload_n (j := 0) (i := 0) (by decide +kernel) rfl, nr_al⟩) 
  (sr_fm (Or.inl ⟨sn_iload (by decide +kernel), nr_il⟩) 
  (sr_fm (Or.inl ⟨sn_iconst (by decide +kernel) (sr_rgb rfl), nr_push⟩) 
  (sr_fm (Or.inl ⟨sn_iadd (by decide +kernel), nr_bi⟩) 
  (sr_fm (Or.inl ⟨sn_xald (by decide +kernel), nr_xald⟩) 
  (sr_fm (Or.inl ⟨sn_aload_n (j := 0) (i := 0) (by decide +kernel) rfl, nr_al⟩) 
  (sr_fm (Or.inl ⟨sn_iload (by decide +kernel), nr_il⟩) 
  (sr_fm (Or.inl ⟨sn_iconst (by decide +kernel) (sr_rgb rfl), nr_push⟩) 
  (sr_fm (Or.inl ⟨sn_iadd (by decide +kernel), nr_bi⟩) 
  (sr_fm (Or.inl ⟨sn_xald (by decide +kernel), nr_xald⟩) 
  (sr_fm (Or.inl ⟨sn_cV (idx := 119) (by decide +kernel) rfl sr_ok12 (by decide) ym_228 tw_1184 tw_1185 tw_1186 tw_670 tw_1187, nr_cV⟩) 
  (sr_fm (Or.inl ⟨sn_ic_eq (off := 590) (by decide +kernel) (by decide), nr_ic⟩) 
  (sr_fm (Or.inl ⟨sn_iconst (by decide +kernel) (sr_rgb rfl), nr_push⟩) 
  (sr_fm (Or.inr ⟨rfl, by decide +kernel⟩) 
  (sr_fm (Or.inl ⟨sn_aload_n (j := 1) (i := 1) (by decide +kernel) rfl, nr_al⟩) 
  (sr_fm (Or.inl ⟨sn_aload_n (j := 0) (i := 0) (by decide +kernel) rfl, nr_al⟩) 
  (sr_fm (Or.inl ⟨sn_iload (by decide +kernel), nr_il⟩) 
  (sr_fm (Or.inl ⟨sn_iconst (by decide +kernel) (sr_rgb rfl), nr_push⟩) 
  (sr_fm (Or.inl ⟨sn_iadd (by decide +kernel), nr_bi⟩) 
  (sr_fm (Or.inl ⟨sn_xald (by decide +kernel), nr_xald⟩) 
  (sr_fm (Or.inl ⟨sn_cV (idx := 120) (by decide +kernel) rfl sr_ok11 (by decide) ym_118 tw_1188 tw_1189 tw_1190 tw_433 tw_1191, nr_cV⟩) 
  (sr_fm (Or.inl ⟨sn_aload_n (j := 2) (i := 2) (by decide +kernel) rfl, nr_al⟩) 
  (sr_fm (Or.inl ⟨sn_aload_n (j := 0) (i := 0) (by decide +kernel) rfl, nr_al⟩) 
  (sr_fm (Or.inl ⟨sn_iload (by decide +kernel), nr_il⟩) 
  (sr_fm (Or.inl ⟨sn_iconst (by decide +kernel) (sr_rgb rfl), nr_push⟩) 
  (sr_fm (Or.inl ⟨sn_iadd (by decide +kernel), nr_bi⟩) 
  (sr_fm (Or.inl ⟨sn_xald (by decide +kernel), nr_xald⟩) 
  (sr_fm (Or.inl ⟨sn_cV (idx := 123) (by decide +kernel) rfl sr_ok12 (by decide) ym_229 tw_1192 tw_1193 tw_1194 tw_670 tw_1195, nr_cV⟩) 
  (sr_fm (Or.inl ⟨sn_ic_eq (off := 565) (by decide +kernel) (by decide), nr_ic⟩) 
  (sr_fm (Or.inl ⟨sn_iconst (by decide +kernel) (sr_rgb rfl), nr_push⟩) 
  (sr_fm (Or.inr ⟨rfl, by decide +kernel⟩) 
  (sr_fm (Or.inl ⟨sn_aload_n (j := 1) (i := 1) (by decide +kernel) rfl, nr_al⟩) 
  (sr_fm (Or.inl ⟨sn_aload_n (j := 0) (i := 0) (by decide +kernel) rfl, nr_al⟩) 
  (sr_fm (Or.inl ⟨sn_iload (by decide +kernel), nr_il⟩) 
  (sr_fm (Or.inl ⟨sn_iconst (by decide +kernel) (sr_rgb rfl), nr_push⟩) 
  (sr_fm (Or.inl ⟨sn_iadd (by decide +kernel), nr_bi⟩) 
  (sr_fm (Or.inl ⟨sn_xald (by decide +kernel), nr_xald⟩) 
  (sr_fm (Or.inl ⟨sn_aload_n (j := 0) (i := 0) (by decide +kernel) rfl, nr_al⟩) 
  (sr_fm (Or.inl ⟨sn_iload (by decide +kernel), nr_il⟩) 
  (sr_fm (Or.inl ⟨sn_iconst (by decide +kernel) (sr_rgb rfl), nr_push⟩) 
  (sr_fm (Or.inl ⟨sn_iadd (by decide +kernel), nr_bi⟩) 
  (sr_fm (Or.inl ⟨sn_xald (by decide +kernel), nr_xald⟩) 
  (sr_fm (Or.inl ⟨sn_cV (idx := 124) (by decide +kernel) rfl sr_ok11 (by decide) ym_119 tw_1196 tw_1197 tw_1198 tw_433 tw_1199, nr_cV⟩) sr_fn))))))))))))))))))))))))))))))))))))))))))))))))))))))))))))
def mc_9 : List (Nat × mm_T) := [(950, mm_al 2 951), (951, mm_al 0 952), (952, mm_il 4 954), (954, mm_push (.inl 1) 955), (955, mm_bi mm_add 956), (956, mm_xald 957), (957, mm_al 0 958), (958, mm_il 4 960), (960, mm_push (.inl 2) 961), (961, mm_bi mm_add 962), (962, mm_xald 963), (963, mm_cV 230 12 2 true 966), (966, mm_ic (fun x y => decide (x = y)) 1494 969), (969, mm_push (.inl 0) 970), (970, mm_rz 2), (971, mm_al 1 972), (972, mm_cV 120 11 0 true 975), (975, mm_al 2 976), (976, mm_cV 231 12 0 true 979), (979, mm_ic (fun x y => decide (x = y)) 1494 982), (982, mm_push (.inl 0) 983), (983, mm_rz 2), (984, mm_al 1 985), (985, mm_al 0 986), (986, mm_il 4 988), (988, mm_push (.inl 1) 989), (989, mm_bi mm_add 990), (990, mm_xald 991), (991, mm_al 0 992), (992, mm_il 4 994), (994, mm_push (.inl 2) 995), (995, mm_bi mm_add 996), (996, mm_xald 997), (997, mm_cV 121 11 2 true 1000), (1000, mm_al 2 1001), (1001, mm_al 0 1002), (1002, mm_il 4 1004), (1004, mm_push (.inl 1) 1005), (1005, mm_bi mm_add 1006), (1006, mm_xald 1007), (1007, mm_al 0 1008), (1008, mm_il 4 1010), (1010, mm_push (.inl 2) 1011), (1011, mm_bi mm_add 1012), (1012, mm_xald 1013), (1013, mm_cV 234 12 2 true 1016), (1016, mm_ic (fun x y => decide (x = y)) 1494 1019), (1019, mm_push (.inl 0) 1020), (1020, mm_rz 2), (1021, mm_al 1 1022), (1022, mm_al 0 1023), (1023, mm_il 4 1025), (1025, mm_push (.inl 1) 1026), (1026, mm_bi mm_add 1027), (1027, mm_xald 1028), (1028, mm_al 0 1029), (1029, mm_il 4 1031), (1031, mm_push (.inl 2) 1032), (1032, mm_bi mm_add 1033), (1033, mm_xald 1034)]
set_option maxRecDepth 100000 in
theorem mc_ok9 (mnm : String) : ∀ q ∈ mc_9, st_ok mnm q :=
  (sr_fm (Or.inl ⟨sn_aload_n (j := 2) (i := 2) (by decide +kernel) rfl, nr_al⟩) 
  (sr_fm (Or.inl ⟨sn_aload_n (j := 0) (i := 0) (by decide +kernel) rfl, nr_al⟩) 
  (sr_fm (Or.inl ⟨sn_iload (by decide +kernel), nr_il⟩) 
  (sr_fm (Or.inl ⟨sn_iconst (by decide +kernel) (sr_rgb rfl), nr_push⟩) 
  (sr_fm (Or.inl ⟨sn_iadd (by decide +kernel), nr_bi⟩) 
  (sr_fm (Or.inl ⟨sn_xald (by decide +kernel), nr_xald⟩) 
  (sr_fm (Or.inl ⟨sn_aload_n (j := 0) (i := 0) (by decide +kernel) rfl, nr_al⟩) 
  (sr_fm (Or.inl ⟨sn_iload (by decide +kernel), nr_il⟩) 
  (sr_fm (Or.inl ⟨sn_iconst (by decide +kernel) (sr_rgb rfl), nr_push⟩) 
  (sr_fm (Or.inl ⟨sn_iadd (by decide +kernel), nr_bi⟩) 
  (sr_fm (Or.inl ⟨sn_xald (by decide +kernel), nr_xald⟩) 
  (sr_fm (Or.inl ⟨sn_cV (idx := 127) (by decide +kernel) rfl sr_ok12 (by decide) ym_230 tw_1200 tw_1201 tw_1202 tw_670 tw_1203, nr_cV⟩) 
  (sr_fm (Or.inl ⟨sn_ic_eq (off := 528) (by decide +kernel) (by decide), nr_ic⟩) 
  (sr_fm (Or.inl ⟨sn_iconst (by decide +kernel) (sr_rgb rfl), nr_push⟩) 
  (sr_fm (Or.inr ⟨rfl, by decide +kernel⟩) 
  (sr_fm (Or.inl ⟨sn_aload_n (j := 1) (i := 1) (by decide +kernel) rfl, nr_al⟩) 
  (sr_fm (Or.inl ⟨sn_cV (idx := 128) (by decide +kernel) rfl sr_ok11 (by decide) ym_120 tw_1204 tw_1205 tw_1206 tw_433 tw_1207, nr_cV⟩) 
  (sr_fm (Or.inl ⟨sn_aload_n (j := 2) (i := 2) (by decide +kernel) rfl, nr_al⟩) 
  (sr_fm (Or.inl ⟨sn_cV (idx := 131) (by decide +kernel) rfl sr_ok12 (by decide) ym_231 tw_1208 tw_1209 tw_1210 tw_670 tw_1211, nr_cV⟩) 
  (sr_fm (Or.inl ⟨sn_ic_eq (off := 515) (by decide +kernel) (by decide), nr_ic⟩) 
  (sr_fm (Or.inl ⟨sn_iconst (by decide +kernel) (sr_rgb rfl), nr_push⟩) 
  (sr_fm (Or.inr ⟨rfl, by decide +kernel⟩) 
  (sr_fm (Or.inl ⟨sn_aload_n (j := 1) (i := 1) (by decide +kernel) rfl, nr_al⟩) 
  (sr_fm (Or.inl ⟨sn_aload_n (j := 0) (i := 0) (by decide +kernel) rfl, nr_al⟩) 
  (sr_fm (Or.inl ⟨sn_iload (by decide +kernel), nr_il⟩) 
  (sr_fm (Or.inl ⟨sn_iconst (by decide +kernel) (sr_rgb rfl), nr_push⟩) 
  (sr_fm (Or.inl ⟨sn_iadd (by decide +kernel), nr_bi⟩) 
  (sr_fm (Or.inl ⟨sn_xald (by decide +kernel), nr_xald⟩) 
  (sr_fm (Or.inl ⟨sn_aload_n (j := 0) (i := 0) (by decide +kernel) rfl, nr_al⟩) 
  (sr_fm (Or.inl ⟨sn_iload (by decide +kernel), nr_il⟩) 
  (sr_fm (Or.inl ⟨sn_iconst (by decide +kernel) (sr_rgb rfl), nr_push⟩) 
  (sr_fm (Or.inl ⟨sn_iadd (by decide +kernel), nr_bi⟩) 
  (sr_fm (Or.inl ⟨sn_xald (by decide +kernel), nr_xald⟩) 
  (sr_fm (Or.inl ⟨sn_cV (idx := 132) (by decide +kernel) rfl sr_ok11 (by decide) ym_121 tw_1212 tw_1213 tw_1214 tw_433 tw_1215, nr_cV⟩) 
  (sr_fm (Or.inl ⟨sn_aload_n (j := 2) (i := 2) (by decide +kernel) rfl, nr_al⟩) 
  (sr_fm (Or.inl ⟨sn_aload_n (j := 0) (i := 0) (by decide +kernel) rfl, nr_al⟩) 
  (sr_fm (Or.inl ⟨sn_iload (by decide +kernel), nr_il⟩) 
  (sr_fm (Or.inl ⟨sn_iconst (by decide +kernel) (sr_rgb rfl), nr_push⟩) 
  (sr_fm (Or.inl ⟨sn_iadd (by decide +kernel), nr_bi⟩) 
  (sr_fm (Or.inl ⟨sn_xald (by decide +kernel), nr_xald⟩) 
  (sr_fm (Or.inl ⟨sn_aload_n (j := 0) (i := 0) (by decide +kernel) rfl, nr_al⟩) 
  (sr_fm (Or.inl ⟨sn_iload (by decide +kernel), nr_il⟩) 
  (sr_fm (Or.inl ⟨sn_iconst (by decide +kernel) (sr_rgb rfl), nr_push⟩) 
  (sr_fm (Or.inl ⟨sn_iadd (by decide +kernel), nr_bi⟩) 
  (sr_fm (Or.inl ⟨sn_xald (by decide +kernel), nr_xald⟩) 
  (sr_fm (Or.inl ⟨sn_cV (idx := 135) (by decide +kernel) rfl sr_ok12 (by decide) ym_234 tw_1216 tw_1217 tw_1218 tw_670 tw_1219, nr_cV⟩) 
  (sr_fm (Or.inl ⟨sn_ic_eq (off := 478) (by decide +kernel) (by decide), nr_ic⟩) 
  (sr_fm (Or.inl ⟨sn_iconst (by decide +kernel) (sr_rgb rfl), nr_push⟩) 
  (sr_fm (Or.inr ⟨rfl, by decide +kernel⟩) 
  (sr_fm (Or.inl ⟨sn_aload_n (j := 1) (i := 1) (by decide +kernel) rfl, nr_al⟩) 
  (sr_fm (Or.inl ⟨sn_aload_n (j := 0) (i := 0) (by decide +kernel) rfl, nr_al⟩) 
  (sr_fm (Or.inl ⟨sn_iload (by decide +kernel), nr_il⟩) 
  (sr_fm (Or.inl ⟨sn_iconst (by decide +kernel) (sr_rgb rfl), nr_push⟩) 
  (sr_fm (Or.inl ⟨sn_iadd (by decide +kernel), nr_bi⟩) 
  (sr_fm (Or.inl ⟨sn_xald (by decide +kernel), nr_xald⟩) 
  (sr_fm (Or.inl ⟨sn_aload_n (j := 0) (i := 0) (by decide +kernel) rfl, nr_al⟩) 
  (sr_fm (Or.inl ⟨sn_iload (by decide +kernel), nr_il⟩) 
  (sr_fm (Or.inl ⟨sn_iconst (by decide +kernel) (sr_rgb rfl), nr_push⟩) 
  (sr_fm (Or.inl ⟨sn_iadd (by decide +kernel), nr_bi⟩) 
  (sr_fm (Or.inl ⟨sn_xald (by decide +kernel), nr_xald⟩) sr_fn))))))))))))))))))))))))))))))))))))))))))))))))))))))))))))
def mc_10 : List (Nat × mm_T) := [(1034, mm_cV 124 11 2 true 1037), (1037, mm_al 2 1038), (1038, mm_al 0 1039), (1039, mm_il 4 1041), (1041, mm_push (.inl 1) 1042), (1042, mm_bi mm_add 1043), (1043, mm_xald 1044), (1044, mm_al 0 1045), (1045, mm_il 4 1047), (1047, mm_push (.inl 2) 1048), (1048, mm_bi mm_add 1049), (1049, mm_xald 1050), (1050, mm_cV 237 12 2 true 1053), (1053, mm_ic (fun x y => decide (x = y)) 1494 1056), (1056, mm_push (.inl 0) 1057), (1057, mm_rz 2), (1058, mm_al 1 1059), (1059, mm_cV 125 11 0 true 1062), (1062, mm_al 2 1063), (1063, mm_cV 238 12 0 true 1066), (1066, mm_ic (fun x y => decide (x = y)) 1494 1069), (1069, mm_push (.inl 0) 1070), (1070, mm_rz 2), (1071, mm_al 1 1072), (1072, mm_al 0 1073), (1073, mm_il 4 1075), (1075, mm_push (.inl 1) 1076), (1076, mm_bi mm_add 1077), (1077, mm_xald 1078), (1078, mm_al 0 1079), (1079, mm_il 4 1081), (1081, mm_push (.inl 2) 1082), (1082, mm_bi mm_add 1083), (1083, mm_xald 1084), (1084, mm_al 0 1085), (1085, mm_il 4 1087), (1087, mm_push (.inl 3) 1088), (1088, mm_bi mm_add 1089), (1089, mm_xald 1090), (1090, mm_al 0 1091), (1091, mm_il 4 1093), (1093, mm_push (.inl 4) 1094), (1094, mm_bi mm_add 1095), (1095, mm_xald 1096), (1096, mm_if (fun x => decide (x = 0)) 1103 1099), (1099, mm_push (.inl 1) 1100), (1100, mm_go 1104), (1103, mm_push (.inl 0) 1104), (1104, mm_cV 126 11 4 true 1107), (1107, mm_al 2 1108), (1108, mm_al 0 1109), (1109, mm_il 4 1111), (1111, mm_push (.inl 1) 1112), (1112, mm_bi mm_add 1113), (1113, mm_xald 1114), (1114, mm_al 0 1115), (1115, mm_il 4 1117), (1117, mm_push (.inl 2) 1118), (1118, mm_bi mm_add 1119), (1119, mm_xald 1120)]
set_option maxRecDepth 100000 in
theorem mc_ok10 (mnm : String) : ∀ q ∈ mc_10, st_ok mnm q :=
  (sr_fm (Or.inl ⟨sn_cV (idx := 136) (by decide +kernel) rfl sr_ok11 (by decide) ym_124 tw_1220 tw_1221 tw_1222 tw_433 tw_1223, nr_cV⟩) 
  (sr_fm (Or.inl ⟨sn_aload_n (j := 2) (i := 2) (by decide +kernel) rfl, nr_al⟩) 
  (sr_fm (Or.inl ⟨sn_aload_n (j := 0) (i := 0) (by decide +kernel) rfl, nr_al⟩) 
  (sr_fm (Or.inl ⟨sn_iload (by decide +kernel), nr_il⟩) 
  (sr_fm (Or.inl ⟨sn_iconst (by decide +kernel) (sr_rgb rfl), nr_push⟩) 
  (sr_fm (Or.inl ⟨sn_iadd (by decide +kernel), nr_bi⟩) 
  (sr_fm (Or.inl ⟨sn_xald (by decide +kernel), nr_xald⟩) 
  (sr_fm (Or.inl ⟨sn_aload_n (j := 0) (i := 0) (by decide +kernel) rfl, nr_al⟩) 
  (sr_fm (Or.inl ⟨sn_iload (by decide +kernel), nr_il⟩) 
  (sr_fm (Or.inl ⟨sn_iconst (by decide +kernel) (sr_rgb rfl), nr_push⟩) 
  (sr_fm (Or.inl ⟨sn_iadd (by decide +kernel), nr_bi⟩) 
  (sr_fm (Or.inl ⟨sn_xald (by decide +kernel), nr_xald⟩) 
  (sr_fm (Or.inl ⟨sn_cV (idx := 139) (by decide +kernel) rfl sr_ok12 (by decide) ym_237 tw_1224 tw_1225 tw_1226 tw_670 tw_1227, nr_cV⟩) 
  (sr_fm (Or.inl ⟨sn_ic_eq (off := 441) (by decide +kernel) (by decide), nr_ic⟩) 
  (sr_fm (Or.inl ⟨sn_iconst (by decide +kernel) (sr_rgb rfl), nr_push⟩) 
  (sr_fm (Or.inr ⟨rfl, by decide +kernel⟩) 
  (sr_fm (Or.inl ⟨sn_aload_n (j := 1) (i := 1) (by decide +kernel) rfl, nr_al⟩) 
  (sr_fm (Or.inl ⟨sn_cV (idx := 140) (by decide +kernel) rfl sr_ok11 (by decide) ym_125 tw_1228 tw_1229 tw_1230 tw_433 tw_1231, nr_cV⟩) 
  (sr_fm (Or.inl ⟨sn_aload_n (j := 2) (i := 2) (by decide +kernel) rfl, nr_al⟩) 
  (sr_fm (Or.inl ⟨sn_cV (idx := 143) (by decide +kernel) rfl sr_ok12 (by decide) ym_238 tw_1232 tw_1233 tw_1234 tw_670 tw_1235, nr_cV⟩) 
  (sr_fm (Or.inl ⟨sn_ic_eq (off := 428) (by decide +kernel) (by decide), nr_ic⟩) 
  (sr_fm (Or.inl ⟨sn_iconst (by decide +kernel) (sr_rgb rfl), nr_push⟩) 
  (sr_fm (Or.inr ⟨rfl, by decide +kernel⟩) 
  (sr_fm (Or.inl ⟨sn_aload_n (j := 1) (i := 1) (by decide +kernel) rfl, nr_al⟩) 
  (sr_fm (Or.inl ⟨sn_aload_n (j := 0) (i := 0) (by decide +kernel) rfl, nr_al⟩) 
  (sr_fm (Or.inl ⟨sn_iload (by decide +kernel), nr_il⟩) 
  (sr_fm (Or.inl ⟨sn_iconst (by decide +kernel) (sr_rgb rfl), nr_push⟩) 
  (sr_fm (Or.inl ⟨sn_iadd (by decide +kernel), nr_bi⟩) 
  (sr_fm (Or.inl ⟨sn_xald (by decide +kernel), nr_xald⟩) 
  (sr_fm (Or.inl ⟨sn_aload_n (j := 0) (i := 0) (by decide +kernel) rfl, nr_al⟩) 
  (sr_fm (Or.inl ⟨sn_iload (by decide +kernel), nr_il⟩) 
  (sr_fm (Or.inl ⟨sn_iconst (by decide +kernel) (sr_rgb rfl), nr_push⟩) 
  (sr_fm (Or.inl ⟨sn_iadd (by decide +kernel), nr_bi⟩) 
  (sr_fm (Or.inl ⟨sn_xald (by decide +kernel), nr_xald⟩) 
  (sr_fm (Or.inl ⟨sn_aload_n (j := 0) (i := 0) (by decide +kernel) rfl, nr_al⟩) 
  (sr_fm (Or.inl ⟨sn_iload (by decide +kernel), nr_il⟩) 
  (sr_fm (Or.inl ⟨sn_iconst (by decide +kernel) (sr_rgb rfl), nr_push⟩) 
  (sr_fm (Or.inl ⟨sn_iadd (by decide +kernel), nr_bi⟩) 
  (sr_fm (Or.inl ⟨sn_xald (by decide +kernel), nr_xald⟩) 
  (sr_fm (Or.inl ⟨sn_aload_n (j := 0) (i := 0) (by decide +kernel) rfl, nr_al⟩) 
  (sr_fm (Or.inl ⟨sn_iload (by decide +kernel), nr_il⟩) 
  (sr_fm (Or.inl ⟨sn_iconst (by decide +kernel) (sr_rgb rfl), nr_push⟩) 
  (sr_fm (Or.inl ⟨sn_iadd (by decide +kernel), nr_bi⟩) 
  (sr_fm (Or.inl ⟨sn_xald (by decide +kernel), nr_xald⟩) 
  (sr_fm (Or.inl ⟨sn_if_eq (off := 7) (by decide +kernel) (by decide), nr_if⟩) 
  (sr_fm (Or.inl ⟨sn_iconst (by decide +kernel) (sr_rgb rfl), nr_push⟩) 
  (sr_fm (Or.inl ⟨sn_goto (off := 4) (by decide +kernel) (by decide), nr_go⟩) 
  (sr_fm (Or.inl ⟨sn_iconst (by decide +kernel) (sr_rgb rfl), nr_push⟩) 
  (sr_fm (Or.inl ⟨sn_cV (idx := 144) (by decide +kernel) rfl sr_ok11 (by decide) ym_126 tw_1236 tw_1237 tw_1238 tw_433 tw_1239, nr_cV⟩) 
  (sr_fm (Or.inl ⟨sn_aload_n (j := 2) (i := 2) (by decide +kernel) rfl, nr_al⟩) 
  (sr_fm (Or.inl ⟨sn_aload_n (j := 0) (i := 0) (by decide +kernel) rfl, nr_al⟩) 
  (sr_fm (Or.inl ⟨sn_iload (by decide +kernel), nr_il⟩) 
  (sr_fm (Or.inl ⟨sn_iconst (by decide +kernel) (sr_rgb rfl), nr_push⟩) 
  (sr_fm (Or.inl ⟨sn_iadd (by decide +kernel), nr_bi⟩) 
  (sr_fm (Or.inl ⟨sn_xald (by decide +kernel), nr_xald⟩) 
  (sr_fm (Or.inl ⟨sn_aload_n (j := 0) (i := 0) (by decide +kernel) rfl, nr_al⟩) 
  (sr_fm (Or.inl ⟨sn_iload (by decide +kernel), nr_il⟩) 
  (sr_fm (Or.inl ⟨sn_iconst (by decide +kernel) (sr_rgb rfl), nr_push⟩) 
  (sr_fm (Or.inl ⟨sn_iadd (by decide +kernel), nr_bi⟩) 
  (sr_fm (Or.inl ⟨sn_xald (by decide +kernel), nr_xald⟩) sr_fn))))))))))))))))))))))))))))))))))))))))))))))))))))))))))))
def mc_11 : List (Nat × mm_T) := [(1120, mm_al 0 1121), (1121, mm_il 4 1123), (1123, mm_push (.inl 3) 1124), (1124, mm_bi mm_add 1125), (1125, mm_xald 1126), (1126, mm_al 0 1127), (1127, mm_il 4 1129), (1129, mm_push (.inl 4) 1130), (1130, mm_bi mm_add 1131), (1131, mm_xald 1132), (1132, mm_if (fun x => decide (x = 0)) 1139 1135), (1135, mm_push (.inl 1) 1136), (1136, mm_go 1140), (1139, mm_push (.inl 0) 1140), (1140, mm_cV 239 12 4 true 1143), (1143, mm_ic (fun x y => decide (x = y)) 1494 1146), (1146, mm_push (.inl 0) 1147), (1147, mm_rz 2), (1148, mm_al 1 1149), (1149, mm_al 0 1150), (1150, mm_il 4 1152), (1152, mm_push (.inl 1) 1153), (1153, mm_bi mm_add 1154), (1154, mm_xald 1155), (1155, mm_cV 127 11 1 true 1158), (1158, mm_al 2 1159), (1159, mm_al 0 1160), (1160, mm_il 4 1162), (1162, mm_push (.inl 1) 1163), (1163, mm_bi mm_add 1164), (1164, mm_xald 1165), (1165, mm_cV 243 12 1 true 1168), (1168, mm_ic (fun x y => decide (x = y)) 1494 1171), (1171, mm_push (.inl 0) 1172), (1172, mm_rz 2), (1173, mm_al 1 1174), (1174, mm_al 0 1175), (1175, mm_il 4 1177), (1177, mm_push (.inl 1) 1178), (1178, mm_bi mm_add 1179), (1179, mm_xald 1180), (1180, mm_cV 128 11 1 true 1183), (1183, mm_al 2 1184), (1184, mm_al 0 1185), (1185, mm_il 4 1187), (1187, mm_push (.inl 1) 1188), (1188, mm_bi mm_add 1189), (1189, mm_xald 1190), (1190, mm_cV 244 12 1 true 1193), (1193, mm_ic (fun x y => decide (x = y)) 1494 1196), (1196, mm_push (.inl 0) 1197), (1197, mm_rz 2), (1198, mm_al 1 1199), (1199, mm_al 0 1200), (1200, mm_il 4 1202), (1202, mm_push (.inl 1) 1203), (1203, mm_bi mm_add 1204), (1204, mm_xald 1205), (1205, mm_al 0 1206), (1206, mm_il 4 1208)]
set_option maxRecDepth 100000 in
theorem mc_ok11 (mnm : String) : ∀ q ∈ mc_11, st_ok mnm q :=
  (sr_fm (Or.inl ⟨sn_aload_n (j := 0) (i := 0) (by decide +kernel) rfl, nr_al⟩) 
  (sr_fm (Or.inl ⟨sn_iload (by decide +kernel), nr_il⟩) 
  (sr_fm (Or.inl ⟨sn_iconst (by decide +kernel) (sr_rgb rfl), nr_push⟩) 
  (sr_fm (Or.inl ⟨sn_iadd (by decide +kernel), nr_bi⟩) 
  (sr_fm (Or.inl ⟨sn_xald (by decide +kernel), nr_xald⟩) 
  (sr_fm (Or.inl ⟨sn_aload_n (j := 0) (i := 0) (by decide +kernel) rfl, nr_al⟩) 
  (sr_fm (Or.inl ⟨sn_iload (by decide +kernel), nr_il⟩) 
  (sr_fm (Or.inl ⟨sn_iconst (by decide +kernel) (sr_rgb rfl), nr_push⟩) 
  (sr_fm (Or.inl ⟨sn_iadd (by decide +kernel), nr_bi⟩) 
  (sr_fm (Or.inl ⟨sn_xald (by decide +kernel), nr_xald⟩) 
  (sr_fm (Or.inl ⟨sn_if_eq (off := 7) (by decide +kernel) (by decide), nr_if⟩) 
  (sr_fm (Or.inl ⟨sn_iconst (by decide +kernel) (sr_rgb rfl), nr_push⟩) 
  (sr_fm (Or.inl ⟨sn_goto (off := 4) (by decide +kernel) (by decide), nr_go⟩) 
  (sr_fm (Or.inl ⟨sn_iconst (by decide +kernel) (sr_rgb rfl), nr_push⟩) 
  (sr_fm (Or.inl ⟨sn_cV (idx := 148) (by decide +kernel) rfl sr_ok12 (by decide) ym_239 tw_1240 tw_1241 tw_1242 tw_670 tw_1243, nr_cV⟩) 
  (sr_fm (Or.inl ⟨sn_ic_eq (off := 351) (by decide +kernel) (by decide), nr_ic⟩) 
  (sr_fm (Or.inl ⟨sn_iconst (by decide +kernel) (sr_rgb rfl), nr_push⟩) 
  (sr_fm (Or.inr ⟨rfl, by decide +kernel⟩) 
  (sr_fm (Or.inl ⟨sn_aload_n (j := 1) (i := 1) (by decide +kernel) rfl, nr_al⟩) 
  (sr_fm (Or.inl ⟨sn_aload_n (j := 0) (i := 0) (by decide +kernel) rfl, nr_al⟩) 
  (sr_fm (Or.inl ⟨sn_iload (by decide +kernel), nr_il⟩) 
  (sr_fm (Or.inl ⟨sn_iconst (by decide +kernel) (sr_rgb rfl), nr_push⟩) 
  (sr_fm (Or.inl ⟨sn_iadd (by decide +kernel), nr_bi⟩) 
  (sr_fm (Or.inl ⟨sn_xald (by decide +kernel), nr_xald⟩) 
  (sr_fm (Or.inl ⟨sn_cV (idx := 149) (by decide +kernel) rfl sr_ok11 (by decide) ym_127 tw_1244 tw_1245 tw_1246 tw_433 tw_1247, nr_cV⟩) 
  (sr_fm (Or.inl ⟨sn_aload_n (j := 2) (i := 2) (by decide +kernel) rfl, nr_al⟩) 
  (sr_fm (Or.inl ⟨sn_aload_n (j := 0) (i := 0) (by decide +kernel) rfl, nr_al⟩) 
  (sr_fm (Or.inl ⟨sn_iload (by decide +kernel), nr_il⟩) 
  (sr_fm (Or.inl ⟨sn_iconst (by decide +kernel) (sr_rgb rfl), nr_push⟩) 
  (sr_fm (Or.inl ⟨sn_iadd (by decide +kernel), nr_bi⟩) 
  (sr_fm (Or.inl ⟨sn_xald (by decide +kernel), nr_xald⟩) 
  (sr_fm (Or.inl ⟨sn_cV (idx := 152) (by decide +kernel) rfl sr_ok12 (by decide) ym_243 tw_1248 tw_1249 tw_1250 tw_670 tw_1251, nr_cV⟩) 
  (sr_fm (Or.inl ⟨sn_ic_eq (off := 326) (by decide +kernel) (by decide), nr_ic⟩) 
  (sr_fm (Or.inl ⟨sn_iconst (by decide +kernel) (sr_rgb rfl), nr_push⟩) 
  (sr_fm (Or.inr ⟨rfl, by decide +kernel⟩) 
  (sr_fm (Or.inl ⟨sn_aload_n (j := 1) (i := 1) (by decide +kernel) rfl, nr_al⟩) 
  (sr_fm (Or.inl ⟨sn_aload_n (j := 0) (i := 0) (by decide +kernel) rfl, nr_al⟩) 
  (sr_fm (Or.inl ⟨sn_iload (by decide +kernel), nr_il⟩) 
  (sr_fm (Or.inl ⟨sn_iconst (by decide +kernel) (sr_rgb rfl), nr_push⟩) 
  (sr_fm (Or.inl ⟨sn_iadd (by decide +kernel), nr_bi⟩) 
  (sr_fm (Or.inl ⟨sn_xald (by decide +kernel), nr_xald⟩) 
  (sr_fm (Or.inl ⟨sn_cV (idx := 153) (by decide +kernel) rfl sr_ok11 (by decide) ym_128 tw_1252 tw_1253 tw_1254 tw_433 tw_1255, nr_cV⟩) 
  (sr_fm (Or.inl ⟨sn_aload_n (j := 2) (i := 2) (by decide +kernel) rfl, nr_al⟩) 
  (sr_fm (Or.inl ⟨sn_aload_n (j := 0) (i := 0) (by decide +kernel) rfl, nr_al⟩) 
  (sr_fm (Or.inl ⟨sn_iload (by decide +kernel), nr_il⟩) 
  (sr_fm (Or.inl ⟨sn_iconst (by decide +kernel) (sr_rgb rfl), nr_push⟩) 
  (sr_fm (Or.inl ⟨sn_iadd (by decide +kernel), nr_bi⟩) 
  (sr_fm (Or.inl ⟨sn_xald (by decide +kernel), nr_xald⟩) 
  (sr_fm (Or.inl ⟨sn_cV (idx := 156) (by decide +kernel) rfl sr_ok12 (by decide) ym_244 tw_1256 tw_1257 tw_1258 tw_670 tw_1259, nr_cV⟩) 
  (sr_fm (Or.inl ⟨sn_ic_eq (off := 301) (by decide +kernel) (by decide), nr_ic⟩) 
  (sr_fm (Or.inl ⟨sn_iconst (by decide +kernel) (sr_rgb rfl), nr_push⟩) 
  (sr_fm (Or.inr ⟨rfl, by decide +kernel⟩) 
  (sr_fm (Or.inl ⟨sn_aload_n (j := 1) (i := 1) (by decide +kernel) rfl, nr_al⟩) 
  (sr_fm (Or.inl ⟨sn_aload_n (j := 0) (i := 0) (by decide +kernel) rfl, nr_al⟩) 
  (sr_fm (Or.inl ⟨sn_iload (by decide +kernel), nr_il⟩) 
  (sr_fm (Or.inl ⟨sn_iconst (by decide +kernel) (sr_rgb rfl), nr_push⟩) 
  (sr_fm (Or.inl ⟨sn_iadd (by decide +kernel), nr_bi⟩) 
  (sr_fm (Or.inl ⟨sn_xald (by decide +kernel), nr_xald⟩) 
  (sr_fm (Or.inl ⟨sn_aload_n (j := 0) (i := 0) (by decide +kernel) rfl, nr_al⟩) 
  (sr_fm (Or.inl ⟨sn_iload (by decide +kernel), nr_il⟩) sr_fn))))))))))))))))))))))))))))))))))))))))))))))))))))))))))))
def mc_12 : List (Nat × mm_T) := [(1208, mm_push (.inl 2) 1209), (1209, mm_bi mm_add 1210), (1210, mm_xald 1211), (1211, mm_al 0 1212), (1212, mm_il 4 1214), (1214, mm_push (.inl 3) 1215), (1215, mm_bi mm_add 1216), (1216, mm_xald 1217), (1217, mm_al 0 1218), (1218, mm_il 4 1220), (1220, mm_push (.inl 4) 1221), (1221, mm_bi mm_add 1222), (1222, mm_xald 1223), (1223, mm_al 0 1224), (1224, mm_il 4 1226), (1226, mm_push (.inl 5) 1227), (1227, mm_bi mm_add 1228), (1228, mm_xald 1229), (1229, mm_cV 129 11 5 true 1232), (1232, mm_al 2 1233), (1233, mm_al 0 1234), (1234, mm_il 4 1236), (1236, mm_push (.inl 1) 1237), (1237, mm_bi mm_add 1238), (1238, mm_xald 1239), (1239, mm_al 0 1240), (1240, mm_il 4 1242), (1242, mm_push (.inl 2) 1243), (1243, mm_bi mm_add 1244), (1244, mm_xald 1245), (1245, mm_al 0 1246), (1246, mm_il 4 1248), (1248, mm_push (.inl 3) 1249), (1249, mm_bi mm_add 1250), (1250, mm_xald 1251), (1251, mm_al 0 1252), (1252, mm_il 4 1254), (1254, mm_push (.inl 4) 1255), (1255, mm_bi mm_add 1256), (1256, mm_xald 1257), (1257, mm_al 0 1258), (1258, mm_il 4 1260), (1260, mm_push (.inl 5) 1261), (1261, mm_bi mm_add 1262), (1262, mm_xald 1263), (1263, mm_cV 248 12 5 true 1266), (1266, mm_ic (fun x y => decide (x = y)) 1494 1269), (1269, mm_push (.inl 0) 1270), (1270, mm_rz 2), (1271, mm_al 1 1272), (1272, mm_al 0 1273), (1273, mm_il 4 1275), (1275, mm_push (.inl 1) 1276), (1276, mm_bi mm_add 1277), (1277, mm_xald 1278), (1278, mm_al 0 1279), (1279, mm_il 4 1281), (1281, mm_push (.inl 2) 1282), (1282, mm_bi mm_add 1283), (1283, mm_xald 1284)]
set_option maxRecDepth 100000 in
theorem mc_ok12 (mnm : String) : ∀ q ∈ mc_12, st_ok mnm q :=
  (sr_fm (Or.inl ⟨sn_iconst (by decide +kernel) (sr_rgb rfl), nr_push⟩) 
  (sr_fm (Or.inl ⟨sn_iadd (by decide +kernel), nr_bi⟩) 
  (sr_fm (Or.inl ⟨sn_xald (by decide +kernel), nr_xald⟩) 
  (sr_fm (Or.inl ⟨sn_aload_n (j := 0) (i := 0) (by decide +kernel) rfl, nr_al⟩) 
  (sr_fm (Or.inl ⟨sn_iload (by decide +kernel), nr_il⟩) 
  (sr_fm (Or.inl ⟨sn_iconst (by decide +kernel) (sr_rgb rfl), nr_push⟩) 
  (sr_fm (Or.inl ⟨sn_iadd (by decide +kernel), nr_bi⟩) 
  (sr_fm (Or.inl ⟨sn_xald (by decide +kernel), nr_xald⟩) 
  (sr_fm (Or.inl ⟨sn_aload_n (j := 0) (i := 0) (by decide +kernel) rfl, nr_al⟩) 
  (sr_fm (Or.inl ⟨sn_iload (by decide +kernel), nr_il⟩) 
  (sr_fm (Or.inl ⟨sn_iconst (by decide +kernel) (sr_rgb rfl), nr_push⟩) 
  (sr_fm (Or.inl ⟨sn_iadd (by decide +kernel), nr_bi⟩) 
  (sr_fm (Or.inl ⟨sn_xald (by decide +kernel), nr_xald⟩) 
  (sr_fm (Or.inl ⟨sn_aload_n (j := 0) (i := 0) (by decide +kernel) rfl, nr_al⟩) 
  (sr_fm (Or.inl ⟨sn_iload (by decide +kernel), nr_il⟩) 
  (sr_fm (Or.inl ⟨sn_iconst (by decide +kernel) (sr_rgb rfl), nr_push⟩) 
  (sr_fm (Or.inl ⟨sn_iadd (by decide +kernel), nr_bi⟩) 
  (sr_fm (Or.inl ⟨sn_xald (by decide +kernel), nr_xald⟩) 
  (sr_fm (Or.inl ⟨sn_cV (idx := 157) (by decide +kernel) rfl sr_ok11 (by decide) ym_129 tw_1260 tw_1261 tw_1262 tw_433 tw_1263, nr_cV⟩) 
  (sr_fm (Or.inl ⟨sn_aload_n (j := 2) (i := 2) (by decide +kernel) rfl, nr_al⟩) 
  (sr_fm (Or.inl ⟨sn_aload_n (j := 0) (i := 0) (by decide +kernel) rfl, nr_al⟩) 
  (sr_fm (Or.inl ⟨sn_iload (by decide +kernel), nr_il⟩) 
  (sr_fm (Or.inl ⟨sn_iconst (by decide +kernel) (sr_rgb rfl), nr_push⟩) 
  (sr_fm (Or.inl ⟨sn_iadd (by decide +kernel), nr_bi⟩) 
  (sr_fm (Or.inl ⟨sn_xald (by decide +kernel), nr_xald⟩) 
  (sr_fm (Or.inl ⟨sn_aload_n (j := 0) (i := 0) (by decide +kernel) rfl, nr_al⟩) 
  (sr_fm (Or.inl ⟨sn_iload (by decide +kernel), nr_il⟩) 
  (sr_fm (Or.inl ⟨sn_iconst (by decide +kernel) (sr_rgb rfl), nr_push⟩) 
  (sr_fm (Or.inl ⟨sn_iadd (by decide +kernel), nr_bi⟩) 
  (sr_fm (Or.inl ⟨sn_xald (by decide +kernel), nr_xald⟩) 
  (sr_fm (Or.inl ⟨sn_aload_n (j := 0) (i := 0) (by decide +kernel) rfl, nr_al⟩) 
  (sr_fm (Or.inl ⟨sn_iload (by decide +kernel), nr_il⟩) 
  (sr_fm (Or.inl ⟨sn_iconst (by decide +kernel) (sr_rgb rfl), nr_push⟩) 
  (sr_fm (Or.inl ⟨sn_iadd (by decide +kernel), nr_bi⟩) 
  (sr_fm (Or.inl ⟨sn_xald (by decide +kernel), nr_xald⟩) 
  (sr_fm (Or.inl ⟨sn_aload_n (j := 0) (i := 0) (by decide +kernel) rfl, nr_al⟩) 
  (sr_fm (Or.inl ⟨sn_iload (by decide +kernel), nr_il⟩) 
  (sr_fm (Or.inl ⟨sn_iconst (by decide +kernel) (sr_rgb rfl), nr_push⟩) 
  (sr_fm (Or.inl ⟨sn_iadd (by decide +kernel), nr_bi⟩) 
  (sr_fm (Or.inl ⟨sn_xald (by decide +kernel), nr_xald⟩) 
  (sr_fm (Or.inl ⟨sn_aload_n (j := 0) (i := 0) (by decide +kernel) rfl, nr_al⟩) 
  (sr_fm (Or.inl ⟨sn_iload (by decide +kernel), nr_il⟩) 
  (sr_fm (Or.inl ⟨sn_iconst (by decide +kernel) (sr_rgb rfl), nr_push⟩) 
  (sr_fm (Or.inl ⟨sn_iadd (by decide +kernel), nr_bi⟩) 
  (sr_fm (Or.inl ⟨sn_xald (by decide +kernel), nr_xald⟩) 
  (sr_fm (Or.inl ⟨sn_cV (idx := 160) (by decide +kernel) rfl sr_ok12 (by decide) ym_248 tw_1264 tw_1265 tw_1266 tw_670 tw_1267, nr_cV⟩) 
  (sr_fm (Or.inl ⟨sn_ic_eq (off := 228) (by decide +kernel) (by decide), nr_ic⟩) 
  (sr_fm (Or.inl ⟨sn_iconst (by decide +kernel) (sr_rgb rfl), nr_push⟩) 
  (sr_fm (Or.inr ⟨rfl, by decide +kernel⟩) 
  (sr_fm (Or.inl ⟨sn_aload_n (j := 1) (i := 1) (by decide +kernel) rfl, nr_al⟩) 
  (sr_fm (Or.inl ⟨sn_aload_n (j := 0) (i := 0) (by decide +kernel) rfl, nr_al⟩) 
  (sr_fm (Or.inl ⟨sn_iload (by decide +kernel), nr_il⟩) 
  (sr_fm (Or.inl ⟨sn_iconst (by decide +kernel) (sr_rgb rfl), nr_push⟩) 
  (sr_fm (Or.inl ⟨sn_iadd (by decide +kernel), nr_bi⟩) 
  (sr_fm (Or.inl ⟨sn_xald (by decide +kernel), nr_xald⟩) 
  (sr_fm (Or.inl ⟨sn_aload_n (j := 0) (i := 0) (by decide +kernel) rfl, nr_al⟩) 
  (sr_fm (Or.inl ⟨sn_iload (by decide +kernel), nr_il⟩) 
  (sr_fm (Or.inl ⟨sn_iconst (by decide +kernel) (sr_rgb rfl), nr_push⟩) 
  (sr_fm (Or.inl ⟨sn_iadd (by decide +kernel), nr_bi⟩) 
  (sr_fm (Or.inl ⟨sn_xald (by decide +kernel), nr_xald⟩) sr_fn))))))))))))))))))))))))))))))))))))))))))))))))))))))))))))
def mc_13 : List (Nat × mm_T) := [(1284, mm_al 0 1285), (1285, mm_il 4 1287), (1287, mm_push (.inl 3) 1288), (1288, mm_bi mm_add 1289), (1289, mm_xald 1290), (1290, mm_cV 133 11 3 true 1293), (1293, mm_al 2 1294), (1294, mm_al 0 1295), (1295, mm_il 4 1297), (1297, mm_push (.inl 1) 1298), (1298, mm_bi mm_add 1299), (1299, mm_xald 1300), (1300, mm_al 0 1301), (1301, mm_il 4 1303), (1303, mm_push (.inl 2) 1304), (1304, mm_bi mm_add 1305), (1305, mm_xald 1306), (1306, mm_al 0 1307), (1307, mm_il 4 1309), (1309, mm_push (.inl 3) 1310), (1310, mm_bi mm_add 1311), (1311, mm_xald 1312), (1312, mm_cV 250 12 3 true 1315), (1315, mm_ic (fun x y => decide (x = y)) 1494 1318), (1318, mm_push (.inl 0) 1319), (1319, mm_rz 2), (1320, mm_al 1 1321), (1321, mm_al 0 1322), (1322, mm_il 4 1324), (1324, mm_push (.inl 1) 1325), (1325, mm_bi mm_add 1326), (1326, mm_xald 1327), (1327, mm_al 0 1328), (1328, mm_il 4 1330), (1330, mm_push (.inl 2) 1331), (1331, mm_bi mm_add 1332), (1332, mm_xald 1333), (1333, mm_al 0 1334), (1334, mm_il 4 1336), (1336, mm_push (.inl 3) 1337), (1337, mm_bi mm_add 1338), (1338, mm_xald 1339), (1339, mm_al 0 1340), (1340, mm_il 4 1342), (1342, mm_push (.inl 4) 1343), (1343, mm_bi mm_add 1344), (1344, mm_xald 1345), (1345, mm_cV 135 11 4 true 1348), (1348, mm_al 2 1349), (1349, mm_al 0 1350), (1350, mm_il 4 1352), (1352, mm_push (.inl 1) 1353), (1353, mm_bi mm_add 1354), (1354, mm_xald 1355), (1355, mm_al 0 1356), (1356, mm_il 4 1358), (1358, mm_push (.inl 2) 1359), (1359, mm_bi mm_add 1360), (1360, mm_xald 1361), (1361, mm_al 0 1362)]
set_option maxRecDepth 100000 in
theorem mc_ok13 (mnm : String) : ∀ q ∈ mc_13, st_ok mnm q :=
  (sr_fm (Or.inl ⟨sn_aload_n (j := 0) (i := 0) (by decide +kernel) rfl, nr_al⟩) 
  (sr_fm (Or.inl ⟨sn_iload (by decide +kernel), nr_il⟩) 
  (sr_fm (Or.inl ⟨sn_iconst (by decide +kernel) (sr_rgb rfl), nr_push⟩) 
  (sr_fm (Or.inl ⟨sn_iadd (by decide +kernel), nr_bi⟩) 
  (sr_fm (Or.inl ⟨sn_xald (by decide +kernel), nr_xald⟩) 
  (sr_fm (Or.inl ⟨sn_cV (idx := 161) (by decide +kernel) rfl sr_ok11 (by decide) ym_133 tw_1268 tw_1269 tw_1270 tw_433 tw_1271, nr_cV⟩) 
  (sr_fm (Or.inl ⟨sn_aload_n (j := 2) (i := 2) (by decide +kernel) rfl, nr_al⟩) 
  (sr_fm (Or.inl ⟨sn_aload_n (j := 0) (i := 0) (by decide +kernel) rfl, nr_al⟩) 
  (sr_fm (Or.inl ⟨sn_iload (by decide +kernel), nr_il⟩) 
  (sr_fm (Or.inl ⟨sn_iconst (by decide +kernel) (sr_rgb rfl), nr_push⟩) 
  (sr_fm (Or.inl ⟨sn_iadd (by decide +kernel), nr_bi⟩) 
  (sr_fm (Or.inl ⟨sn_xald (by decide +kernel), nr_xald⟩) 
  (sr_fm (Or.inl ⟨sn_aload_n (j := 0) (i := 0) (by decide +kernel) rfl, nr_al⟩) 
  (sr_fm (Or.inl ⟨sn_iload (by decide +kernel), nr_il⟩) 
  (sr_fm (Or.inl ⟨sn_iconst (by decide +kernel) (sr_rgb rfl), nr_push⟩) 
  (sr_fm (Or.inl ⟨sn_iadd (by decide +kernel), nr_bi⟩) 
  (sr_fm (Or.inl ⟨sn_xald (by decide +kernel), nr_xald⟩) 
  (sr_fm (Or.inl ⟨sn_aload_n (j := 0) (i := 0) (by decide +kernel) rfl, nr_al⟩) 
  (sr_fm (Or.inl ⟨sn_iload (by decide +kernel), nr_il⟩) 
  (sr_fm (Or.inl ⟨sn_iconst (by decide +kernel) (sr_rgb rfl), nr_push⟩) 
  (sr_fm (Or.inl ⟨sn_iadd (by decide +kernel), nr_bi⟩) 
  (sr_fm (Or.inl ⟨sn_xald (by decide +kernel), nr_xald⟩) 
  (sr_fm (Or.inl ⟨sn_cV (idx := 164) (by decide +kernel) rfl sr_ok12 (by decide) ym_250 tw_1272 tw_1273 tw_1274 tw_670 tw_1275, nr_cV⟩) 
  (sr_fm (Or.inl ⟨sn_ic_eq (off := 179) (by decide +kernel) (by decide), nr_ic⟩) 
  (sr_fm (Or.inl ⟨sn_iconst (by decide +kernel) (sr_rgb rfl), nr_push⟩) 
  (sr_fm (Or.inr ⟨rfl, by decide +kernel⟩) 
  (sr_fm (Or.inl ⟨sn_aload_n (j := 1) (i := 1) (by decide +kernel) rfl, nr_al⟩) 
  (sr_fm (Or.inl ⟨sn_aload_n (j := 0) (i := 0) (by decide +kernel) rfl, nr_al⟩) 
  (sr_fm (Or.inl ⟨sn_iload (by decide +kernel), nr_il⟩) 
  (sr_fm (Or.inl ⟨sn_iconst (by decide +kernel) (sr_rgb rfl), nr_push⟩) 
  (sr_fm (Or.inl ⟨sn_iadd (by decide +kernel), nr_bi⟩) 
  (sr_fm (Or.inl ⟨sn_xald (by decide +kernel), nr_xald⟩) 
  (sr_fm (Or.inl ⟨sn_aload_n (j := 0) (i := 0) (by decide +kernel) rfl, nr_al⟩) 
  (sr_fm (Or.inl ⟨sn_iload (by decide +kernel), nr_il⟩) 
  (sr_fm (Or.inl ⟨sn_iconst (by decide +kernel) (sr_rgb rfl), nr_push⟩) 
  (sr_fm (Or.inl ⟨sn_iadd (by decide +kernel), nr_bi⟩) 
  (sr_fm (Or.inl ⟨sn_xald (by decide +kernel), nr_xald⟩) 
  (sr_fm (Or.inl ⟨sn_aload_n (j := 0) (i := 0) (by decide +kernel) rfl, nr_al⟩) 
  (sr_fm (Or.inl ⟨sn_iload (by decide +kernel), nr_il⟩) 
  (sr_fm (Or.inl ⟨sn_iconst (by decide +kernel) (sr_rgb rfl), nr_push⟩) 
  (sr_fm (Or.inl ⟨sn_iadd (by decide +kernel), nr_bi⟩) 
  (sr_fm (Or.inl ⟨sn_xald (by decide +kernel), nr_xald⟩) 
  (sr_fm (Or.inl ⟨sn_aload_n (j := 0) (i := 0) (by decide +kernel) rfl, nr_al⟩) 
  (sr_fm (Or.inl ⟨sn_iload (by decide +kernel), nr_il⟩) 
  (sr_fm (Or.inl ⟨sn_iconst (by decide +kernel) (sr_rgb rfl), nr_push⟩) 
  (sr_fm (Or.inl ⟨sn_iadd (by decide +kernel), nr_bi⟩) 
  (sr_fm (Or.inl ⟨sn_xald (by decide +kernel), nr_xald⟩) 
  (sr_fm (Or.inl ⟨sn_cV (idx := 165) (by decide +kernel) rfl sr_ok11 (by decide) ym_135 tw_1276 tw_1277 tw_1278 tw_433 tw_1279, nr_cV⟩) 
  (sr_fm (Or.inl ⟨sn_aload_n (j := 2) (i := 2) (by decide +kernel) rfl, nr_al⟩) 
  (sr_fm (Or.inl ⟨sn_aload_n (j := 0) (i := 0) (by decide +kernel) rfl, nr_al⟩) 
  (sr_fm (Or.inl ⟨sn_iload (by decide +kernel), nr_il⟩) 
  (sr_fm (Or.inl ⟨sn_iconst (by decide +kernel) (sr_rgb rfl), nr_push⟩) 
  (sr_fm (Or.inl ⟨sn_iadd (by decide +kernel), nr_bi⟩) 
  (sr_fm (Or.inl ⟨sn_xald (by decide +kernel), nr_xald⟩) 
  (sr_fm (Or.inl ⟨sn_aload_n (j := 0) (i := 0) (by decide +kernel) rfl, nr_al⟩) 
  (sr_fm (Or.inl ⟨sn_iload (by decide +kernel), nr_il⟩) 
  (sr_fm (Or.inl ⟨sn_iconst (by decide +kernel) (sr_rgb rfl), nr_push⟩) 
  (sr_fm (Or.inl ⟨sn_iadd (by decide +kernel), nr_bi⟩) 
  (sr_fm (Or.inl ⟨sn_xald (by decide +kernel), nr_xald⟩) 
  (sr_fm (Or.inl ⟨sn_aload_n (j := 0) (i := 0) (by decide +kernel) rfl, nr_al⟩) sr_fn))))))))))))))))))))))))))))))))))))))))))))))))))))))))))))
def mc_14 : List (Nat × mm_T) := [(1362, mm_il 4 1364), (1364, mm_push (.inl 3) 1365), (1365, mm_bi mm_add 1366), (1366, mm_xald 1367), (1367, mm_al 0 1368), (1368, mm_il 4 1370), (1370, mm_push (.inl 4) 1371), (1371, mm_bi mm_add 1372), (1372, mm_xald 1373), (1373, mm_cV 252 12 4 true 1376), (1376, mm_ic (fun x y => decide (x = y)) 1494 1379), (1379, mm_push (.inl 0) 1380), (1380, mm_rz 2), (1381, mm_al 1 1382), (1382, mm_al 0 1383), (1383, mm_il 4 1385), (1385, mm_push (.inl 1) 1386), (1386, mm_bi mm_add 1387), (1387, mm_xald 1388), (1388, mm_al 0 1389), (1389, mm_il 4 1391), (1391, mm_push (.inl 2) 1392), (1392, mm_bi mm_add 1393), (1393, mm_xald 1394), (1394, mm_cV 137 11 2 true 1397), (1397, mm_al 2 1398), (1398, mm_al 0 1399), (1399, mm_il 4 1401), (1401, mm_push (.inl 1) 1402), (1402, mm_bi mm_add 1403), (1403, mm_xald 1404), (1404, mm_al 0 1405), (1405, mm_il 4 1407), (1407, mm_push (.inl 2) 1408), (1408, mm_bi mm_add 1409), (1409, mm_xald 1410), (1410, mm_cV 253 12 2 true 1413), (1413, mm_ic (fun x y => decide (x = y)) 1494 1416), (1416, mm_push (.inl 0) 1417), (1417, mm_rz 2), (1418, mm_al 1 1419), (1419, mm_al 0 1420), (1420, mm_il 4 1422), (1422, mm_push (.inl 1) 1423), (1423, mm_bi mm_add 1424), (1424, mm_xald 1425), (1425, mm_cV 138 11 1 true 1428), (1428, mm_al 2 1429), (1429, mm_al 0 1430), (1430, mm_il 4 1432), (1432, mm_push (.inl 1) 1433), (1433, mm_bi mm_add 1434), (1434, mm_xald 1435), (1435, mm_cV 259 12 1 true 1438), (1438, mm_ic (fun x y => decide (x = y)) 1494 1441), (1441, mm_push (.inl 0) 1442), (1442, mm_rz 2), (1443, mm_al 1 1444), (1444, mm_cV 142 11 0 true 1447), (1447, mm_al 2 1448)]
set_option maxRecDepth 100000 in
theorem mc_ok14 (mnm : String) : ∀ q ∈ mc_14, st_ok mnm q :=
  (sr_fm (Or.inl ⟨sn_iload (by decide +kernel), nr_il⟩) 
  (sr_fm (Or.inl ⟨sn_iconst (by decide +kernel) (sr_rgb rfl), nr_push⟩) 
  (sr_fm (Or.inl ⟨sn_iadd (by decide +kernel), nr_bi⟩) 
  (sr_fm (Or.inl ⟨sn_xald (by decide +kernel), nr_xald⟩) 
  (sr_fm (Or.inl ⟨sn_aload_n (j := 0) (i := 0) (by decide +kernel) rfl, nr_al⟩) 
  (sr_fm (Or.inl ⟨sn_iload (by decide +kernel), nr_il⟩) 
  (sr_fm (Or.inl ⟨sn_iconst (by decide +kernel) (sr_rgb rfl), nr_push⟩) 
  (sr_fm (Or.inl ⟨sn_iadd (by decide +kernel), nr_bi⟩) 
  (sr_fm (Or.inl ⟨sn_xald (by decide +kernel), nr_xald⟩) 
  (sr_fm (Or.inl ⟨sn_cV (idx := 169) (by decide +kernel) rfl sr_ok12 (by decide) ym_252 tw_1280 tw_1281 tw_1282 tw_670 tw_1283, nr_cV⟩) 
  (sr_fm (Or.inl ⟨sn_ic_eq (off := 118) (by decide +kernel) (by decide), nr_ic⟩) 
  (sr_fm (Or.inl ⟨sn_iconst (by decide +kernel) (sr_rgb rfl), nr_push⟩) 
  (sr_fm (Or.inr ⟨rfl, by decide +kernel⟩) 
  (sr_fm (Or.inl ⟨sn_aload_n (j := 1) (i := 1) (by decide +kernel) rfl, nr_al⟩) 
  (sr_fm (Or.inl ⟨sn_aload_n (j := 0) (i := 0) (by decide +kernel) rfl, nr_al⟩) 
  (sr_fm (Or.inl ⟨sn_iload (by decide +kernel), nr_il⟩) 
  (sr_fm (Or.inl ⟨sn_iconst (by decide +kernel) (sr_rgb rfl), nr_push⟩) 
  (sr_fm (Or.inl ⟨sn_iadd (by decide +kernel), nr_bi⟩) 
  (sr_fm (Or.inl ⟨sn_xald (by decide +kernel), nr_xald⟩) 
  (sr_fm (Or.inl ⟨sn_aload_n (j := 0) (i := 0) (by decide +kernel) rfl, nr_al⟩) 
  (sr_fm (Or.inl ⟨sn_iload (by decide +kernel), nr_il⟩) 
  (sr_fm (Or.inl ⟨sn_iconst (by decide +kernel) (sr_rgb rfl), nr_push⟩) 
  (sr_fm (Or.inl ⟨sn_iadd (by decide +kernel), nr_bi⟩) 
  (sr_fm (Or.inl ⟨sn_xald (by decide +kernel), nr_xald⟩) 
  (sr_fm (Or.inl ⟨sn_cV (idx := 170) (by decide +kernel) rfl sr_ok11 (by decide) ym_137 tw_1284 tw_1285 tw_1286 tw_433 tw_1287, nr_cV⟩) 
  (sr_fm (Or.inl ⟨sn_aload_n (j := 2) (i := 2) (by decide +kernel) rfl, nr_al⟩) 
  (sr_fm (Or.inl ⟨sn_aload_n (j := 0) (i := 0) (by decide +kernel) rfl, nr_al⟩) 
  (sr_fm (Or.inl ⟨sn_iload (by decide +kernel), nr_il⟩) 
  (sr_fm (Or.inl ⟨sn_iconst (by decide +kernel) (sr_rgb rfl), nr_push⟩) 
  (sr_fm (Or.inl ⟨sn_iadd (by decide +kernel), nr_bi⟩) 
  (sr_fm (Or.inl ⟨sn_xald (by decide +kernel), nr_xald⟩) 
  (sr_fm (Or.inl ⟨sn_aload_n (j := 0) (i := 0) (by decide +kernel) rfl, nr_al⟩) 
  (sr_fm (Or.inl ⟨sn_iload (by decide +kernel), nr_il⟩) 
  (sr_fm (Or.inl ⟨sn_iconst (by decide +kernel) (sr_rgb rfl), nr_push⟩) 
  (sr_fm (Or.inl ⟨sn_iadd (by decide +kernel), nr_bi⟩) 
  (sr_fm (Or.inl ⟨sn_xald (by decide +kernel), nr_xald⟩) 
  (sr_fm (Or.inl ⟨sn_cV (idx := 173) (by decide +kernel) rfl sr_ok12 (by decide) ym_253 tw_1288 tw_1289 tw_1290 tw_670 tw_1291, nr_cV⟩) 
  (sr_fm (Or.inl ⟨sn_ic_eq (off := 81) (by decide +kernel) (by decide), nr_ic⟩) 
  (sr_fm (Or.inl ⟨sn_iconst (by decide +kernel) (sr_rgb rfl), nr_push⟩) 
  (sr_fm (Or.inr ⟨rfl, by decide +kernel⟩) 
  (sr_fm (Or.inl ⟨sn_aload_n (j := 1) (i := 1) (by decide +kernel) rfl, nr_al⟩) 
  (sr_fm (Or.inl ⟨sn_aload_n (j := 0) (i := 0) (by decide +kernel) rfl, nr_al⟩) 
  (sr_fm (Or.inl ⟨sn_iload (by decide +kernel), nr_il⟩) 
  (sr_fm (Or.inl ⟨sn_iconst (by decide +kernel) (sr_rgb rfl), nr_push⟩) 
  (sr_fm (Or.inl ⟨sn_iadd (by decide +kernel), nr_bi⟩) 
  (sr_fm (Or.inl ⟨sn_xald (by decide +kernel), nr_xald⟩) 
  (sr_fm (Or.inl ⟨sn_cV (idx := 174) (by decide +kernel) rfl sr_ok11 (by decide) ym_138 tw_1292 tw_1293 tw_1294 tw_433 tw_1295, nr_cV⟩) 
  (sr_fm (Or.inl ⟨sn_aload_n (j := 2) (i := 2) (by decide +kernel) rfl, nr_al⟩) 
  (sr_fm (Or.inl ⟨sn_aload_n (j := 0) (i := 0) (by decide +kernel) rfl, nr_al⟩) 
  (sr_fm (Or.inl ⟨sn_iload (by decide +kernel), nr_il⟩) 
  (sr_fm (Or.inl ⟨sn_iconst (by decide +kernel) (sr_rgb rfl), nr_push⟩) 
  (sr_fm (Or.inl ⟨sn_iadd (by decide +kernel), nr_bi⟩) 
  (sr_fm (Or.inl ⟨sn_xald (by decide +kernel), nr_xald⟩) 
  (sr_fm (Or.inl ⟨sn_cV (idx := 177) (by decide +kernel) rfl sr_ok12 (by decide) ym_259 tw_1296 tw_1297 tw_1298 tw_670 tw_1299, nr_cV⟩) 
  (sr_fm (Or.inl ⟨sn_ic_eq (off := 56) (by decide +kernel) (by decide), nr_ic⟩) 
  (sr_fm (Or.inl ⟨sn_iconst (by decide +kernel) (sr_rgb rfl), nr_push⟩) 
  (sr_fm (Or.inr ⟨rfl, by decide +kernel⟩) 
  (sr_fm (Or.inl ⟨sn_aload_n (j := 1) (i := 1) (by decide +kernel) rfl, nr_al⟩) 
  (sr_fm (Or.inl ⟨sn_cV (idx := 178) (by decide +kernel) rfl sr_ok11 (by decide) ym_142 tw_1300 tw_1301 tw_1302 tw_433 tw_1303, nr_cV⟩) 
  (sr_fm (Or.inl ⟨sn_aload_n (j := 2) (i := 2) (by decide +kernel) rfl, nr_al⟩) sr_fn))))))))))))))))))))))))))))))))))))))))))))))))))))))))))))
def mc_15 : List (Nat × mm_T) := [(1448, mm_cV 260 12 0 true 1451), (1451, mm_ic (fun x y => decide (x = y)) 1494 1454), (1454, mm_push (.inl 0) 1455), (1455, mm_rz 2), (1456, mm_al 1 1457), (1457, mm_cV 143 11 0 true 1460), (1460, mm_al 2 1461), (1461, mm_cV 261 12 0 true 1464), (1464, mm_ic (fun x y => decide (x = y)) 1494 1467), (1467, mm_push (.inl 0) 1468), (1468, mm_rz 2), (1469, mm_al 1 1470), (1470, mm_al 0 1471), (1471, mm_il 4 1473), (1473, mm_push (.inl 1) 1474), (1474, mm_bi mm_add 1475), (1475, mm_xald 1476), (1476, mm_cV 144 11 1 true 1479), (1479, mm_al 2 1480), (1480, mm_al 0 1481), (1481, mm_il 4 1483), (1483, mm_push (.inl 1) 1484), (1484, mm_bi mm_add 1485), (1485, mm_xald 1486), (1486, mm_cV 262 12 1 true 1489), (1489, mm_ic (fun x y => decide (x = y)) 1494 1492), (1492, mm_push (.inl 0) 1493), (1493, mm_rz 2), (1494, mm_iinc 4 6 1497), (1497, mm_go 23), (1500, mm_push (.inl 1) 1501), (1501, mm_rz 2)]
set_option maxRecDepth 100000 in
theorem mc_ok15 (mnm : String) : ∀ q ∈ mc_15, st_ok mnm q :=
  (sr_fm (Or.inl ⟨sn_cV (idx := 181) (by decide +kernel) rfl sr_ok12 (by decide) ym_260 tw_1304 tw_1305 tw_1306 tw_670 tw_1307, nr_cV⟩) 
  (sr_fm (Or.inl ⟨sn_ic_eq (off := 43) (by decide +kernel) (by decide), nr_ic⟩) 
  (sr_fm (Or.inl ⟨sn_iconst (by decide +kernel) (sr_rgb rfl), nr_push⟩) 
  (sr_fm (Or.inr ⟨rfl, by decide +kernel⟩) 
  (sr_fm (Or.inl ⟨sn_aload_n (j := 1) (i := 1) (by decide +kernel) rfl, nr_al⟩) 
  (sr_fm (Or.inl ⟨sn_cV (idx := 182) (by decide +kernel) rfl sr_ok11 (by decide) ym_143 tw_1308 tw_1309 tw_1310 tw_433 tw_1311, nr_cV⟩) 
  (sr_fm (Or.inl ⟨sn_aload_n (j := 2) (i := 2) (by decide +kernel) rfl, nr_al⟩) 
  (sr_fm (Or.inl ⟨sn_cV (idx := 185) (by decide +kernel) rfl sr_ok12 (by decide) ym_261 tw_1312 tw_1313 tw_1314 tw_670 tw_1315, nr_cV⟩) 
  (sr_fm (Or.inl ⟨sn_ic_eq (off := 30) (by decide +kernel) (by decide), nr_ic⟩) 
  (sr_fm (Or.inl ⟨sn_iconst (by decide +kernel) (sr_rgb rfl), nr_push⟩) 
  (sr_fm (Or.inr ⟨rfl, by decide +kernel⟩) 
  (sr_fm (Or.inl ⟨sn_aload_n (j := 1) (i := 1) (by decide +kernel) rfl, nr_al⟩) 
  (sr_fm (Or.inl ⟨sn_aload_n (j := 0) (i := 0) (by decide +kernel) rfl, nr_al⟩) 
  (sr_fm (Or.inl ⟨sn_iload (by decide +kernel), nr_il⟩) 
  (sr_fm (Or.inl ⟨sn_iconst (by decide +kernel) (sr_rgb rfl), nr_push⟩) 
  (sr_fm (Or.inl ⟨sn_iadd (by decide +kernel), nr_bi⟩) 
  (sr_fm (Or.inl ⟨sn_xald (by decide +kernel), nr_xald⟩) 
  (sr_fm (Or.inl ⟨sn_cV (idx := 186) (by decide +kernel) rfl sr_ok11 (by decide) ym_144 tw_1316 tw_1317 tw_1318 tw_433 tw_1319, nr_cV⟩) 
  (sr_fm (Or.inl ⟨sn_aload_n (j := 2) (i := 2) (by decide +kernel) rfl, nr_al⟩) 
  (sr_fm (Or.inl ⟨sn_aload_n (j := 0) (i := 0) (by decide +kernel) rfl, nr_al⟩) 
  (sr_fm (Or.inl ⟨sn_iload (by decide +kernel), nr_il⟩) 
  (sr_fm (Or.inl ⟨sn_iconst (by decide +kernel) (sr_rgb rfl), nr_push⟩) 
  (sr_fm (Or.inl ⟨sn_iadd (by decide +kernel), nr_bi⟩) 
  (sr_fm (Or.inl ⟨sn_xald (by decide +kernel), nr_xald⟩) 
  (sr_fm (Or.inl ⟨sn_cV (idx := 189) (by decide +kernel) rfl sr_ok12 (by decide) ym_262 tw_1320 tw_1321 tw_1322 tw_670 tw_1323, nr_cV⟩) 
  (sr_fm (Or.inl ⟨sn_ic_eq (off := 5) (by decide +kernel) (by decide), nr_ic⟩) 
  (sr_fm (Or.inl ⟨sn_iconst (by decide +kernel) (sr_rgb rfl), nr_push⟩) 
  (sr_fm (Or.inr ⟨rfl, by decide +kernel⟩) 
  (sr_fm (Or.inl ⟨sn_iinc (by decide +kernel) (by decide) (sr_rgb rfl), nr_iinc⟩) 
  (sr_fm (Or.inl ⟨sn_goto (off := (-1474)) (by decide +kernel) (by decide), nr_go⟩) 
  (sr_fm (Or.inl ⟨sn_iconst (by decide +kernel) (sr_rgb rfl), nr_push⟩) 
  (sr_fm (Or.inr ⟨rfl, by decide +kernel⟩) sr_fn))))))))))))))))))))))))))))))))
set_option maxRecDepth 100000 in
theorem mc_eq : mt_282 = mc_0 ++ (mc_1 ++ (mc_2 ++ (mc_3 ++ (mc_4 ++ (mc_5 ++ (mc_6 ++ (mc_7 ++ (mc_8 ++ (mc_9 ++ (mc_10 ++ (mc_11 ++ (mc_12 ++ (mc_13 ++ (mc_14 ++ (mc_15))))))))))))))) := rfl
theorem st_law (mnm : String) : ∀ q ∈ mt_282, st_ok mnm q := by
  intro q hq
  rw [mc_eq] at hq
  rcases List.mem_append.mp hq with h | hq
  · exact mc_ok0 mnm q h
  rcases List.mem_append.mp hq with h | hq
  · exact mc_ok1 mnm q h
  rcases List.mem_append.mp hq with h | hq
  · exact mc_ok2 mnm q h
  rcases List.mem_append.mp hq with h | hq
  · exact mc_ok3 mnm q h
  rcases List.mem_append.mp hq with h | hq
  · exact mc_ok4 mnm q h
  rcases List.mem_append.mp hq with h | hq
  · exact mc_ok5 mnm q h
  rcases List.mem_append.mp hq with h | hq
  · exact mc_ok6 mnm q h
  rcases List.mem_append.mp hq with h | hq
  · exact mc_ok7 mnm q h
  rcases List.mem_append.mp hq with h | hq
  · exact mc_ok8 mnm q h
  rcases List.mem_append.mp hq with h | hq
  · exact mc_ok9 mnm q h
  rcases List.mem_append.mp hq with h | hq
  · exact mc_ok10 mnm q h
  rcases List.mem_append.mp hq with h | hq
  · exact mc_ok11 mnm q h
  rcases List.mem_append.mp hq with h | hq
  · exact mc_ok12 mnm q h
  rcases List.mem_append.mp hq with h | hq
  · exact mc_ok13 mnm q h
  rcases List.mem_append.mp hq with h | hq
  · exact mc_ok14 mnm q h
  exact mc_ok15 mnm q hq
/-- a run of the machine from the law's entry to its end with 1 is one of the law -/
theorem st_run {p : Program} {e : Env} {s : State} {m : MethodId} {below : List Frame} {meth : Method} {c : Code} (l : Launch) (hflags : l.flags = flags0) {b L : Nat} {xs : Nat → Int32} (hL : L ≤ 3072) (C0 : lw_At p s m meth c b L xs)
    {d n' : Nat} {I' L' : mm_I} {P' : mm_P} (hd : d ≤ 1000) (hn1 : n' ≤ 601024) (hn2 : sr_sl n' ≤ 7293034)
    (hrun : mm_E d 282 0 [.inr (.inr (some 1000006)), mm_junk, mm_junk, mm_junk, mm_junk, mm_junk, mm_junk] [] [] 0 (st_I L xs) (fun _ _ => 0) (fun _ _ => none) = some (some (.inl 1), n', I', L', P')) :
    W p l e room_1 s m #[Value.ref b] below meth c s.heap [] 0 0 (lw_Z below #[Value.ref b] s) (entryFrame m ([Value.ref b] : List Value).toArray 7) := by
  obtain ⟨hx, hb, hr, hml, hown, hts, hX, hbl, hlocks, hgv⟩ := id C0
  have hl : l.stackTraces = false := by unfold Launch.stackTraces; rw [hflags]; decide +kernel
  have hts' : ∀ w ∈ sr_T, w.before #[Value.ref b] s = true := fun w hw => hts w (List.mem_filter.mp hw).1
  obtain ⟨D, tA, hK⟩ := st_K hts
  obtain ⟨ad, hZ, had⟩ := st_Z hL hts hX hbl hgv D tA
  have hC : sr_C (D, tA, s.heap.size, ad, st_I L xs) d code 7 RL p room_1 s m #[Value.ref b] c := ⟨hx, hb, hml, hown, hts', hK _ _ _, hZ, Nat.le_refl _, by show d + 9 ≤ 2048; omega, by show 60 * (d + 9) ≤ 84000; omega⟩
  obtain ⟨k, hk⟩ := mm_ev_some (show mm_ev (mm_rn d) (mm_look mt_282) (0, [.inr (.inr (some 1000006)), mm_junk, mm_junk, mm_junk, mm_junk, mm_junk, mm_junk], [], [], 0, st_I L xs, (fun _ _ => 0), (fun _ _ => none)) = _ from hrun)
  rw [lg_entry_eq]
  have hL0 := sr_entL (E := (D, tA, s.heap.size, ad, st_I L xs)) (args := [.inr (.inr (some 1000006))]) (mx := 7) (h := 0) (fun v hv => by cases List.mem_singleton.mp hv; trivial) rfl
  have e9 : (([.inr (.inr (some 1000006))] : List mm_V).map (sr_v (D, tA, s.heap.size, ad, st_I L xs))) = [Value.ref b] := by
    show [Value.ref (ad 6)] = _
    rw [had]
  rw [e9] at hL0
  refine sr_main (tab := sr_tb) (l0 := mt_282) (own := RL) (mnm := meth.name) (mx := 7) (cc := code) (E := (D, tA, s.heap.size, ad, st_I L xs)) (d := d) (n0 := 0) (a := (some (.inl 1), n', I', L', P')) (Q := lw_Z below #[Value.ref b] s) ?_ hC rfl (sr_sound hl d) (by show n' ≤ 0 + 601024; omega) (by show sr_sl n' ≤ sr_sl 0 + 7293034; omega) (by show n' < 1000000; omega) k 0 _ [] [] 0 _ _ _ s.heap [] 0 0 _ hk ⟨⟨fun k q h => ?_, by omega, fun a j _ => rfl, st_rg hL⟩, va_S.rf, hL0, fun v hv => nomatch hv, rfl, rfl, fun _ => rfl⟩
  · intro q hq
    rcases st_law meth.name q hq with h1 | ⟨h1, hdg⟩
    · exact Or.inl h1
    · refine Or.inr ⟨by rw [h1]; exact ns_rz, fun H locs cells slots ls lv ll st n I L P hR he => ?_⟩
      rw [h1] at he
      unfold mm_rz at he
      split at he
      case h_2 => cases he
      rename_i z
      split at he
      case isFalse => cases he
      simp only [Option.some.injEq, Sum.inr.injEq, Prod.mk.injEq, Sum.inl.injEq] at he
      obtain ⟨rfl, rfl, rfl, rfl, rfl⟩ := he
      have g1 : cells + 0 = n := hR.2.2.2.2.1
      have g2 : slots + sr_sl 0 = sr_sl n := hR.2.2.2.2.2.1
      have g3 : sr_sl 0 = 0 := rfl
      exact va_forget (fun q hq => hR.2.1.2.2 q hq) (W.widen (k := 601024) (n := 7293034) (by omega) (by omega) (lw_ret hx hb hr hlocks hdg))
  · rw [show sr_w (D, tA, s.heap.size, ad, st_I L xs) 0 (st_I L xs) (fun _ _ => 0) (fun _ _ => none) = [] from rfl] at h
    simp at h
