/-! spot, which returns or throws; and the law's call of it under its handler -/
theorem tw_1352 : Cond.fieldLink RX11 200 RX5 (TX5 1).2.1 (TX5 1).2.2.1 ∈ sr_T := sr_in1 267 (by decide +kernel) (by decide +kernel)
theorem sq_w1 : Cond.methodLink RL 7 yX11_spot ∈ sr_T := sr_in1 1129 (by decide +kernel) (by decide +kernel)
theorem sq_w2 : Cond.instanceMethod yX11_spot ∈ sr_T := sr_in1 1130 (by decide +kernel) (by decide +kernel)
theorem sq_w5 : Cond.code yX11_spot cX11_spot 3 (some .int) ∈ sr_T := sr_in1 1132 (by decide +kernel) (by decide +kernel)
theorem sq_w3 : Cond.selects RX11 yX11_spot yX11_spot ∈ sr_T := sr_in1 1131 (by decide +kernel) (by decide +kernel)
theorem sq_w6 : Cond.codeWith yL_spot cL_spot 5 (some .int) [(0, 10, 13, 13)] ∈ sr_T := sr_in1 1127 (by decide +kernel) (by decide +kernel)
theorem sq_w7 : Cond.classLink RL 13 sw_X ∈ sr_T := sr_in1 1128 (by decide +kernel) (by decide +kernel)
theorem sq_w4 : Cond.initialized RX11 ∈ sr_T := tw_448
theorem sq_wn : Cond.castable sw_X sw_X ∈ sr_N := sr_inN 1135 (by decide +kernel) rfl
theorem sq_ym : yX11_spot.cls = RX11 ∧ yX11_spot.cls ≠ "java/lang/invoke/MethodHandle" ∧ yX11_spot.cls ≠ "java/lang/invoke/VarHandle" ∧ (parseMethodDescriptor yX11_spot.desc).map (fun d => d.parameters.length) = some 2 := ⟨rfl, by decide +kernel, by decide +kernel, by decide +kernel⟩

theorem sq_dead {tab : sr_Tab} {cc : ByteArray} {mx : Nat} {own mnm : String} {pc : Nat} : sr_Snd tab cc mx own mnm pc mm_dead ∧ sr_NR mm_dead := by
  refine ⟨?_, ?_⟩
  · intro E d p l e R s m args below meth c Q n0 n1 H locs cells slots ls lv ll st n I L P pc' lv' ll' st' n' I' L' P' hC hnm hM hR h
    cases h
  · intro R lv ll st n I L P a h
    cases h
def sq_Q (E : sr_E) (a : mm_A) : Array Value → State → Outcome → State → Prop := fun av st oc t => (∃ z, a.1 = some (.inl z)) ∧ sr_Q E a av st oc t
def sqr_X (E : sr_E) (a : mm_A) : String → State → State → Prop := fun nm st t => nm = sw_X ∧ a.1 = some (.inr (.inr (some 66666666))) ∧ sr_H E a.2.1 a.2.2.1 a.2.2.2.1 a.2.2.2.2 t.heap ∧ va_F (sr_A E) st t
theorem sq_w {E : sr_E} {n : Nat} {I L : mm_I} {P : mm_P} (h : mm_NC ≤ n) : sr_w E (n + 1) I L P = sr_w E n I L P := by
  unfold sr_w
  rw [Nat.min_eq_right h, Nat.min_eq_right (Nat.le_succ_of_le h)]
theorem sq_H {E : sr_E} {n : Nat} {I L : mm_I} {P : mm_P} {H H1 : Heap} (hn : mm_NC ≤ n) (hlt : n + 1 < 1000000) (h : sr_H E n I L P H) (hk : ∀ q : Nat, q < H.size → H1[q]? = H[q]?) : sr_H E (n + 1) I L P H1 := by
  refine ⟨?_, hlt, h.2.2⟩
  rw [sq_w hn]
  exact h.1.kept (fun k q hq => hk _ (h.1 k q hq).lt)
theorem sq_sl {n : Nat} (h : mm_NC ≤ n) : sr_sl (n + 1) = sr_sl n + 6 := by
  show sr_sl n + sr_sz n = _
  unfold sr_sz
  rw [if_neg (by omega)]
set_option maxRecDepth 100000 in
theorem sq_spot {E : sr_E} {l : Launch} {d : Nat} (hM : sr_Calls E l sr_tb d) (hl : l.stackTraces = false) {args : List mm_V} {n : Nat} {I L : mm_I} {P : mm_P} {a : mm_A} (ha : mm_rn (d + 1) 93 args n I L P = some a) (hna : n ≤ a.2.1) (hnc : mm_NC ≤ n) {mc ms : Nat} (hmc : mc + n = a.2.1) (hms : ms + sr_sl n = sr_sl a.2.1) (hlt : a.2.1 < 1000000) (hargs : ∀ v ∈ args, sr_vr v) :
    vx_Met l yX11_spot (.code yX11_spot cX11_spot 3 (some .int) :: sr_T) (sr_rm (d + 1) mc ms) (sr_P E args n I L P) (sq_Q E a) (sqr_X E a) mc ms (sr_A E) := by
  have ha2 : (bif mm_isP 93 then mm_prim (mm_rn d) 93 args n I L P else bif Nat.beq (mm_lvs (mm_mx 93) args).length (mm_mx 93) then mm_ev (mm_rn d) (mm_cd 93) (0, mm_lvs (mm_mx 93) args, mm_lls (mm_hl 93) args, [], n, I, L, P) else none) = some a := ha
  rw [show mm_isP 93 = false from rfl, cond_false, show mm_mx 93 = 3 from rfl, show mm_cd 93 = mm_look mt_93 from rfl] at ha2
  cases hbq : Nat.beq (mm_lvs 3 args).length 3 with
  | false => rw [hbq, cond_false] at ha2; cases ha2
  | true =>
    rw [hbq, cond_true] at ha2
    have hlen := Nat.eq_of_beq_eq_true hbq
    obtain ⟨k, hk⟩ := mm_ev_some ha2
    refine vx_ofW (cc := cX11_spot) (maxL := 3) (ret := some .int) (by decide +kernel) rfl ?_
    intro p e s m argsA below meth c s₁ B hml hext hv
    obtain ⟨rfl, hK, hZ, hH, hbs, hsz⟩ := hv
    have hts0 := atoms_spec (ws := Cond.code yX11_spot cX11_spot 3 (some .int) :: sr_T) B.pre
    have hts : ∀ w ∈ sr_T, w.before (args.map (sr_v E)).toArray s = true := fun w hw => hts0 w (List.mem_cons_of_mem _ hw)
    have hown : s.vm.findClass RX11 = some m.cls := findClass_of_methodNamed B.named
    have hnm : meth.name = "spot" := (name_of_methodNamed B.named B.method).1
    have hC : sr_C E d cX11_spot 3 RX11 p (sr_rm (d + 1) mc ms) s m (args.map (sr_v E)).toArray c := ⟨B.exec, B.bytes, hml, hown, hts, hK, hZ, hbs, by unfold sr_rm; dsimp only; omega, by unfold sr_rm; dsimp only; omega⟩
    show W p l e (sr_rm (d + 1) mc ms) s m _ below meth c s.heap [] 0 0 _ _
    rw [lg_entry_eq]
    have hri : ∀ pc : Nat, decode cX11_spot pc = .ok (.ireturn, 1) → (sr_Snd sr_tb cX11_spot 3 RX11 "spot" pc mm_ri ∧ sr_NR mm_ri) ∨ (sr_NS mm_ri ∧ ∀ (H : Heap) (locs : List Loc) (cells slots : Nat) (ls : Array Slot) (lv : List mm_V) (ll : List (Option Int)) (st : List mm_V) (n2 : Nat) (I2 L2 : mm_I) (P2 : mm_P), sr_R E 3 n s H locs cells slots ls lv ll st n2 I2 L2 P2 → mm_ri (mm_rn d) lv ll st n2 I2 L2 P2 = some (.inr a) → W p l e (sr_rm (d + 1) mc ms) s m (args.map (sr_v E)).toArray below meth c H locs cells slots (vx_MQ below (sq_Q E a) (sqr_X E a) (args.map (sr_v E)).toArray s mc ms (sr_A E)) (F0 m pc ls (st.map (sr_v E)))) := by
      intro pc hd
      refine Or.inr ⟨ns_ri, fun H locs cells slots ls lv ll st n2 I2 L2 P2 hR he => ?_⟩
      have hz : ∃ z, a.1 = some (.inl z) := by
        unfold mm_ri at he
        split at he
        · rename_i z
          simp only [Option.some.injEq, Sum.inr.injEq] at he
          subst he
          exact ⟨z, rfl⟩
        · cases he
      obtain ⟨f1, f2⟩ := st_ri hd E d p l e (sr_rm (d + 1) mc ms) s m (args.map (sr_v E)).toArray below meth c n H locs cells slots ls lv ll st n2 I2 L2 P2 a hC B.returns B.notSynchronized hR he
      have g1 : cells + n = n2 := hR.2.2.2.2.1
      have g2 : slots + sr_sl n = sr_sl n2 := hR.2.2.2.2.2.1
      have g3 : cells = mc := by omega
      have g4 : slots = ms := by rw [← f1] at g2; omega
      subst g3
      subst g4
      intro T hT X
      obtain ⟨t, a1, o, b1, b2, b3, b4⟩ := f2 T hT X
      exact ⟨t, a1, o, b1, b2, Or.inl ⟨⟨hz, b3⟩, b4⟩⟩
    have hthr : (sr_Snd sr_tb cX11_spot 3 RX11 "spot" 20 mm_thr ∧ sr_NR mm_thr) ∨ (sr_NS mm_thr ∧ ∀ (H : Heap) (locs : List Loc) (cells slots : Nat) (ls : Array Slot) (lv : List mm_V) (ll : List (Option Int)) (st : List mm_V) (n2 : Nat) (I2 L2 : mm_I) (P2 : mm_P), sr_R E 3 n s H locs cells slots ls lv ll st n2 I2 L2 P2 → mm_thr (mm_rn d) lv ll st n2 I2 L2 P2 = some (.inr a) → W p l e (sr_rm (d + 1) mc ms) s m (args.map (sr_v E)).toArray below meth c H locs cells slots (vx_MQ below (sq_Q E a) (sqr_X E a) (args.map (sr_v E)).toArray s mc ms (sr_A E)) (F0 m 20 ls (st.map (sr_v E)))) := by
      refine Or.inr ⟨ns_thr, fun H locs cells slots ls lv ll st n2 I2 L2 P2 hR he => ?_⟩
      unfold mm_thr at he
      split at he
      case h_2 => cases he
      simp only [Option.some.injEq, Sum.inr.injEq] at he
      subst he
      dsimp only at hmc hms hlt
      have g1 : cells + n = n2 := hR.2.2.2.2.1
      have g2 : slots + sr_sl n = sr_sl n2 := hR.2.2.2.2.2.1
      have hn2 : mm_NC ≤ n2 := by omega
      rw [sq_sl hn2] at hms
      refine sx_throw (cc := cX11_spot) (A := sr_A E) hC.1 hC.2.1 hl hown hts hK.2.1 hZ.2.2.2.2.2.2.1 hZ.2.2.2.2.2.2.2.2.2.2.1 hZ.2.2.2.2.2.2.2.2.2.2.2 hR.2.1 (hR.2.2.1.1.trans hml.symm) (by decide +kernel) (by decide +kernel) (by decide +kernel) (by decide +kernel) (by decide +kernel) (fun x hx => (hext x hx).elim) (by unfold sr_rm; dsimp only; omega) (by have e9 : (List.map (fun v => v.category) (List.map (sr_v E) ([] : List mm_V))).sum = 0 := rfl; rw [e9]; unfold sr_rm; dsimp only; omega) (by unfold sr_rm; dsimp only; omega) (by unfold sr_rm; dsimp only; omega) B.notSynchronized ?_ (fun z hz => hR.2.1.2.2 z hz) (by omega) (by omega)
      intro t hal hle hkp
      refine ⟨rfl, rfl, sq_H hn2 hlt hR.1 hkp, Nat.le_trans hR.2.1.1 hle, fun q h1 h2 => ?_⟩
      rw [hkp q (Nat.lt_of_lt_of_le h1 hR.2.1.1)]
      exact hR.2.1.2.1 q h1 h2
    refine sr_main (tab := sr_tb) (l0 := mt_93) (mnm := "spot") (n0 := n) (a := a) (Q := vx_MQ below (sq_Q E a) (sqr_X E a) (args.map (sr_v E)).toArray s mc ms (sr_A E)) ?_ hC hnm hM (by show a.2.1 ≤ n + mc; omega) (by show sr_sl a.2.1 ≤ sr_sl n + ms; omega) hlt k 0 (mm_lvs 3 args) (mm_lls (mm_hl 93) args) [] n I L P s.heap [] 0 0 _ hk ⟨hH, va_S.rf, sr_entL hargs hlen, (fun v hv => nomatch hv), by omega, by omega, hsz⟩
    exact
  (sr_fm (Or.inl ⟨sn_aload_n (j := 0) (i := 0) (by decide +kernel) rfl, nr_al⟩) 
  (sr_fm (Or.inl ⟨sn_getR (idx := 26) sr_ok11 (by decide) rfl (by decide +kernel) tw_402 rfl, nr_getR⟩) 
  (sr_fm (Or.inl ⟨sn_iload_n (j := 1) (i := 1) (by decide +kernel) rfl, nr_il⟩) 
  (sr_fm (Or.inl ⟨sn_cV (idx := 180) (by decide +kernel) rfl sr_ok9 (by decide) ym_63 tw_489 tw_272 tw_273 tw_150 tw_274, nr_cV⟩) 
  (sr_fm (Or.inl ⟨sn_if_eq (off := 12) (by decide +kernel) (by decide), nr_if⟩) 
  (sr_fm (Or.inl ⟨sn_iload_n (j := 2) (i := 2) (by decide +kernel) rfl, nr_il⟩) 
  (sr_fm (Or.inl ⟨sn_if_lt (off := 8) (by decide +kernel) (by decide), nr_if⟩) 
  (sr_fm (Or.inl ⟨sn_iload_n (j := 2) (i := 2) (by decide +kernel) rfl, nr_il⟩) 
  (sr_fm (Or.inl ⟨sn_iconst (by decide +kernel) (sr_rgb rfl), nr_push⟩) 
  (sr_fm (Or.inl ⟨sn_ic_le (off := 13) (by decide +kernel) (by decide), nr_ic⟩) 
  (sr_fm (hthr) 
  (sr_fm (Or.inl ⟨sn_dup (by decide +kernel), nr_dup⟩) 
  (sr_fm (Or.inl ⟨sn_ldcS (i := 186) (k := 7) (tx := "no such PLACE, or nothing such to tell of it") (by decide +kernel) (by decide) (fun E U H h => h.2.2.2.2.2.2.1), nr_push⟩) 
  (sr_fm (Or.inl sq_dead) 
  (sr_fm (Or.inl sq_dead) 
  (sr_fm (Or.inl ⟨sn_iload_n (j := 2) (i := 2) (by decide +kernel) rfl, nr_il⟩) 
  (sr_fm (Or.inl ⟨sn_tsw (dflt := 85) (lo := 0) (hi := 3) (offs := #[29, 39, 49, 75]) (len := 29) (by decide +kernel) rfl (by decide) (by decide) (by decide), nr_swi⟩) 
  (sr_fm (Or.inl ⟨sn_aload_n (j := 0) (i := 0) (by decide +kernel) rfl, nr_al⟩) 
  (sr_fm (Or.inl ⟨sn_getR (idx := 53) sr_ok11 (by decide) rfl (by decide +kernel) tw_413 rfl, nr_getR⟩) 
  (sr_fm (Or.inl ⟨sn_getR (idx := 191) sr_ok5 (by decide) rfl (by decide +kernel) tw_561 rfl, nr_getR⟩) 
  (sr_fm (Or.inl ⟨sn_iload_n (j := 1) (i := 1) (by decide +kernel) rfl, nr_il⟩) 
  (sr_fm (Or.inl ⟨sn_iaload (by decide +kernel), nr_iald⟩) 
  (sr_fm (hri 69 (by decide +kernel)) 
  (sr_fm (Or.inl ⟨sn_aload_n (j := 0) (i := 0) (by decide +kernel) rfl, nr_al⟩) 
  (sr_fm (Or.inl ⟨sn_getR (idx := 26) sr_ok11 (by decide) rfl (by decide +kernel) tw_402 rfl, nr_getR⟩) 
  (sr_fm (Or.inl ⟨sn_getR (idx := 194) sr_ok9 (by decide) rfl (by decide +kernel) tw_582 rfl, nr_getR⟩) 
  (sr_fm (Or.inl ⟨sn_iload_n (j := 1) (i := 1) (by decide +kernel) rfl, nr_il⟩) 
  (sr_fm (Or.inl ⟨sn_iaload (by decide +kernel), nr_iald⟩) 
  (sr_fm (hri 79 (by decide +kernel)) 
  (sr_fm (Or.inl ⟨sn_aload_n (j := 0) (i := 0) (by decide +kernel) rfl, nr_al⟩) 
  (sr_fm (Or.inl ⟨sn_getR (idx := 53) sr_ok11 (by decide) rfl (by decide +kernel) tw_413 rfl, nr_getR⟩) 
  (sr_fm (Or.inl ⟨sn_getR (idx := 197) sr_ok5 (by decide) rfl (by decide +kernel) tw_524 rfl, nr_getR⟩) 
  (sr_fm (Or.inl ⟨sn_iload_n (j := 1) (i := 1) (by decide +kernel) rfl, nr_il⟩) 
  (sr_fm (Or.inl ⟨sn_iaload (by decide +kernel), nr_iald⟩) 
  (sr_fm (Or.inl ⟨sn_if_le (off := 15) (by decide +kernel) (by decide), nr_if⟩) 
  (sr_fm (Or.inl ⟨sn_aload_n (j := 0) (i := 0) (by decide +kernel) rfl, nr_al⟩) 
  (sr_fm (Or.inl ⟨sn_getR (idx := 53) sr_ok11 (by decide) rfl (by decide +kernel) tw_413 rfl, nr_getR⟩) 
  (sr_fm (Or.inl ⟨sn_getR (idx := 200) sr_ok5 (by decide) rfl (by decide +kernel) tw_1352 rfl, nr_getR⟩) 
  (sr_fm (Or.inl ⟨sn_iload_n (j := 1) (i := 1) (by decide +kernel) rfl, nr_il⟩) 
  (sr_fm (Or.inl ⟨sn_iaload (by decide +kernel), nr_iald⟩) 
  (sr_fm (Or.inl ⟨sn_goto (off := 4) (by decide +kernel) (by decide), nr_go⟩) 
  (sr_fm (Or.inl ⟨sn_iconst (by decide +kernel) (sr_rgb rfl), nr_push⟩) 
  (sr_fm (hri 105 (by decide +kernel)) 
  (sr_fm (Or.inl ⟨sn_aload_n (j := 0) (i := 0) (by decide +kernel) rfl, nr_al⟩) 
  (sr_fm (Or.inl ⟨sn_getR (idx := 53) sr_ok11 (by decide) rfl (by decide +kernel) tw_413 rfl, nr_getR⟩) 
  (sr_fm (Or.inl ⟨sn_getR (idx := 197) sr_ok5 (by decide) rfl (by decide +kernel) tw_524 rfl, nr_getR⟩) 
  (sr_fm (Or.inl ⟨sn_iload_n (j := 1) (i := 1) (by decide +kernel) rfl, nr_il⟩) 
  (sr_fm (Or.inl ⟨sn_iaload (by decide +kernel), nr_iald⟩) 
  (sr_fm (hri 115 (by decide +kernel)) 
  (sr_fm (Or.inl ⟨sn_aload_n (j := 0) (i := 0) (by decide +kernel) rfl, nr_al⟩) 
  (sr_fm (Or.inl ⟨sn_getR (idx := 26) sr_ok11 (by decide) rfl (by decide +kernel) tw_402 rfl, nr_getR⟩) 
  (sr_fm (Or.inl ⟨sn_getR (idx := 203) sr_ok9 (by decide) rfl (by decide +kernel) tw_657 rfl, nr_getR⟩) 
  (sr_fm (Or.inl ⟨sn_iload_n (j := 1) (i := 1) (by decide +kernel) rfl, nr_il⟩) 
  (sr_fm (Or.inl ⟨sn_iaload (by decide +kernel), nr_iald⟩) 
  (sr_fm (hri 125 (by decide +kernel)) sr_fn)))))))))))))))))))))))))))))))))))))))))))))))))))))))

theorem sq_269 : ∀ o, o < mm_NC → (mm_ty o).1 = 22 → o = 269 ∧ (mm_ty o).2 = 1 := by decide +kernel
theorem sq_updL {I : mm_I} {a k : Nat} {z : Int} : (fun i => Int64.ofInt (mm_ui I a k z a i)) = vp_updL (fun i => Int64.ofInt (I a i)) k (Int64.ofInt z) := by
  funext i
  unfold mm_ui vp_updL
  by_cases h : i = k
  · subst h
    rw [if_pos ⟨rfl, rfl⟩, if_pos rfl]
  · rw [if_neg (fun q => h q.2), if_neg h]
theorem sq_ofWH {l : Launch} {y : MethodName} {ws ws' : List Cond} {rm : Room} {Pc : Array Value → State → Prop} {Qc : Array Value → State → Outcome → State → Prop} {mc ms : Nat} {free : Addr → Prop} {cc : ByteArray} {maxL : Nat} {ret : Option FieldType} {hh : List (Nat × Nat × Nat × Nat)}
    (hy : plainName y.cls = true) (hw : ws = Cond.codeWith y cc maxL ret hh :: ws')
    (body : ∀ p e s m args below meth c s₁, BodyLoose p l y (headSpec ws rm) cc maxL ret e s m args below meth c s₁ → c.maxLocals = maxL → c.exceptionTable.toList = tableOf hh → Pc args s →
      W p l e (headSpec ws rm).room s m args below meth c s.heap [] 0 0 (MQ below Qc args s mc ms free) (entryFrame m args maxL)) : Met l y ws rm Pc Qc mc ms free := by
  refine MetFree.of_bodyS (code := cc) (maxLocals := maxL) (ret := ret) hy ?_ ?_
  · intro args s m h hn
    obtain ⟨m9, meth, c, hn9, h1, h2, h3, h4, -, h5, h6, -⟩ := Cond.codeWith_spec (atoms_spec (ws := ws) h _ (by rw [hw]; exact List.mem_cons_self))
    cases Option.some.inj (hn9.symm.trans hn)
    exact ⟨meth, c, h1, h2, h3, h4, h5, h6⟩
  · intro p e s m args below meth c s₁ B hml hP _
    have hh0 : s₁.heap = s.heap := by rw [B.state]; rfl
    obtain ⟨t, a1, o, b1, b2, b3⟩ := body p e s m args below meth c s₁ B hml (vx_table (x := y) B (atoms_spec (ws := ws) B.pre _ (by rw [hw]; exact List.mem_cons_self))) hP s₁ hh0 (Stand.of_body B)
    exact ⟨t, o, a1, b1, b2, b3⟩
set_option maxRecDepth 100000 in
theorem sq_lspot {E : sr_E} {l : Launch} {d : Nat} (hM : sr_Calls E l sr_tb d) (hl : l.stackTraces = false) : ∀ (args : List mm_V) (n : Nat) (I L : mm_I) (P : mm_P) (a : mm_A), mm_rn (d + 2) 281 args n I L P = some a → n ≤ a.2.1 → sr_Met E l (d + 2) yL_spot (.codeWith yL_spot cL_spot 5 (some .int) [(0, 10, 13, 13)]) args n I L P a := by
  intro args n I L P a ha hna mc ms hmc hms hlt hargs
  have ha2 : mm_prim (mm_rn (d + 1)) 281 args n I L P = some a := ha
  unfold mm_prim at ha2
  rw [if_neg (by decide)] at ha2
  split at ha2
  case h_2 => cases ha2
  rename_i x p0 q0 o
  split at ha2
  case isFalse => cases ha2
  rename_i hq
  obtain ⟨⟨hx1, hx2⟩, ho1, ho2⟩ := hq
  obtain ⟨r, hr, hcase⟩ : ∃ r : mm_A, mm_rn (d + 1) 93 [.inr (.inr (some x)), .inl p0, .inl q0] n I L P = some r ∧ ((∃ z, r.1 = some (.inl z) ∧ a = (some (.inl 0), r.2.1, r.2.2.1, mm_ui r.2.2.2.1 o 0 z, r.2.2.2.2)) ∨ (r.1 = some (.inr (.inr (some 66666666))) ∧ a = (some (.inl 1), r.2))) := by
    split at ha2
    · rename_i z n' I' L' P' e1
      exact ⟨_, e1, Or.inl ⟨z, rfl, (Option.some.inj ha2).symm⟩⟩
    · rename_i n' I' L' P' e1
      exact ⟨_, e1, Or.inr ⟨rfl, (Option.some.inj ha2).symm⟩⟩
    · cases ha2
  have hn : a.2.1 = r.2.1 := by
    rcases hcase with ⟨z, -, h⟩ | ⟨-, h⟩ <;> rw [h]
  rw [hn] at hna hmc hms hlt
  have hoN : o < mm_NC := sr_lt ho2 (by decide) (by omega)
  obtain ⟨ho3, ho4⟩ := sq_269 o hoN ho2
  have hnc : mm_NC ≤ n := by unfold mm_NC; omega
  have hxN : x < mm_NC := sr_lt hx2 (by decide) (by omega)
  have hp : mm_rg p0 := hargs (.inl p0) (List.mem_cons_of_mem _ List.mem_cons_self)
  have hq : mm_rg q0 := hargs (.inl q0) (List.mem_cons_of_mem _ (List.mem_cons_of_mem _ List.mem_cons_self))
  have hX := sq_spot hM hl hr hna hnc hmc hms hlt (fun v hv => by
    rcases List.mem_cons.mp hv with rfl | hv
    · trivial
    · rcases List.mem_cons.mp hv with rfl | hv
      · exact hp
      · rcases List.mem_cons.mp hv with rfl | hv
        · exact hq
        · exact nomatch hv)
  refine sq_ofWH (cc := cL_spot) (maxL := 5) (ret := some .int) (by decide +kernel) rfl ?_
  intro p e s m argsA below meth c s₁ B hml hext hv
  obtain ⟨rfl, hK, hZ, hH, hbs, hsz⟩ := hv
  have hx := B.exec
  have hb := B.bytes
  have hts0 := atoms_spec (ws := Cond.codeWith yL_spot cL_spot 5 (some .int) [(0, 10, 13, 13)] :: sr_T) B.pre
  generalize hav : (([.inr (.inr (some x)), .inl p0, .inl q0, .inr (.inr (some o))] : List mm_V).map (sr_v E)).toArray = av at B hts0
  have hts : ∀ w ∈ sr_T, w.before av s = true := fun w hw => hts0 w (List.mem_cons_of_mem _ hw)
  have hown : s.vm.findClass RL = some m.cls := findClass_of_methodNamed B.named
  have hl5 := lv_entry [.ref (sr_a E x), .int (Int32.ofInt p0), .int (Int32.ofInt q0), .ref (sr_a E o)] (n := 5) (Nat.le_of_ble_eq_true rfl)
  have hent : entryFrame m av 5 = entryFrame m ([.ref (sr_a E x), .int (Int32.ofInt p0), .int (Int32.ofInt q0), .ref (sr_a E o)] : List Value).toArray 5 := by rw [← hav]; rfl
  rw [hent, lg_entry_eq]
  show W p l e (sr_rm (d + 2) mc ms) s m _ below meth c s.heap [] 0 0 _ _
  generalize (lg_sl [.ref (sr_a E x), .int (Int32.ofInt p0), .int (Int32.ofInt q0), .ref (sr_a E o)] ++ List.replicate (5 - (lg_sl [.ref (sr_a E x), .int (Int32.ofInt p0), .int (Int32.ofInt q0), .ref (sr_a E o)]).length) Slot.unset).toArray = ls at hl5 ⊢
  have e0 : ls[0]? = some (.val (.ref (sr_a E x))) := hl5.2.2 (0, _) List.mem_cons_self
  have e1 : ls[1]? = some (.val (.int (Int32.ofInt p0))) := hl5.2.2 (1, _) (List.mem_cons_of_mem _ List.mem_cons_self)
  have e2 : ls[2]? = some (.val (.int (Int32.ofInt q0))) := hl5.2.2 (2, _) (List.mem_cons_of_mem _ (List.mem_cons_of_mem _ List.mem_cons_self))
  have e3 : ls[3]? = some (.val (.ref (sr_a E o))) := hl5.2.2 (3, _) (List.mem_cons_of_mem _ (List.mem_cons_of_mem _ (List.mem_cons_of_mem _ List.mem_cons_self)))
  refine lv_aload_n (k := 3) hx hb (by decide +kernel) rfl e3 ?_
  refine lv_iconst (v := Int32.ofInt 0) hx hb (by decide +kernel) rfl ?_
  refine lv_aload_n (k := 0) hx hb (by decide +kernel) rfl e0 ?_
  refine lv_iload_n (k := 1) hx hb (by decide +kernel) rfl e1 ?_
  refine lv_iload_n (k := 2) hx hb (by decide +kernel) rfl e2 ?_
  have hex : (sr_w E n I L P)[x]? = some (sr_a E x, .inr (11, sr_fs E I L P x 11)) := by
    rw [sr_w_get hx1 hxN, sr_c_o hx2 (by decide)]
  have hrcv := va_recv hK.1 hH.1 sr_ok11.1 hex
  have hcB : CallB (sr_rm (d + 2) mc ms) s av RL 7 yX11_spot cX11_spot 3 (some .int) (Cond.code yX11_spot cX11_spot 3 (some .int) :: sr_T) (sr_rm (d + 1) mc ms) mc ms 2 :=
    callB_of 2 hts (sr_goodC sq_w5) rfl rfl rfl (hts _ sq_w4) (hts _ sq_w1) sq_ym.2 ⟨by unfold sr_rm; dsimp only; omega, by unfold sr_rm; dsimp only; omega⟩
  have dd : decode cL_spot 5 = .ok (.invokevirtual 7, 3) := by decide +kernel
  have run := vx_runV (p := p) (l := l) (e := e) (m := m) (below := below) (meth := meth) (c := c) (cc := cL_spot) (H := s.heap) (locs := []) (cells := 0) (slots := 0) (g := F0 m 5 ls [.int (Int32.ofInt q0), .int (Int32.ofInt p0), .ref (sr_a E x), .int (Int32.ofInt 0), .ref (sr_a E o)]) (As := [.int (Int32.ofInt p0), .int (Int32.ofInt q0)]) (rest := [.int (Int32.ofInt 0), .ref (sr_a E o)]) (b := sr_a E x) (own := RL) (C := RX11) (nL := 5) (Ts := sr_T)
    ⟨hx, hb, hml, hown, hts⟩ hX ⟨hcB, hts _ sq_w2, hts _ sq_w3⟩ ⟨sr_blind, hrcv, fun U hU hW => ⟨rfl, hK.warm hW, by rw [hU]; exact hZ.warm hW (fun q _ _ => rfl), by rw [hU]; exact hH, by rw [hU]; exact hbs, by rw [hU]; exact hsz⟩⟩ rfl rfl hl5.1 rfl (lv_room (Nat.le_of_ble_eq_true rfl)) dd ⟨by unfold sr_rm; dsimp only; omega, by unfold sr_rm; dsimp only; omega⟩
  intro T hT X
  rcases run T hT X with ⟨v, st₀, t, T', L1, h0, X', hL, f1, f2, ⟨⟨z, hz⟩, hv, hH', hF, hvr⟩, go⟩ | ⟨q9, st₀, t, T', L1, En, ce, h0, X', hL, f1, f2, ⟨hnm, hsp, hH', hF⟩, hce, hcv, hcl, st⟩
  · rcases hcase with ⟨z', hz', rfl⟩ | ⟨h9, -⟩
    case inr => rw [hz] at h9; cases h9
    obtain rfl : z = z' := by rw [hz] at hz'; cases hz'; rfl
    have hzr : mm_rg z := hvr _ hz
    rw [hz] at hv
    cases hv
    simp only [Nat.zero_add, List.nil_append] at X'
    rw [← f1] at hH'
    have hS : va_S (sr_A E) s.heap T'.heap L1 := by
      obtain ⟨g1, g2⟩ := hF
      rw [h0] at g1 g2
      exact ⟨by rw [f1]; exact g1, fun q h1 h2 => by rw [f1]; exact g2 q h1 h2, hL⟩
    have K : W p l e (sr_rm (d + 2) mc ms) s m av below meth c T'.heap L1 mc ms (MQ below (sr_Q E (some (.inl 0), r.2.1, r.2.2.1, mm_ui r.2.2.2.1 o 0 z, r.2.2.2.2)) av s mc ms (sr_A E)) (F0 m 8 ls [.int (Int32.ofInt z), .int (Int32.ofInt 0), .ref (sr_a E o)]) := by
      refine lv_i2l hx hb (by decide +kernel) (so_i2l hzr) ?_
      have he : (sr_w E r.2.1 r.2.2.1 r.2.2.2.1 r.2.2.2.2)[o]? = some (sr_a E o, .inl (E.2.1 2, (mm_ty o).2, .inr (.inl (fun i => Int64.ofInt (r.2.2.2.1 o i))))) := by
        rw [sr_w_get (by omega) hoN, sr_c_22 ho2]
      refine va_last hx hb hK.1 hH'.1 sr_w_D hS o 2 he rfl (so_in so_r0 (by decide) (by rw [ho4]; decide)) (by decide +kernel) fun H1 locs1 hP1 hD1 hS1 => ?_
      rw [so_cl so_r0, sr_w_set (I' := r.2.2.1) (L' := mm_ui r.2.2.2.1 o (Int.toNat 0) z) (P' := r.2.2.2.2) (by rw [sr_c_22 ho2, sq_updL]) (fun b hb => sr_c_ext rfl (sr_ui_ne hb) rfl)] at hP1
      refine lv_goto (off := 7) (tgt := 17) hx hb (by decide +kernel) (by decide) ?_
      refine lv_iconst (v := Int32.ofInt 0) hx hb (by decide +kernel) rfl ?_
      refine W.iret hx hb B.returns (fun t ht _ => ⟨rfl, ?_, hS1.F ht, fun v hv => by cases hv; exact so_r0⟩) hS1.2.2 (by decide +kernel) B.notSynchronized
      rw [ht]
      exact ⟨hP1, hH'.2.1, hH'.2.2.1, sr_rg_ul hH'.2.2.2 (by unfold mm_rg at hzr; unfold mm_rgl; omega)⟩
    obtain ⟨t2, a1, b1⟩ := K T' rfl X'
    exact ⟨t2, go t2 a1, b1⟩
  · rcases hcase with ⟨z', hz', -⟩ | ⟨-, rfl⟩
    case inl => rw [hsp] at hz'; cases hz'
    simp only [Nat.zero_add, List.nil_append] at X'
    rw [← f1] at hH' hce
    have hS : va_S (sr_A E) s.heap T'.heap L1 := by
      obtain ⟨g1, g2⟩ := hF
      rw [h0] at g1 g2
      exact ⟨by rw [f1]; exact g1, fun q h1 h2 => by rw [f1]; exact g2 q h1 h2, hL⟩
    subst hnm
    have K : vx_W p l e (sr_rm (d + 2) mc ms) s m av below meth c T'.heap L1 mc ms (MQ below (sr_Q E (some (.inl 1), r.2)) av s mc ms (sr_A E)) (F0 m 5 ls [.int (Int32.ofInt 0), .ref (sr_a E o)]) q9 := by
      refine sx_catch (own := RL) (name := sw_X) (E := sw_X) hown { startPc := 0, endPc := 10, handlerPc := 13, catchType := 13 } hext rfl (by decide) (hts _ sq_w7) (va_Nw.use (by rfl) (hK.2.1 _ sq_wn)) hce hcv hcl ?_
      refine lv_astore hx hb (i := 4) (by decide +kernel) hl5 (by decide) rfl fun ls' hl' => ?_
      refine lv_iconst (v := Int32.ofInt 1) hx hb (by decide +kernel) rfl ?_
      exact W.iret hx hb B.returns (fun t ht _ => ⟨rfl, by rw [ht]; exact hH', hS.F ht, fun v hv => by cases hv; exact sr_rgb rfl⟩) hS.2.2 (by decide +kernel) B.notSynchronized
    obtain ⟨t2, a1, b1⟩ := K T' rfl X'
    exact ⟨t2, st.trans a1, b1⟩
