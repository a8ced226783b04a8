/-! EVERY CALL IS FOLLOWED -/
def sd_D (y : Nat) (q : MethodName × Cond) : Prop := ∀ (E : sr_E) (l : Launch) (d : Nat), l.stackTraces = false → sr_Calls E l sr_tb d → (∀ d', d = d' + 1 → sr_Calls E l sr_tb d') → ∀ (args : List mm_V) (n : Nat) (I L : mm_I) (P : mm_P) (a : mm_A), mm_rn (d + 1) y args n I L P = some a → n ≤ a.2.1 → sr_Met E l (d + 1) q.1 q.2 args n I L P a
def sd_A : Nat → List (Option (MethodName × Cond)) → Prop
  | _, [] => True
  | b, none :: l => sd_A (b + 1) l
  | b, some q :: l => sd_D b q ∧ sd_A (b + 1) l
theorem sd_use : ∀ (l : List (Option (MethodName × Cond))) (b k : Nat) (q : MethodName × Cond), sd_A b l → l.getD k none = some q → sd_D (b + k) q := by
  intro l
  induction l with
  | nil => intro b k q _ h; simp at h
  | cons o l ih =>
    intro b k q hA h
    cases k with
    | zero =>
      have ho : o = some q := h
      subst ho
      exact hA.1
    | succ k =>
      have h2 : l.getD k none = some q := h
      have hA2 : sd_A (b + 1) l := by
        cases o with
        | none => exact hA
        | some q' => exact hA.2
      have := ih (b + 1) k q hA2 h2
      rw [show b + (k + 1) = b + 1 + k by omega]
      exact this
theorem sr_ofWF {l : Launch} {y : MethodName} {ws ws' : List Cond} {rm : Room} {Pc : Array Value → State → Prop} {Qc : Array Value → State → Outcome → State → Prop} {mc ms : Nat} {free : Addr → Prop} {cc : ByteArray} {maxL : Nat} {ret : Option FieldType}
    (hy : plainFor y = true) (hw : ws = Cond.code y cc maxL ret :: ws')
    (body : ∀ p e s m args below meth c s₁, BodyLoose p l y (headSpec ws rm) cc maxL ret e s m args below meth c s₁ → c.maxLocals = maxL → Pc args s →
      W p l e (headSpec ws rm).room s m args below meth c s.heap [] 0 0 (MQ below Qc args s mc ms free) (entryFrame m args maxL)) : Met l y ws rm Pc Qc mc ms free := by
  refine MetFree.of_bodySF (code := cc) (maxLocals := maxL) (ret := ret) hy ?_ ?_
  · intro args s m h hn
    obtain ⟨meth, c, h1, h2, h3, h4, h5, h6, -, -⟩ := Cond.code_spec hn (atoms_spec (ws := ws) h _ (by rw [hw]; exact List.mem_cons_self))
    exact ⟨meth, c, h1, h2, h3, h4, h5, h6⟩
  · intro p e s m args below meth c s₁ B hml hP _
    have hh0 : s₁.heap = s.heap := by rw [B.state]; rfl
    obtain ⟨t, a1, o, b1, b2, b3⟩ := body p e s m args below meth c s₁ B hml hP s₁ hh0 (Stand.of_body B)
    exact ⟨t, o, a1, b1, b2, ⟨b3.1, b3.2⟩⟩
set_option maxRecDepth 100000 in
theorem sr_methF {tab : sr_Tab} {E : sr_E} {l : Launch} {d y : Nat} {yn : MethodName} {cb : ByteArray} {rt : Option FieldType} {l0 : List (Nat × mm_T)} (hM : sr_Calls E l tab d) (hp : mm_isP y = false) (hcd : mm_cd y = mm_look l0) (hpl : plainFor yn = true)
    (hall : ∀ q ∈ l0, sr_Ok tab cb (mm_mx y) yn.cls yn.name rt q.1 q.2) : ∀ (args : List mm_V) (n : Nat) (I L : mm_I) (P : mm_P) (a : mm_A), mm_rn (d + 1) y args n I L P = some a → n ≤ a.2.1 → sr_Met E l (d + 1) yn (.code yn cb (mm_mx y) rt) args n I L P a := by
  intro args n I L P a ha hna mc ms hmc hms hlt hargs
  have ha2 : (bif mm_isP y then mm_prim (mm_rn d) y args n I L P else bif Nat.beq (mm_lvs (mm_mx y) args).length (mm_mx y) then mm_ev (mm_rn d) (mm_cd y) (0, mm_lvs (mm_mx y) args, mm_lls (mm_hl y) args, [], n, I, L, P) else none) = some a := ha
  rw [hp, cond_false] at ha2
  cases hbq : Nat.beq (mm_lvs (mm_mx y) args).length (mm_mx y) with
  | false => rw [hbq, cond_false] at ha2; cases ha2
  | true =>
    rw [hbq, cond_true, hcd] at ha2
    have hlen := Nat.eq_of_beq_eq_true hbq
    obtain ⟨k, hk⟩ := mm_ev_some ha2
    refine sr_ofWF (cc := cb) (maxL := mm_mx y) (ret := rt) hpl rfl ?_
    intro p e s m argsA below meth c s₁ B hml hv
    obtain ⟨rfl, hK, hZ, hH, hbs, hsz⟩ := hv
    have hts0 := atoms_spec (ws := Cond.code yn cb (mm_mx y) rt :: sr_T) B.pre
    have hts : ∀ w ∈ sr_T, w.before (args.map (sr_v E)).toArray s = true := fun w hw => hts0 w (List.mem_cons_of_mem _ hw)
    have hown : s.vm.findClass yn.cls = some m.cls := findClass_of_methodNamed B.named
    have hnm : meth.name = yn.name := (name_of_methodNamed B.named B.method).1
    have hC : sr_C E d cb (mm_mx y) yn.cls p (sr_rm (d + 1) mc ms) s m (args.map (sr_v E)).toArray c := ⟨B.exec, B.bytes, hml, hown, hts, hK, hZ, hbs, by unfold sr_rm; dsimp only; omega, by unfold sr_rm; dsimp only; omega⟩
    rw [lg_entry_eq]
    refine sr_main (tab := tab) (l0 := l0) (mnm := yn.name) (n0 := n) (a := a) (Q := MQ below (sr_Q E a) (args.map (sr_v E)).toArray s mc ms (sr_A E)) ?_ hC hnm hM (by show a.2.1 ≤ n + mc; omega) (by show sr_sl a.2.1 ≤ sr_sl n + ms; omega) hlt k 0 (mm_lvs (mm_mx y) args) (mm_lls (mm_hl y) args) [] n I L P s.heap [] 0 0 _ hk ?_
    · intro q hq
      rcases hall q hq with ⟨h1, h2⟩ | ⟨h1, h2⟩
      · exact Or.inl ⟨h1, h2⟩
      · refine Or.inr ⟨h2, fun H locs cells slots ls lv ll st n2 I2 L2 P2 hR he => ?_⟩
        obtain ⟨f1, f2⟩ := h1 E d p l e (sr_rm (d + 1) mc ms) s m (args.map (sr_v E)).toArray below meth c n H locs cells slots ls lv ll st n2 I2 L2 P2 a hC B.returns B.notSynchronized hR he
        have g1 : cells + n = n2 := hR.2.2.2.2.1
        have g2 : slots + sr_sl n = sr_sl n2 := hR.2.2.2.2.2.1
        have g3 : cells = mc := by omega
        have g4 : slots = ms := by rw [← f1] at g2; omega
        rw [g3, g4] at f2
        rw [g3, g4]
        exact f2
    · exact ⟨hH, va_S.rf, sr_entL hargs hlen, (fun v hv => nomatch hv), by omega, by omega, hsz⟩
theorem sd_0 : sd_D 0 (yX0_init, .code yX0_init cX0_init 1 none) := fun _ _ _ _ hM _ => sr_meth (y := 0) (l0 := mt_0) hM rfl rfl (by decide +kernel) ok_0
theorem sd_1 : sd_D 1 (yX0_lostWithin, .code yX0_lostWithin cX0_lostWithin 5 (some .int)) := fun _ _ _ _ hM _ => sr_meth (y := 1) (l0 := mt_1) hM rfl rfl (by decide +kernel) ok_1
theorem sd_2 : sd_D 2 (yX0_passHours, .code yX0_passHours cX0_passHours 6 (some .int)) := fun _ _ _ _ hM _ => sr_meth (y := 2) (l0 := mt_2) hM rfl rfl (by decide +kernel) ok_2
theorem sd_3 : sd_D 3 (yX0_lostBehindCry, .code yX0_lostBehindCry cX0_lostBehindCry 5 (some .int)) := fun _ _ _ _ hM _ => sr_meth (y := 3) (l0 := mt_3) hM rfl rfl (by decide +kernel) ok_3
theorem sd_4 : sd_D 4 (yX0_findCryHour, .code yX0_findCryHour cX0_findCryHour 8 none) := fun _ _ _ _ hM _ => sr_meth (y := 4) (l0 := mt_4) hM rfl rfl (by decide +kernel) ok_4
theorem sd_5 : sd_D 5 (yX0_quietHour, .code yX0_quietHour cX0_quietHour 5 (some .int)) := fun _ _ _ _ hM _ => sr_meth (y := 5) (l0 := mt_5) hM rfl rfl (by decide +kernel) ok_5
theorem sd_6 : sd_D 6 (yX0_lostByFires, .code yX0_lostByFires cX0_lostByFires 9 (some .int)) := fun _ _ _ _ hM _ => sr_meth (y := 6) (l0 := mt_6) hM rfl rfl (by decide +kernel) ok_6
theorem sd_7 : sd_D 7 (yX1_init, .code yX1_init cX1_init 1 none) := fun _ _ _ _ hM _ => sr_meth (y := 7) (l0 := mt_7) hM rfl rfl (by decide +kernel) ok_7
theorem sd_8 : sd_D 8 (yX1_write, .code yX1_write cX1_write 6 none) := fun _ _ _ _ hM _ => sr_meth (y := 8) (l0 := mt_8) hM rfl rfl (by decide +kernel) ok_8
theorem sd_9 : sd_D 9 (yX1_read, .code yX1_read cX1_read 4 (some .int)) := fun _ _ _ _ hM _ => sr_meth (y := 9) (l0 := mt_9) hM rfl rfl (by decide +kernel) ok_9
theorem sd_10 : sd_D 10 (yX1_copyFrom, .code yX1_copyFrom cX1_copyFrom 2 none) := fun _ _ _ _ hM _ => sr_meth (y := 10) (l0 := mt_10) hM rfl rfl (by decide +kernel) ok_10
theorem sd_11 : sd_D 11 (yX2_init, .code yX2_init cX2_init 1 none) := fun _ _ _ _ hM _ => sr_meth (y := 11) (l0 := mt_11) hM rfl rfl (by decide +kernel) ok_11
theorem sd_12 : sd_D 12 (yX2_add, .code yX2_add cX2_add 5 none) := fun _ _ _ _ hM _ => sr_meth (y := 12) (l0 := mt_12) hM rfl rfl (by decide +kernel) ok_12
theorem sd_13 : sd_D 13 (yX2_fitting, .code yX2_fitting cX2_fitting 7 (some .int)) := fun _ _ _ _ hM _ => sr_meth (y := 13) (l0 := mt_13) hM rfl rfl (by decide +kernel) ok_13
theorem sd_14 : sd_D 14 (yX2_startSort, .code yX2_startSort cX2_startSort 4 none) := fun _ _ _ _ hM _ => sr_meth (y := 14) (l0 := mt_14) hM rfl rfl (by decide +kernel) ok_14
theorem sd_15 : sd_D 15 (yX2_fitsAll, .code yX2_fitsAll cX2_fitsAll 6 (some .boolean)) := fun _ _ _ _ hM _ => sr_meth (y := 15) (l0 := mt_15) hM rfl rfl (by decide +kernel) ok_15
theorem sd_16 : sd_D 16 (yX2_holdsBehind, .code yX2_holdsBehind cX2_holdsBehind 3 (some .boolean)) := fun _ _ _ _ hM _ => sr_meth (y := 16) (l0 := mt_16) hM rfl rfl (by decide +kernel) ok_16
theorem sd_17 : sd_D 17 (yX2_bestQuestion, .code yX2_bestQuestion cX2_bestQuestion 6 (some .int)) := fun _ _ _ _ hM _ => sr_meth (y := 17) (l0 := mt_17) hM rfl rfl (by decide +kernel) ok_17
theorem sd_18 : sd_D 18 (yX2_countLeft, .code yX2_countLeft cX2_countLeft 7 none) := fun _ _ _ _ hM _ => sr_meth (y := 18) (l0 := mt_18) hM rfl rfl (by decide +kernel) ok_18
theorem sd_19 : sd_D 19 (yX2_hourOfFewest, .code yX2_hourOfFewest cX2_hourOfFewest 3 (some .int)) := fun _ _ _ _ hM _ => sr_meth (y := 19) (l0 := mt_19) hM rfl rfl (by decide +kernel) ok_19
theorem sd_20 : sd_D 20 (yX2_mostAlike, .code yX2_mostAlike cX2_mostAlike 4 (some .int)) := fun _ _ _ _ hM _ => sr_meth (y := 20) (l0 := mt_20) hM rfl rfl (by decide +kernel) ok_20
theorem sd_21 : sd_D 21 (yX3_init, .code yX3_init cX3_init 1 none) := fun _ _ _ _ hM _ => sr_meth (y := 21) (l0 := mt_21) hM rfl rfl (by decide +kernel) ok_21
theorem sd_22 : sd_D 22 (yX3_put, .code yX3_put cX3_put 3 none) := fun _ _ _ _ hM _ => sr_meth (y := 22) (l0 := mt_22) hM rfl rfl (by decide +kernel) ok_22
theorem sd_23 : sd_D 23 (yX3_leadOn, .code yX3_leadOn cX3_leadOn 2 none) := fun _ _ _ _ hM _ => sr_meth (y := 23) (l0 := mt_23) hM rfl rfl (by decide +kernel) ok_23
theorem sd_24 : sd_D 24 (yX3_valueFor, .code yX3_valueFor cX3_valueFor 11 (some .int)) := fun _ _ _ _ hM _ => sr_meth (y := 24) (l0 := mt_24) hM rfl rfl (by decide +kernel) ok_24
theorem sd_25 : sd_D 25 (yX3_push, .code yX3_push cX3_push 2 none) := fun _ _ _ _ hM _ => sr_meth (y := 25) (l0 := mt_25) hM rfl rfl (by decide +kernel) ok_25
theorem sd_26 : sd_D 26 (yX3_pop, .code yX3_pop cX3_pop 1 (some .int)) := fun _ _ _ _ hM _ => sr_meth (y := 26) (l0 := mt_26) hM rfl rfl (by decide +kernel) ok_26
theorem sd_27 : sd_D 27 (yX3_joint, .code yX3_joint cX3_joint 5 (some .int)) := fun _ _ _ _ hM _ => sr_meth (y := 27) (l0 := mt_27) hM rfl rfl (by decide +kernel) ok_27
theorem sd_28 : sd_D 28 (yX4_readLaw, .code yX4_readLaw cX4_readLaw 3 (some .boolean)) := fun _ _ _ _ hM _ => sr_meth (y := 28) (l0 := mt_28) hM rfl rfl (by decide +kernel) ok_28
theorem sd_29 : sd_D 29 (yX4_readClause, .code yX4_readClause cX4_readClause 5 (some .boolean)) := fun _ _ _ _ hM _ => sr_meth (y := 29) (l0 := mt_29) hM rfl rfl (by decide +kernel) ok_29
theorem sd_30 : sd_D 30 (yX4_readCondition, .code yX4_readCondition cX4_readCondition 5 (some .boolean)) := fun _ _ _ _ hM _ => sr_meth (y := 30) (l0 := mt_30) hM rfl rfl (by decide +kernel) ok_30
theorem sd_31 : sd_D 31 (yX4_readTruth, .code yX4_readTruth cX4_readTruth 5 (some .boolean)) := fun _ _ _ _ hM _ => sr_meth (y := 31) (l0 := mt_31) hM rfl rfl (by decide +kernel) ok_31
theorem sd_32 : sd_D 32 (yX4_readUnit, .code yX4_readUnit cX4_readUnit 6 (some .boolean)) := fun _ _ _ _ hM _ => sr_meth (y := 32) (l0 := mt_32) hM rfl rfl (by decide +kernel) ok_32
theorem sd_33 : sd_D 33 (yX4_readInner, .code yX4_readInner cX4_readInner 3 (some .boolean)) := fun _ _ _ _ hM _ => sr_meth (y := 33) (l0 := mt_33) hM rfl rfl (by decide +kernel) ok_33
theorem sd_34 : sd_D 34 (yX4_comparisonOf, .code yX4_comparisonOf cX4_comparisonOf 1 (some .int)) := fun _ _ _ _ hM _ => sr_meth (y := 34) (l0 := mt_34) hM rfl rfl (by decide +kernel) ok_34
theorem sd_35 : sd_D 35 (yX4_readSum, .code yX4_readSum cX4_readSum 5 (some .boolean)) := fun _ _ _ _ hM _ => sr_meth (y := 35) (l0 := mt_35) hM rfl rfl (by decide +kernel) ok_35
theorem sd_36 : sd_D 36 (yX4_readTerm, .code yX4_readTerm cX4_readTerm 5 (some .boolean)) := fun _ _ _ _ hM _ => sr_meth (y := 36) (l0 := mt_36) hM rfl rfl (by decide +kernel) ok_36
theorem sd_37 : sd_D 37 (yX4_readAtom, .code yX4_readAtom cX4_readAtom 6 (some .boolean)) := fun _ _ _ _ hM _ => sr_meth (y := 37) (l0 := mt_37) hM rfl rfl (by decide +kernel) ok_37
theorem sd_38 : sd_D 38 (yX4_letterOf, .code yX4_letterOf cX4_letterOf 1 (some .int)) := fun _ _ _ _ hM _ => sr_meth (y := 38) (l0 := mt_38) hM rfl rfl (by decide +kernel) ok_38
theorem sd_39 : sd_D 39 (yX5_init, .code yX5_init cX5_init 1 none) := fun _ _ _ _ hM _ => sr_meth (y := 39) (l0 := mt_39) hM rfl rfl (by decide +kernel) ok_39
theorem sd_40 : sd_D 40 (yX5_beAsTold, .code yX5_beAsTold cX5_beAsTold 3 none) := fun _ _ _ _ hM _ => sr_meth (y := 40) (l0 := mt_40) hM rfl rfl (by decide +kernel) ok_40
theorem sd_41 : sd_D 41 (yX5_copyFrom, .code yX5_copyFrom cX5_copyFrom 2 none) := fun _ _ _ _ hM _ => sr_meth (y := 41) (l0 := mt_41) hM rfl rfl (by decide +kernel) ok_41
theorem sd_42 : sd_D 42 (yX5_troubles, .code yX5_troubles cX5_troubles 3 (some .int)) := fun _ _ _ _ hM _ => sr_meth (y := 42) (l0 := mt_42) hM rfl rfl (by decide +kernel) ok_42
theorem sd_43 : sd_D 43 (yX5_troublesOf, .code yX5_troublesOf cX5_troublesOf 4 (some .int)) := fun _ _ _ _ hM _ => sr_meth (y := 43) (l0 := mt_43) hM rfl rfl (by decide +kernel) ok_43
theorem sd_44 : sd_D 44 (yX5_allWorth, .code yX5_allWorth cX5_allWorth 3 (some .int)) := fun _ _ _ _ hM _ => sr_meth (y := 44) (l0 := mt_44) hM rfl rfl (by decide +kernel) ok_44
theorem sd_45 : sd_D 45 (yX5_startTrouble, .code yX5_startTrouble cX5_startTrouble 4 none) := fun _ _ _ _ hM _ => sr_meth (y := 45) (l0 := mt_45) hM rfl rfl (by decide +kernel) ok_45
theorem sd_46 : sd_D 46 (yX5_hushSeen, .code yX5_hushSeen cX5_hushSeen 4 (some .int)) := fun _ _ _ _ hM _ => sr_meth (y := 46) (l0 := mt_46) hM rfl rfl (by decide +kernel) ok_46
theorem sd_47 : sd_D 47 (yX5_passHour, .code yX5_passHour cX5_passHour 7 (some .int)) := fun _ _ _ _ hM _ => sr_meth (y := 47) (l0 := mt_47) hM rfl rfl (by decide +kernel) ok_47
theorem sd_48 : sd_D 48 (yX5_grownSize, .code yX5_grownSize cX5_grownSize 8 (some .int)) := fun _ _ _ _ hM _ => sr_meth (y := 48) (l0 := mt_48) hM rfl rfl (by decide +kernel) ok_48
theorem sd_49 : sd_D 49 (yX5_spreadFires, .code yX5_spreadFires cX5_spreadFires 4 none) := fun _ _ _ _ hM _ => sr_meth (y := 49) (l0 := mt_49) hM rfl rfl (by decide +kernel) ok_49
theorem sd_50 : sd_D 50 (yX6_init, .code yX6_init cX6_init 2 none) := fun _ _ _ _ hM _ => sr_meth (y := 50) (l0 := mt_50) hM rfl rfl (by decide +kernel) ok_50
theorem sd_51 : sd_D 51 (yX6_keep, .code yX6_keep cX6_keep 2 none) := fun _ _ _ _ hM _ => sr_meth (y := 51) (l0 := mt_51) hM rfl rfl (by decide +kernel) ok_51
theorem sd_52 : sd_D 52 (yX6_giveBack, .code yX6_giveBack cX6_giveBack 2 (some .boolean)) := fun _ _ _ _ hM _ => sr_meth (y := 52) (l0 := mt_52) hM rfl rfl (by decide +kernel) ok_52
theorem sd_53 : sd_D 53 (yX7_init, .code yX7_init cX7_init 1 none) := fun _ _ _ _ hM _ => sr_meth (y := 53) (l0 := mt_53) hM rfl rfl (by decide +kernel) ok_53
theorem sd_54 : sd_D 54 (yX7_find, .code yX7_find cX7_find 4 none) := fun _ _ _ _ hM _ => sr_meth (y := 54) (l0 := mt_54) hM rfl rfl (by decide +kernel) ok_54
theorem sd_55 : sd_D 55 (yX7_goOn, .code yX7_goOn cX7_goOn 8 none) := fun _ _ _ _ hM _ => sr_meth (y := 55) (l0 := mt_55) hM rfl rfl (by decide +kernel) ok_55
theorem sd_56 : sd_D 56 (yX7_worthOf, .code yX7_worthOf cX7_worthOf 5 (some .int)) := fun _ _ _ _ hM _ => sr_meth (y := 56) (l0 := mt_56) hM rfl rfl (by decide +kernel) ok_56
theorem sd_57 : sd_D 57 (yX8_init, .code yX8_init cX8_init 1 none) := fun _ _ _ _ hM _ => sr_meth (y := 57) (l0 := mt_57) hM rfl rfl (by decide +kernel) ok_57
theorem sd_58 : sd_D 58 (yX8_append, .code yX8_append cX8_append 4 none) := fun _ _ _ _ hM _ => sr_meth (y := 58) (l0 := mt_58) hM rfl rfl (by decide +kernel) ok_58
theorem sd_59 : sd_D 59 (yX8_peek, .code yX8_peek cX8_peek 2 (some .int)) := fun _ _ _ _ hM _ => sr_meth (y := 59) (l0 := mt_59) hM rfl rfl (by decide +kernel) ok_59
theorem sd_60 : sd_D 60 (yX8_passes, .code yX8_passes cX8_passes 2 (some .boolean)) := fun _ _ _ _ hM _ => sr_meth (y := 60) (l0 := mt_60) hM rfl rfl (by decide +kernel) ok_60
theorem sd_61 : sd_D 61 (yX8_number, .code yX8_number cX8_number 4 (some .int)) := fun _ _ _ _ hM _ => sr_meth (y := 61) (l0 := mt_61) hM rfl rfl (by decide +kernel) ok_61
theorem sd_62 : sd_D 62 (yX9_init, .code yX9_init cX9_init 1 none) := fun _ _ _ _ hM _ => sr_meth (y := 62) (l0 := mt_62) hM rfl rfl (by decide +kernel) ok_62
theorem sd_63 : sd_D 63 (yX9_has, .code yX9_has cX9_has 2 (some .boolean)) := fun _ _ _ _ hM _ => sr_meth (y := 63) (l0 := mt_63) hM rfl rfl (by decide +kernel) ok_63
theorem sd_64 : sd_D 64 (yX9_way, .code yX9_way cX9_way 3 (some .int)) := fun _ _ _ _ hM _ => sr_meth (y := 64) (l0 := mt_64) hM rfl rfl (by decide +kernel) ok_64
theorem sd_65 : sd_D 65 (yX9_joined, .code yX9_joined cX9_joined 3 (some .boolean)) := fun _ _ _ _ hM _ => sr_meth (y := 65) (l0 := mt_65) hM rfl rfl (by decide +kernel) ok_65
theorem sd_66 : sd_D 66 (yX9_join, .code yX9_join cX9_join 3 none) := fun _ _ _ _ hM _ => sr_meth (y := 66) (l0 := mt_66) hM rfl rfl (by decide +kernel) ok_66
theorem sd_67 : sd_D 67 (yX9_reckonWays, .code yX9_reckonWays cX9_reckonWays 5 none) := fun _ _ _ _ hM _ => sr_meth (y := 67) (l0 := mt_67) hM rfl rfl (by decide +kernel) ok_67
theorem sd_68 : sd_D 68 (yX9_reckonViews, .code yX9_reckonViews cX9_reckonViews 3 none) := fun _ _ _ _ hM _ => sr_meth (y := 68) (l0 := mt_68) hM rfl rfl (by decide +kernel) ok_68
theorem sd_69 : sd_D 69 (yX9_viewFrom, .code yX9_viewFrom cX9_viewFrom 4 (some .int)) := fun _ _ _ _ hM _ => sr_meth (y := 69) (l0 := mt_69) hM rfl rfl (by decide +kernel) ok_69
theorem sd_70 : sd_D 70 (yX9_parts, .code yX9_parts cX9_parts 5 (some .int)) := fun _ _ _ _ hM _ => sr_meth (y := 70) (l0 := mt_70) hM rfl rfl (by decide +kernel) ok_70
theorem sd_71 : sd_D 71 (yX10_init, .code yX10_init cX10_init 1 none) := fun _ _ _ _ hM _ => sr_meth (y := 71) (l0 := mt_71) hM rfl rfl (by decide +kernel) ok_71
theorem sd_72 : sd_D 72 (yX10_readTown, .code yX10_readTown cX10_readTown 4 (some .boolean)) := fun _ _ _ _ hM _ => sr_meth (y := 72) (l0 := mt_72) hM rfl rfl (by decide +kernel) ok_72
theorem sd_73 : sd_D 73 (yX10_readClause, .code yX10_readClause cX10_readClause 4 (some .boolean)) := fun _ _ _ _ hM _ => sr_meth (y := 73) (l0 := mt_73) hM rfl rfl (by decide +kernel) ok_73
theorem sd_74 : sd_D 74 (yX10_forgetItems, .code yX10_forgetItems cX10_forgetItems 3 none) := fun _ _ _ _ hM _ => sr_meth (y := 74) (l0 := mt_74) hM rfl rfl (by decide +kernel) ok_74
theorem sd_75 : sd_D 75 (yX10_signIn, .code yX10_signIn cX10_signIn 5 (some .int)) := fun _ _ _ _ hM _ => sr_meth (y := 75) (l0 := mt_75) hM rfl rfl (by decide +kernel) ok_75
theorem sd_76 : sd_D 76 (yX10_isFull, .code yX10_isFull cX10_isFull 3 (some .boolean)) := fun _ _ _ _ hM _ => sr_meth (y := 76) (l0 := mt_76) hM rfl rfl (by decide +kernel) ok_76
theorem sd_77 : sd_D 77 (yX10_readItems, .code yX10_readItems cX10_readItems 7 (some .boolean)) := fun _ _ _ _ hM _ => sr_meth (y := 77) (l0 := mt_77) hM rfl rfl (by decide +kernel) ok_77
theorem sd_78 : sd_D 78 (yX10_readNumber, .code yX10_readNumber cX10_readNumber 4 (some .boolean)) := fun _ _ _ _ hM _ => sr_meth (y := 78) (l0 := mt_78) hM rfl rfl (by decide +kernel) ok_78
theorem sd_79 : sd_D 79 (yX10_keepRules, .code yX10_keepRules cX10_keepRules 2 none) := fun _ _ _ _ hM _ => sr_meth (y := 79) (l0 := mt_79) hM rfl rfl (by decide +kernel) ok_79
theorem sd_80 : sd_D 80 (yX10_keepPlace, .code yX10_keepPlace cX10_keepPlace 2 none) := fun _ _ _ _ hM _ => sr_meth (y := 80) (l0 := mt_80) hM rfl rfl (by decide +kernel) ok_80
theorem sd_81 : sd_D 81 (yX10_keepLane, .code yX10_keepLane cX10_keepLane 1 none) := fun _ _ _ _ hM _ => sr_meth (y := 81) (l0 := mt_81) hM rfl rfl (by decide +kernel) ok_81
theorem sd_82 : sd_D 82 (yX10_joinLanes, .code yX10_joinLanes cX10_joinLanes 3 (some .boolean)) := fun _ _ _ _ hM _ => sr_meth (y := 82) (l0 := mt_82) hM rfl rfl (by decide +kernel) ok_82
theorem sd_83 : sd_D 83 (yX11_init, .code yX11_init cX11_init 2 none) := fun _ _ _ _ hM _ => sr_meth (y := 83) (l0 := mt_83) hM rfl rfl (by decide +kernel) ok_83
theorem sd_84 : sd_D 84 (yX11_feed, .code yX11_feed cX11_feed 7 (some .int)) := fun _ _ _ _ hM _ => sr_meth (y := 84) (l0 := mt_84) hM rfl rfl (by decide +kernel) ok_84
theorem sd_85 : sd_D 85 (yX11_bytesIn, .code yX11_bytesIn cX11_bytesIn 3 (some .int)) := fun _ _ _ _ hM _ => sr_meth (y := 85) (l0 := mt_85) hM rfl rfl (by decide +kernel) ok_85
theorem sd_86 : sd_D 86 (yX11_end, .code yX11_end cX11_end 2 (some .boolean)) := fun _ _ _ _ hM _ => sr_meth (y := 86) (l0 := mt_86) hM rfl rfl (by decide +kernel) ok_86
theorem sd_87 : sd_D 87 (yX11_fault, .code yX11_fault cX11_fault 3 (some .int)) := fun _ _ _ _ hM _ => sr_meth (y := 87) (l0 := mt_87) hM rfl rfl (by decide +kernel) ok_87
theorem sd_88 : sd_D 88 (yX11_text, .code yX11_text cX11_text 2 (some .int)) := fun _ _ _ _ hM _ => sr_meth (y := 88) (l0 := mt_88) hM rfl rfl (by decide +kernel) ok_88
theorem sd_89 : sd_D 89 (yX11_takeTown, .code yX11_takeTown cX11_takeTown 2 (some .int)) := fun _ _ _ _ hM _ => sr_meth (y := 89) (l0 := mt_89) hM rfl rfl (by decide +kernel) ok_89
theorem sd_90 : sd_D 90 (yX11_takeLaw, .code yX11_takeLaw cX11_takeLaw 1 (some .int)) := fun _ _ _ _ hM _ => sr_meth (y := 90) (l0 := mt_90) hM rfl rfl (by decide +kernel) ok_90
theorem sd_91 : sd_D 91 (yX11_rule, .code yX11_rule cX11_rule 2 (some .int)) := fun _ _ _ _ hM _ => sr_meth (y := 91) (l0 := mt_91) hM rfl rfl (by decide +kernel) ok_91
theorem sd_92 : sd_D 92 (yX11_noTown, .code yX11_noTown cX11_noTown 1 (some .boolean)) := fun _ _ _ _ hM _ => sr_meth (y := 92) (l0 := mt_92) hM rfl rfl (by decide +kernel) ok_92
theorem sd_94 : sd_D 94 (yX11_steps, .code yX11_steps cX11_steps 3 (some .int)) := fun _ _ _ _ hM _ => sr_meth (y := 94) (l0 := mt_94) hM rfl rfl (by decide +kernel) ok_94
theorem sd_95 : sd_D 95 (yX11_law, .code yX11_law cX11_law 2 (some .boolean)) := fun _ _ _ _ hM _ => sr_meth (y := 95) (l0 := mt_95) hM rfl rfl (by decide +kernel) ok_95
theorem sd_96 : sd_D 96 (yX11_heldLaw, .code yX11_heldLaw cX11_heldLaw 1 (some (.object "BelievedOnce$Law"))) := fun _ _ _ _ hM _ => sr_meth (y := 96) (l0 := mt_96) hM rfl rfl (by decide +kernel) ok_96
theorem sd_97 : sd_D 97 (yX11_danger, .code yX11_danger cX11_danger 2 (some .boolean)) := fun _ _ _ _ hM _ => sr_meth (y := 97) (l0 := mt_97) hM rfl rfl (by decide +kernel) ok_97
theorem sd_98 : sd_D 98 (yX11_refuse, .code yX11_refuse cX11_refuse 2 (some .int)) := fun _ _ _ _ hM _ => sr_meth (y := 98) (l0 := mt_98) hM rfl rfl (by decide +kernel) ok_98
theorem sd_99 : sd_D 99 (yX11_hours, .code yX11_hours cX11_hours 3 (some .int)) := fun _ _ _ _ hM _ => sr_meth (y := 99) (l0 := mt_99) hM rfl rfl (by decide +kernel) ok_99
theorem sd_100 : sd_D 100 (yX11_passLoggedHour, .code yX11_passLoggedHour cX11_passLoggedHour 3 none) := fun _ _ _ _ hM _ => sr_meth (y := 100) (l0 := mt_100) hM rfl rfl (by decide +kernel) ok_100
theorem sd_101 : sd_D 101 (yX11_walk, .code yX11_walk cX11_walk 2 (some .int)) := fun _ _ _ _ hM _ => sr_meth (y := 101) (l0 := mt_101) hM rfl rfl (by decide +kernel) ok_101
theorem sd_102 : sd_D 102 (yX11_cry, .code yX11_cry cX11_cry 1 (some .int)) := fun _ _ _ _ hM _ => sr_meth (y := 102) (l0 := mt_102) hM rfl rfl (by decide +kernel) ok_102
theorem sd_103 : sd_D 103 (yX11_whisper, .code yX11_whisper cX11_whisper 1 (some .int)) := fun _ _ _ _ hM _ => sr_meth (y := 103) (l0 := mt_103) hM rfl rfl (by decide +kernel) ok_103
theorem sd_104 : sd_D 104 (yX11_heir, .code yX11_heir cX11_heir 1 (some .int)) := fun _ _ _ _ hM _ => sr_meth (y := 104) (l0 := mt_104) hM rfl rfl (by decide +kernel) ok_104
theorem sd_105 : sd_D 105 (yX11_begin, .code yX11_begin cX11_begin 4 (some .int)) := fun _ _ _ _ hM _ => sr_meth (y := 105) (l0 := mt_105) hM rfl rfl (by decide +kernel) ok_105
theorem sd_106 : sd_D 106 (yX11_give, .code yX11_give cX11_give 2 (some .int)) := fun _ _ _ _ hM _ => sr_meth (y := 106) (l0 := mt_106) hM rfl rfl (by decide +kernel) ok_106
theorem sd_107 : sd_D 107 (yX11_years, .code yX11_years cX11_years 7 (some .int)) := fun _ _ _ _ hM _ => sr_meth (y := 107) (l0 := mt_107) hM rfl rfl (by decide +kernel) ok_107
theorem sd_108 : sd_D 108 (yX11_nextDraw, .code yX11_nextDraw cX11_nextDraw 2 (some .long)) := fun _ _ _ _ hM _ => sr_meth (y := 108) (l0 := mt_108) hM rfl rfl (by decide +kernel) ok_108
theorem sd_109 : sd_D 109 (yX11_drawn, .code yX11_drawn cX11_drawn 3 (some .int)) := fun _ _ _ _ hM _ => sr_meth (y := 109) (l0 := mt_109) hM rfl rfl (by decide +kernel) ok_109
theorem sd_110 : sd_D 110 (yX11_drawTrouble, .code yX11_drawTrouble cX11_drawTrouble 7 (some .long)) := fun _ _ _ _ hM _ => sr_meth (y := 110) (l0 := mt_110) hM rfl rfl (by decide +kernel) ok_110
theorem sd_111 : sd_D 111 (yX11_drawWalk, .code yX11_drawWalk cX11_drawWalk 6 (some .long)) := fun _ _ _ _ hM _ => sr_meth (y := 111) (l0 := mt_111) hM rfl rfl (by decide +kernel) ok_111
theorem sd_112 : sd_D 112 (yX11_status, .code yX11_status cX11_status 2 (some .int)) := fun _ _ _ _ hM _ => sr_meth (y := 112) (l0 := mt_112) hM rfl rfl (by decide +kernel) ok_112
theorem sd_113 : sd_D 113 (yX11_undo, .code yX11_undo cX11_undo 1 (some .int)) := fun _ _ _ _ hM _ => sr_meth (y := 113) (l0 := mt_113) hM rfl rfl (by decide +kernel) ok_113
theorem sd_114 : sd_D 114 (yX11_log, .code yX11_log cX11_log 3 (some .int)) := fun _ _ _ _ hM _ => sr_meth (y := 114) (l0 := mt_114) hM rfl rfl (by decide +kernel) ok_114
theorem sd_115 : sd_D 115 (yX11_logLength, .code yX11_logLength cX11_logLength 1 (some .int)) := fun _ _ _ _ hM _ => sr_meth (y := 115) (l0 := mt_115) hM rfl rfl (by decide +kernel) ok_115
theorem sd_116 : sd_D 116 (yX11_lost, .code yX11_lost cX11_lost 2 (some .int)) := fun _ _ _ _ hM _ => sr_meth (y := 116) (l0 := mt_116) hM rfl rfl (by decide +kernel) ok_116
theorem sd_117 : sd_D 117 (yX11_left, .code yX11_left cX11_left 3 (some .int)) := fun _ _ _ _ hM _ => sr_meth (y := 117) (l0 := mt_117) hM rfl rfl (by decide +kernel) ok_117
theorem sd_118 : sd_D 118 (yX11_saved, .code yX11_saved cX11_saved 3 (some .int)) := fun _ _ _ _ hM _ => sr_meth (y := 118) (l0 := mt_118) hM rfl rfl (by decide +kernel) ok_118
theorem sd_119 : sd_D 119 (yX11_cryAt, .code yX11_cryAt cX11_cryAt 3 (some .int)) := fun _ _ _ _ hM _ => sr_meth (y := 119) (l0 := mt_119) hM rfl rfl (by decide +kernel) ok_119
theorem sd_120 : sd_D 120 (yX11_quiet, .code yX11_quiet cX11_quiet 1 (some .int)) := fun _ _ _ _ hM _ => sr_meth (y := 120) (l0 := mt_120) hM rfl rfl (by decide +kernel) ok_120
theorem sd_121 : sd_D 121 (yX11_call, .code yX11_call cX11_call 3 (some .int)) := fun _ _ _ _ hM _ => sr_meth (y := 121) (l0 := mt_121) hM rfl rfl (by decide +kernel) ok_121
theorem sd_122 : sd_D 122 (yX11_callValue, .code yX11_callValue cX11_callValue 7 (some .int)) := fun _ _ _ _ hM _ => sr_meth (y := 122) (l0 := mt_122) hM rfl rfl (by decide +kernel) ok_122
theorem sd_123 : sd_D 123 (yX11_callsToHeed, .code yX11_callsToHeed cX11_callsToHeed 4 (some .int)) := fun _ _ _ _ hM _ => sr_meth (y := 123) (l0 := mt_123) hM rfl rfl (by decide +kernel) ok_123
theorem sd_124 : sd_D 124 (yX11_round, .code yX11_round cX11_round 3 (some .int)) := fun _ _ _ _ hM _ => sr_meth (y := 124) (l0 := mt_124) hM rfl rfl (by decide +kernel) ok_124
theorem sd_125 : sd_D 125 (yX11_cover, .code yX11_cover cX11_cover 4 (some .int)) := fun _ _ _ _ hM _ => sr_meth (y := 125) (l0 := mt_125) hM rfl rfl (by decide +kernel) ok_125
theorem sd_126 : sd_D 126 (yX11_seen, .code yX11_seen cX11_seen 5 (some .int)) := fun _ _ _ _ hM _ => sr_meth (y := 126) (l0 := mt_126) hM rfl rfl (by decide +kernel) ok_126
theorem sd_127 : sd_D 127 (yX11_fits, .code yX11_fits cX11_fits 2 (some .int)) := fun _ _ _ _ hM _ => sr_meth (y := 127) (l0 := mt_127) hM rfl rfl (by decide +kernel) ok_127
theorem sd_128 : sd_D 128 (yX11_ask, .code yX11_ask cX11_ask 2 (some .int)) := fun _ _ _ _ hM _ => sr_meth (y := 128) (l0 := mt_128) hM rfl rfl (by decide +kernel) ok_128
theorem sd_129 : sd_D 129 (yX11_game, .code yX11_game cX11_game 6 (some .int)) := fun _ _ _ _ hM _ => sr_meth (y := 129) (l0 := mt_129) hM rfl rfl (by decide +kernel) ok_129
theorem sd_130 : sd_D 130 (yX11_isPair, .code yX11_isPair cX11_isPair 3 (some .boolean)) := fun _ _ _ _ hM _ => sr_meth (y := 130) (l0 := mt_130) hM rfl rfl (by decide +kernel) ok_130
theorem sd_131 : sd_D 131 (yX11_thiefHas, .code yX11_thiefHas cX11_thiefHas 5 (some .int)) := fun _ _ _ _ hM _ => sr_meth (y := 131) (l0 := mt_131) hM rfl rfl (by decide +kernel) ok_131
theorem sd_132 : sd_D 132 (yX11_watchmanHas, .code yX11_watchmanHas cX11_watchmanHas 5 (some .int)) := fun _ _ _ _ hM _ => sr_meth (y := 132) (l0 := mt_132) hM rfl rfl (by decide +kernel) ok_132
theorem sd_133 : sd_D 133 (yX11_rests, .code yX11_rests cX11_rests 7 (some .int)) := fun _ _ _ _ hM _ => sr_meth (y := 133) (l0 := mt_133) hM rfl rfl (by decide +kernel) ok_133
theorem sd_134 : sd_D 134 (yX11_isRest, .code yX11_isRest cX11_isRest 5 (some .boolean)) := fun _ _ _ _ hM _ => sr_meth (y := 134) (l0 := mt_134) hM rfl rfl (by decide +kernel) ok_134
theorem sd_135 : sd_D 135 (yX11_odds, .code yX11_odds cX11_odds 10 (some .int)) := fun _ _ _ _ hM _ => sr_meth (y := 135) (l0 := mt_135) hM rfl rfl (by decide +kernel) ok_135
theorem sd_136 : sd_D 136 (yX11_partOf, .code yX11_partOf cX11_partOf 8 (some .long)) := fun _ _ _ _ hM _ => sr_meth (y := 136) (l0 := mt_136) hM rfl rfl (by decide +kernel) ok_136
theorem sd_137 : sd_D 137 (yX11_shares, .code yX11_shares cX11_shares 4 (some .int)) := fun _ _ _ _ hM _ => sr_meth (y := 137) (l0 := mt_137) hM rfl rfl (by decide +kernel) ok_137
theorem sd_138 : sd_D 138 (yX11_most, .code yX11_most cX11_most 2 (some .int)) := fun _ _ _ _ hM _ => sr_meth (y := 138) (l0 := mt_138) hM rfl rfl (by decide +kernel) ok_138
theorem sd_139 : sd_D 139 (yX11_topPlace, .code yX11_topPlace cX11_topPlace 4 (some .int)) := fun _ _ _ _ hM _ => sr_meth (y := 139) (l0 := mt_139) hM rfl rfl (by decide +kernel) ok_139
theorem sd_140 : sd_D 140 (yX11_rankOf, .code yX11_rankOf cX11_rankOf 3 (some .int)) := fun _ _ _ _ hM _ => sr_meth (y := 140) (l0 := mt_140) hM rfl rfl (by decide +kernel) ok_140
theorem sd_141 : sd_D 141 (yX11_ruins, .code yX11_ruins cX11_ruins 3 (some .int)) := fun _ _ _ _ hM _ => sr_meth (y := 141) (l0 := mt_141) hM rfl rfl (by decide +kernel) ok_141
theorem sd_142 : sd_D 142 (yX11_image, .code yX11_image cX11_image 1 (some .int)) := fun _ _ _ _ hM _ => sr_meth (y := 142) (l0 := mt_142) hM rfl rfl (by decide +kernel) ok_142
theorem sd_143 : sd_D 143 (yX11_back, .code yX11_back cX11_back 1 (some .int)) := fun _ _ _ _ hM _ => sr_meth (y := 143) (l0 := mt_143) hM rfl rfl (by decide +kernel) ok_143
theorem sd_144 : sd_D 144 (yX11_count, .code yX11_count cX11_count 2 (some .int)) := fun _ _ _ _ hM _ => sr_meth (y := 144) (l0 := mt_144) hM rfl rfl (by decide +kernel) ok_144
theorem sd_145 : sd_D 145 (yX12_in, .code yX12_in cX12_in 3 (some .boolean)) := fun _ _ _ _ hM _ => sr_meth (y := 145) (l0 := mt_145) hM rfl rfl (by decide +kernel) ok_145
theorem sd_146 : sd_D 146 (yX12_has, .code yX12_has cX12_has 2 (some .boolean)) := fun _ _ _ _ hM _ => sr_meth (y := 146) (l0 := mt_146) hM rfl rfl (by decide +kernel) ok_146
theorem sd_147 : sd_D 147 (yX12_init, .code yX12_init cX12_init 1 none) := fun _ _ _ _ hM _ => sr_meth (y := 147) (l0 := mt_147) hM rfl rfl (by decide +kernel) ok_147
theorem sd_148 : sd_D 148 (yX12_thrown, .code yX12_thrown cX12_thrown 1 (some .int)) := fun _ _ _ _ hM _ => sr_meth (y := 148) (l0 := mt_148) hM rfl rfl (by decide +kernel) ok_148
theorem sd_149 : sd_D 149 (yX12_byteOf, .code yX12_byteOf cX12_byteOf 7 (some .int)) := fun _ _ _ _ hM _ => sr_meth (y := 149) (l0 := mt_149) hM rfl rfl (by decide +kernel) ok_149
theorem sd_150 : sd_D 150 (yX12_feed, .code yX12_feed cX12_feed 9 (some .int)) := fun _ _ _ _ hM _ => sr_meth (y := 150) (l0 := mt_150) hM rfl rfl (by decide +kernel) ok_150
theorem sd_151 : sd_D 151 (yX12_end, .code yX12_end cX12_end 2 (some .boolean)) := fun _ _ _ _ hM _ => sr_meth (y := 151) (l0 := mt_151) hM rfl rfl (by decide +kernel) ok_151
theorem sd_152 : sd_D 152 (yX12_here, .code yX12_here cX12_here 1 (some .int)) := fun _ _ _ _ hM _ => sr_meth (y := 152) (l0 := mt_152) hM rfl rfl (by decide +kernel) ok_152
theorem sd_153 : sd_D 153 (yX12_look, .code yX12_look cX12_look 1 (some .int)) := fun _ _ _ _ hM _ => sr_meth (y := 153) (l0 := mt_153) hM rfl rfl (by decide +kernel) ok_153
theorem sd_154 : sd_D 154 (yX12_bad, .code yX12_bad cX12_bad 1 none) := fun _ _ _ _ hM _ => sr_meth (y := 154) (l0 := mt_154) hM rfl rfl (by decide +kernel) ok_154
theorem sd_155 : sd_D 155 (yX12_isDigit, .code yX12_isDigit cX12_isDigit 1 (some .boolean)) := fun _ _ _ _ hM _ => sr_meth (y := 155) (l0 := mt_155) hM rfl rfl (by decide +kernel) ok_155
theorem sd_156 : sd_D 156 (yX12_put, .code yX12_put cX12_put 3 none) := fun _ _ _ _ hM _ => sr_meth (y := 156) (l0 := mt_156) hM rfl rfl (by decide +kernel) ok_156
theorem sd_157 : sd_D 157 (yX12_letterOf, .code yX12_letterOf cX12_letterOf 1 (some .int)) := fun _ _ _ _ hM _ => sr_meth (y := 157) (l0 := mt_157) hM rfl rfl (by decide +kernel) ok_157
theorem sd_158 : sd_D 158 (yX12_opens, .code yX12_opens cX12_opens 1 none) := fun _ _ _ _ hM _ => sr_meth (y := 158) (l0 := mt_158) hM rfl rfl (by decide +kernel) ok_158
theorem sd_159 : sd_D 159 (yX12_closes, .code yX12_closes cX12_closes 2 none) := fun _ _ _ _ hM _ => sr_meth (y := 159) (l0 := mt_159) hM rfl rfl (by decide +kernel) ok_159
theorem sd_160 : sd_D 160 (yX12_plainNumber, .code yX12_plainNumber cX12_plainNumber 3 (some .int)) := fun _ _ _ _ hM _ => sr_meth (y := 160) (l0 := mt_160) hM rfl rfl (by decide +kernel) ok_160
theorem sd_161 : sd_D 161 (yX12_atom, .code yX12_atom cX12_atom 2 none) := fun _ _ _ _ hM _ => sr_meth (y := 161) (l0 := mt_161) hM rfl rfl (by decide +kernel) ok_161
theorem sd_162 : sd_D 162 (yX12_term, .code yX12_term cX12_term 2 none) := fun _ _ _ _ hM _ => sr_meth (y := 162) (l0 := mt_162) hM rfl rfl (by decide +kernel) ok_162
theorem sd_163 : sd_D 163 (yX12_sum, .code yX12_sum cX12_sum 2 none) := fun _ _ _ _ hM _ => sr_meth (y := 163) (l0 := mt_163) hM rfl rfl (by decide +kernel) ok_163
theorem sd_164 : sd_D 164 (yX12_isSign, .code yX12_isSign cX12_isSign 1 (some .boolean)) := fun _ _ _ _ hM _ => sr_meth (y := 164) (l0 := mt_164) hM rfl rfl (by decide +kernel) ok_164
theorem sd_165 : sd_D 165 (yX12_compare, .code yX12_compare cX12_compare 2 none) := fun _ _ _ _ hM _ => sr_meth (y := 165) (l0 := mt_165) hM rfl rfl (by decide +kernel) ok_165
theorem sd_166 : sd_D 166 (yX12_unit, .code yX12_unit cX12_unit 2 none) := fun _ _ _ _ hM _ => sr_meth (y := 166) (l0 := mt_166) hM rfl rfl (by decide +kernel) ok_166
theorem sd_167 : sd_D 167 (yX12_goOnAnd, .code yX12_goOnAnd cX12_goOnAnd 1 none) := fun _ _ _ _ hM _ => sr_meth (y := 167) (l0 := mt_167) hM rfl rfl (by decide +kernel) ok_167
theorem sd_168 : sd_D 168 (yX12_goOnOr, .code yX12_goOnOr cX12_goOnOr 1 none) := fun _ _ _ _ hM _ => sr_meth (y := 168) (l0 := mt_168) hM rfl rfl (by decide +kernel) ok_168
theorem sd_169 : sd_D 169 (yX12_condition, .code yX12_condition cX12_condition 1 none) := fun _ _ _ _ hM _ => sr_meth (y := 169) (l0 := mt_169) hM rfl rfl (by decide +kernel) ok_169
theorem sd_170 : sd_D 170 (yX12_clause, .code yX12_clause cX12_clause 3 none) := fun _ _ _ _ hM _ => sr_meth (y := 170) (l0 := mt_170) hM rfl rfl (by decide +kernel) ok_170
theorem sd_171 : sd_D 171 (yX12_open, .code yX12_open cX12_open 2 none) := fun _ _ _ _ hM _ => sr_meth (y := 171) (l0 := mt_171) hM rfl rfl (by decide +kernel) ok_171
theorem sd_172 : sd_D 172 (yX12_atEnd, .code yX12_atEnd cX12_atEnd 1 (some .int)) := fun _ _ _ _ hM _ => sr_meth (y := 172) (l0 := mt_172) hM rfl rfl (by decide +kernel) ok_172
theorem sd_173 : sd_D 173 (yX12_readLaw, .code yX12_readLaw cX12_readLaw 2 (some .int)) := fun _ _ _ _ hM _ => sr_meth (y := 173) (l0 := mt_173) hM rfl rfl (by decide +kernel) ok_173
theorem sd_174 : sd_D 174 (yX12_bounded, .code yX12_bounded cX12_bounded 2 (some .int)) := fun _ _ _ _ hM _ => sr_meth (y := 174) (l0 := mt_174) hM rfl rfl (by decide +kernel) ok_174
theorem sd_175 : sd_D 175 (yX12_worked, .code yX12_worked cX12_worked 5 (some .int)) := fun _ _ _ _ hM _ => sr_meth (y := 175) (l0 := mt_175) hM rfl rfl (by decide +kernel) ok_175
theorem sd_176 : sd_D 176 (yX12_workOut, .code yX12_workOut cX12_workOut 6 (some .int)) := fun _ _ _ _ hM _ => sr_meth (y := 176) (l0 := mt_176) hM rfl rfl (by decide +kernel) ok_176
theorem sd_177 : sd_D 177 (yX12_worthOf, .code yX12_worthOf cX12_worthOf 3 (some .int)) := fun _ _ _ _ hM _ => sr_meth (y := 177) (l0 := mt_177) hM rfl rfl (by decide +kernel) ok_177
theorem sd_178 : sd_D 178 (yX12_number, .code yX12_number cX12_number 4 (some .int)) := fun _ _ _ _ hM _ => sr_meth (y := 178) (l0 := mt_178) hM rfl rfl (by decide +kernel) ok_178
theorem sd_179 : sd_D 179 (yX12_itemOf, .code yX12_itemOf cX12_itemOf 2 (some .int)) := fun _ _ _ _ hM _ => sr_meth (y := 179) (l0 := mt_179) hM rfl rfl (by decide +kernel) ok_179
theorem sd_180 : sd_D 180 (yX12_lowest, .code yX12_lowest cX12_lowest 2 (some .int)) := fun _ _ _ _ hM _ => sr_meth (y := 180) (l0 := mt_180) hM rfl rfl (by decide +kernel) ok_180
theorem sd_181 : sd_D 181 (yX12_highest, .code yX12_highest cX12_highest 2 (some .int)) := fun _ _ _ _ hM _ => sr_meth (y := 181) (l0 := mt_181) hM rfl rfl (by decide +kernel) ok_181
theorem sd_182 : sd_D 182 (yX12_usual, .code yX12_usual cX12_usual 2 (some .int)) := fun _ _ _ _ hM _ => sr_meth (y := 182) (l0 := mt_182) hM rfl rfl (by decide +kernel) ok_182
theorem sd_183 : sd_D 183 (yX12_items, .code yX12_items cX12_items 7 none) := fun _ _ _ _ hM _ => sr_meth (y := 183) (l0 := mt_183) hM rfl rfl (by decide +kernel) ok_183
theorem sd_184 : sd_D 184 (yX12_isWhole, .code yX12_isWhole cX12_isWhole 3 (some .boolean)) := fun _ _ _ _ hM _ => sr_meth (y := 184) (l0 := mt_184) hM rfl rfl (by decide +kernel) ok_184
theorem sd_185 : sd_D 185 (yX12_readTown, .code yX12_readTown cX12_readTown 4 (some .int)) := fun _ _ _ _ hM _ => sr_meth (y := 185) (l0 := mt_185) hM rfl rfl (by decide +kernel) ok_185
theorem sd_186 : sd_D 186 (yX12_fault, .code yX12_fault cX12_fault 2 (some .int)) := fun _ _ _ _ hM _ => sr_meth (y := 186) (l0 := mt_186) hM rfl rfl (by decide +kernel) ok_186
theorem sd_187 : sd_D 187 (yX12_layTold, .code yX12_layTold cX12_layTold 2 none) := fun _ _ _ _ hM _ => sr_meth (y := 187) (l0 := mt_187) hM rfl rfl (by decide +kernel) ok_187
theorem sd_188 : sd_D 188 (yX12_laySteps, .code yX12_laySteps cX12_laySteps 5 none) := fun _ _ _ _ hM _ => sr_meth (y := 188) (l0 := mt_188) hM rfl rfl (by decide +kernel) ok_188
theorem sd_189 : sd_D 189 (yX12_takeTown, .code yX12_takeTown cX12_takeTown 2 (some .int)) := fun _ _ _ _ hM _ => sr_meth (y := 189) (l0 := mt_189) hM rfl rfl (by decide +kernel) ok_189
theorem sd_190 : sd_D 190 (yX12_text, .code yX12_text cX12_text 2 (some .int)) := fun _ _ _ _ hM _ => sr_meth (y := 190) (l0 := mt_190) hM rfl rfl (by decide +kernel) ok_190
theorem sd_191 : sd_D 191 (yX12_isSpot, .code yX12_isSpot cX12_isSpot 2 (some .boolean)) := fun _ _ _ _ hM _ => sr_meth (y := 191) (l0 := mt_191) hM rfl rfl (by decide +kernel) ok_191
theorem sd_192 : sd_D 192 (yX12_stepsFrom, .code yX12_stepsFrom cX12_stepsFrom 3 (some .int)) := fun _ _ _ _ hM _ => sr_meth (y := 192) (l0 := mt_192) hM rfl rfl (by decide +kernel) ok_192
theorem sd_193 : sd_D 193 (yX12_isTrouble, .code yX12_isTrouble cX12_isTrouble 2 (some .boolean)) := fun _ _ _ _ hM _ => sr_meth (y := 193) (l0 := mt_193) hM rfl rfl (by decide +kernel) ok_193
theorem sd_194 : sd_D 194 (yX12_troubles, .code yX12_troubles cX12_troubles 3 (some .int)) := fun _ _ _ _ hM _ => sr_meth (y := 194) (l0 := mt_194) hM rfl rfl (by decide +kernel) ok_194
theorem sd_195 : sd_D 195 (yX12_seenFrom, .code yX12_seenFrom cX12_seenFrom 4 (some .int)) := fun _ _ _ _ hM _ => sr_meth (y := 195) (l0 := mt_195) hM rfl rfl (by decide +kernel) ok_195
theorem sd_196 : sd_D 196 (yX12_growthOf, .code yX12_growthOf cX12_growthOf 5 (some .int)) := fun _ _ _ _ hM _ => sr_meth (y := 196) (l0 := mt_196) hM rfl rfl (by decide +kernel) ok_196
theorem sd_197 : sd_D 197 (yX12_spread, .code yX12_spread cX12_spread 3 none) := fun _ _ _ _ hM _ => sr_meth (y := 197) (l0 := mt_197) hM rfl rfl (by decide +kernel) ok_197
theorem sd_198 : sd_D 198 (yX12_live, .code yX12_live cX12_live 5 (some .int)) := fun _ _ _ _ hM _ => sr_meth (y := 198) (l0 := mt_198) hM rfl rfl (by decide +kernel) ok_198
theorem sd_199 : sd_D 199 (yX12_passHour, .code yX12_passHour cX12_passHour 3 none) := fun _ _ _ _ hM _ => sr_meth (y := 199) (l0 := mt_199) hM rfl rfl (by decide +kernel) ok_199
theorem sd_200 : sd_D 200 (yX12_rule, .code yX12_rule cX12_rule 2 (some .int)) := fun _ _ _ _ hM _ => sr_meth (y := 200) (l0 := mt_200) hM rfl rfl (by decide +kernel) ok_200
theorem sd_201 : sd_D 201 (yX12_spot, .code yX12_spot cX12_spot 3 (some .int)) := fun _ _ _ _ hM _ => sr_meth (y := 201) (l0 := mt_201) hM rfl rfl (by decide +kernel) ok_201
theorem sd_202 : sd_D 202 (yX12_steps, .code yX12_steps cX12_steps 3 (some .int)) := fun _ _ _ _ hM _ => sr_meth (y := 202) (l0 := mt_202) hM rfl rfl (by decide +kernel) ok_202
theorem sd_203 : sd_D 203 (yX12_law, .code yX12_law cX12_law 2 (some .boolean)) := fun _ _ _ _ hM _ => sr_meth (y := 203) (l0 := mt_203) hM rfl rfl (by decide +kernel) ok_203
theorem sd_204 : sd_D 204 (yX12_danger, .code yX12_danger cX12_danger 2 (some .boolean)) := fun _ _ _ _ hM _ => sr_meth (y := 204) (l0 := mt_204) hM rfl rfl (by decide +kernel) ok_204
theorem sd_205 : sd_D 205 (yX12_keep, .code yX12_keep cX12_keep 2 none) := fun _ _ _ _ hM _ => sr_meth (y := 205) (l0 := mt_205) hM rfl rfl (by decide +kernel) ok_205
theorem sd_206 : sd_D 206 (yX12_isRefused, .code yX12_isRefused cX12_isRefused 2 (some .boolean)) := fun _ _ _ _ hM _ => sr_meth (y := 206) (l0 := mt_206) hM rfl rfl (by decide +kernel) ok_206
theorem sd_207 : sd_D 207 (yX12_areHours, .code yX12_areHours cX12_areHours 2 (some .boolean)) := fun _ _ _ _ hM _ => sr_meth (y := 207) (l0 := mt_207) hM rfl rfl (by decide +kernel) ok_207
theorem sd_208 : sd_D 208 (yX12_hours, .code yX12_hours cX12_hours 3 (some .int)) := fun _ _ _ _ hM _ => sr_meth (y := 208) (l0 := mt_208) hM rfl rfl (by decide +kernel) ok_208
theorem sd_209 : sd_D 209 (yX12_walk, .code yX12_walk cX12_walk 2 (some .int)) := fun _ _ _ _ hM _ => sr_meth (y := 209) (l0 := mt_209) hM rfl rfl (by decide +kernel) ok_209
theorem sd_210 : sd_D 210 (yX12_cryNow, .code yX12_cryNow cX12_cryNow 3 (some .int)) := fun _ _ _ _ hM _ => sr_meth (y := 210) (l0 := mt_210) hM rfl rfl (by decide +kernel) ok_210
theorem sd_211 : sd_D 211 (yX12_cry, .code yX12_cry cX12_cry 1 (some .int)) := fun _ _ _ _ hM _ => sr_meth (y := 211) (l0 := mt_211) hM rfl rfl (by decide +kernel) ok_211
theorem sd_212 : sd_D 212 (yX12_whisper, .code yX12_whisper cX12_whisper 2 (some .int)) := fun _ _ _ _ hM _ => sr_meth (y := 212) (l0 := mt_212) hM rfl rfl (by decide +kernel) ok_212
theorem sd_213 : sd_D 213 (yX12_heir, .code yX12_heir cX12_heir 1 (some .int)) := fun _ _ _ _ hM _ => sr_meth (y := 213) (l0 := mt_213) hM rfl rfl (by decide +kernel) ok_213
theorem sd_214 : sd_D 214 (yX12_beginNow, .code yX12_beginNow cX12_beginNow 4 none) := fun _ _ _ _ hM _ => sr_meth (y := 214) (l0 := mt_214) hM rfl rfl (by decide +kernel) ok_214
theorem sd_215 : sd_D 215 (yX12_begin, .code yX12_begin cX12_begin 4 (some .int)) := fun _ _ _ _ hM _ => sr_meth (y := 215) (l0 := mt_215) hM rfl rfl (by decide +kernel) ok_215
theorem sd_216 : sd_D 216 (yX12_give, .code yX12_give cX12_give 2 (some .int)) := fun _ _ _ _ hM _ => sr_meth (y := 216) (l0 := mt_216) hM rfl rfl (by decide +kernel) ok_216
theorem sd_217 : sd_D 217 (yX12_draw, .code yX12_draw cX12_draw 2 (some .int)) := fun _ _ _ _ hM _ => sr_meth (y := 217) (l0 := mt_217) hM rfl rfl (by decide +kernel) ok_217
theorem sd_218 : sd_D 218 (yX12_drawHour, .code yX12_drawHour cX12_drawHour 4 none) := fun _ _ _ _ hM _ => sr_meth (y := 218) (l0 := mt_218) hM rfl rfl (by decide +kernel) ok_218
theorem sd_219 : sd_D 219 (yX12_years, .code yX12_years cX12_years 5 (some .int)) := fun _ _ _ _ hM _ => sr_meth (y := 219) (l0 := mt_219) hM rfl rfl (by decide +kernel) ok_219
theorem sd_220 : sd_D 220 (yX12_status, .code yX12_status cX12_status 2 (some .int)) := fun _ _ _ _ hM _ => sr_meth (y := 220) (l0 := mt_220) hM rfl rfl (by decide +kernel) ok_220
theorem sd_221 : sd_D 221 (yX12_undo, .code yX12_undo cX12_undo 2 (some .int)) := fun _ _ _ _ hM _ => sr_meth (y := 221) (l0 := mt_221) hM rfl rfl (by decide +kernel) ok_221
theorem sd_222 : sd_D 222 (yX12_log, .code yX12_log cX12_log 3 (some .int)) := fun _ _ _ _ hM _ => sr_meth (y := 222) (l0 := mt_222) hM rfl rfl (by decide +kernel) ok_222
theorem sd_223 : sd_D 223 (yX12_putAside, .code yX12_putAside cX12_putAside 3 none) := fun _ _ _ _ hM _ => sr_meth (y := 223) (l0 := mt_223) hM rfl rfl (by decide +kernel) ok_223
theorem sd_224 : sd_D 224 (yX12_takeBack, .code yX12_takeBack cX12_takeBack 3 none) := fun _ _ _ _ hM _ => sr_meth (y := 224) (l0 := mt_224) hM rfl rfl (by decide +kernel) ok_224
theorem sd_225 : sd_D 225 (yX12_liveHours, .code yX12_liveHours cX12_liveHours 4 (some .int)) := fun _ _ _ _ hM _ => sr_meth (y := 225) (l0 := mt_225) hM rfl rfl (by decide +kernel) ok_225
theorem sd_226 : sd_D 226 (yX12_lostBy, .code yX12_lostBy cX12_lostBy 4 (some .int)) := fun _ _ _ _ hM _ => sr_meth (y := 226) (l0 := mt_226) hM rfl rfl (by decide +kernel) ok_226
theorem sd_227 : sd_D 227 (yX12_lost, .code yX12_lost cX12_lost 2 (some .int)) := fun _ _ _ _ hM _ => sr_meth (y := 227) (l0 := mt_227) hM rfl rfl (by decide +kernel) ok_227
theorem sd_228 : sd_D 228 (yX12_left, .code yX12_left cX12_left 4 (some .int)) := fun _ _ _ _ hM _ => sr_meth (y := 228) (l0 := mt_228) hM rfl rfl (by decide +kernel) ok_228
theorem sd_229 : sd_D 229 (yX12_saved, .code yX12_saved cX12_saved 2 (some .int)) := fun _ _ _ _ hM _ => sr_meth (y := 229) (l0 := mt_229) hM rfl rfl (by decide +kernel) ok_229
theorem sd_230 : sd_D 230 (yX12_cryAt, .code yX12_cryAt cX12_cryAt 7 (some .int)) := fun _ _ _ _ hM _ => sr_meth (y := 230) (l0 := mt_230) hM rfl rfl (by decide +kernel) ok_230
theorem sd_231 : sd_D 231 (yX12_quiet, .code yX12_quiet cX12_quiet 3 (some .int)) := fun _ _ _ _ hM _ => sr_meth (y := 231) (l0 := mt_231) hM rfl rfl (by decide +kernel) ok_231
theorem sd_232 : sd_D 232 (yX12_chancesAll, .code yX12_chancesAll cX12_chancesAll 3 (some .int)) := fun _ _ _ _ hM _ => sr_meth (y := 232) (l0 := mt_232) hM rfl rfl (by decide +kernel) ok_232
theorem sd_233 : sd_D 233 (yX12_valueWith, .code yX12_valueWith cX12_valueWith 7 (some .int)) := fun _ _ _ _ hM _ => sr_meth (y := 233) (l0 := mt_233) hM rfl rfl (by decide +kernel) ok_233
theorem sd_234 : sd_D 234 (yX12_call, .code yX12_call cX12_call 6 (some .int)) := fun _ _ _ _ hM _ => sr_meth (y := 234) (l0 := mt_234) hM rfl rfl (by decide +kernel) ok_234
theorem sd_235 : sd_D 235 (yX12_worthOfAll, .code yX12_worthOfAll cX12_worthOfAll 4 (some .int)) := fun _ _ _ _ hM _ => sr_meth (y := 235) (l0 := mt_235) hM rfl rfl (by decide +kernel) ok_235
theorem sd_236 : sd_D 236 (yX12_tryRound, .code yX12_tryRound cX12_tryRound 6 none) := fun _ _ _ _ hM _ => sr_meth (y := 236) (l0 := mt_236) hM rfl rfl (by decide +kernel) ok_236
theorem sd_237 : sd_D 237 (yX12_round, .code yX12_round cX12_round 3 (some .int)) := fun _ _ _ _ hM _ => sr_meth (y := 237) (l0 := mt_237) hM rfl rfl (by decide +kernel) ok_237
theorem sd_238 : sd_D 238 (yX12_cover, .code yX12_cover cX12_cover 5 (some .int)) := fun _ _ _ _ hM _ => sr_meth (y := 238) (l0 := mt_238) hM rfl rfl (by decide +kernel) ok_238
theorem sd_239 : sd_D 239 (yX12_seen, .code yX12_seen cX12_seen 5 (some .int)) := fun _ _ _ _ hM _ => sr_meth (y := 239) (l0 := mt_239) hM rfl rfl (by decide +kernel) ok_239
theorem sd_240 : sd_D 240 (yX12_layTrail, .code yX12_layTrail cX12_layTrail 4 none) := fun _ _ _ _ hM _ => sr_meth (y := 240) (l0 := mt_240) hM rfl rfl (by decide +kernel) ok_240
theorem sd_241 : sd_D 241 (yX12_isCode, .code yX12_isCode cX12_isCode 2 (some .boolean)) := fun _ _ _ _ hM _ => sr_meth (y := 241) (l0 := mt_241) hM rfl rfl (by decide +kernel) ok_241
theorem sd_242 : sd_D 242 (yX12_isFit, .code yX12_isFit cX12_isFit 3 (some .boolean)) := fun _ _ _ _ hM _ => sr_meth (y := 242) (l0 := mt_242) hM rfl rfl (by decide +kernel) ok_242
theorem sd_243 : sd_D 243 (yX12_fits, .code yX12_fits cX12_fits 4 (some .int)) := fun _ _ _ _ hM _ => sr_meth (y := 243) (l0 := mt_243) hM rfl rfl (by decide +kernel) ok_243
theorem sd_244 : sd_D 244 (yX12_ask, .code yX12_ask cX12_ask 8 (some .int)) := fun _ _ _ _ hM _ => sr_meth (y := 244) (l0 := mt_244) hM rfl rfl (by decide +kernel) ok_244
theorem sd_245 : sd_D 245 (yX12_thiefHas, .code yX12_thiefHas cX12_thiefHas 5 (some .int)) := fun _ _ _ _ hM _ => sr_meth (y := 245) (l0 := mt_245) hM rfl rfl (by decide +kernel) ok_245
theorem sd_246 : sd_D 246 (yX12_heHas, .code yX12_heHas cX12_heHas 5 (some .int)) := fun _ _ _ _ hM _ => sr_meth (y := 246) (l0 := mt_246) hM rfl rfl (by decide +kernel) ok_246
theorem sd_247 : sd_D 247 (yX12_areTwo, .code yX12_areTwo cX12_areTwo 3 (some .boolean)) := fun _ _ _ _ hM _ => sr_meth (y := 247) (l0 := mt_247) hM rfl rfl (by decide +kernel) ok_247
theorem sd_248 : sd_D 248 (yX12_game, .code yX12_game cX12_game 6 (some .int)) := fun _ _ _ _ hM _ => sr_meth (y := 248) (l0 := mt_248) hM rfl rfl (by decide +kernel) ok_248
theorem sd_249 : sd_D 249 (yX12_isRest, .code yX12_isRest cX12_isRest 5 (some .boolean)) := fun _ _ _ _ hM _ => sr_meth (y := 249) (l0 := mt_249) hM rfl rfl (by decide +kernel) ok_249
theorem sd_250 : sd_D 250 (yX12_rests, .code yX12_rests cX12_rests 6 (some .int)) := fun _ _ _ _ hM _ => sr_meth (y := 250) (l0 := mt_250) hM rfl rfl (by decide +kernel) ok_250
theorem sd_251 : sd_D 251 (yX12_oddsFrom, .code yX12_oddsFrom cX12_oddsFrom 12 (some .int)) := fun _ _ _ _ hM _ => sr_meth (y := 251) (l0 := mt_251) hM rfl rfl (by decide +kernel) ok_251
theorem sd_252 : sd_D 252 (yX12_odds, .code yX12_odds cX12_odds 5 (some .int)) := fun _ _ _ _ hM _ => sr_meth (y := 252) (l0 := mt_252) hM rfl rfl (by decide +kernel) ok_252
theorem sd_253 : sd_D 253 (yX12_shares, .code yX12_shares cX12_shares 4 (some .int)) := fun _ _ _ _ hM _ => sr_meth (y := 253) (l0 := mt_253) hM rfl rfl (by decide +kernel) ok_253
theorem sd_254 : sd_D 254 (yX12_valueOf, .code yX12_valueOf cX12_valueOf 3 (some .int)) := fun _ _ _ _ hM _ => sr_meth (y := 254) (l0 := mt_254) hM rfl rfl (by decide +kernel) ok_254
theorem sd_255 : sd_D 255 (yX12_topBy, .code yX12_topBy cX12_topBy 4 (some .int)) := fun _ _ _ _ hM _ => sr_meth (y := 255) (l0 := mt_255) hM rfl rfl (by decide +kernel) ok_255
theorem sd_256 : sd_D 256 (yX12_onesOf, .code yX12_onesOf cX12_onesOf 4 (some .int)) := fun _ _ _ _ hM _ => sr_meth (y := 256) (l0 := mt_256) hM rfl rfl (by decide +kernel) ok_256
theorem sd_257 : sd_D 257 (yX12_ruins, .code yX12_ruins cX12_ruins 3 (some .int)) := fun _ _ _ _ hM _ => sr_meth (y := 257) (l0 := mt_257) hM rfl rfl (by decide +kernel) ok_257
theorem sd_258 : sd_D 258 (yX12_parts, .code yX12_parts cX12_parts 5 (some .int)) := fun _ _ _ _ hM _ => sr_meth (y := 258) (l0 := mt_258) hM rfl rfl (by decide +kernel) ok_258
theorem sd_259 : sd_D 259 (yX12_most, .code yX12_most cX12_most 2 (some .int)) := fun _ _ _ _ hM _ => sr_meth (y := 259) (l0 := mt_259) hM rfl rfl (by decide +kernel) ok_259
theorem sd_260 : sd_D 260 (yX12_image, .code yX12_image cX12_image 2 (some .int)) := fun _ _ _ _ hM _ => sr_meth (y := 260) (l0 := mt_260) hM rfl rfl (by decide +kernel) ok_260
theorem sd_261 : sd_D 261 (yX12_back, .code yX12_back cX12_back 2 (some .int)) := fun _ _ _ _ hM _ => sr_meth (y := 261) (l0 := mt_261) hM rfl rfl (by decide +kernel) ok_261
theorem sd_262 : sd_D 262 (yX12_count, .code yX12_count cX12_count 2 (some .int)) := fun _ _ _ _ hM _ => sr_meth (y := 262) (l0 := mt_262) hM rfl rfl (by decide +kernel) ok_262
theorem sd_263 : sd_D 263 (yJ6_bitCount_0f7a4, .code yJ6_bitCount_0f7a4 cJ6_bitCount_0f7a4 1 (some .int)) := fun _ _ _ _ hM _ => sr_meth (y := 263) (l0 := mt_263) hM rfl rfl (by decide +kernel) ok_263
theorem sd_264 : sd_D 264 (yJ9_floorMod_7cf53, .code yJ9_floorMod_7cf53 cJ9_floorMod_7cf53 3 (some .int)) := fun _ _ _ _ hM _ => sr_methF (y := 264) (l0 := mt_264) hM rfl rfl (by decide +kernel) ok_264
theorem sd_265 : sd_D 265 (yJ9_max_7cf53, .code yJ9_max_7cf53 cJ9_max_7cf53 2 (some .int)) := fun _ _ _ _ hM _ => sr_methF (y := 265) (l0 := mt_265) hM rfl rfl (by decide +kernel) ok_265
theorem sd_266 : sd_D 266 (yJ9_max_f86c9, .code yJ9_max_f86c9 cJ9_max_f86c9 4 (some .long)) := fun _ _ _ _ hM _ => sr_methF (y := 266) (l0 := mt_266) hM rfl rfl (by decide +kernel) ok_266
theorem sd_267 : sd_D 267 (yJ9_min_7cf53, .code yJ9_min_7cf53 cJ9_min_7cf53 2 (some .int)) := fun _ _ _ _ hM _ => sr_methF (y := 267) (l0 := mt_267) hM rfl rfl (by decide +kernel) ok_267
theorem sd_268 : sd_D 268 (yJ9_min_f86c9, .code yJ9_min_f86c9 cJ9_min_f86c9 4 (some .long)) := fun _ _ _ _ hM _ => sr_methF (y := 268) (l0 := mt_268) hM rfl rfl (by decide +kernel) ok_268
theorem sd_269 : sd_D 269 (yJ0_length_8abf5, .code yJ0_length_8abf5 cJ0_length_8abf5 1 (some .int)) := fun _ _ _ _ hM _ => sr_meth (y := 269) (l0 := mt_269) hM rfl rfl (by decide +kernel) ok_269
theorem sd_270 : sd_D 270 (yJ0_charAt_5068e, .code yJ0_charAt_5068e cJ0_charAt_5068e 2 (some .char)) := fun _ _ _ _ hM _ => sr_meth (y := 270) (l0 := mt_270) hM rfl rfl (by decide +kernel) ok_270
theorem sd_271 : sd_D 271 (yJ0_coder_7d493, .code yJ0_coder_7d493 cJ0_coder_7d493 1 (some .byte)) := fun _ _ _ _ hM _ => sr_meth (y := 271) (l0 := mt_271) hM rfl rfl (by decide +kernel) ok_271
theorem sd_272 : sd_D 272 (yJ0_isLatin1_aae02, .code yJ0_isLatin1_aae02 cJ0_isLatin1_aae02 1 (some .boolean)) := fun _ _ _ _ hM _ => sr_meth (y := 272) (l0 := mt_272) hM rfl rfl (by decide +kernel) ok_272
theorem sd_273 : sd_D 273 (yJ0_checkIndex_df160, .code yJ0_checkIndex_df160 cJ0_checkIndex_df160 2 none) := by
  intro E l d hl hM hP args n I L P a ha hna
  have ha2 : mm_prim (mm_rn d) 273 args n I L P = some a := ha
  unfold mm_prim at ha2
  rw [if_pos rfl] at ha2
  split at ha2
  · split at ha2
    · rename_i hq
      cases ha2
      exact pc_chk E l d hq.1 hq.2
    · cases ha2
  · cases ha2
theorem sd_274 : sd_D 274 (yJ1_charAt_3b067, .code yJ1_charAt_3b067 cJ1_charAt_3b067 2 (some .char)) := fun _ _ _ _ hM _ => sr_meth (y := 274) (l0 := mt_274) hM rfl rfl (by decide +kernel) ok_274
theorem sd_279 : sd_D 279 (yJ7_fill_53178, .code yJ7_fill_53178 cJ7_fill_53178 4 none) := fun _ _ _ _ hM _ => sr_meth (y := 279) (l0 := mt_279) hM rfl rfl (by decide +kernel) ok_279
theorem sd_281 : sd_D 281 (yL_spot, .codeWith yL_spot cL_spot 5 (some .int) [(0, 10, 13, 13)]) := by
  intro E l d hl hM hP args n I L P a ha hna
  cases d with
  | zero =>
    have ha2 : mm_prim (mm_rn 0) 281 args n I L P = some a := ha
    unfold mm_prim at ha2
    rw [if_neg (by decide)] at ha2
    split at ha2
    · split at ha2
      · cases ha2
      · cases ha2
    · cases ha2
  | succ d => exact sq_lspot (hP d rfl) hl args n I L P a ha hna
theorem sd_283 : sd_D 283 (yX5_isIn, .code yX5_isIn cX5_isIn 1 (some .boolean)) := fun _ _ _ _ hM _ => sr_meth (y := 283) (l0 := mt_283) hM rfl rfl (by decide +kernel) ok_283
theorem sd_284 : sd_D 284 (yX5_worthIn, .code yX5_worthIn cX5_worthIn 2 (some .int)) := fun _ _ _ _ hM _ => sr_meth (y := 284) (l0 := mt_284) hM rfl rfl (by decide +kernel) ok_284
theorem sd_285 : sd_D 285 (yX5_sizeIn, .code yX5_sizeIn cX5_sizeIn 2 (some .int)) := fun _ _ _ _ hM _ => sr_meth (y := 285) (l0 := mt_285) hM rfl rfl (by decide +kernel) ok_285
theorem sd_286 : sd_D 286 (yX5_lessen, .code yX5_lessen cX5_lessen 3 none) := fun _ _ _ _ hM _ => sr_meth (y := 286) (l0 := mt_286) hM rfl rfl (by decide +kernel) ok_286
theorem sd_287 : sd_D 287 (yX9_besideOf, .code yX9_besideOf cX9_besideOf 2 (some .int)) := fun _ _ _ _ hM _ => sr_meth (y := 287) (l0 := mt_287) hM rfl rfl (by decide +kernel) ok_287
theorem sd_288 : sd_D 288 (yX9_viewOf, .code yX9_viewOf cX9_viewOf 2 (some .int)) := fun _ _ _ _ hM _ => sr_meth (y := 288) (l0 := mt_288) hM rfl rfl (by decide +kernel) ok_288
theorem sd_289 : sd_D 289 (yX11_nextLaw, .code yX11_nextLaw cX11_nextLaw 1 (some (.object "BelievedOnce$Law"))) := fun _ _ _ _ hM _ => sr_meth (y := 289) (l0 := mt_289) hM rfl rfl (by decide +kernel) ok_289
set_option maxRecDepth 100000 in
theorem sd_all : sd_A 0 sr_tbl := ⟨sd_0, sd_1, sd_2, sd_3, sd_4, sd_5, sd_6, sd_7, sd_8, sd_9, sd_10, sd_11, sd_12, sd_13, sd_14, sd_15, sd_16, sd_17, sd_18, sd_19, sd_20, sd_21, sd_22, sd_23, sd_24, sd_25, sd_26, sd_27, sd_28, sd_29, sd_30, sd_31, sd_32, sd_33, sd_34, sd_35, sd_36, sd_37, sd_38, sd_39, sd_40, sd_41, sd_42, sd_43, sd_44, sd_45, sd_46, sd_47, sd_48, sd_49, sd_50, sd_51, sd_52, sd_53, sd_54, sd_55, sd_56, sd_57, sd_58, sd_59, sd_60, sd_61, sd_62, sd_63, sd_64, sd_65, sd_66, sd_67, sd_68, sd_69, sd_70, sd_71, sd_72, sd_73, sd_74, sd_75, sd_76, sd_77, sd_78, sd_79, sd_80, sd_81, sd_82, sd_83, sd_84, sd_85, sd_86, sd_87, sd_88, sd_89, sd_90, sd_91, sd_92, sd_94, sd_95, sd_96, sd_97, sd_98, sd_99, sd_100, sd_101, sd_102, sd_103, sd_104, sd_105, sd_106, sd_107, sd_108, sd_109, sd_110, sd_111, sd_112, sd_113, sd_114, sd_115, sd_116, sd_117, sd_118, sd_119, sd_120, sd_121, sd_122, sd_123, sd_124, sd_125, sd_126, sd_127, sd_128, sd_129, sd_130, sd_131, sd_132, sd_133, sd_134, sd_135, sd_136, sd_137, sd_138, sd_139, sd_140, sd_141, sd_142, sd_143, sd_144, sd_145, sd_146, sd_147, sd_148, sd_149, sd_150, sd_151, sd_152, sd_153, sd_154, sd_155, sd_156, sd_157, sd_158, sd_159, sd_160, sd_161, sd_162, sd_163, sd_164, sd_165, sd_166, sd_167, sd_168, sd_169, sd_170, sd_171, sd_172, sd_173, sd_174, sd_175, sd_176, sd_177, sd_178, sd_179, sd_180, sd_181, sd_182, sd_183, sd_184, sd_185, sd_186, sd_187, sd_188, sd_189, sd_190, sd_191, sd_192, sd_193, sd_194, sd_195, sd_196, sd_197, sd_198, sd_199, sd_200, sd_201, sd_202, sd_203, sd_204, sd_205, sd_206, sd_207, sd_208, sd_209, sd_210, sd_211, sd_212, sd_213, sd_214, sd_215, sd_216, sd_217, sd_218, sd_219, sd_220, sd_221, sd_222, sd_223, sd_224, sd_225, sd_226, sd_227, sd_228, sd_229, sd_230, sd_231, sd_232, sd_233, sd_234, sd_235, sd_236, sd_237, sd_238, sd_239, sd_240, sd_241, sd_242, sd_243, sd_244, sd_245, sd_246, sd_247, sd_248, sd_249, sd_250, sd_251, sd_252, sd_253, sd_254, sd_255, sd_256, sd_257, sd_258, sd_259, sd_260, sd_261, sd_262, sd_263, sd_264, sd_265, sd_266, sd_267, sd_268, sd_269, sd_270, sd_271, sd_272, sd_273, sd_274, sd_279, sd_281, sd_283, sd_284, sd_285, sd_286, sd_287, sd_288, sd_289, trivial⟩
theorem sr_sound {E : sr_E} {l : Launch} (hl : l.stackTraces = false) : ∀ d, sr_Calls E l sr_tb d := by
  intro d
  induction d using Nat.strongRecOn with
  | ind d ih =>
    cases d with
    | zero => intro y yn hd ht args n I L P a ha; cases ha
    | succ d =>
      intro y yn hd ht args n I L P a ha hna
      have h := sd_use sr_tbl 0 y (yn, hd) sd_all ht
      rw [Nat.zero_add] at h
      exact h E l d hl (ih d (Nat.lt_succ_self d)) (fun d' h' => ih d' (by omega)) args n I L P a ha hna
