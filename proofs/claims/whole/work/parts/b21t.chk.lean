/-! String.checkIndex and Preconditions.checkIndex, where the index is in range -/
theorem tx_0 : Cond.code yJ3_checkIndex_8e157 cJ3_checkIndex_8e157 3 (some .int) ∈ sr_T := sr_in1 539 (by decide +kernel) (by decide +kernel)
theorem tx_1 : Cond.initialized yJ3_checkIndex_8e157.cls ∈ sr_T := sr_in1 120 (by decide +kernel) (by decide +kernel)
theorem tx_2 : Cond.methodLink yJ0_checkIndex_df160.cls 1059 yJ3_checkIndex_8e157 ∈ sr_T := sr_in1 537 (by decide +kernel) (by decide +kernel)
theorem tx_3 : Cond.static yJ3_checkIndex_8e157 ∈ sr_T := sr_in1 538 (by decide +kernel) (by decide +kernel)
theorem tx_4 : Cond.fieldLink yJ0_checkIndex_df160.cls 1053 "jdk/internal/util/Preconditions" "SIOOBE_FORMATTER" "Ljava/util/function/BiFunction;" ∈ sr_T := sr_in1 535 (by decide +kernel) (by decide +kernel)
set_option maxRecDepth 20000 in
theorem pc_chk3 (l : Launch) {i k : Int} {v : Value} (hi : mm_rg i) (hk : mm_rg k) (h0 : 0 ≤ i) (h1 : i < k) (hv : v = .null ∨ ∃ a, v = .ref a) :
    Met l yJ3_checkIndex_8e157 (.code yJ3_checkIndex_8e157 cJ3_checkIndex_8e157 3 (some .int) :: sr_T) { frames := 1, cells := 0, slots := 0, locals := 20 } (fun a _ => a = ([.int (Int32.ofInt i), .int (Int32.ofInt k), v] : List Value).toArray) (fun _ st oc t => oc = .returned (some (.int (Int32.ofInt i))) ∧ t.heap = st.heap) 0 0 (fun _ => False) := by
  refine Met.ofW (cc := cJ3_checkIndex_8e157) (maxL := 3) (ret := some .int) (by decide) rfl ?_
  intro p e s m args below meth c s₁ B hml hv2
  subst hv2
  have hx := B.exec
  have hb := B.bytes
  have hc : v.category = 1 := by rcases hv with rfl | ⟨a, rfl⟩ <;> rfl
  have hsl : (lg_sl [.int (Int32.ofInt i), .int (Int32.ofInt k), v]).length = 3 := by
    rcases hv with rfl | ⟨a, rfl⟩ <;> rfl
  have hl := lv_entry [.int (Int32.ofInt i), .int (Int32.ofInt k), v] (n := 3) (by rw [hsl]; exact Nat.le_refl 3)
  rw [lg_entry_eq]
  generalize (lg_sl [.int (Int32.ofInt i), .int (Int32.ofInt k), v] ++ List.replicate (3 - (lg_sl [.int (Int32.ofInt i), .int (Int32.ofInt k), v]).length) Slot.unset).toArray = ls at hl ⊢
  have e0 : ls[0]? = some (.val (.int (Int32.ofInt i))) := hl.2.2 (0, _) List.mem_cons_self
  have e1 : ls[1]? = some (.val (.int (Int32.ofInt k))) := hl.2.2 (1, _) (List.mem_cons_of_mem _ List.mem_cons_self)
  refine lv_iload_n (k := 0) hx hb (by decide +kernel) rfl e0 ?_
  refine lv_if_lt (off := 8) (tgt := 9) hx hb (by decide +kernel) (by decide) (fun q => absurd ((so_lt hi so_r0).mp q) (by omega)) (fun _ => ?_)
  refine lv_iload_n (k := 0) hx hb (by decide +kernel) rfl e0 ?_
  refine lv_iload_n (k := 1) hx hb (by decide +kernel) rfl e1 ?_
  refine lv_icmp_lt (off := 10) (tgt := 16) hx hb (by decide +kernel) (by decide) (fun _ => ?_) (fun q => absurd ((so_lt hi hk).mpr h1) q)
  refine lv_iload_n (k := 0) hx hb (by decide +kernel) rfl e0 ?_
  exact W.iret hx hb B.returns (fun t ht _ => ⟨rfl, ht⟩) (fun q hq => nomatch hq) (by decide +kernel) B.notSynchronized
set_option maxRecDepth 20000 in
theorem pc_chk (E : sr_E) (l : Launch) (d : Nat) {i k : Int} {n : Nat} {I L : mm_I} {P : mm_P} (h0 : 0 ≤ i) (h1 : i < k) :
    sr_Met E l (d + 1) yJ0_checkIndex_df160 (.code yJ0_checkIndex_df160 cJ0_checkIndex_df160 2 none) [.inl i, .inl k] n I L P (none, n, I, L, P) := by
  intro mc ms hmc hms hlt hargs
  obtain rfl : mc = 0 := by have : mc + n = n := hmc; omega
  obtain rfl : ms = 0 := by have : ms + sr_sl n = sr_sl n := hms; omega
  have hi : mm_rg i := hargs (.inl i) List.mem_cons_self
  have hk : mm_rg k := hargs (.inl k) (List.mem_cons_of_mem _ List.mem_cons_self)
  refine Met.ofW (cc := cJ0_checkIndex_df160) (maxL := 2) (ret := none) (by decide) rfl ?_
  intro p e s m args below meth c s₁ B hml hv
  obtain ⟨rfl, hK, hZ, hH, hbs, hsz⟩ := hv
  have hx := B.exec
  have hb := B.bytes
  have hts0 := atoms_spec (ws := Cond.code yJ0_checkIndex_df160 cJ0_checkIndex_df160 2 none :: sr_T) B.pre
  have hts : ∀ w ∈ sr_T, w.before (([.inl i, .inl k] : List mm_V).map (sr_v E)).toArray s = true := fun w hw => hts0 w (List.mem_cons_of_mem _ hw)
  have hown : s.vm.findClass yJ0_checkIndex_df160.cls = some m.cls := findClass_of_methodNamed B.named
  have hl := lv_entry [.int (Int32.ofInt i), .int (Int32.ofInt k)] (n := 2) (Nat.le_of_ble_eq_true rfl)
  show W p l e _ s m _ below meth c s.heap [] 0 0 _ (entryFrame m ([.int (Int32.ofInt i), .int (Int32.ofInt k)] : List Value).toArray 2)
  rw [lg_entry_eq]
  generalize (lg_sl [.int (Int32.ofInt i), .int (Int32.ofInt k)] ++ List.replicate (2 - (lg_sl [.int (Int32.ofInt i), .int (Int32.ofInt k)]).length) Slot.unset).toArray = ls at hl ⊢
  have e0 : ls[0]? = some (.val (.int (Int32.ofInt i))) := hl.2.2 (0, _) List.mem_cons_self
  have e1 : ls[1]? = some (.val (.int (Int32.ofInt k))) := hl.2.2 (1, _) (List.mem_cons_of_mem _ List.mem_cons_self)
  refine lv_iload_n (k := 0) hx hb (by decide +kernel) rfl e0 ?_
  refine lv_iload_n (k := 1) hx hb (by decide +kernel) rfl e1 ?_
  have hZq := hZ.2.2.2.2.2.2.2.2.2.1
  have rest : ∀ v : Value, (v = .null ∨ ∃ a, v = .ref a) → W p l e (sr_rm (d + 1) 0 0) s m (([.inl i, .inl k] : List mm_V).map (sr_v E)).toArray below meth c s.heap [] 0 0 (MQ below (sr_Q E (none, n, I, L, P)) (([.inl i, .inl k] : List mm_V).map (sr_v E)).toArray s 0 0 (sr_A E)) (F0 m (2 + 3) ls [v, .int (Int32.ofInt k), .int (Int32.ofInt i)]) := by
    intro v hv
    have hcB : CallB (sr_rm (d + 1) 0 0) s (([.inl i, .inl k] : List mm_V).map (sr_v E)).toArray yJ0_checkIndex_df160.cls 1059 yJ3_checkIndex_8e157 cJ3_checkIndex_8e157 3 (some .int) (Cond.code yJ3_checkIndex_8e157 cJ3_checkIndex_8e157 3 (some .int) :: sr_T) { frames := 1, cells := 0, slots := 0, locals := 20 } 0 0 3 :=
      callB_of 3 hts (sr_goodC tx_0) rfl rfl rfl (hts _ tx_1) (hts _ tx_2) ⟨by decide +kernel, by decide +kernel, by decide +kernel⟩ ⟨by unfold sr_rm; dsimp only; omega, by unfold sr_rm; dsimp only; omega⟩
    have dd : decode cJ0_checkIndex_df160 5 = .ok (.invokestatic 1059, 3) := by decide +kernel
    have run := va_runS (p := p) (l := l) (e := e) (below := below) (meth := meth) (c := c) (cc := cJ0_checkIndex_df160) (H := s.heap) (locs := []) (cells := 0) (slots := 0) (g := F0 m (2 + 3) ls [v, .int (Int32.ofInt k), .int (Int32.ofInt i)]) (As := [.int (Int32.ofInt i), .int (Int32.ofInt k), v]) (rest := []) (Ts := sr_T) ⟨hx, hb, hml, hown, hts⟩ (pc_chk3 l hi hk h0 h1 hv) ⟨hcB, hts _ tx_3⟩ ⟨fun a U g mk h => h, fun U _ _ => rfl⟩ rfl rfl hl.1 rfl (lv_room (Nat.le_of_ble_eq_true rfl)) dd ⟨Nat.le_refl _, Nat.le_refl _⟩
    intro T hT X
    obtain ⟨v', st₀, t, T', L1, g0, X', hL, g1, g2, ⟨hv', hh⟩, go⟩ := run T hT X
    cases hv'
    have hT' : T'.heap = s.heap := by rw [g1, hh, g0]
    have hL0 : L1 = [] := by
      cases L1 with
      | nil => rfl
      | cons q r => exact (hL q List.mem_cons_self).elim
    subst hL0
    have K : W p l e (sr_rm (d + 1) 0 0) s m (([.inl i, .inl k] : List mm_V).map (sr_v E)).toArray below meth c s.heap [] 0 0 (MQ below (sr_Q E (none, n, I, L, P)) (([.inl i, .inl k] : List mm_V).map (sr_v E)).toArray s 0 0 (sr_A E)) (F0 m 8 ls [.int (Int32.ofInt i)]) := by
      refine lv_pop hx hb (by decide +kernel) rfl ?_
      exact W.vret hx hb B.returns (fun t ht _ => ⟨rfl, by rw [ht]; exact hH, va_S.rf.F ht, fun v hv => nomatch hv⟩) (fun q hq => nomatch hq) (by decide +kernel) B.notSynchronized
    obtain ⟨t2, a1, b1⟩ := K T' hT' X'
    exact ⟨t2, go t2 a1, b1⟩
  rcases hZq with hz | ⟨t, hz⟩
  · exact va_gets (C := "jdk/internal/util/Preconditions") hx hb hz va_S.rf hown (hts _ tx_4) (fun x h => h) (by decide +kernel) (rest _ (Or.inl rfl))
  · exact va_gets (C := "jdk/internal/util/Preconditions") hx hb hz va_S.rf hown (hts _ tx_4) (fun x h => h) (by decide +kernel) (rest _ (Or.inr ⟨t, rfl⟩))
