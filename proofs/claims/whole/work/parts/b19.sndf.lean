/-! making; copies of arrays -/
theorem sr_grow {E : sr_E} {n : Nat} {I L I' L' : mm_I} {P P' : mm_P} {H H' : Heap} (hP : va_P E.1 sr_cl (sr_w E n I L P) H) (hn : n < mm_NC) (hnew : va_at E.1 sr_cl (sr_a E n, sr_c E I' L' P' n) H') (hold : ∀ q, q < H.size → H'[q]? = H[q]?) (ho : ∀ b, b ≠ n → I' b = I b ∧ L' b = L b ∧ P' b = P b) : va_P E.1 sr_cl (sr_w E (n + 1) I' L' P') H' := by
  intro k q hq
  obtain ⟨h1, h2, rfl⟩ := sr_w_some hq
  by_cases hk : k = n
  · subst hk
    exact hnew
  · have h3 := hP k _ (sr_w_get (by omega) h2)
    rw [← sr_c_ext (ho k hk).1 (ho k hk).2.1 (ho k hk).2.2] at h3
    exact h3.kept (hold _ h3.lt)
theorem sr_zi_ne {I : mm_I} {n b : Nat} (h : b ≠ n) : mm_zi I n b = I b := by
  funext j
  unfold mm_zi
  rw [if_neg h]
theorem sr_zp_ne {P : mm_P} {n b : Nat} (h : b ≠ n) : mm_zp P n b = P b := by
  funext j
  unfold mm_zp
  rw [if_neg h]
theorem sr_zi_at {I : mm_I} {n j : Nat} : mm_zi I n n j = 0 := by
  unfold mm_zi
  rw [if_pos rfl]
theorem sr_zp_at {P : mm_P} {n j : Nat} : mm_zp P n n j = none := by
  unfold mm_zp
  rw [if_pos rfl]
theorem sr_rg_z {I L : mm_I} {n : Nat} (h : sr_rg I L) : sr_rg (mm_zi I n) (mm_zi L n) := by
  intro b j
  unfold mm_zi
  by_cases hb : b = n
  · rw [if_pos hb, if_pos hb]
    exact ⟨so_r0, so_r0l⟩
  · rw [if_neg hb, if_neg hb]
    exact h b j
def sr_kok : Nat → FieldType → Bool
  | 0, .int => true
  | 1, .long => true
  | 2, .object _ => true
  | 2, .array _ => true
  | 3, .boolean => true
  | _, _ => false
theorem sr_kok_dv {kd : Nat} {ty : FieldType} {E : sr_E} {I L : mm_I} {P : mm_P} {n k : Nat} (h : sr_kok kd ty = true) : defaultValue ty = sr_f E (mm_zi I n) (mm_zi L n) (mm_zp P n) n k kd := by
  unfold sr_f
  rw [sr_zi_at, sr_zi_at, sr_zp_at]
  match kd, ty, h with
  | 0, .int, _ => rfl
  | 1, .long, _ => rfl
  | 2, .object _, _ => rfl
  | 2, .array _, _ => rfl
  | 3, .boolean, _ => rfl
theorem sr_sl_s {n : Nat} (h : n < mm_NC) : sr_sl (n + 1) = sr_sl n + (mm_ty n).2 := by
  show sr_sl n + sr_sz n = _
  unfold sr_sz
  rw [if_pos h]
section SN6
variable {tab : sr_Tab} {cc : ByteArray} {mx : Nat} {own mnm : String} {pc : Nat}
/-- the relation behind a new cell -/
theorem sr_R_new {E : sr_E} {mx n0 : Nat} {s : State} {H H1 : Heap} {locs : List Loc} {cells slots N : Nat} {ls : Array Slot} {lv : List mm_V} {ll : List (Option Int)} {st st' : List mm_V} {n : Nat} {I L : mm_I} {P : mm_P} (hR : sr_R E mx n0 s H locs cells slots ls lv ll st n I L P) (hn : n < mm_NC) (hN : (mm_ty n).2 = N) (z1 : H1.size = H.size + 1) (o1 : ∀ q, q < H.size → H1[q]? = H[q]?) (hnew : va_at E.1 sr_cl (sr_a E n, sr_c E (mm_zi I n) (mm_zi L n) (mm_zp P n) n) H1) (hst : ∀ v ∈ st', sr_vr v) : sr_R E mx n0 s H1 locs (cells + 1) (slots + N) ls lv ll st' (n + 1) (mm_zi I n) (mm_zi L n) (mm_zp P n) := by
  obtain ⟨hH, hS, hL, -, hc, hsl, hs⟩ := hR
  refine ⟨⟨sr_grow hH.1 hn hnew o1 (fun b hb => ⟨sr_zi_ne hb, sr_zi_ne hb, sr_zp_ne hb⟩), by unfold mm_NC at hn; omega, fun a j ha => ?_, sr_rg_z hH.2.2.2⟩, ⟨by have := hS.1; omega, fun x h1 h2 => (o1 x (Nat.lt_of_lt_of_le h1 hS.1)).trans (hS.2.1 x h1 h2), hS.2.2⟩, hL, hst, by omega, by rw [sr_sl_s hn, hN]; omega, hs⟩
  rw [sr_zi_ne (by unfold mm_NC at hn; omega)]
  exact hH.2.2.1 a j ha
theorem sn_new {ci idx : Nat} {C : String} {T : u_T} {N : Nat} {ty0 : Nat → FieldType} (hc : sr_cok ci C T N ty0) (hkk : ∀ k, k < N → sr_kok (mm_kd ci k) (ty0 k) = true) (hlen : ∀ a, a < mm_NC → (mm_ty a).1 = ci → (mm_ty a).2 = N) (hd : decode cc pc = .ok (.new idx, 3)) (hw1 : Cond.classLink own idx C ∈ sr_T) (hw2 : Cond.instantiable C N ∈ sr_T) (hw3 : Cond.initialized C ∈ sr_T) : sr_Snd tab cc mx own mnm pc (mm_new ci (pc + 3)) := by
  intro E d p l e R s m args below meth c Q n0 n1 H locs cells slots ls lv ll st n I L P pc' lv' ll' st' n' I' L' P' hC hnm hM hR h hn hn1 hb1 hb2 hb3 k2
  unfold mm_new at h
  split at h
  · rename_i hq
    simp only [Option.some.injEq, Sum.inl.injEq, Prod.mk.injEq] at h
    obtain ⟨rfl, rfl, rfl, rfl, rfl, rfl, rfl, rfl⟩ := h
    obtain ⟨q1, q2⟩ := hq
    obtain ⟨c1, c2, c3, c4, c5, c6⟩ := hc
    have hts := hC.2.2.2.2.1
    have hN := hlen n q1 q2
    intro T0 hT X
    have hsz := sr_size hR X hT (Nat.le_of_lt q1)
    have hKn := hC.2.2.2.2.2.1.1.1 ci _ c1
    have hcells : cells + n0 = n := hR.2.2.2.2.1
    have hslots : slots + sr_sl n0 = sr_sl n := hR.2.2.2.2.2.1
    have hsl1 : sr_sl (n + 1) ≤ sr_sl n1 := sr_sl_mono hn1
    rw [sr_sl_s q1, hN] at hsl1
    have ea : sr_a E n = E.2.2.1 + n := sr_a_lt (by unfold mm_NC at q1; omega)
    suffices K : W p l e R s m args below meth c H locs cells slots Q (F0 m pc ls (st.map (sr_v E))) from K T0 hT X
    refine W.newcK (g := F0 m pc ls (st.map (sr_v E))) (h := E.2.2.1 + n) hC.1 hC.2.1 hC.2.2.2.1 (hts _ hw1) (hts _ hw2) (hts _ hw3) rfl hd (by omega) (by omega) hKn.2.1 hsz (fun H1 kC hkC e1 z1 o1 => ?_)
    have hnew : va_at E.1 sr_cl (sr_a E n, sr_c E (mm_zi I n) (mm_zi L n) (mm_zp P n) n) H1 := by
      rw [sr_c_o q2 c2]
      refine ⟨_, c1, (u_born ty0 hts c3 hKn hkC (by rw [ea]; exact e1) c5).to fun j hj => ?_⟩
      show defaultValue (ty0 j) = vp_V (sr_fs E (mm_zi I n) (mm_zi L n) (mm_zp P n) n ci) j
      unfold vp_V
      rw [List.getD_eq_getElem?_getD, sr_fs_get (by rw [c4]; exact hj)]
      exact sr_kok_dv (hkk j hj)
    have k3 := k2 H1 locs (cells + 1) (slots + N) ls (sr_R_new hR q1 hN (by rw [z1, hsz]) (fun q hq => o1 q (by rw [← hsz]; exact hq)) hnew (sr_cons (v := .inr (.inr (some n))) trivial hR.2.2.2.1))
    show W p l e R s m args below meth c H1 locs (cells + 1) (slots + N) Q (F0 m (pc + 3) ls (.ref (E.2.2.1 + n) :: st.map (sr_v E)))
    rw [← ea]
    exact k3
  · cases h
theorem sn_newarray {cd t0 : Nat} {aty : ArrayType} (hcd : cd = 20 ∧ t0 = 0 ∧ aty = .int ∨ cd = 21 ∧ t0 = 1 ∧ aty = .boolean ∨ cd = 22 ∧ t0 = 2 ∧ aty = .long) (hlen : ∀ a, a < mm_NC → (mm_ty a).2 < 10000) (hd : decode cc pc = .ok (.newarray aty, 2)) (hw : Cond.arrayClass (newarray.typeOf aty) ∈ sr_T) : sr_Snd tab cc mx own mnm pc (mm_newa cd (pc + 2)) := by
  intro E d p l e R s m args below meth c Q n0 n1 H locs cells slots ls lv ll st n I L P pc' lv' ll' st' n' I' L' P' hC hnm hM hR h hn hn1 hb1 hb2 hb3 k2
  unfold mm_newa at h
  split at h
  · rename_i z r
    split at h
    · rename_i hq
      simp only [Option.some.injEq, Sum.inl.injEq, Prod.mk.injEq] at h
      obtain ⟨rfl, rfl, rfl, rfl, rfl, rfl, rfl, rfl⟩ := h
      obtain ⟨q1, q2, q3⟩ := hq
      have hz : mm_rg z := hR.hd
      have hl := hlen n q1
      have hN : (mm_ty n).2 = z.toNat := by rw [q2]
      have hcd1 : (mm_ty n).1 = cd := by rw [q2]
      intro T0 hT X
      have hsz := sr_size hR X hT (Nat.le_of_lt q1)
      have hcells : cells + n0 = n := hR.2.2.2.2.1
      have hslots : slots + sr_sl n0 = sr_sl n := hR.2.2.2.2.2.1
      have hsl1 : sr_sl (n + 1) ≤ sr_sl n1 := sr_sl_mono hn1
      rw [sr_sl_s q1, hN] at hsl1
      have ea : sr_a E n = E.2.2.1 + n := sr_a_lt (by unfold mm_NC at q1; omega)
      have hbyt : componentBytes (newarray.typeOf aty) ≤ 8 := by rcases hcd with ⟨-, -, rfl⟩ | ⟨-, -, rfl⟩ | ⟨-, -, rfl⟩ <;> decide
      have hb8 : z.toNat * componentBytes (newarray.typeOf aty) ≤ 536870912 := Nat.le_trans (Nat.mul_le_mul (show z.toNat ≤ 10000 by omega) hbyt) (by decide)
      suffices K : W p l e R s m args below meth c H locs cells slots Q (F0 m pc ls (.int (Int32.ofInt z) :: r.map (sr_v E))) from K T0 hT X
      refine va_newaK (g := F0 m pc ls (.int (Int32.ofInt z) :: r.map (sr_v E))) (h := E.2.2.1 + n) (N := z.toNat) (rest := r.map (sr_v E)) hC.1 hC.2.1 (hC.2.2.2.2.1 _ hw) rfl hd (n := Int32.ofInt z) rfl (fun h0 => absurd ((so_lt hz so_r0).mp h0) (by omega)) (so_cl hz) hb8 (by omega) (by omega) hsz (fun H1 cA e1 z1 o1 hAr hfc => ?_)
      have hnew : va_at E.1 sr_cl (sr_a E n, sr_c E (mm_zi I n) (mm_zi L n) (mm_zp P n) n) H1 := by
        rcases hcd with ⟨h1, h2, h3⟩ | ⟨h1, h2, h3⟩ | ⟨h1, h2, h3⟩
        · subst h3
          have hcA : E.2.1 0 = cA := Option.some.inj ((hC.2.2.2.2.2.1.1.2 0 _ rfl).2.symm.trans hfc)
          rw [sr_c_20 (hcd1.trans h1), ea, hN, hcA]
          simp only [sr_zi_at]
          exact e1
        · subst h3
          have hcA : E.2.1 1 = cA := Option.some.inj ((hC.2.2.2.2.2.1.1.2 1 _ rfl).2.symm.trans hfc)
          rw [sr_c_21 (hcd1.trans h1), ea, hN, hcA]
          simp only [sr_zi_at]
          exact e1
        · subst h3
          have hcA : E.2.1 2 = cA := Option.some.inj ((hC.2.2.2.2.2.1.1.2 2 _ rfl).2.symm.trans hfc)
          rw [sr_c_22 (hcd1.trans h1), ea, hN, hcA]
          simp only [sr_zi_at]
          exact e1
      have k3 := k2 H1 locs (cells + 1) (slots + z.toNat) ls (sr_R_new hR q1 hN (by rw [z1, hsz]) (fun q hq => o1 q (by rw [← hsz]; exact hq)) hnew (sr_cons (v := .inr (.inr (some n))) trivial hR.tl))
      show W p l e R s m args below meth c H1 locs (cells + 1) (slots + z.toNat) Q (F0 m (pc + 2) ls (.ref (E.2.2.1 + n) :: r.map (sr_v E)))
      rw [← ea]
      exact k3
    · cases h
  · cases h
theorem sn_anewarray {cd t0 idx : Nat} {C : String} (hcd : cd = 23 ∧ t0 = 3 ∧ C = RX5 ∨ cd = 24 ∧ t0 = 4 ∧ C = RX3) (hlen : ∀ a, a < mm_NC → (mm_ty a).2 < 10000) (hd : decode cc pc = .ok (.anewarray idx, 3)) (hw : Cond.classLink own idx C ∈ sr_T) : sr_Snd tab cc mx own mnm pc (mm_newa cd (pc + 3)) := by
  intro E d p l e R s m args below meth c Q n0 n1 H locs cells slots ls lv ll st n I L P pc' lv' ll' st' n' I' L' P' hC hnm hM hR h hn hn1 hb1 hb2 hb3 k2
  unfold mm_newa at h
  split at h
  · rename_i z r
    split at h
    · rename_i hq
      simp only [Option.some.injEq, Sum.inl.injEq, Prod.mk.injEq] at h
      obtain ⟨rfl, rfl, rfl, rfl, rfl, rfl, rfl, rfl⟩ := h
      obtain ⟨q1, q2, q3⟩ := hq
      have hz : mm_rg z := hR.hd
      have hl := hlen n q1
      have hN : (mm_ty n).2 = z.toNat := by rw [q2]
      have hcd1 : (mm_ty n).1 = cd := by rw [q2]
      intro T0 hT X
      have hsz := sr_size hR X hT (Nat.le_of_lt q1)
      have hcells : cells + n0 = n := hR.2.2.2.2.1
      have hslots : slots + sr_sl n0 = sr_sl n := hR.2.2.2.2.2.1
      have hsl1 : sr_sl (n + 1) ≤ sr_sl n1 := sr_sl_mono hn1
      rw [sr_sl_s q1, hN] at hsl1
      have ea : sr_a E n = E.2.2.1 + n := sr_a_lt (by unfold mm_NC at q1; omega)
      have hov : va_AO C s := by
        rcases hcd with ⟨-, -, rfl⟩ | ⟨-, -, rfl⟩
        · exact hC.2.2.2.2.2.1.2.2.1
        · exact hC.2.2.2.2.2.1.2.2.2
      have hcl : (Int32.ofInt z).toNatClampNeg = z.toNat := so_cl hz
      suffices K : W p l e R s m args below meth c H locs cells slots Q (F0 m pc ls (.int (Int32.ofInt z) :: r.map (sr_v E))) from K T0 hT X
      refine W.anew (g := F0 m pc ls (.int (Int32.ofInt z) :: r.map (sr_v E))) (rest := r.map (sr_v E)) (n := Int32.ofInt z) hC.1 hC.2.1 hC.2.2.2.1 (hC.2.2.2.2.1 _ hw) (va_AO.use hov) rfl hd rfl (fun h0 => absurd ((so_lt hz so_r0).mp h0) (by omega)) (by rw [hcl]; omega) (by omega) (by rw [hcl]; omega) (fun cA kA comp f1 f2 f3 f4 => ?_)
      rw [hcl]
      generalize hH1 : H.push ({ cls := cA, slots := Array.replicate z.toNat .null, vm := .none } : Cell) = H1
      have z1 : H1.size = H.size + 1 := by rw [← hH1, Array.size_push]
      have e1 : H1[H.size]? = some (arrV cA z.toNat (fun _ => .null)) := by rw [← hH1, Array.getElem?_push_size, ← arrV_new]
      have o1 : ∀ q : Nat, q < H.size → H1[q]? = H[q]? := fun q hq => by rw [← hH1, Array.getElem?_push, if_neg (Nat.ne_of_lt hq)]
      have hnew : va_at E.1 sr_cl (sr_a E n, sr_c E (mm_zi I n) (mm_zi L n) (mm_zp P n) n) H1 := by
        rcases hcd with ⟨h1, h2, h3⟩ | ⟨h1, h2, h3⟩
        · subst h3
          obtain ⟨_, _, -, -, -, hfc⟩ := (hC.2.2.2.2.2.1.1.2 3 _ rfl).2
          have hcA : E.2.1 3 = cA := Option.some.inj (hfc.symm.trans f1)
          rw [sr_c_23 (hcd1.trans h1), ea, ← hsz, hN, hcA]
          simp only [sr_zp_at]
          exact e1
        · subst h3
          obtain ⟨_, _, -, -, -, hfc⟩ := (hC.2.2.2.2.2.1.1.2 4 _ rfl).2
          have hcA : E.2.1 4 = cA := Option.some.inj (hfc.symm.trans f1)
          rw [sr_c_24 (hcd1.trans h1), ea, ← hsz, hN, hcA]
          simp only [sr_zp_at]
          exact e1
      have k3 := k2 H1 locs (cells + 1) (slots + z.toNat) ls (sr_R_new hR q1 hN z1 o1 hnew (sr_cons (v := .inr (.inr (some n))) trivial hR.tl))
      show W p l e R s m args below meth c H1 locs (cells + 1) (slots + z.toNat) Q (F0 m (pc + 3) ls (.ref H.size :: r.map (sr_v E)))
      rw [hsz, ← ea]
      exact k3
    · cases h
  · cases h
theorem sr_cats {E : sr_E} (st : List mm_V) : ((st.map (sr_v E)).map fun v => v.category).sum = mm_cat st := by
  unfold mm_cat
  rw [List.map_map]
  congr 1
  apply List.map_congr_left
  intro v _
  match v with
  | .inl z => rfl
  | .inr (.inl z) => rfl
  | .inr (.inr none) => rfl
  | .inr (.inr (some a)) => rfl
theorem sn_oi {idx : Nat} (hd : decode cc pc = .ok (.invokespecial idx, 3)) (hw1 : Cond.methodLink own idx Lib.objectInit ∈ sr_T) (hw2 : Cond.instanceMethod Lib.objectInit ∈ sr_T) (hw3 : Cond.code Lib.objectInit ⟨#[0xb1]⟩ 1 none ∈ sr_T) : sr_Snd tab cc mx own mnm pc (mm_oi (pc + 3)) := by
  intro E d p l e R s m args below meth c Q n0 n1 H locs cells slots ls lv ll st n I L P pc' lv' ll' st' n' I' L' P' hC hnm hM hR h hn hn1 hb1 hb2 hb3 k2
  unfold mm_oi at h
  split at h
  · rename_i a r
    split at h
    · rename_i hq
      simp only [Option.some.injEq, Sum.inl.injEq, Prod.mk.injEq] at h
      obtain ⟨rfl, rfl, rfl, rfl, rfl, rfl, rfl, rfl⟩ := h
      have hts := hC.2.2.2.2.1
      have hl := lv_room (m := m) (pc := pc) (ls := ls) (rest := (Sum.inr (Sum.inr (some a)) :: r).map (sr_v E)) (st := r.map (sr_v E)) (by rw [sr_cats]; exact hq.2)
      refine W.objInit hC.1 hC.2.1 hC.2.2.2.1 (hts _ hw1) (hts _ hw2) (hts _ hw3) rfl (hR.2.2.1.1.trans hC.2.2.1.symm) (a := sr_a E a) (rest := r.map (sr_v E)) rfl hd (by have := hC.2.2.2.2.2.2.2.2.1; omega) (by have := hC.2.2.2.2.2.2.2.2.2; omega) ?_
      exact k2 H locs cells slots ls (hR.st hR.tl)
    · cases h
  · cases h
theorem sn_acp {idx : Nat} (hd : decode cc pc = .ok (.invokestatic idx, 3)) (hw1 : Cond.methodLink own idx arraycopyName ∈ sr_T) (hw2 : Cond.native arraycopyName ∈ sr_T) (hw3 : Cond.static arraycopyName ∈ sr_T) (hw4 : Cond.initialized "java/lang/System" ∈ sr_T) (hnw : nativeFrameWords "java/lang/System" "arraycopy" 5 + 11 ≤ 50) : sr_Snd tab cc mx own mnm pc (mm_acp (pc + 3)) := by
  intro E d p l e R s m args below meth c Q n0 n1 H locs cells slots ls lv ll st n I L P pc' lv' ll' st' n' I' L' P' hC hnm hM hR h hn hn1 hb1 hb2 hb3 k2
  unfold mm_acp at h
  split at h
  · rename_i k dp d' sp s' r
    split at h
    · rename_i hq
      simp only [Option.some.injEq, Sum.inl.injEq, Prod.mk.injEq] at h
      obtain ⟨rfl, rfl, rfl, rfl, rfl, rfl, rfl, rfl⟩ := h
      obtain ⟨a1, a2, a3, a4, a5, a6, a7, a8, a9, a10, a11⟩ := hq
      have hts := hC.2.2.2.2.1
      have hk : mm_rg k := hR.hd
      have hdp : mm_rg dp := hR.tl _ List.mem_cons_self
      have hsp : mm_rg sp := hR.2.2.2.1 (.inl sp) (by simp)
      have he0 := sr_cell hR a1 a4 (by omega)
      have he1 := sr_cell hR a2 a5 (by omega)
      rw [sr_c_20 a4] at he0
      rw [sr_c_20 a5] at he1
      have e1 := so_cl hk
      have e2 := so_cl hdp
      have e3 := so_cl hsp
      have hm : ∀ u ∈ r, sr_vr u := fun u hu => hR.2.2.2.1 u (by simp [hu])
      refine va_copyi (ty := .int) hC.1 hC.2.1 (hC.2.2.1.trans hR.2.2.1.1.symm) hC.2.2.2.1 (hts _ hw1) (hts _ hw2) (hts _ hw3) (hts _ hw4) hC.2.2.2.2.2.1.1 hR.1.1 sr_w_D hR.2.1 s' d' 0 0 he0 he1 rfl rfl rfl (sp := Int32.ofInt sp) (dp := Int32.ofInt dp) (n := Int32.ofInt k)
        (fun h0 => absurd ((so_lt hsp so_r0).mp h0) (by omega)) (fun h0 => absurd ((so_lt hdp so_r0).mp h0) (by omega)) (fun h0 => absurd ((so_lt hk so_r0).mp h0) (by omega)) (by rw [e1, e3]; omega) (by rw [e1, e2]; omega) (fun i _ => rfl) (by have := hC.2.2.2.2.2.2.2.2.1; omega) (by rw [sr_cats]; have := hC.2.2.2.2.2.2.2.2.2; omega) hd fun H1 locs1 hP1 hD1 hS1 => ?_
      rw [e1, e2, e3, sr_w_set (I' := mm_cpy I s' sp.toNat d' dp.toNat k.toNat) (L' := L) (P' := P) (by
        rw [sr_c_20 a5]
        congr 4
        funext j
        unfold mm_cpy va_cpy
        by_cases hj : dp.toNat ≤ j ∧ j < dp.toNat + k.toNat
        · rw [if_pos ⟨rfl, hj⟩, if_pos hj]
        · rw [if_neg (fun q => hj q.2), if_neg hj]) (fun b hb => sr_c_ext (by
          funext j
          unfold mm_cpy
          rw [if_neg (fun q => hb q.1)]) rfl rfl)] at hP1
      refine k2 H1 locs1 cells slots ls ⟨⟨hP1, hR.1.2.1, fun b j hb => ?_, fun b j => ⟨?_, (hR.1.2.2.2 b j).2⟩⟩, hS1, hR.2.2.1, hm, hR.2.2.2.2⟩
      · unfold mm_cpy
        rw [if_neg (fun q => by have := hR.1.2.1; have := q.1; omega)]
        exact hR.1.2.2.1 b j hb
      · unfold mm_cpy
        split
        · exact (hR.1.2.2.2 _ _).1
        · exact (hR.1.2.2.2 b j).1
    · cases h
  · cases h
end SN6
