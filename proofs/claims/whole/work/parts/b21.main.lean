/-! returns; a whole method -/
def sr_NR (t : mm_T) : Prop := ∀ R lv ll st n I L P a, t R lv ll st n I L P ≠ some (.inr a)
def sr_NS (t : mm_T) : Prop := ∀ R lv ll st n I L P a, t R lv ll st n I L P ≠ some (.inl a)
theorem nr_push {v : mm_V} {nx : Nat} : sr_NR (mm_push v nx) := by
  intro R lv ll st n I L P a h
  unfold mm_push at h
  (repeat' split at h) <;> simp at h
theorem nr_il {i nx : Nat} : sr_NR (mm_il i nx) := by
  intro R lv ll st n I L P a h
  unfold mm_il at h
  (repeat' split at h) <;> simp at h
theorem nr_al {i nx : Nat} : sr_NR (mm_al i nx) := by
  intro R lv ll st n I L P a h
  unfold mm_al at h
  (repeat' split at h) <;> simp at h
theorem nr_lld {i nx : Nat} : sr_NR (mm_lld i nx) := by
  intro R lv ll st n I L P a h
  unfold mm_lld at h
  (repeat' split at h) <;> simp at h
theorem nr_is {i nx : Nat} : sr_NR (mm_is i nx) := by
  intro R lv ll st n I L P a h
  unfold mm_is at h
  (repeat' split at h) <;> simp at h
theorem nr_as {i nx : Nat} : sr_NR (mm_as i nx) := by
  intro R lv ll st n I L P a h
  unfold mm_as at h
  (repeat' split at h) <;> simp at h
theorem nr_lst {i nx : Nat} : sr_NR (mm_lst i nx) := by
  intro R lv ll st n I L P a h
  unfold mm_lst at h
  (repeat' split at h) <;> simp at h
theorem nr_iinc {i nx : Nat} {z : Int} : sr_NR (mm_iinc i z nx) := by
  intro R lv ll st n I L P a h
  unfold mm_iinc at h
  (repeat' split at h) <;> simp at h
theorem nr_bi {f : Int → Int → Int} {nx : Nat} : sr_NR (mm_bi f nx) := by
  intro R lv ll st n I L P a h
  unfold mm_bi at h
  (repeat' split at h) <;> simp at h
theorem nr_di {f : Int → Int → Int} {nx : Nat} : sr_NR (mm_di f nx) := by
  intro R lv ll st n I L P a h
  unfold mm_di at h
  (repeat' split at h) <;> simp at h
theorem nr_un {f : Int → Int} {nx : Nat} : sr_NR (mm_un f nx) := by
  intro R lv ll st n I L P a h
  unfold mm_un at h
  (repeat' split at h) <;> simp at h
theorem nr_bl {f : Int → Int → Int} {nx : Nat} : sr_NR (mm_bl f nx) := by
  intro R lv ll st n I L P a h
  unfold mm_bl at h
  (repeat' split at h) <;> simp at h
theorem nr_dl {f : Int → Int → Int} {nx : Nat} : sr_NR (mm_dl f nx) := by
  intro R lv ll st n I L P a h
  unfold mm_dl at h
  (repeat' split at h) <;> simp at h
theorem nr_sl {f : Int → Int → Int} {nx : Nat} : sr_NR (mm_sl f nx) := by
  intro R lv ll st n I L P a h
  unfold mm_sl at h
  (repeat' split at h) <;> simp at h
theorem nr_lcmp {nx : Nat} : sr_NR (mm_lcmp nx) := by
  intro R lv ll st n I L P a h
  unfold mm_lcmp at h
  (repeat' split at h) <;> simp at h
theorem nr_i2l {nx : Nat} : sr_NR (mm_i2l nx) := by
  intro R lv ll st n I L P a h
  unfold mm_i2l at h
  (repeat' split at h) <;> simp at h
theorem nr_l2i {nx : Nat} : sr_NR (mm_l2i nx) := by
  intro R lv ll st n I L P a h
  unfold mm_l2i at h
  (repeat' split at h) <;> simp at h
theorem nr_if {f : Int → Bool} {t nx : Nat} : sr_NR (mm_if f t nx) := by
  intro R lv ll st n I L P a h
  unfold mm_if at h
  (repeat' split at h) <;> simp at h
theorem nr_ic {f : Int → Int → Bool} {t nx : Nat} : sr_NR (mm_ic f t nx) := by
  intro R lv ll st n I L P a h
  unfold mm_ic at h
  (repeat' split at h) <;> simp at h
theorem nr_nul {t nx : Nat} : sr_NR (mm_nul t nx) := by
  intro R lv ll st n I L P a h
  unfold mm_nul at h
  (repeat' split at h) <;> simp at h
theorem nr_go {t : Nat} : sr_NR (mm_go t) := by
  intro R lv ll st n I L P a h
  unfold mm_go at h
  (repeat' split at h) <;> simp at h
theorem nr_swi {l : List (Int × Nat)} {t : Nat} : sr_NR (mm_swi l t) := by
  intro R lv ll st n I L P a h
  unfold mm_swi at h
  (repeat' split at h) <;> simp at h
theorem nr_dup {nx : Nat} : sr_NR (mm_dup nx) := by
  intro R lv ll st n I L P a h
  unfold mm_dup at h
  (repeat' split at h) <;> simp at h
theorem nr_dup2 {nx : Nat} : sr_NR (mm_dup2 nx) := by
  intro R lv ll st n I L P a h
  unfold mm_dup2 at h
  (repeat' split at h) <;> simp at h
theorem nr_pop {nx : Nat} : sr_NR (mm_pop nx) := by
  intro R lv ll st n I L P a h
  unfold mm_pop at h
  (repeat' split at h) <;> simp at h
theorem nr_getI {ci k nx : Nat} : sr_NR (mm_getI ci k nx) := by
  intro R lv ll st n I L P a h
  unfold mm_getI at h
  (repeat' split at h) <;> simp at h
theorem nr_getL {ci k nx : Nat} : sr_NR (mm_getL ci k nx) := by
  intro R lv ll st n I L P a h
  unfold mm_getL at h
  (repeat' split at h) <;> simp at h
theorem nr_getR {ci k nx : Nat} : sr_NR (mm_getR ci k nx) := by
  intro R lv ll st n I L P a h
  unfold mm_getR at h
  (repeat' split at h) <;> simp at h
theorem nr_putI {ci k nx : Nat} : sr_NR (mm_putI ci k nx) := by
  intro R lv ll st n I L P a h
  unfold mm_putI at h
  (repeat' split at h) <;> simp at h
theorem nr_putZ {ci k nx : Nat} : sr_NR (mm_putZ ci k nx) := by
  intro R lv ll st n I L P a h
  unfold mm_putZ at h
  (repeat' split at h) <;> simp at h
theorem nr_putL {ci k nx : Nat} : sr_NR (mm_putL ci k nx) := by
  intro R lv ll st n I L P a h
  unfold mm_putL at h
  (repeat' split at h) <;> simp at h
theorem nr_putR {ci k nx : Nat} : sr_NR (mm_putR ci k nx) := by
  intro R lv ll st n I L P a h
  unfold mm_putR at h
  (repeat' split at h) <;> simp at h
theorem nr_iald {cd nx : Nat} : sr_NR (mm_iald cd nx) := by
  intro R lv ll st n I L P a h
  unfold mm_iald at h
  (repeat' split at h) <;> simp at h
theorem nr_sald {cd nx : Nat} : sr_NR (mm_sald cd nx) := by
  intro R lv ll st n I L P a h
  unfold mm_sald at h
  (repeat' split at h) <;> simp at h
theorem nr_iast {cd nx : Nat} : sr_NR (mm_iast cd nx) := by
  intro R lv ll st n I L P a h
  unfold mm_iast at h
  (repeat' split at h) <;> simp at h
theorem nr_bast {cd nx : Nat} : sr_NR (mm_bast cd nx) := by
  intro R lv ll st n I L P a h
  unfold mm_bast at h
  (repeat' split at h) <;> simp at h
theorem nr_lald {cd nx : Nat} : sr_NR (mm_lald cd nx) := by
  intro R lv ll st n I L P a h
  unfold mm_lald at h
  (repeat' split at h) <;> simp at h
theorem nr_last {cd nx : Nat} : sr_NR (mm_last cd nx) := by
  intro R lv ll st n I L P a h
  unfold mm_last at h
  (repeat' split at h) <;> simp at h
theorem nr_aald {cd nx : Nat} : sr_NR (mm_aald cd nx) := by
  intro R lv ll st n I L P a h
  unfold mm_aald at h
  (repeat' split at h) <;> simp at h
theorem nr_alen {cd nx : Nat} : sr_NR (mm_alen cd nx) := by
  intro R lv ll st n I L P a h
  unfold mm_alen at h
  (repeat' split at h) <;> simp at h
theorem nr_newa {cd nx : Nat} : sr_NR (mm_newa cd nx) := by
  intro R lv ll st n I L P a h
  unfold mm_newa at h
  (repeat' split at h) <;> simp at h
theorem nr_new {cd nx : Nat} : sr_NR (mm_new cd nx) := by
  intro R lv ll st n I L P a h
  unfold mm_new at h
  (repeat' split at h) <;> simp at h
theorem nr_aast {cd ci nx : Nat} : sr_NR (mm_aast cd ci nx) := by
  intro R lv ll st n I L P a h
  unfold mm_aast at h
  (repeat' split at h) <;> simp at h
theorem nr_xald {nx : Nat} : sr_NR (mm_xald nx) := by
  intro R lv ll st n I L P a h
  unfold mm_xald at h
  (repeat' split at h) <;> simp at h
theorem nr_xlen {nx : Nat} : sr_NR (mm_xlen nx) := by
  intro R lv ll st n I L P a h
  unfold mm_xlen at h
  (repeat' split at h) <;> simp at h
theorem nr_oi {nx : Nat} : sr_NR (mm_oi nx) := by
  intro R lv ll st n I L P a h
  unfold mm_oi at h
  (repeat' split at h) <;> simp at h
theorem nr_acp {nx : Nat} : sr_NR (mm_acp nx) := by
  intro R lv ll st n I L P a h
  unfold mm_acp at h
  (repeat' split at h) <;> simp at h
theorem nr_ret {lv : List mm_V} {ll : List (Option Int)} {r : List mm_V} {nx : Nat} {b : Bool} {o : Option mm_A} {a : mm_A} : mm_ret lv ll r nx b o ≠ some (.inr a) := by
  intro h
  unfold mm_ret at h
  split at h <;> simp at h
theorem nr_cV {y ci na nx : Nat} {rt : Bool} : sr_NR (mm_cV y ci na rt nx) := by
  intro R lv ll st n I L P a h
  unfold mm_cV at h
  repeat' split at h
  all_goals first | exact nr_ret h | simp at h
theorem nr_cW {y na nx : Nat} : sr_NR (mm_cW y na nx) := by
  intro R lv ll st n I L P a h
  unfold mm_cW at h
  repeat' split at h
  all_goals first | exact nr_ret h | simp at h
theorem nr_cI {y na nx : Nat} : sr_NR (mm_cI y na nx) := by
  intro R lv ll st n I L P a h
  unfold mm_cI at h
  repeat' split at h
  all_goals first | exact nr_ret h | simp at h
theorem nr_cS {y na nx : Nat} {rt : Bool} : sr_NR (mm_cS y na rt nx) := by
  intro R lv ll st n I L P a h
  unfold mm_cS at h
  repeat' split at h
  all_goals first | exact nr_ret h | simp at h
theorem ns_ri  : sr_NS (mm_ri) := by
  intro R lv ll st n I L P a h
  unfold mm_ri at h
  (repeat' split at h) <;> simp at h
theorem ns_rz {m : Int} : sr_NS (mm_rz m) := by
  intro R lv ll st n I L P a h
  unfold mm_rz at h
  (repeat' split at h) <;> simp at h
theorem ns_rl  : sr_NS (mm_rl) := by
  intro R lv ll st n I L P a h
  unfold mm_rl at h
  (repeat' split at h) <;> simp at h
theorem ns_ra  : sr_NS (mm_ra) := by
  intro R lv ll st n I L P a h
  unfold mm_ra at h
  (repeat' split at h) <;> simp at h
theorem ns_rv  : sr_NS (mm_rv) := by
  intro R lv ll st n I L P a h
  unfold mm_rv at h
  (repeat' split at h) <;> simp at h
theorem ns_thr  : sr_NS (mm_thr) := by
  intro R lv ll st n I L P a h
  unfold mm_thr at h
  (repeat' split at h) <;> simp at h
def sr_Ret (cc : ByteArray) (mx : Nat) (own : String) (rt : Option FieldType) (pc : Nat) (t : mm_T) : Prop :=
  ∀ (E : sr_E) (d : Nat) (p : Program) (l : Launch) (e : Env) (R : Room) (s : State) (m : MethodId) (args : Array Value) (below : List Frame) (meth : Method) (c : Code) (n0 : Nat) (H : Heap) (locs : List Loc) (cells slots : Nat) (ls : Array Slot) (lv : List mm_V) (ll : List (Option Int)) (st : List mm_V) (n : Nat) (I L : mm_I) (P : mm_P) (a : mm_A),
    sr_C E d cc mx own p R s m args c → meth.sig.returnType = rt → meth.locks = false → sr_R E mx n0 s H locs cells slots ls lv ll st n I L P → t (mm_rn d) lv ll st n I L P = some (.inr a) →
    a.2.1 = n ∧ W p l e R s m args below meth c H locs cells slots (MQ below (sr_Q E a) args s cells slots (sr_A E)) (F0 m pc ls (st.map (sr_v E)))
theorem sr_Qof {E : sr_E} {mx n0 : Nat} {s : State} {args : Array Value} {H : Heap} {locs : List Loc} {cells slots : Nat} {ls : Array Slot} {lv : List mm_V} {ll : List (Option Int)} {st : List mm_V} {n : Nat} {I L : mm_I} {P : mm_P} {ov : Option mm_V} (hR : sr_R E mx n0 s H locs cells slots ls lv ll st n I L P) (hv : ∀ v, ov = some v → sr_vr v) : ∀ t : State, t.heap = H → s.WarmedH t.vm → sr_Q E (ov, n, I, L, P) args s (.returned (ov.map (sr_v E))) t := by
  intro t ht _
  exact ⟨rfl, by rw [ht]; exact hR.1, hR.2.1.F ht, hv⟩
section SRT
variable {cc : ByteArray} {mx : Nat} {own : String} {pc : Nat}
theorem st_ri (hd : decode cc pc = .ok (.ireturn, 1)) : sr_Ret cc mx own (some .int) pc mm_ri := by
  intro E d p l e R s m args below meth c n0 H locs cells slots ls lv ll st n I L P a hC hr hlk hR h
  unfold mm_ri at h
  split at h
  · rename_i z
    simp only [Option.some.injEq, Sum.inr.injEq] at h
    subst h
    exact ⟨rfl, W.iret hC.1 hC.2.1 hr (sr_Qof (ov := some (.inl z)) hR (fun v hv => by cases hv; exact hR.hd)) hR.2.1.2.2 hd hlk⟩
  · cases h
theorem st_rz (hd : decode cc pc = .ok (.ireturn, 1)) : sr_Ret cc mx own (some .boolean) pc (mm_rz 2) := by
  intro E d p l e R s m args below meth c n0 H locs cells slots ls lv ll st n I L P a hC hr hlk hR h
  unfold mm_rz at h
  split at h
  · rename_i z
    split at h
    · rename_i hz
      simp only [Option.some.injEq, Sum.inr.injEq] at h
      subst h
      have hz2 : z = 0 ∨ z = 1 := by omega
      exact ⟨rfl, W.zret (ty := .boolean) hC.1 hC.2.1 hr (by rcases hz2 with rfl | rfl <;> rfl) (sr_Qof (ov := some (.inl z)) hR (fun v hv => by cases hv; exact hR.hd)) hR.2.1.2.2 hd hlk⟩
    · cases h
  · cases h
theorem st_rl (hd : decode cc pc = .ok (.lreturn, 1)) : sr_Ret cc mx own (some .long) pc mm_rl := by
  intro E d p l e R s m args below meth c n0 H locs cells slots ls lv ll st n I L P a hC hr hlk hR h
  unfold mm_rl at h
  split at h
  · rename_i z
    simp only [Option.some.injEq, Sum.inr.injEq] at h
    subst h
    exact ⟨rfl, W.lret hC.1 hC.2.1 hr (sr_Qof (ov := some (.inr (.inl z))) hR (fun v hv => by cases hv; exact hR.hd)) hR.2.1.2.2 hd hlk⟩
  · cases h
theorem st_ra {C : String} (hd : decode cc pc = .ok (.areturn, 1)) : sr_Ret cc mx own (some (.object C)) pc mm_ra := by
  intro E d p l e R s m args below meth c n0 H locs cells slots ls lv ll st n I L P a hC hr hlk hR h
  unfold mm_ra at h
  split at h
  · rename_i z
    simp only [Option.some.injEq, Sum.inr.injEq] at h
    subst h
    exact ⟨rfl, W.aret hC.1 hC.2.1 hr (Or.inl ⟨C, rfl⟩) (by cases z with | none => exact Or.inl rfl | some a => exact Or.inr ⟨_, rfl⟩) (sr_Qof (ov := some (.inr (.inr z))) hR (fun v hv => by cases hv; trivial)) hR.2.1.2.2 hd hlk⟩
  · cases h
theorem st_rv (hd : decode cc pc = .ok (.return_, 1)) : sr_Ret cc mx own none pc mm_rv := by
  intro E d p l e R s m args below meth c n0 H locs cells slots ls lv ll st n I L P a hC hr hlk hR h
  unfold mm_rv at h
  split at h
  · simp only [Option.some.injEq, Sum.inr.injEq] at h
    subst h
    exact ⟨rfl, W.vret hC.1 hC.2.1 hr (sr_Qof (ov := none) hR (fun v hv => by cases hv)) hR.2.1.2.2 hd hlk⟩
  · cases h
end SRT
def sr_Ok (tab : sr_Tab) (cc : ByteArray) (mx : Nat) (own mnm : String) (rt : Option FieldType) (pc : Nat) (t : mm_T) : Prop := (sr_Snd tab cc mx own mnm pc t ∧ sr_NR t) ∨ (sr_Ret cc mx own rt pc t ∧ sr_NS t)
theorem mm_look_mem (l : List (Nat × mm_T)) (pc : Nat) : (pc, mm_look l pc) ∈ l ∨ mm_look l pc = fun _ _ _ _ _ _ _ _ => none := by
  induction l with
  | nil => exact Or.inr rfl
  | cons q l ih =>
    obtain ⟨p, t⟩ := q
    unfold mm_look
    cases hb : Nat.beq p pc with
    | true =>
      have := Nat.eq_of_beq_eq_true hb
      subst this
      exact Or.inl List.mem_cons_self
    | false =>
      rcases ih with h | h
      · exact Or.inl (List.mem_cons_of_mem _ h)
      · exact Or.inr h
theorem mm_ex_n {R : mm_R} {code : Nat → mm_T} : ∀ (k : Nat) (s : mm_S) (a : mm_A), mm_ex R code k s = some a → s.2.2.2.2.1 ≤ a.2.1 := by
  intro k
  induction k with
  | zero => intro s a h; cases h
  | succ k ih =>
    intro s a h
    obtain ⟨pc, lv, ll, st, n, I, L, P⟩ := s
    rw [mm_ex] at h
    split at h
    · rename_i s2 e1
      by_cases hn : n ≤ s2.2.2.2.2.1
      · simp only [hn, if_true] at h
        exact Nat.le_trans hn (ih _ _ h)
      · simp only [hn, if_false] at h
        cases h
    · rename_i a2 e1
      by_cases hn : n ≤ a2.2.1
      · simp only [hn, if_true] at h
        cases h
        exact hn
      · simp only [hn, if_false] at h
        cases h
    · cases h
/-- a run of the machine is followed, up to the end Q -/
theorem sr_main {tab : sr_Tab} {cc : ByteArray} {mx : Nat} {own mnm : String} {l0 : List (Nat × mm_T)} {E : sr_E} {d : Nat} {p : Program} {l : Launch} {e : Env} {R : Room} {s : State} {m : MethodId} {args : Array Value} {below : List Frame} {meth : Method} {c : Code} {Q : State → Prop} {n0 : Nat} {a : mm_A}
    (hall : ∀ q ∈ l0, (sr_Snd tab cc mx own mnm q.1 q.2 ∧ sr_NR q.2) ∨ (sr_NS q.2 ∧ ∀ (H : Heap) (locs : List Loc) (cells slots : Nat) (ls : Array Slot) (lv : List mm_V) (ll : List (Option Int)) (st : List mm_V) (n : Nat) (I L : mm_I) (P : mm_P), sr_R E mx n0 s H locs cells slots ls lv ll st n I L P → q.2 (mm_rn d) lv ll st n I L P = some (.inr a) → W p l e R s m args below meth c H locs cells slots Q (F0 m q.1 ls (st.map (sr_v E)))))
    (hC : sr_C E d cc mx own p R s m args c) (hnm : meth.name = mnm) (hM : sr_Calls E l tab d) (hb1 : a.2.1 ≤ n0 + R.cells) (hb2 : sr_sl a.2.1 ≤ sr_sl n0 + R.slots) (hb3 : a.2.1 < 1000000) :
    ∀ (k pc : Nat) (lv : List mm_V) (ll : List (Option Int)) (st : List mm_V) (n : Nat) (I L : mm_I) (P : mm_P) (H : Heap) (locs : List Loc) (cells slots : Nat) (ls : Array Slot), mm_ex (mm_rn d) (mm_look l0) k (pc, lv, ll, st, n, I, L, P) = some a → sr_R E mx n0 s H locs cells slots ls lv ll st n I L P → W p l e R s m args below meth c H locs cells slots Q (F0 m pc ls (st.map (sr_v E))) := by
  intro k
  induction k with
  | zero => intro pc lv ll st n I L P H locs cells slots ls h; cases h
  | succ k ih =>
    intro pc lv ll st n I L P H locs cells slots ls h hR
    rw [mm_ex] at h
    rcases mm_look_mem l0 pc with hm | hm
    · split at h
      · rename_i s2 e1
        obtain ⟨pc', lv', ll', st', n', I', L', P'⟩ := s2
        by_cases hn : n ≤ n'
        · have h2 : mm_ex (mm_rn d) (mm_look l0) k (pc', lv', ll', st', n', I', L', P') = some a := by
            rw [if_pos hn] at h
            exact h
          rcases hall _ hm with ⟨hs, -⟩ | ⟨hs, -⟩
          · exact hs E d p l e R s m args below meth c Q n0 a.2.1 H locs cells slots ls lv ll st n I L P pc' lv' ll' st' n' I' L' P' hC hnm hM hR e1 hn (mm_ex_n k _ _ h2) hb1 hb2 hb3 (fun H' locs' cells' slots' ls' hR' => ih pc' lv' ll' st' n' I' L' P' H' locs' cells' slots' ls' h2 hR')
          · exact absurd e1 (hs _ _ _ _ _ _ _ _ _)
        · rw [if_neg hn] at h
          cases h
      · rename_i a2 e1
        have h2 : a2 = a := by
          by_cases hn : n ≤ a2.2.1
          · rw [if_pos hn] at h
            exact Option.some.inj h
          · rw [if_neg hn] at h
            cases h
        subst h2
        rcases hall _ hm with ⟨-, hs⟩ | ⟨-, hs⟩
        · exact absurd e1 (hs _ _ _ _ _ _ _ _ _)
        · exact hs H locs cells slots ls lv ll st n I L P hR e1
      · cases h
    · rw [hm] at h
      cases h
/-- the locals at a method's entry -/
theorem sr_ent {E : sr_E} : ∀ args : List mm_V, (∀ v ∈ args, sr_vr v) →
    (args.flatMap mm_fa).length = (lg_sl (args.map (sr_v E))).length ∧
    (∀ (i : Nat) (u : mm_V), (args.flatMap mm_fa)[i]? = some u → mm_c1 u = true → (lg_sl (args.map (sr_v E)))[i]? = some (.val (sr_v E u)) ∧ sr_vr u) ∧
    (∀ (i : Nat) (z : Int), (args.flatMap mm_fl)[i]? = some (some z) → (lg_sl (args.map (sr_v E)))[i]? = some (.val (.long (Int64.ofInt z))) ∧ mm_rgl z) := by
  intro args
  induction args with
  | nil => intro _; exact ⟨rfl, fun i u h => by simp at h, fun i z h => by simp at h⟩
  | cons v r ih =>
    intro hv
    obtain ⟨i1, i2, i3⟩ := ih (fun u hu => hv u (List.mem_cons_of_mem _ hu))
    have hv0 := hv v List.mem_cons_self
    have key1 : ∀ (w : Value), w.category = 1 → lg_sl (w :: r.map (sr_v E)) = .val w :: lg_sl (r.map (sr_v E)) := by
      intro w hw
      unfold lg_sl
      rw [List.flatMap_cons, if_neg (by omega)]
      rfl
    have key2 : ∀ (w : Value), w.category = 2 → lg_sl (w :: r.map (sr_v E)) = .val w :: .second :: lg_sl (r.map (sr_v E)) := by
      intro w hw
      unfold lg_sl
      rw [List.flatMap_cons, if_pos hw]
      rfl
    match v, hv0 with
    | .inl z, hv0 =>
      rw [List.map_cons, key1 _ rfl]
      simp only [List.flatMap_cons, mm_fa, mm_fl, List.singleton_append, List.length_cons]
      refine ⟨by omega, fun i u hu hc => ?_, fun i y hy => ?_⟩
      · cases i with
        | zero => simp at hu; subst hu; exact ⟨rfl, hv0⟩
        | succ i => simpa using i2 i u (by simpa using hu) hc
      · cases i with
        | zero => simp at hy
        | succ i => simpa using i3 i y (by simpa using hy)
    | .inr (.inr o), hv0 =>
      rw [List.map_cons, key1 _ (sr_c1v (E := E) (v := .inr (.inr o)) rfl)]
      simp only [List.flatMap_cons, mm_fa, mm_fl, List.singleton_append, List.length_cons]
      refine ⟨by omega, fun i u hu hc => ?_, fun i y hy => ?_⟩
      · cases i with
        | zero => simp at hu; subst hu; exact ⟨rfl, hv0⟩
        | succ i => simpa using i2 i u (by simpa using hu) hc
      · cases i with
        | zero => simp at hy
        | succ i => simpa using i3 i y (by simpa using hy)
    | .inr (.inl z), hv0 =>
      rw [List.map_cons, key2 _ rfl]
      simp only [List.flatMap_cons, mm_fa, mm_fl, List.cons_append, List.nil_append, List.length_cons]
      refine ⟨by omega, fun i u hu hc => ?_, fun i y hy => ?_⟩
      · match i, hu with
        | 0, hu => simp at hu; subst hu; cases hc
        | 1, hu => simp at hu; subst hu; cases hc
        | i + 2, hu => simpa using i2 i u (by simpa using hu) hc
      · match i, hy with
        | 0, hy => simp at hy; subst hy; exact ⟨rfl, hv0⟩
        | 1, hy => simp at hy
        | i + 2, hy => simpa using i3 i y (by simpa using hy)
theorem sr_entL {E : sr_E} {args : List mm_V} {mx h : Nat} (hv : ∀ v ∈ args, sr_vr v) (hl : (mm_lvs mx args).length = mx) : sr_L E ((lg_sl (args.map (sr_v E)) ++ List.replicate (mx - (lg_sl (args.map (sr_v E))).length) Slot.unset).toArray) mx (mm_lvs mx args) (mm_lls h args) := by
  obtain ⟨e1, e2, e3⟩ := sr_ent (E := E) args hv
  have hle : (lg_sl (args.map (sr_v E))).length ≤ mx := by
    rw [← e1]
    unfold mm_lvs at hl
    dsimp only at hl
    rw [List.length_append] at hl
    omega
  obtain ⟨g1, g2, -⟩ := lv_entry (args.map (sr_v E)) (n := mx) hle
  refine ⟨g1, hl, g2, fun i v hi hc => ?_, fun i z hi => ?_⟩
  · unfold mm_lvs at hi
    dsimp only at hi
    by_cases hlt : i < (args.flatMap mm_fa).length
    · rw [List.getElem?_append_left hlt] at hi
      obtain ⟨f1, f2⟩ := e2 i v hi hc
      refine ⟨?_, f2⟩
      rw [List.getElem?_toArray, List.getElem?_append_left (by rw [← e1]; exact hlt)]
      exact f1
    · rw [List.getElem?_append_right (by omega)] at hi
      have := List.eq_of_mem_replicate (List.mem_of_getElem? hi)
      subst this
      cases hc
  · unfold mm_lls at hi
    split at hi
    · simp at hi
    · dsimp only at hi
      by_cases hlt : i < (args.flatMap mm_fl).length
      · rw [List.getElem?_append_left hlt] at hi
        obtain ⟨f1, f2⟩ := e3 i z hi
        refine ⟨?_, f2⟩
        rw [List.getElem?_toArray, List.getElem?_append_left ((List.getElem?_eq_some_iff.mp f1).1)]
        exact f1
      · rw [List.getElem?_append_right (by omega)] at hi
        have := List.eq_of_mem_replicate (List.mem_of_getElem? hi)
        cases this
set_option maxRecDepth 100000 in
/-- a whole method -/
theorem sr_meth {tab : sr_Tab} {E : sr_E} {l : Launch} {d y : Nat} {yn : MethodName} {cb : ByteArray} {rt : Option FieldType} {l0 : List (Nat × mm_T)} (hM : sr_Calls E l tab d) (hp : mm_isP y = false) (hcd : mm_cd y = mm_look l0) (hpl : plainName yn.cls = true)
    (hall : ∀ q ∈ l0, sr_Ok tab cb (mm_mx y) yn.cls yn.name rt q.1 q.2) : ∀ (args : List mm_V) (n : Nat) (I L : mm_I) (P : mm_P) (a : mm_A), mm_rn (d + 1) y args n I L P = some a → n ≤ a.2.1 → sr_Met E l (d + 1) yn (.code yn cb (mm_mx y) rt) args n I L P a := by
  intro args n I L P a ha hna mc ms hmc hms hlt hargs
  have ha2 : (bif mm_isP y then mm_prim (mm_rn d) y args n I L P else bif Nat.beq (mm_lvs (mm_mx y) args).length (mm_mx y) then mm_ev (mm_rn d) (mm_cd y) (0, mm_lvs (mm_mx y) args, mm_lls (mm_hl y) args, [], n, I, L, P) else none) = some a := ha
  rw [hp, cond_false] at ha2
  cases hbq : Nat.beq (mm_lvs (mm_mx y) args).length (mm_mx y) with
  | false => rw [hbq, cond_false] at ha2; cases ha2
  | true =>
    rw [hbq, cond_true, hcd] at ha2
    have hlen := Nat.eq_of_beq_eq_true hbq
    obtain ⟨k, hk⟩ := mm_ev_some ha2
    refine Met.ofW (cc := cb) (maxL := mm_mx y) (ret := rt) hpl rfl ?_
    intro p e s m argsA below meth c s₁ B hml hv
    obtain ⟨rfl, hK, hZ, hH, hbs, hsz⟩ := hv
    have hts0 := atoms_spec (ws := Cond.code yn cb (mm_mx y) rt :: sr_T) B.pre
    have hts : ∀ w ∈ sr_T, w.before (args.map (sr_v E)).toArray s = true := fun w hw => hts0 w (List.mem_cons_of_mem _ hw)
    have hown : s.vm.findClass yn.cls = some m.cls := findClass_of_methodNamed B.named
    have hnm : meth.name = yn.name := (name_of_methodNamed B.named B.method).1
    have hC : sr_C E d cb (mm_mx y) yn.cls p (sr_rm (d + 1) mc ms) s m (args.map (sr_v E)).toArray c := ⟨B.exec, B.bytes, hml, hown, hts, hK, hZ, hbs, by unfold sr_rm; dsimp only; omega, by unfold sr_rm; dsimp only; omega⟩
    rw [lg_entry_eq]
    refine sr_main (tab := tab) (l0 := l0) (mnm := yn.name) (n0 := n) (a := a) (Q := MQ below (sr_Q E a) (args.map (sr_v E)).toArray s mc ms (sr_A E)) ?_ hC hnm hM (by show a.2.1 ≤ n + mc; omega) (by show sr_sl a.2.1 ≤ sr_sl n + ms; omega) hlt k 0 (mm_lvs (mm_mx y) args) (mm_lls (mm_hl y) args) [] n I L P s.heap [] 0 0 _ hk ?_
    · intro q hq
      rcases hall q hq with ⟨h1, h2⟩ | ⟨h1, h2⟩
      · exact Or.inl ⟨h1, h2⟩
      · refine Or.inr ⟨h2, fun H locs cells slots ls lv ll st n2 I2 L2 P2 hR he => ?_⟩
        obtain ⟨f1, f2⟩ := h1 E d p l e (sr_rm (d + 1) mc ms) s m (args.map (sr_v E)).toArray below meth c n H locs cells slots ls lv ll st n2 I2 L2 P2 a hC B.returns B.notSynchronized hR he
        have g1 : cells + n = n2 := hR.2.2.2.2.1
        have g2 : slots + sr_sl n = sr_sl n2 := hR.2.2.2.2.2.1
        have g3 : cells = mc := by omega
        have g4 : slots = ms := by rw [← f1] at g2; omega
        rw [g3, g4] at f2
        rw [g3, g4]
        exact f2
    · exact ⟨hH, va_S.rf, sr_entL hargs hlen, (fun v hv => nomatch hv), by omega, by omega, hsz⟩
