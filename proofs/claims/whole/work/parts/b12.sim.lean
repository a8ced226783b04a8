/-! THE MACHINE'S WORLD IN THE CLAIM'S HEAP -/
abbrev sr_cl : List vw_C := [(RX0, TX0, 4), (RX1, TX1, 3), (RX2, TX2, 7), (RX3, TX3, 5), (RX5, TX5, 9), (RX5, TX5, 9), (RX6, TX6, 3), (RX7, TX7, 2), (RX8, TX8, 3), (RX9, TX9, 9), (RX10, TX10, 5), (RX11, TX11, 18), (RX12, TX12, 47)]
/-- the ground: the classes' numbers and slots, the array classes, where the cells begin, where what stood there before lies, what ints it holds -/
abbrev sr_E : Type := va_G × (Nat → ClassId) × Nat × (Nat → Nat) × mm_I
def sr_a (E : sr_E) (a : Nat) : Nat := if a < 1000000 then E.2.2.1 + a else E.2.2.2.1 (a - 1000000)
abbrev sr_A (E : sr_E) : Nat → Prop := fun q => E.2.2.1 ≤ q
def sr_v (E : sr_E) : mm_V → Value
  | .inl z => .int (Int32.ofInt z)
  | .inr (.inl z) => .long (Int64.ofInt z)
  | .inr (.inr r) => va_rf (r.map (sr_a E))
def sr_f (E : sr_E) (I L : mm_I) (P : mm_P) (a k kd : Nat) : Value :=
  if kd = 1 then .long (Int64.ofInt (L a k)) else if kd = 2 then va_rf ((P a k).map (sr_a E)) else .int (Int32.ofInt (I a k))
def sr_c (E : sr_E) (I L : mm_I) (P : mm_P) (a : Nat) : va_E :=
  if (mm_ty a).1 = 20 then .inl (E.2.1 0, (mm_ty a).2, .inl (fun i => Int32.ofInt (I a i)))
  else if (mm_ty a).1 = 21 then .inl (E.2.1 1, (mm_ty a).2, .inl (fun i => Int32.ofInt (I a i)))
  else if (mm_ty a).1 = 22 then .inl (E.2.1 2, (mm_ty a).2, .inr (.inl (fun i => Int64.ofInt (L a i))))
  else if (mm_ty a).1 = 23 then .inl (E.2.1 3, (mm_ty a).2, .inr (.inr (.inr (.inr (fun i => (P a i).map (sr_a E))))))
  else if (mm_ty a).1 = 24 then .inl (E.2.1 4, (mm_ty a).2, .inr (.inr (.inr (.inr (fun i => (P a i).map (sr_a E))))))
  else .inr ((mm_ty a).1, (List.range (mm_fks.getD (mm_ty a).1 []).length).map (fun k => sr_f E I L P a k (mm_kd (mm_ty a).1 k)))
def sr_w (E : sr_E) (n : Nat) (I L : mm_I) (P : mm_P) : va_W := (List.range (min n mm_NC)).map (fun a => (sr_a E a, sr_c E I L P a))
theorem sr_w_get {E : sr_E} {n : Nat} {I L : mm_I} {P : mm_P} {a : Nat} (ha : a < n) (hb : a < mm_NC) : (sr_w E n I L P)[a]? = some (sr_a E a, sr_c E I L P a) := by
  unfold sr_w
  rw [List.getElem?_map, List.getElem?_range (by omega)]
  rfl
theorem sr_w_len {E : sr_E} {n : Nat} {I L : mm_I} {P : mm_P} : (sr_w E n I L P).length = min n mm_NC := by
  unfold sr_w; rw [List.length_map, List.length_range]
theorem sr_w_some {E : sr_E} {n : Nat} {I L : mm_I} {P : mm_P} {k : Nat} {q : Nat × va_E} (h : (sr_w E n I L P)[k]? = some q) : k < n ∧ k < mm_NC ∧ q = (sr_a E k, sr_c E I L P k) := by
  have hk : k < (sr_w E n I L P).length := (List.getElem?_eq_some_iff.mp h).1
  rw [sr_w_len] at hk
  have hk1 : k < n := by omega
  have hk2 : k < mm_NC := by omega
  rw [sr_w_get hk1 hk2] at h
  exact ⟨hk1, hk2, (Option.some.inj h).symm⟩
theorem sr_a_lt {E : sr_E} {a : Nat} (h : a < 1000000) : sr_a E a = E.2.2.1 + a := if_pos h
theorem sr_w_D {E : sr_E} {n : Nat} {I L : mm_I} {P : mm_P} : va_D (sr_A E) (sr_w E n I L P) := by
  refine ⟨fun i j p q hp hq h => ?_, fun k q hq => ?_⟩
  · obtain ⟨-, h1, rfl⟩ := sr_w_some hp
    obtain ⟨-, h2, rfl⟩ := sr_w_some hq
    have e1 : sr_a E i = E.2.2.1 + i := sr_a_lt (by unfold mm_NC at h1; omega)
    have e2 : sr_a E j = E.2.2.1 + j := sr_a_lt (by unfold mm_NC at h2; omega)
    dsimp only at h
    omega
  · obtain ⟨-, h1, rfl⟩ := sr_w_some hq
    show E.2.2.1 ≤ sr_a E k
    rw [sr_a_lt (by unfold mm_NC at h1; omega)]
    omega
theorem sr_w_set {E : sr_E} {n : Nat} {I L I' L' : mm_I} {P P' : mm_P} {a : Nat} {e : va_E} (hc : sr_c E I' L' P' a = e) (ho : ∀ b, b ≠ a → sr_c E I' L' P' b = sr_c E I L P b) : (sr_w E n I L P).set a (sr_a E a, e) = sr_w E n I' L' P' := by
  apply List.ext_getElem?
  intro k
  by_cases hk : k < min n mm_NC
  · rw [sr_w_get (E := E) (I := I') (by omega) (by omega)]
    by_cases hka : k = a
    · subst hka
      rw [List.getElem?_set_self (by rw [sr_w_len]; exact hk), hc]
    · rw [List.getElem?_set_ne (fun h => hka h.symm), sr_w_get (by omega) (by omega), ho k hka]
  · rw [List.getElem?_eq_none (by rw [List.length_set, sr_w_len]; omega), List.getElem?_eq_none (by rw [sr_w_len]; omega)]
theorem sr_tyl_len : mm_tyl.length = mm_NC := by decide +kernel
theorem sr_lt {a ci : Nat} (h : (mm_ty a).1 = ci) (hc : ci ≠ 99) (ha : a < 1000000) : a < mm_NC := by
  refine Nat.lt_of_not_le fun hle => hc ?_
  rw [← h]
  unfold mm_ty
  rw [if_pos ha, List.getD_eq_getElem?_getD, List.getElem?_eq_none (by rw [sr_tyl_len]; exact hle)]
  rfl
theorem sr_c_20 {E : sr_E} {I L : mm_I} {P : mm_P} {a : Nat} (h : (mm_ty a).1 = 20) : sr_c E I L P a = .inl (E.2.1 0, (mm_ty a).2, .inl (fun i => Int32.ofInt (I a i))) := by
  unfold sr_c; rw [if_pos h]
theorem sr_c_21 {E : sr_E} {I L : mm_I} {P : mm_P} {a : Nat} (h : (mm_ty a).1 = 21) : sr_c E I L P a = .inl (E.2.1 1, (mm_ty a).2, .inl (fun i => Int32.ofInt (I a i))) := by
  unfold sr_c; rw [if_neg (by omega), if_pos h]
theorem sr_c_22 {E : sr_E} {I L : mm_I} {P : mm_P} {a : Nat} (h : (mm_ty a).1 = 22) : sr_c E I L P a = .inl (E.2.1 2, (mm_ty a).2, .inr (.inl (fun i => Int64.ofInt (L a i)))) := by
  unfold sr_c; rw [if_neg (by omega), if_neg (by omega), if_pos h]
theorem sr_c_23 {E : sr_E} {I L : mm_I} {P : mm_P} {a : Nat} (h : (mm_ty a).1 = 23) : sr_c E I L P a = .inl (E.2.1 3, (mm_ty a).2, .inr (.inr (.inr (.inr (fun i => (P a i).map (sr_a E)))))) := by
  unfold sr_c; rw [if_neg (by omega), if_neg (by omega), if_neg (by omega), if_pos h]
theorem sr_c_24 {E : sr_E} {I L : mm_I} {P : mm_P} {a : Nat} (h : (mm_ty a).1 = 24) : sr_c E I L P a = .inl (E.2.1 4, (mm_ty a).2, .inr (.inr (.inr (.inr (fun i => (P a i).map (sr_a E)))))) := by
  unfold sr_c; rw [if_neg (by omega), if_neg (by omega), if_neg (by omega), if_neg (by omega), if_pos h]
def sr_fs (E : sr_E) (I L : mm_I) (P : mm_P) (a ci : Nat) : List Value := (List.range (mm_fks.getD ci []).length).map (fun k => sr_f E I L P a k (mm_kd ci k))
theorem sr_c_o {E : sr_E} {I L : mm_I} {P : mm_P} {a ci : Nat} (h : (mm_ty a).1 = ci) (hc : ci < 20) : sr_c E I L P a = .inr (ci, sr_fs E I L P a ci) := by
  unfold sr_c sr_fs; rw [if_neg (by omega), if_neg (by omega), if_neg (by omega), if_neg (by omega), if_neg (by omega), h]
theorem sr_fs_get {E : sr_E} {I L : mm_I} {P : mm_P} {a ci k : Nat} (hk : k < (mm_fks.getD ci []).length) : (sr_fs E I L P a ci)[k]? = some (sr_f E I L P a k (mm_kd ci k)) := by
  unfold sr_fs
  rw [List.getElem?_map, List.getElem?_range hk]
  rfl
theorem sr_fs_len {E : sr_E} {I L : mm_I} {P : mm_P} {a ci : Nat} : (sr_fs E I L P a ci).length = (mm_fks.getD ci []).length := by
  unfold sr_fs; rw [List.length_map, List.length_range]
theorem sr_fs_set {E : sr_E} {I L I' L' : mm_I} {P P' : mm_P} {a ci k : Nat} {v : Value} (hv : sr_f E I' L' P' a k (mm_kd ci k) = v) (ho : ∀ j, j ≠ k → sr_f E I' L' P' a j (mm_kd ci j) = sr_f E I L P a j (mm_kd ci j)) : sr_fs E I' L' P' a ci = (sr_fs E I L P a ci).set k v := by
  apply List.ext_getElem?
  intro j
  by_cases hj : j < (mm_fks.getD ci []).length
  · rw [sr_fs_get hj]
    by_cases hjk : j = k
    · subst hjk
      rw [List.getElem?_set_self (by rw [sr_fs_len]; exact hj), hv]
    · rw [List.getElem?_set_ne (fun h => hjk h.symm), sr_fs_get hj, ho j hjk]
  · rw [List.getElem?_eq_none (by rw [sr_fs_len]; omega), List.getElem?_eq_none (by rw [List.length_set, sr_fs_len]; omega)]
/-- a cell depends on its own rows alone -/
theorem sr_c_ext {E : sr_E} {I L I' L' : mm_I} {P P' : mm_P} {a : Nat} (h1 : I' a = I a) (h2 : L' a = L a) (h3 : P' a = P a) : sr_c E I' L' P' a = sr_c E I L P a := by
  unfold sr_c sr_f
  rw [h1, h2, h3]
/-- how many fields and elements the first n cells have -/
def sr_sz (a : Nat) : Nat := if a < mm_NC then (mm_ty a).2 else 6
def sr_sl : Nat → Nat
  | 0 => 0
  | n + 1 => sr_sl n + sr_sz n
theorem sr_sl_mono {n m : Nat} (h : n ≤ m) : sr_sl n ≤ sr_sl m := by
  induction h with
  | refl => exact Nat.le_refl _
  | step _ ih => exact Nat.le_trans ih (Nat.le_add_right _ _)
def sr_rg (I L : mm_I) : Prop := ∀ a j, mm_rg (I a j) ∧ mm_rgl (L a j)
def sr_H (E : sr_E) (n : Nat) (I L : mm_I) (P : mm_P) (H : Heap) : Prop :=
  va_P E.1 sr_cl (sr_w E n I L P) H ∧ n < 1000000 ∧ (∀ a j, 1000000 ≤ a → I a j = E.2.2.2.2 a j) ∧ sr_rg I L
abbrev sr_tys (E : sr_E) : List (ClassId × FieldType) := [(E.2.1 0, .int), (E.2.1 1, .boolean), (E.2.1 2, .long), (E.2.1 3, .object RX5), (E.2.1 4, .object RX3)]
/-- what stands before all cells of the machine, seen from a state -/
def sr_Z (E : sr_E) (U : State) (H : Heap) : Prop :=
  (∀ k, k < 4 → va_Z RX10 (["FIRST", "LEAST", "MOST", "USUAL"].getD k "") "[I" (.ref (E.2.2.2.1 k)) (sr_A E) U H ∧ va_T .int (E.2.2.2.1 k) (mm_ty (1000000 + k)).2 (fun j => .int (Int32.ofInt (E.2.2.2.2 (1000000 + k) j))) (sr_A E) U H) ∧
  va_X (E.2.2.2.1 6) (E.2.2.2.2 1000006 5000).toNat (fun j => Int32.ofInt (E.2.2.2.2 1000006 j)) U H ∧ E.2.2.2.1 6 < E.2.2.1 ∧ 0 ≤ E.2.2.2.2 1000006 5000 ∧
  vk_R RX10 63 "spl" (E.2.2.2.1 4) U ∧ vk_R RX10 98 "gekwoab" (E.2.2.2.1 5) U ∧ vk_R RX11 186 "no such PLACE, or nothing such to tell of it" (E.2.2.2.1 7) U ∧
  vk_S 2 [3, 7] [[115, 112, 108], [103, 101, 107, 119, 111, 97, 98]] (fun i => E.2.2.2.1 (4 + i)) (fun i => E.2.2.2.1 (8 + i)) (sr_A E) U H ∧
  va_Z "java/lang/String" "COMPACT_STRINGS" "Z" (.int 1) (sr_A E) U H ∧ va_Zq "jdk/internal/util/Preconditions" "SIOOBE_FORMATTER" "Ljava/util/function/BiFunction;" (sr_A E) U H ∧
  vx_Zq Bundle.tN "UNASSIGNED_STACK" Bundle.steD (sr_A E) U H ∧ vx_Zq Bundle.tN "SUPPRESSED_SENTINEL" Bundle.listD (sr_A E) U H
def sr_K (E : sr_E) (U : State) : Prop := va_K E.1 sr_cl (sr_tys E) U ∧ (∀ w ∈ sr_N, va_Nw w U) ∧ va_AO RX5 U ∧ va_AO RX3 U
