/-! constructors -/
theorem zq_kv {d y nx : Nat} {lv : List mm_V} {ll : List (Option Int)} {st : List mm_V} {n n' : Nat} {I L : mm_I} {P : mm_P} (h : n ≤ n') : mm_kv d y nx lv ll st n (some (none, n', I, L, P)) = mm_E d y nx lv ll st n' I L P := by
  show (if n ≤ n' then _ else _) = _
  rw [if_pos h]
theorem zp_up {P : mm_P} {a k m : Nat} {r : Option Nat} (h : a ≠ m) : mm_zp (mm_up P a k r) m = mm_up (mm_zp P m) a k r := by
  funext b j
  unfold mm_zp mm_up
  by_cases e : b = m
  · subst e
    have c : ¬ (b = a ∧ j = k) := fun q => h q.1.symm
    simp [c]
  · simp [e]
theorem zi_ui {I : mm_I} {a k m : Nat} {z : Int} (h : a ≠ m) : mm_zi (mm_ui I a k z) m = mm_ui (mm_zi I m) a k z := by
  funext b j
  unfold mm_zi mm_ui
  by_cases e : b = m
  · subst e
    have c : ¬ (b = a ∧ j = k) := fun q => h q.1.symm
    simp [c]
  · simp [e]
section CT
variable {d a : Nat} {I L : mm_I} {P : mm_P}
theorem zc7 (ha : a + 4 ≤ 270) (t0 : (mm_ty a).1 = 1) (t1 : mm_ty (a + 1) = (20, 100)) (t2 : mm_ty (a + 2) = (20, 100)) (t3 : mm_ty (a + 3) = (20, 100)) (hL : ∀ m, mm_zi L m = L) : mm_rn (d + 1) 7 [.inr (.inr (some a))] (a + 1) I L P = some (none, a + 4, mm_zi (mm_zi (mm_zi I (a + 1)) (a + 2)) (a + 3), L, mm_up (mm_up (mm_up (mm_zp (mm_zp (mm_zp P (a + 1)) (a + 2)) (a + 3)) a 0 (some (a + 1))) a 1 (some (a + 2))) a 2 (some (a + 3))) := by
  have hok : ∀ m, a < m → mm_ok m a 1 := fun m hm => ⟨hm, t0⟩
  have h1 : a + 1 < mm_NC ∧ mm_ty (a + 1) = (20, Int.toNat 100) ∧ (0 : Int) ≤ 100 := ⟨by show a + 1 < 270; omega, t1, by decide⟩
  have h2 : a + 2 < mm_NC ∧ mm_ty (a + 2) = (20, Int.toNat 100) ∧ (0 : Int) ≤ 100 := ⟨by show a + 2 < 270; omega, t2, by decide⟩
  have h3 : a + 3 < mm_NC ∧ mm_ty (a + 3) = (20, Int.toNat 100) ∧ (0 : Int) ≤ 100 := ⟨by show a + 3 < 270; omega, t3, by decide⟩
  rw [eX1_init]
  simp (disch := first | assumption | omega | exact hok _ (by omega)) only [kX1_init, Nat.add_assoc, Nat.reduceAdd, hL, zp_up]
theorem zc21 (ha : a + 4 ≤ 270) (t0 : (mm_ty a).1 = 3) (t1 : mm_ty (a + 1) = (20, 256)) (t2 : mm_ty (a + 2) = (20, 6)) (t3 : mm_ty (a + 3) = (20, 64)) (hL : ∀ m, mm_zi L m = L) : mm_rn (d + 1) 21 [.inr (.inr (some a))] (a + 1) I L P = some (none, a + 4, mm_zi (mm_zi (mm_zi I (a + 1)) (a + 2)) (a + 3), L, mm_up (mm_up (mm_up (mm_zp (mm_zp (mm_zp P (a + 1)) (a + 2)) (a + 3)) a 0 (some (a + 1))) a 2 (some (a + 2))) a 3 (some (a + 3))) := by
  have hok : ∀ m, a < m → mm_ok m a 3 := fun m hm => ⟨hm, t0⟩
  have h1 : a + 1 < mm_NC ∧ mm_ty (a + 1) = (20, Int.toNat 256) ∧ (0 : Int) ≤ 256 := ⟨by show a + 1 < 270; omega, t1, by decide⟩
  have h2 : a + 2 < mm_NC ∧ mm_ty (a + 2) = (20, Int.toNat 6) ∧ (0 : Int) ≤ 6 := ⟨by show a + 2 < 270; omega, t2, by decide⟩
  have h3 : a + 3 < mm_NC ∧ mm_ty (a + 3) = (20, Int.toNat 64) ∧ (0 : Int) ≤ 64 := ⟨by show a + 3 < 270; omega, t3, by decide⟩
  rw [eX3_init]
  simp (disch := first | assumption | omega | exact hok _ (by omega)) only [kX3_init, Nat.add_assoc, Nat.reduceAdd, hL, zp_up]
theorem zc39 (ha : a + 4 ≤ 270) (t0 : (mm_ty a).1 = 5) (t1 : mm_ty (a + 1) = (20, 8)) (t2 : mm_ty (a + 2) = (20, 8)) (t3 : mm_ty (a + 3) = (20, 8)) (hL : ∀ m, mm_zi L m = L) : mm_rn (d + 1) 39 [.inr (.inr (some a))] (a + 1) I L P = some (none, a + 4, mm_zi (mm_zi (mm_zi I (a + 1)) (a + 2)) (a + 3), L, mm_up (mm_up (mm_up (mm_zp (mm_zp (mm_zp P (a + 1)) (a + 2)) (a + 3)) a 0 (some (a + 1))) a 1 (some (a + 2))) a 2 (some (a + 3))) := by
  have hok : ∀ m, a < m → mm_ok m a 5 := fun m hm => ⟨hm, t0⟩
  have h1 : a + 1 < mm_NC ∧ mm_ty (a + 1) = (20, Int.toNat 8) ∧ (0 : Int) ≤ 8 := ⟨by show a + 1 < 270; omega, t1, by decide⟩
  have h2 : a + 2 < mm_NC ∧ mm_ty (a + 2) = (20, Int.toNat 8) ∧ (0 : Int) ≤ 8 := ⟨by show a + 2 < 270; omega, t2, by decide⟩
  have h3 : a + 3 < mm_NC ∧ mm_ty (a + 3) = (20, Int.toNat 8) ∧ (0 : Int) ≤ 8 := ⟨by show a + 3 < 270; omega, t3, by decide⟩
  rw [eX5_init]
  simp (disch := first | assumption | omega | exact hok _ (by omega)) only [kX5_init, Nat.add_assoc, Nat.reduceAdd, hL, zp_up]
theorem zc53 (ha : a + 1 ≤ 270) (t0 : (mm_ty a).1 = 7)  (hL : ∀ m, mm_zi L m = L) : mm_rn (d + 1) 53 [.inr (.inr (some a))] (a + 1) I L P = some (none, a + 1, I, L, P) := by
  have hok : ∀ m, a < m → mm_ok m a 7 := fun m hm => ⟨hm, t0⟩
  rw [eX7_init]
  simp (disch := first | assumption | omega | exact hok _ (by omega)) only [kX7_init, Nat.add_assoc, Nat.reduceAdd, hL, zp_up]
theorem zc57 (ha : a + 2 ≤ 270) (t0 : (mm_ty a).1 = 8) (t1 : mm_ty (a + 1) = (20, 240)) (hL : ∀ m, mm_zi L m = L) : mm_rn (d + 1) 57 [.inr (.inr (some a))] (a + 1) I L P = some (none, a + 2, mm_zi I (a + 1), L, mm_up (mm_zp P (a + 1)) a 0 (some (a + 1))) := by
  have hok : ∀ m, a < m → mm_ok m a 8 := fun m hm => ⟨hm, t0⟩
  have h1 : a + 1 < mm_NC ∧ mm_ty (a + 1) = (20, Int.toNat 240) ∧ (0 : Int) ≤ 240 := ⟨by show a + 1 < 270; omega, t1, by decide⟩
  rw [eX8_init]
  simp (disch := first | assumption | omega | exact hok _ (by omega)) only [kX8_init, Nat.add_assoc, Nat.reduceAdd, hL, zp_up]
theorem zc62 (ha : a + 6 ≤ 270) (t0 : (mm_ty a).1 = 9) (t1 : mm_ty (a + 1) = (20, 8)) (t2 : mm_ty (a + 2) = (20, 8)) (t3 : mm_ty (a + 3) = (20, 8)) (t4 : mm_ty (a + 4) = (20, 8)) (t5 : mm_ty (a + 5) = (20, 64)) (hL : ∀ m, mm_zi L m = L) : mm_rn (d + 1) 62 [.inr (.inr (some a))] (a + 1) I L P = some (none, a + 6, mm_zi (mm_zi (mm_zi (mm_zi (mm_zi I (a + 1)) (a + 2)) (a + 3)) (a + 4)) (a + 5), L, mm_up (mm_up (mm_up (mm_up (mm_up (mm_zp (mm_zp (mm_zp (mm_zp (mm_zp P (a + 1)) (a + 2)) (a + 3)) (a + 4)) (a + 5)) a 4 (some (a + 1))) a 5 (some (a + 2))) a 6 (some (a + 3))) a 7 (some (a + 4))) a 8 (some (a + 5))) := by
  have hok : ∀ m, a < m → mm_ok m a 9 := fun m hm => ⟨hm, t0⟩
  have h1 : a + 1 < mm_NC ∧ mm_ty (a + 1) = (20, Int.toNat 8) ∧ (0 : Int) ≤ 8 := ⟨by show a + 1 < 270; omega, t1, by decide⟩
  have h2 : a + 2 < mm_NC ∧ mm_ty (a + 2) = (20, Int.toNat 8) ∧ (0 : Int) ≤ 8 := ⟨by show a + 2 < 270; omega, t2, by decide⟩
  have h3 : a + 3 < mm_NC ∧ mm_ty (a + 3) = (20, Int.toNat 8) ∧ (0 : Int) ≤ 8 := ⟨by show a + 3 < 270; omega, t3, by decide⟩
  have h4 : a + 4 < mm_NC ∧ mm_ty (a + 4) = (20, Int.toNat 8) ∧ (0 : Int) ≤ 8 := ⟨by show a + 4 < 270; omega, t4, by decide⟩
  have h5 : a + 5 < mm_NC ∧ mm_ty (a + 5) = (20, Int.toNat 64) ∧ (0 : Int) ≤ 64 := ⟨by show a + 5 < 270; omega, t5, by decide⟩
  rw [eX9_init]
  simp (disch := first | assumption | omega | exact hok _ (by omega)) only [kX9_init, Nat.add_assoc, Nat.reduceAdd, hL, zp_up]
theorem zc71 (ha : a + 4 ≤ 270) (t0 : (mm_ty a).1 = 10) (t1 : mm_ty (a + 1) = (20, 7)) (t2 : mm_ty (a + 2) = (20, 12)) (t3 : mm_ty (a + 3) = (20, 12)) (hL : ∀ m, mm_zi L m = L) : mm_rn (d + 1) 71 [.inr (.inr (some a))] (a + 1) I L P = some (none, a + 4, mm_zi (mm_zi (mm_zi I (a + 1)) (a + 2)) (a + 3), L, mm_up (mm_up (mm_up (mm_zp (mm_zp (mm_zp P (a + 1)) (a + 2)) (a + 3)) a 0 (some (a + 1))) a 1 (some (a + 2))) a 2 (some (a + 3))) := by
  have hok : ∀ m, a < m → mm_ok m a 10 := fun m hm => ⟨hm, t0⟩
  have h1 : a + 1 < mm_NC ∧ mm_ty (a + 1) = (20, Int.toNat 7) ∧ (0 : Int) ≤ 7 := ⟨by show a + 1 < 270; omega, t1, by decide⟩
  have h2 : a + 2 < mm_NC ∧ mm_ty (a + 2) = (20, Int.toNat 12) ∧ (0 : Int) ≤ 12 := ⟨by show a + 2 < 270; omega, t2, by decide⟩
  have h3 : a + 3 < mm_NC ∧ mm_ty (a + 3) = (20, Int.toNat 12) ∧ (0 : Int) ≤ 12 := ⟨by show a + 3 < 270; omega, t3, by decide⟩
  rw [eX10_init]
  simp (disch := first | assumption | omega | exact hok _ (by omega)) only [kX10_init, Nat.add_assoc, Nat.reduceAdd, hL, zp_up]
end CT
set_option maxHeartbeats 4000000 in
set_option maxRecDepth 20000 in
theorem zc147 {d : Nat} {I L : mm_I} {P : mm_P} (hL : ∀ m, mm_zi L m = L) (hI : ∀ m, 239 < m → m < 270 → mm_zi I m = I) (hP : ∀ m, 239 < m → m < 270 → mm_zp P m = P) : mm_rn (d + 1) 147 [.inr (.inr (some 239))] 240 I L P = some (none, 269, mm_ui (mm_ui I 239 29 (-1)) 239 30 2, L, mm_up (mm_up (mm_up (mm_up (mm_up (mm_up (mm_up (mm_up (mm_up (mm_up (mm_up (mm_up (mm_up (mm_up (mm_up (mm_up (mm_up (mm_up (mm_up (mm_up (mm_up (mm_up (mm_up (mm_up (mm_up (mm_up (mm_up (mm_up (mm_up P 239 1 (some 240)) 239 6 (some 241)) 239 7 (some 242)) 239 8 (some 243)) 239 9 (some 244)) 239 10 (some 245)) 239 11 (some 246)) 239 12 (some 247)) 239 15 (some 248)) 239 16 (some 249)) 239 17 (some 250)) 239 18 (some 251)) 239 19 (some 252)) 239 22 (some 253)) 239 23 (some 254)) 239 24 (some 255)) 239 25 (some 256)) 239 27 (some 257)) 239 28 (some 258)) 239 31 (some 259)) 239 32 (some 260)) 239 35 (some 261)) 239 38 (some 262)) 239 39 (some 263)) 239 40 (some 264)) 239 41 (some 265)) 239 43 (some 266)) 239 44 (some 267)) 239 45 (some 268)) := by
  have hok : ∀ m, 239 < m → mm_ok m 239 12 := fun m hm => ⟨hm, by decide +kernel⟩
  have h1 : 240 < mm_NC ∧ mm_ty 240 = (20, Int.toNat 240) ∧ (0 : Int) ≤ 240 := by decide +kernel
  have h2 : 241 < mm_NC ∧ mm_ty 241 = (20, Int.toNat 2600) ∧ (0 : Int) ≤ 2600 := by decide +kernel
  have h3 : 242 < mm_NC ∧ mm_ty 242 = (20, Int.toNat 2600) ∧ (0 : Int) ≤ 2600 := by decide +kernel
  have h4 : 243 < mm_NC ∧ mm_ty 243 = (20, Int.toNat 5) ∧ (0 : Int) ≤ 5 := by decide +kernel
  have h5 : 244 < mm_NC ∧ mm_ty 244 = (20, Int.toNat 5) ∧ (0 : Int) ≤ 5 := by decide +kernel
  have h6 : 245 < mm_NC ∧ mm_ty 245 = (20, Int.toNat 700) ∧ (0 : Int) ≤ 700 := by decide +kernel
  have h7 : 246 < mm_NC ∧ mm_ty 246 = (20, Int.toNat 700) ∧ (0 : Int) ≤ 700 := by decide +kernel
  have h8 : 247 < mm_NC ∧ mm_ty 247 = (20, Int.toNat 700) ∧ (0 : Int) ≤ 700 := by decide +kernel
  have h9 : 248 < mm_NC ∧ mm_ty 248 = (20, Int.toNat 6) ∧ (0 : Int) ≤ 6 := by decide +kernel
  have h10 : 249 < mm_NC ∧ mm_ty 249 = (20, Int.toNat 80) ∧ (0 : Int) ≤ 80 := by decide +kernel
  have h11 : 250 < mm_NC ∧ mm_ty 250 = (20, Int.toNat 3) ∧ (0 : Int) ≤ 3 := by decide +kernel
  have h12 : 251 < mm_NC ∧ mm_ty 251 = (20, Int.toNat 16) ∧ (0 : Int) ≤ 16 := by decide +kernel
  have h13 : 252 < mm_NC ∧ mm_ty 252 = (20, Int.toNat 24) ∧ (0 : Int) ≤ 24 := by decide +kernel
  have h14 : 253 < mm_NC ∧ mm_ty 253 = (20, Int.toNat 3) ∧ (0 : Int) ≤ 3 := by decide +kernel
  have h15 : 254 < mm_NC ∧ mm_ty 254 = (20, Int.toNat 16) ∧ (0 : Int) ≤ 16 := by decide +kernel
  have h16 : 255 < mm_NC ∧ mm_ty 255 = (20, Int.toNat 8) ∧ (0 : Int) ≤ 8 := by decide +kernel
  have h17 : 256 < mm_NC ∧ mm_ty 256 = (20, Int.toNat 64) ∧ (0 : Int) ≤ 64 := by decide +kernel
  have h18 : 257 < mm_NC ∧ mm_ty 257 = (20, Int.toNat 211) ∧ (0 : Int) ≤ 211 := by decide +kernel
  have h19 : 258 < mm_NC ∧ mm_ty 258 = (20, Int.toNat 5) ∧ (0 : Int) ≤ 5 := by decide +kernel
  have h20 : 259 < mm_NC ∧ mm_ty 259 = (20, Int.toNat 8) ∧ (0 : Int) ≤ 8 := by decide +kernel
  have h21 : 260 < mm_NC ∧ mm_ty 260 = (20, Int.toNat 8440) ∧ (0 : Int) ≤ 8440 := by decide +kernel
  have h22 : 261 < mm_NC ∧ mm_ty 261 = (20, Int.toNat 270) ∧ (0 : Int) ≤ 270 := by decide +kernel
  have h23 : 262 < mm_NC ∧ mm_ty 262 = (20, Int.toNat 10) ∧ (0 : Int) ≤ 10 := by decide +kernel
  have h24 : 263 < mm_NC ∧ mm_ty 263 = (20, Int.toNat 10) ∧ (0 : Int) ≤ 10 := by decide +kernel
  have h25 : 264 < mm_NC ∧ mm_ty 264 = (20, Int.toNat 10) ∧ (0 : Int) ≤ 10 := by decide +kernel
  have h26 : 265 < mm_NC ∧ mm_ty 265 = (21, Int.toNat 10) ∧ (0 : Int) ≤ 10 := by decide +kernel
  have h27 : 266 < mm_NC ∧ mm_ty 266 = (20, Int.toNat 168) ∧ (0 : Int) ≤ 168 := by decide +kernel
  have h28 : 267 < mm_NC ∧ mm_ty 267 = (20, Int.toNat 1300) ∧ (0 : Int) ≤ 1300 := by decide +kernel
  have h29 : 268 < mm_NC ∧ mm_ty 268 = (20, Int.toNat 211) ∧ (0 : Int) ≤ 211 := by decide +kernel
  rw [eX12_init]
  simp (disch := first | assumption | omega | exact hok _ (by omega)) only [kX12_init, Nat.reduceAdd, hL, hI, hP, zp_up, zi_ui]
