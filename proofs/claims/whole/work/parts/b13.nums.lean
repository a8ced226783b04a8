/-! NUMBERS: whole numbers that stand for ints and longs -/
theorem so_t (z : Int) : (Int32.ofInt z).toInt = mm_w z := by
  unfold mm_w
  rw [Int32.toInt_ofInt]
theorem so_tl (z : Int) : (Int64.ofInt z).toInt = mm_wl z := by
  unfold mm_wl
  rw [Int64.toInt_ofInt]
theorem so_wr (z : Int) : mm_rg (mm_w z) := by
  unfold mm_w mm_rg
  have h1 := Int.le_bmod (x := z) (m := 4294967296) (by decide)
  have h2 := Int.bmod_lt (x := z) (m := 4294967296) (by decide)
  omega
theorem so_wrl (z : Int) : mm_rgl (mm_wl z) := by
  unfold mm_wl mm_rgl
  have h1 := Int.le_bmod (x := z) (m := 18446744073709551616) (by decide)
  have h2 := Int.bmod_lt (x := z) (m := 18446744073709551616) (by decide)
  omega
theorem so_id {z : Int} (h : mm_rg z) : mm_w z = z := by
  unfold mm_w
  unfold mm_rg at h
  rw [Int.bmod_def]
  split <;> omega
theorem so_idl {z : Int} (h : mm_rgl z) : mm_wl z = z := by
  unfold mm_wl
  unfold mm_rgl at h
  rw [Int.bmod_def]
  split <;> omega
theorem so_ti {z : Int} (h : mm_rg z) : (Int32.ofInt z).toInt = z := by rw [so_t, so_id h]
theorem so_til {z : Int} (h : mm_rgl z) : (Int64.ofInt z).toInt = z := by rw [so_tl, so_idl h]
theorem so_w (z : Int) : Int32.ofInt (mm_w z) = Int32.ofInt z := by
  apply Int32.toInt_inj.mp
  rw [so_ti (so_wr z), so_t]
theorem so_wl (z : Int) : Int64.ofInt (mm_wl z) = Int64.ofInt z := by
  apply Int64.toInt_inj.mp
  rw [so_til (so_wrl z), so_tl]
theorem so_of (x : Int32) : Int32.ofInt x.toInt = x := Int32.ofInt_toInt x
theorem so_ofl (x : Int64) : Int64.ofInt x.toInt = x := Int64.ofInt_toInt x
theorem so_rt (x : Int32) : mm_rg x.toInt := by
  have h1 := Int32.le_toInt x
  have h2 := Int32.toInt_lt x
  unfold mm_rg
  omega
theorem so_rtl (x : Int64) : mm_rgl x.toInt := by
  have h1 := Int64.le_toInt x
  have h2 := Int64.toInt_lt x
  unfold mm_rgl
  omega
theorem so_add (x y : Int) : Int32.ofInt (mm_add x y) = Int32.ofInt x + Int32.ofInt y := by
  unfold mm_add; rw [so_w, Int32.ofInt_add]
theorem so_sub (x y : Int) : Int32.ofInt (mm_sub x y) = Int32.ofInt x - Int32.ofInt y := by
  unfold mm_sub; rw [so_w, Int32.ofInt_sub]
theorem so_mul (x y : Int) : Int32.ofInt (mm_mul x y) = Int32.ofInt x * Int32.ofInt y := by
  unfold mm_mul; rw [so_w, Int32.ofInt_mul]
theorem so_neg (x : Int) : Int32.ofInt (mm_neg x) = -Int32.ofInt x := by
  unfold mm_neg; rw [so_w, Int32.ofInt_neg]
theorem so_laddl (x y : Int) : Int64.ofInt (mm_laddl x y) = Int64.ofInt x + Int64.ofInt y := by
  unfold mm_laddl; rw [so_wl, Int64.ofInt_add]
theorem so_lsubl (x y : Int) : Int64.ofInt (mm_lsubl x y) = Int64.ofInt x - Int64.ofInt y := by
  unfold mm_lsubl; rw [so_wl, Int64.ofInt_sub]
theorem so_lmull (x y : Int) : Int64.ofInt (mm_lmull x y) = Int64.ofInt x * Int64.ofInt y := by
  unfold mm_lmull; rw [so_wl, Int64.ofInt_mul]
theorem so_div {x y : Int} (hx : mm_rg x) (hy : mm_rg y) : Int32.ofInt (mm_w (Int.tdiv x y)) = Int32.ofInt x / Int32.ofInt y := by
  apply Int32.toInt_inj.mp
  rw [so_ti (so_wr _), Int32.toInt_div, so_ti hx, so_ti hy]
  rfl
theorem so_ldiv {x y : Int} (hx : mm_rgl x) (hy : mm_rgl y) : Int64.ofInt (mm_wl (Int.tdiv x y)) = Int64.ofInt x / Int64.ofInt y := by
  apply Int64.toInt_inj.mp
  rw [so_til (so_wrl _), Int64.toInt_div, so_til hx, so_til hy]
  rfl
theorem so_rem {x y : Int} (hx : mm_rg x) (hy : mm_rg y) : Int32.ofInt (mm_w (Int.tmod x y)) = Int32.ofInt x - Int32.ofInt x / Int32.ofInt y * Int32.ofInt y := by
  rw [← so_div hx hy, so_w, so_w, ← Int32.ofInt_mul, ← Int32.ofInt_sub, Int.tmod_def, Int.mul_comm y]
theorem so_lrem {x y : Int} (hx : mm_rgl x) (hy : mm_rgl y) : Int64.ofInt (mm_wl (Int.tmod x y)) = Int64.ofInt x - Int64.ofInt x / Int64.ofInt y * Int64.ofInt y := by
  rw [← so_ldiv hx hy, so_wl, so_wl, ← Int64.ofInt_mul, ← Int64.ofInt_sub, Int.tmod_def, Int.mul_comm y]
theorem so_eq {x y : Int} (hx : mm_rg x) (hy : mm_rg y) : Int32.ofInt x = Int32.ofInt y ↔ x = y := by
  refine ⟨fun h => ?_, fun h => by rw [h]⟩
  have := congrArg Int32.toInt h
  rwa [so_ti hx, so_ti hy] at this
theorem so_lt {x y : Int} (hx : mm_rg x) (hy : mm_rg y) : Int32.ofInt x < Int32.ofInt y ↔ x < y := by
  rw [Int32.lt_iff_toInt_lt, so_ti hx, so_ti hy]
theorem so_le {x y : Int} (hx : mm_rg x) (hy : mm_rg y) : Int32.ofInt x ≤ Int32.ofInt y ↔ x ≤ y := by
  rw [Int32.le_iff_toInt_le, so_ti hx, so_ti hy]
theorem so_eql {x y : Int} (hx : mm_rgl x) (hy : mm_rgl y) : Int64.ofInt x = Int64.ofInt y ↔ x = y := by
  refine ⟨fun h => ?_, fun h => by rw [h]⟩
  have := congrArg Int64.toInt h
  rwa [so_til hx, so_til hy] at this
theorem so_ltl {x y : Int} (hx : mm_rgl x) (hy : mm_rgl y) : Int64.ofInt x < Int64.ofInt y ↔ x < y := by
  rw [Int64.lt_iff_toInt_lt, so_til hx, so_til hy]
theorem so_0 : Int32.ofInt 0 = 0 := rfl
theorem so_r0 : mm_rg 0 := by unfold mm_rg; omega
theorem so_in {i : Int} {N : Nat} (hr : mm_rg i) (h0 : 0 ≤ i) (h1 : i < (N : Int)) : vp_in (Int32.ofInt i) N := by
  rw [vp_in_iff, so_ti hr]
  exact ⟨h0, h1⟩
theorem so_cl {i : Int} (hr : mm_rg i) : (Int32.ofInt i).toNatClampNeg = i.toNat := by
  show (Int32.ofInt i).toInt.toNat = _
  rw [so_ti hr]
theorem so_i2l {x : Int} (hx : mm_rg x) : (Int32.ofInt x).toInt64 = Int64.ofInt x := by
  apply Int64.toInt_inj.mp
  rw [Int32.toInt_toInt64, so_ti hx, so_til]
  unfold mm_rg at hx
  unfold mm_rgl
  omega
theorem so_l2i (x : Int) : (Int64.ofInt x).toInt32 = Int32.ofInt (mm_w x) := by
  rw [so_w]
  apply Int32.toInt_inj.mp
  rw [so_t, Int64.toInt_toInt32, so_tl]
  unfold mm_w mm_wl
  exact Int.bmod_bmod_of_dvd (by decide)
