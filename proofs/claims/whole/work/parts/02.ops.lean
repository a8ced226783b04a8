/-! the layout: what each cell is (a class by its number; 20 int[], 21 boolean[], 22 long[], 23 Night[], 24 Law[]) and how long it is -/
def mm_tyl : List (Nat × Nat) := [(11, 18), (8, 3), (20, 240), (10, 5), (20, 7), (20, 12), (20, 12), (9, 9), (20, 8), (20, 8), (20, 8), (20, 8), (20, 64), (9, 9), (20, 8), (20, 8), (20, 8), (20, 8), (20, 64), (24, 5), (3, 5), (20, 256), (20, 6), (20, 64), (3, 5), (20, 256), (20, 6), (20, 64), (3, 5), (20, 256), (20, 6), (20, 64), (3, 5), (20, 256), (20, 6), (20, 64), (3, 5), (20, 256), (20, 6), (20, 64), (5, 9), (20, 8), (20, 8), (20, 8), (1, 3), (20, 100), (20, 100), (20, 100), (6, 3), (23, 40), (5, 9), (20, 8), (20, 8), (20, 8), (5, 9), (20, 8), (20, 8), (20, 8), (5, 9), (20, 8), (20, 8), (20, 8), (5, 9), (20, 8), (20, 8), (20, 8), (5, 9), (20, 8), (20, 8), (20, 8), (5, 9), (20, 8), (20, 8), (20, 8), (5, 9), (20, 8), (20, 8), (20, 8), (5, 9), (20, 8), (20, 8), (20, 8), (5, 9), (20, 8), (20, 8), (20, 8), (5, 9), (20, 8), (20, 8), (20, 8), (5, 9), (20, 8), (20, 8), (20, 8), (5, 9), (20, 8), (20, 8), (20, 8), (5, 9), (20, 8), (20, 8), (20, 8), (5, 9), (20, 8), (20, 8), (20, 8), (5, 9), (20, 8), (20, 8), (20, 8), (5, 9), (20, 8), (20, 8), (20, 8), (5, 9), (20, 8), (20, 8), (20, 8), (5, 9), (20, 8), (20, 8), (20, 8), (5, 9), (20, 8), (20, 8), (20, 8), (5, 9), (20, 8), (20, 8), (20, 8), (5, 9), (20, 8), (20, 8), (20, 8), (5, 9), (20, 8), (20, 8), (20, 8), (5, 9), (20, 8), (20, 8), (20, 8), (5, 9), (20, 8), (20, 8), (20, 8), (5, 9), (20, 8), (20, 8), (20, 8), (5, 9), (20, 8), (20, 8), (20, 8), (5, 9), (20, 8), (20, 8), (20, 8), (5, 9), (20, 8), (20, 8), (20, 8), (5, 9), (20, 8), (20, 8), (20, 8), (5, 9), (20, 8), (20, 8), (20, 8), (5, 9), (20, 8), (20, 8), (20, 8), (5, 9), (20, 8), (20, 8), (20, 8), (5, 9), (20, 8), (20, 8), (20, 8), (5, 9), (20, 8), (20, 8), (20, 8), (5, 9), (20, 8), (20, 8), (20, 8), (5, 9), (20, 8), (20, 8), (20, 8), (5, 9), (20, 8), (20, 8), (20, 8), (5, 9), (20, 8), (20, 8), (20, 8), (5, 9), (20, 8), (20, 8), (20, 8), (5, 9), (20, 8), (20, 8), (20, 8), (5, 9), (20, 8), (20, 8), (20, 8), (1, 3), (20, 100), (20, 100), (20, 100), (2, 7), (20, 10), (20, 10), (20, 10), (21, 10), (5, 9), (20, 8), (20, 8), (20, 8), (20, 1300), (0, 4), (5, 9), (20, 8), (20, 8), (20, 8), (5, 9), (20, 8), (20, 8), (20, 8), (7, 2), (20, 5), (12, 47), (20, 240), (20, 2600), (20, 2600), (20, 5), (20, 5), (20, 700), (20, 700), (20, 700), (20, 6), (20, 80), (20, 3), (20, 16), (20, 24), (20, 3), (20, 16), (20, 8), (20, 64), (20, 211), (20, 5), (20, 8), (20, 8440), (20, 270), (20, 10), (20, 10), (20, 10), (21, 10), (20, 168), (20, 1300), (20, 211), (22, 1)]
def mm_fks : List (List Nat) := [[2, 2, 0, 0], [2, 2, 2], [2, 2, 2, 2, 0, 2, 2], [2, 0, 2, 2, 0], [], [2, 2, 2, 0, 0, 0, 0, 0, 0], [2, 0, 0], [0, 0], [2, 0, 0], [0, 0, 0, 0, 2, 2, 2, 2, 2], [2, 2, 2, 0, 3], [2, 2, 2, 2, 2, 0, 0, 0, 2, 2, 2, 2, 2, 3, 2, 2, 2, 2], [0, 2, 0, 0, 0, 0, 2, 2, 2, 2, 2, 2, 2, 0, 0, 2, 2, 2, 2, 2, 0, 0, 2, 2, 2, 2, 0, 2, 2, 0, 0, 2, 2, 0, 1, 2, 0, 0, 2, 2, 2, 2, 0, 2, 2, 2, 3]]
/-- cells beyond the layout are exceptions; 1000000 .. are what stood there before: FIRST, LEAST, MOST, USUAL, two texts, the script, the message, the texts' bytes -/
def mm_stl : List (Nat × Nat) := [(30, 4), (30, 7), (30, 7), (30, 7), (31, 2), (31, 2), (32, 0), (31, 2), (33, 3), (33, 7)]
def mm_ty (a : Nat) : Nat × Nat := if a < 1000000 then mm_tyl.getD a (99, 0) else mm_stl.getD (a - 1000000) (99, 0)
def mm_NC : Nat := 270
def mm_kd (ci k : Nat) : Nat := (mm_fks.getD ci []).getD k 0
def mm_ok (n a ci : Nat) : Prop := a < n ∧ (mm_ty a).1 = ci
def mm_ix (n a ci : Nat) (i : Int) : Prop := a < n ∧ (mm_ty a).1 = ci ∧ 0 ≤ i ∧ i < ((mm_ty a).2 : Int)
/-- an int that has gone round, a long -/
def mm_w (z : Int) : Int := Int.bmod z 4294967296
def mm_wl (z : Int) : Int := Int.bmod z 18446744073709551616
def mm_rg (z : Int) : Prop := -2147483648 ≤ z ∧ z < 2147483648
def mm_rgl (z : Int) : Prop := -9223372036854775808 ≤ z ∧ z < 9223372036854775808
def mm_and (x y : Int) : Int := (Int32.ofInt x &&& Int32.ofInt y).toInt
def mm_or (x y : Int) : Int := (Int32.ofInt x ||| Int32.ofInt y).toInt
def mm_xor (x y : Int) : Int := (Int32.ofInt x ^^^ Int32.ofInt y).toInt
def mm_shl (x y : Int) : Int := (Int32.ofInt x <<< (Int32.ofInt y &&& 31)).toInt
def mm_shr (x y : Int) : Int := (Int32.ofInt x >>> (Int32.ofInt y &&& 31)).toInt
def mm_ushr (x y : Int) : Int := ((Int32.ofInt x).toUInt32 >>> ((Int32.ofInt y).toUInt32 &&& Int32.toUInt32 31)).toInt32.toInt
def mm_landl (x y : Int) : Int := (Int64.ofInt x &&& Int64.ofInt y).toInt
def mm_lorl (x y : Int) : Int := (Int64.ofInt x ||| Int64.ofInt y).toInt
def mm_lushr (x y : Int) : Int := ((Int64.ofInt x).toUInt64 >>> ((Int32.ofInt y).toInt64.toUInt64 &&& Int64.toUInt64 63)).toInt64.toInt
def mm_lshl (x y : Int) : Int := (Int64.ofInt x <<< ((Int32.ofInt y).toInt64 &&& 63)).toInt
def mm_add (x y : Int) : Int := mm_w (x + y)
def mm_sub (x y : Int) : Int := mm_w (x - y)
def mm_mul (x y : Int) : Int := mm_w (x * y)
def mm_laddl (x y : Int) : Int := mm_wl (x + y)
def mm_lsubl (x y : Int) : Int := mm_wl (x - y)
def mm_lmull (x y : Int) : Int := mm_wl (x * y)
def mm_junk : mm_V := .inr (.inl 0)
def mm_ui (I : mm_I) (a k : Nat) (z : Int) : mm_I := fun b j => if b = a ∧ j = k then z else I b j
def mm_up (P : mm_P) (a k : Nat) (r : Option Nat) : mm_P := fun b j => if b = a ∧ j = k then r else P b j
def mm_zi (I : mm_I) (a : Nat) : mm_I := fun b j => if b = a then 0 else I b j
def mm_zp (P : mm_P) (a : Nat) : mm_P := fun b j => if b = a then none else P b j
def mm_cat (st : List mm_V) : Nat := (st.map (fun v => match v with | .inr (.inl _) => 2 | _ => 1)).sum
def mm_sw {α : Type} (d : α) (x : Int) : List (Int × α) → α
  | [] => d
  | (k, t) :: l => if x = k then t else mm_sw d x l
/-- pushes of what is written, loads, stores -/
def mm_push (v : mm_V) (nx : Nat) : mm_T := fun _ lv ll st n I L P => some (.inl (nx, lv, ll, v :: st, n, I, L, P))
def mm_il (i nx : Nat) : mm_T := fun _ lv ll st n I L P => match lv[i]? with
  | some (.inl z) => some (.inl (nx, lv, ll, .inl z :: st, n, I, L, P))
  | _ => none
def mm_al (i nx : Nat) : mm_T := fun _ lv ll st n I L P => match lv[i]? with
  | some (.inr (.inr r)) => some (.inl (nx, lv, ll, .inr (.inr r) :: st, n, I, L, P))
  | _ => none
def mm_lld (i nx : Nat) : mm_T := fun _ lv ll st n I L P => match ll[i]? with
  | some (some z) => some (.inl (nx, lv, ll, .inr (.inl z) :: st, n, I, L, P))
  | _ => none
def mm_off (ll : List (Option Int)) (i : Nat) : List (Option Int) := (ll.set i none).set (i - 1) none
def mm_is (i nx : Nat) : mm_T := fun _ lv ll st n I L P => match st with
  | .inl z :: r => some (.inl (nx, lv.set i (.inl z), mm_off ll i, r, n, I, L, P))
  | _ => none
def mm_as (i nx : Nat) : mm_T := fun _ lv ll st n I L P => match st with
  | .inr (.inr z) :: r => some (.inl (nx, lv.set i (.inr (.inr z)), mm_off ll i, r, n, I, L, P))
  | _ => none
def mm_lst (i nx : Nat) : mm_T := fun _ lv ll st n I L P => match st with
  | .inr (.inl z) :: r => some (.inl (nx, (lv.set i mm_junk).set (i + 1) mm_junk, ((mm_off ll i).set (i + 1) none).set i (some z), r, n, I, L, P))
  | _ => none
def mm_iinc (i : Nat) (k : Int) (nx : Nat) : mm_T := fun _ lv ll st n I L P => match lv[i]? with
  | some (.inl z) => some (.inl (nx, lv.set i (.inl (mm_add z k)), mm_off ll i, st, n, I, L, P))
  | _ => none
/-- reckoning -/
def mm_bi (f : Int → Int → Int) (nx : Nat) : mm_T := fun _ lv ll st n I L P => match st with
  | .inl y :: .inl x :: r => some (.inl (nx, lv, ll, .inl (f x y) :: r, n, I, L, P))
  | _ => none
def mm_di (f : Int → Int → Int) (nx : Nat) : mm_T := fun _ lv ll st n I L P => match st with
  | .inl y :: .inl x :: r => if y = 0 then none else some (.inl (nx, lv, ll, .inl (mm_w (f x y)) :: r, n, I, L, P))
  | _ => none
def mm_un (f : Int → Int) (nx : Nat) : mm_T := fun _ lv ll st n I L P => match st with
  | .inl x :: r => some (.inl (nx, lv, ll, .inl (f x) :: r, n, I, L, P))
  | _ => none
def mm_bl (f : Int → Int → Int) (nx : Nat) : mm_T := fun _ lv ll st n I L P => match st with
  | .inr (.inl y) :: .inr (.inl x) :: r => some (.inl (nx, lv, ll, .inr (.inl (f x y)) :: r, n, I, L, P))
  | _ => none
def mm_dl (f : Int → Int → Int) (nx : Nat) : mm_T := fun _ lv ll st n I L P => match st with
  | .inr (.inl y) :: .inr (.inl x) :: r => if y = 0 then none else some (.inl (nx, lv, ll, .inr (.inl (mm_wl (f x y))) :: r, n, I, L, P))
  | _ => none
def mm_sl (f : Int → Int → Int) (nx : Nat) : mm_T := fun _ lv ll st n I L P => match st with
  | .inl y :: .inr (.inl x) :: r => some (.inl (nx, lv, ll, .inr (.inl (f x y)) :: r, n, I, L, P))
  | _ => none
def mm_lcmp (nx : Nat) : mm_T := fun _ lv ll st n I L P => match st with
  | .inr (.inl y) :: .inr (.inl x) :: r => some (.inl (nx, lv, ll, .inl (if x < y then -1 else if x = y then 0 else 1) :: r, n, I, L, P))
  | _ => none
def mm_i2l (nx : Nat) : mm_T := fun _ lv ll st n I L P => match st with
  | .inl x :: r => some (.inl (nx, lv, ll, .inr (.inl x) :: r, n, I, L, P))
  | _ => none
def mm_l2i (nx : Nat) : mm_T := fun _ lv ll st n I L P => match st with
  | .inr (.inl x) :: r => some (.inl (nx, lv, ll, .inl (mm_w x) :: r, n, I, L, P))
  | _ => none
def mm_neg (x : Int) : Int := mm_w (-x)
def mm_i2c (x : Int) : Int := x % 65536
/-- branches -/
def mm_if (f : Int → Bool) (tgt nx : Nat) : mm_T := fun _ lv ll st n I L P => match st with
  | .inl x :: r => some (.inl (if f x = true then tgt else nx, lv, ll, r, n, I, L, P))
  | _ => none
def mm_ic (f : Int → Int → Bool) (tgt nx : Nat) : mm_T := fun _ lv ll st n I L P => match st with
  | .inl y :: .inl x :: r => some (.inl (if f x y = true then tgt else nx, lv, ll, r, n, I, L, P))
  | _ => none
def mm_nul (tgt nx : Nat) : mm_T := fun _ lv ll st n I L P => match st with
  | .inr (.inr none) :: r => some (.inl (tgt, lv, ll, r, n, I, L, P))
  | .inr (.inr (some _)) :: r => some (.inl (nx, lv, ll, r, n, I, L, P))
  | _ => none
def mm_go (tgt : Nat) : mm_T := fun _ lv ll st n I L P => some (.inl (tgt, lv, ll, st, n, I, L, P))
def mm_swi (l : List (Int × Nat)) (d : Nat) : mm_T := fun _ lv ll st n I L P => match st with
  | .inl x :: r => some (.inl (mm_sw d x l, lv, ll, r, n, I, L, P))
  | _ => none
/-- the stack -/
def mm_c1 : mm_V → Bool
  | .inr (.inl _) => false
  | _ => true
def mm_dup (nx : Nat) : mm_T := fun _ lv ll st n I L P => match st with
  | v :: r => if mm_c1 v = true then some (.inl (nx, lv, ll, v :: v :: r, n, I, L, P)) else none
  | _ => none
def mm_dup2 (nx : Nat) : mm_T := fun _ lv ll st n I L P => match st with
  | v :: u :: r => if mm_c1 v = true ∧ mm_c1 u = true then some (.inl (nx, lv, ll, v :: u :: v :: u :: r, n, I, L, P)) else none
  | _ => none
def mm_pop (nx : Nat) : mm_T := fun _ lv ll st n I L P => match st with
  | v :: r => if mm_c1 v = true then some (.inl (nx, lv, ll, r, n, I, L, P)) else none
  | _ => none
/-- fields -/
def mm_getI (ci k nx : Nat) : mm_T := fun _ lv ll st n I L P => match st with
  | .inr (.inr (some a)) :: r => if a < n ∧ (mm_ty a).1 = ci then some (.inl (nx, lv, ll, .inl (I a k) :: r, n, I, L, P)) else none
  | _ => none
def mm_getL (ci k nx : Nat) : mm_T := fun _ lv ll st n I L P => match st with
  | .inr (.inr (some a)) :: r => if a < n ∧ (mm_ty a).1 = ci then some (.inl (nx, lv, ll, .inr (.inl (L a k)) :: r, n, I, L, P)) else none
  | _ => none
def mm_getR (ci k nx : Nat) : mm_T := fun _ lv ll st n I L P => match st with
  | .inr (.inr (some a)) :: r => if a < n ∧ (mm_ty a).1 = ci then some (.inl (nx, lv, ll, .inr (.inr (P a k)) :: r, n, I, L, P)) else none
  | _ => none
def mm_putI (ci k nx : Nat) : mm_T := fun _ lv ll st n I L P => match st with
  | .inl z :: .inr (.inr (some a)) :: r => if a < n ∧ (mm_ty a).1 = ci then some (.inl (nx, lv, ll, r, n, mm_ui I a k z, L, P)) else none
  | _ => none
def mm_putZ (ci k nx : Nat) : mm_T := fun _ lv ll st n I L P => match st with
  | .inl z :: .inr (.inr (some a)) :: r => if a < n ∧ (mm_ty a).1 = ci ∧ (z = 0 ∨ z = 1) then some (.inl (nx, lv, ll, r, n, mm_ui I a k z, L, P)) else none
  | _ => none
def mm_putL (ci k nx : Nat) : mm_T := fun _ lv ll st n I L P => match st with
  | .inr (.inl z) :: .inr (.inr (some a)) :: r => if a < n ∧ (mm_ty a).1 = ci then some (.inl (nx, lv, ll, r, n, I, mm_ui L a k z, P)) else none
  | _ => none
def mm_putR (ci k nx : Nat) : mm_T := fun _ lv ll st n I L P => match st with
  | .inr (.inr v) :: .inr (.inr (some a)) :: r => if a < n ∧ (mm_ty a).1 = ci then some (.inl (nx, lv, ll, r, n, I, L, mm_up P a k v)) else none
  | _ => none
/-- arrays; cd: which kind -/
def mm_iald (cd nx : Nat) : mm_T := fun _ lv ll st n I L P => match st with
  | .inl i :: .inr (.inr (some a)) :: r => if a < n ∧ (mm_ty a).1 = cd ∧ 0 ≤ i ∧ i < ((mm_ty a).2 : Int) then some (.inl (nx, lv, ll, .inl (I a i.toNat) :: r, n, I, L, P)) else none
  | _ => none
def mm_sald (cd nx : Nat) : mm_T := fun _ lv ll st n I L P => match st with
  | .inl i :: .inr (.inr (some a)) :: r => if 1000000 ≤ a ∧ (mm_ty a).1 = cd ∧ 0 ≤ i ∧ i < ((mm_ty a).2 : Int) then some (.inl (nx, lv, ll, .inl (I a i.toNat) :: r, n, I, L, P)) else none
  | _ => none
def mm_xald (nx : Nat) : mm_T := fun _ lv ll st n I L P => match st with
  | .inl i :: .inr (.inr (some a)) :: r => if a = 1000006 ∧ 0 ≤ i ∧ i < I 1000006 5000 then some (.inl (nx, lv, ll, .inl (I a i.toNat) :: r, n, I, L, P)) else none
  | _ => none
def mm_iast (cd nx : Nat) : mm_T := fun _ lv ll st n I L P => match st with
  | .inl z :: .inl i :: .inr (.inr (some a)) :: r => if a < n ∧ (mm_ty a).1 = cd ∧ 0 ≤ i ∧ i < ((mm_ty a).2 : Int) then some (.inl (nx, lv, ll, r, n, mm_ui I a i.toNat z, L, P)) else none
  | _ => none
def mm_bast (cd nx : Nat) : mm_T := fun _ lv ll st n I L P => match st with
  | .inl z :: .inl i :: .inr (.inr (some a)) :: r => if a < n ∧ (mm_ty a).1 = cd ∧ 0 ≤ i ∧ i < ((mm_ty a).2 : Int) ∧ (z = 0 ∨ z = 1) then some (.inl (nx, lv, ll, r, n, mm_ui I a i.toNat z, L, P)) else none
  | _ => none
def mm_lald (cd nx : Nat) : mm_T := fun _ lv ll st n I L P => match st with
  | .inl i :: .inr (.inr (some a)) :: r => if a < n ∧ (mm_ty a).1 = cd ∧ 0 ≤ i ∧ i < ((mm_ty a).2 : Int) then some (.inl (nx, lv, ll, .inr (.inl (L a i.toNat)) :: r, n, I, L, P)) else none
  | _ => none
def mm_last (cd nx : Nat) : mm_T := fun _ lv ll st n I L P => match st with
  | .inr (.inl z) :: .inl i :: .inr (.inr (some a)) :: r => if a < n ∧ (mm_ty a).1 = cd ∧ 0 ≤ i ∧ i < ((mm_ty a).2 : Int) then some (.inl (nx, lv, ll, r, n, I, mm_ui L a i.toNat z, P)) else none
  | _ => none
def mm_aald (cd nx : Nat) : mm_T := fun _ lv ll st n I L P => match st with
  | .inl i :: .inr (.inr (some a)) :: r => if a < n ∧ (mm_ty a).1 = cd ∧ 0 ≤ i ∧ i < ((mm_ty a).2 : Int) then some (.inl (nx, lv, ll, .inr (.inr (P a i.toNat)) :: r, n, I, L, P)) else none
  | _ => none
def mm_aast (cd ci nx : Nat) : mm_T := fun _ lv ll st n I L P => match st with
  | .inr (.inr (some v)) :: .inl i :: .inr (.inr (some a)) :: r => if a < n ∧ (mm_ty a).1 = cd ∧ 0 ≤ i ∧ i < ((mm_ty a).2 : Int) ∧ v < n ∧ (mm_ty v).1 = ci then some (.inl (nx, lv, ll, r, n, I, L, mm_up P a i.toNat (some v))) else none
  | _ => none
def mm_alen (cd nx : Nat) : mm_T := fun _ lv ll st n I L P => match st with
  | .inr (.inr (some a)) :: r => if a < n ∧ (mm_ty a).1 = cd then some (.inl (nx, lv, ll, .inl ((mm_ty a).2 : Int) :: r, n, I, L, P)) else none
  | _ => none
def mm_sale (cd nx : Nat) : mm_T := fun _ lv ll st n I L P => match st with
  | .inr (.inr (some a)) :: r => if 1000000 ≤ a ∧ (mm_ty a).1 = cd then some (.inl (nx, lv, ll, .inl ((mm_ty a).2 : Int) :: r, n, I, L, P)) else none
  | _ => none
def mm_xlen (nx : Nat) : mm_T := fun _ lv ll st n I L P => match st with
  | .inr (.inr (some a)) :: r => if a = 1000006 then some (.inl (nx, lv, ll, .inl (I 1000006 5000) :: r, n, I, L, P)) else none
  | _ => none
/-- the two texts: their bytes, their coder, how long the bytes are, a byte -/
def mm_chr (a : Nat) (i : Int) : Int := if a = 1000004 then ([115, 112, 108] : List Int).getD i.toNat 0 else ([103, 101, 107, 119, 111, 97, 98] : List Int).getD i.toNat 0
def mm_sgR (nx : Nat) : mm_T := fun _ lv ll st n I L P => match st with
  | .inr (.inr (some a)) :: r => if a = 1000004 ∨ a = 1000005 then some (.inl (nx, lv, ll, .inr (.inr (some (a + 4))) :: r, n, I, L, P)) else none
  | _ => none
def mm_sgI (nx : Nat) : mm_T := fun _ lv ll st n I L P => match st with
  | .inr (.inr (some a)) :: r => if a = 1000004 ∨ a = 1000005 then some (.inl (nx, lv, ll, .inl 0 :: r, n, I, L, P)) else none
  | _ => none
def mm_sble (nx : Nat) : mm_T := fun _ lv ll st n I L P => match st with
  | .inr (.inr (some a)) :: r => if a = 1000008 then some (.inl (nx, lv, ll, .inl 3 :: r, n, I, L, P)) else if a = 1000009 then some (.inl (nx, lv, ll, .inl 7 :: r, n, I, L, P)) else none
  | _ => none
def mm_sbal (nx : Nat) : mm_T := fun _ lv ll st n I L P => match st with
  | .inl i :: .inr (.inr (some a)) :: r => if (a = 1000008 ∧ 0 ≤ i ∧ i < 3) ∨ (a = 1000009 ∧ 0 ≤ i ∧ i < 7) then some (.inl (nx, lv, ll, .inl (mm_chr (a - 4) i) :: r, n, I, L, P)) else none
  | _ => none
def mm_dead : mm_T := fun _ _ _ _ _ _ _ _ => none
/-- making -/
def mm_new (ci nx : Nat) : mm_T := fun _ lv ll st n I L P => if n < mm_NC ∧ (mm_ty n).1 = ci then some (.inl (nx, lv, ll, .inr (.inr (some n)) :: st, n + 1, mm_zi I n, mm_zi L n, mm_zp P n)) else none
def mm_newa (cd nx : Nat) : mm_T := fun _ lv ll st n I L P => match st with
  | .inl z :: r => if n < mm_NC ∧ mm_ty n = (cd, z.toNat) ∧ 0 ≤ z then some (.inl (nx, lv, ll, .inr (.inr (some n)) :: r, n + 1, mm_zi I n, mm_zi L n, mm_zp P n)) else none
  | _ => none
/-- calls: a method by its number, of a class, with so many arguments beside the receiver -/
def mm_ret (lv : List mm_V) (ll : List (Option Int)) (r : List mm_V) (nx : Nat) : Bool → Option mm_A → Option (mm_S ⊕ mm_A)
  | true, some (some v, n, I, L, P) => some (.inl (nx, lv, ll, v :: r, n, I, L, P))
  | false, some (none, n, I, L, P) => some (.inl (nx, lv, ll, r, n, I, L, P))
  | _, _ => none
def mm_cV (y ci na : Nat) (rt : Bool) (nx : Nat) : mm_T := fun R lv ll st n I L P => match st.drop na with
  | .inr (.inr (some a)) :: r => if a < n ∧ (mm_ty a).1 = ci ∧ mm_cat r ≤ 8 ∧ na ≤ st.length then mm_ret lv ll r nx rt (R y (.inr (.inr (some a)) :: (st.take na).reverse) n I L P) else none
  | _ => none
def mm_cW (y na nx : Nat) : mm_T := fun R lv ll st n I L P => match st.drop na with
  | .inr (.inr (some a)) :: r => if (a = 1000004 ∨ a = 1000005) ∧ mm_cat r ≤ 8 ∧ na ≤ st.length then mm_ret lv ll r nx true (R y (.inr (.inr (some a)) :: (st.take na).reverse) n I L P) else none
  | _ => none
def mm_cI (y na nx : Nat) : mm_T := fun R lv ll st n I L P => match st.drop na with
  | .inr (.inr (some a)) :: r => if a < n ∧ mm_cat r ≤ 8 ∧ na ≤ st.length then mm_ret lv ll r nx false (R y (.inr (.inr (some a)) :: (st.take na).reverse) n I L P) else none
  | _ => none
def mm_cS (y na : Nat) (rt : Bool) (nx : Nat) : mm_T := fun R lv ll st n I L P => if mm_cat (st.drop na) ≤ 8 ∧ na ≤ st.length then mm_ret lv ll (st.drop na) nx rt (R y (st.take na).reverse n I L P) else none
def mm_oi (nx : Nat) : mm_T := fun _ lv ll st n I L P => match st with
  | .inr (.inr (some a)) :: r => if a < n ∧ mm_cat r ≤ 8 then some (.inl (nx, lv, ll, r, n, I, L, P)) else none
  | _ => none
/-- an int array's part put into another one (never the same) -/
def mm_cpy (I : mm_I) (s sp d dp k : Nat) : mm_I := fun b j => if b = d ∧ dp ≤ j ∧ j < dp + k then I s (sp + (j - dp)) else I b j
def mm_acp (nx : Nat) : mm_T := fun _ lv ll st n I L P => match st with
  | .inl k :: .inl dp :: .inr (.inr (some d)) :: .inl sp :: .inr (.inr (some s)) :: r =>
    if s < n ∧ d < n ∧ s ≠ d ∧ (mm_ty s).1 = 20 ∧ (mm_ty d).1 = 20 ∧ 0 ≤ k ∧ 0 ≤ sp ∧ 0 ≤ dp ∧ sp + k ≤ ((mm_ty s).2 : Int) ∧ dp + k ≤ ((mm_ty d).2 : Int) ∧ mm_cat r ≤ 8 then some (.inl (nx, lv, ll, r, n, mm_cpy I s sp.toNat d dp.toNat k.toNat, L, P)) else none
  | _ => none
/-- ends -/
def mm_ri : mm_T := fun _ _ _ st n I L P => match st with
  | [.inl z] => some (.inr (some (.inl z), n, I, L, P))
  | _ => none
def mm_rz (m : Int) : mm_T := fun _ _ _ st n I L P => match st with
  | [.inl z] => if 0 ≤ z ∧ z < m then some (.inr (some (.inl z), n, I, L, P)) else none
  | _ => none
def mm_rl : mm_T := fun _ _ _ st n I L P => match st with
  | [.inr (.inl z)] => some (.inr (some (.inr (.inl z)), n, I, L, P))
  | _ => none
def mm_ra : mm_T := fun _ _ _ st n I L P => match st with
  | [.inr (.inr z)] => some (.inr (some (.inr (.inr z)), n, I, L, P))
  | _ => none
def mm_rv : mm_T := fun _ _ _ st n I L P => match st with
  | [] => some (.inr (none, n, I, L, P))
  | _ => none
/-- the text of a method: its instructions by their places -/
def mm_look : List (Nat × mm_T) → Nat → mm_T
  | [], _ => fun _ _ _ _ _ _ _ _ => none
  | (p, t) :: l, q => bif Nat.beq p q then t else mm_look l q
