/-! step rules of each method, printed by program -/
set_option maxRecDepth 20000 in
set_option maxHeartbeats 8000000 in
theorem kX12_in (d n : Nat) (I L : mm_I) (P : mm_P) :
  (∀ (st : List mm_V) z (l1 : mm_V) (l2 : mm_V), mm_E d 145 0 [(.inl z), l1, l2] [] st n I L P = mm_E d 145 1 [(.inl z), l1, l2] [] ((.inl z) :: st) n I L P) ∧
  (∀ (st : List mm_V) z (l0 : mm_V) (l2 : mm_V), mm_E d 145 1 [l0, (.inl z), l2] [] st n I L P = mm_E d 145 2 [l0, (.inl z), l2] [] ((.inl z) :: st) n I L P) ∧
  (∀ (lv : List mm_V) (st : List mm_V) a b, mm_E d 145 2 lv [] (.inl b :: .inl a :: st) n I L P = if a < b then mm_E d 145 14 lv [] st n I L P else mm_E d 145 5 lv [] st n I L P) ∧
  (∀ (st : List mm_V) z (l1 : mm_V) (l2 : mm_V), mm_E d 145 5 [(.inl z), l1, l2] [] st n I L P = mm_E d 145 6 [(.inl z), l1, l2] [] ((.inl z) :: st) n I L P) ∧
  (∀ (st : List mm_V) z (l0 : mm_V) (l1 : mm_V), mm_E d 145 6 [l0, l1, (.inl z)] [] st n I L P = mm_E d 145 7 [l0, l1, (.inl z)] [] ((.inl z) :: st) n I L P) ∧
  (∀ (lv : List mm_V) (st : List mm_V) a b, mm_E d 145 7 lv [] (.inl b :: .inl a :: st) n I L P = if b < a then mm_E d 145 14 lv [] st n I L P else mm_E d 145 10 lv [] st n I L P) ∧
  (∀ (lv : List mm_V) (st : List mm_V), mm_E d 145 10 lv [] st n I L P = mm_E d 145 11 lv [] (.inl 1 :: st) n I L P) ∧
  (∀ (lv : List mm_V) (st : List mm_V), mm_E d 145 11 lv [] st n I L P = mm_E d 145 15 lv [] st n I L P) ∧
  (∀ (lv : List mm_V) (st : List mm_V), mm_E d 145 14 lv [] st n I L P = mm_E d 145 15 lv [] (.inl 0 :: st) n I L P) ∧
  (∀ (lv : List mm_V) z, (0 ≤ z ∧ z < 2) → mm_E d 145 15 lv [] [.inl z] n I L P = some (some (.inl z), n, I, L, P)) :=
  ⟨fun _ _ _ _ => mq_il (i := 0) rfl rfl,
   fun _ _ _ _ => mq_il (i := 1) rfl rfl,
   fun _ _ _ _ => mq_ic_lt rfl,
   fun _ _ _ _ => mq_il (i := 0) rfl rfl,
   fun _ _ _ _ => mq_il (i := 2) rfl rfl,
   fun _ _ _ _ => mq_ic_gt rfl,
   fun _ _ => mq_push rfl,
   fun _ _ => mq_go rfl,
   fun _ _ => mq_push rfl,
   fun _ _ h0 => mq_rz rfl h0⟩
theorem eX12_in (d n : Nat) (I L : mm_I) (P : mm_P) (x0 : Int) (x1 : Int) (x2 : Int) : mm_rn (d + 1) 145 [.inl x0, .inl x1, .inl x2] n I L P = mm_E d 145 0 [.inl x0, .inl x1, .inl x2] [] [] n I L P := rfl

set_option maxRecDepth 20000 in
set_option maxHeartbeats 8000000 in
theorem kX12_has (d n : Nat) (I L : mm_I) (P : mm_P) :
  (∀ (st : List mm_V) z (l1 : mm_V), mm_E d 146 0 [(.inl z), l1] [] st n I L P = mm_E d 146 1 [(.inl z), l1] [] ((.inl z) :: st) n I L P) ∧
  (∀ (st : List mm_V) z (l0 : mm_V), mm_E d 146 1 [l0, (.inl z)] [] st n I L P = mm_E d 146 2 [l0, (.inl z)] [] ((.inl z) :: st) n I L P) ∧
  (∀ (lv : List mm_V) (st : List mm_V) a b, mm_E d 146 2 lv [] (.inl b :: .inl a :: st) n I L P = mm_E d 146 3 lv [] (.inl (mm_shr a b) :: st) n I L P) ∧
  (∀ (lv : List mm_V) (st : List mm_V), mm_E d 146 3 lv [] st n I L P = mm_E d 146 4 lv [] (.inl 1 :: st) n I L P) ∧
  (∀ (lv : List mm_V) (st : List mm_V) a b, mm_E d 146 4 lv [] (.inl b :: .inl a :: st) n I L P = mm_E d 146 5 lv [] (.inl (mm_and a b) :: st) n I L P) ∧
  (∀ (lv : List mm_V) (st : List mm_V), mm_E d 146 5 lv [] st n I L P = mm_E d 146 6 lv [] (.inl 1 :: st) n I L P) ∧
  (∀ (lv : List mm_V) (st : List mm_V) a b, mm_E d 146 6 lv [] (.inl b :: .inl a :: st) n I L P = if a = b then mm_E d 146 9 lv [] st n I L P else mm_E d 146 13 lv [] st n I L P) ∧
  (∀ (lv : List mm_V) (st : List mm_V), mm_E d 146 9 lv [] st n I L P = mm_E d 146 10 lv [] (.inl 1 :: st) n I L P) ∧
  (∀ (lv : List mm_V) (st : List mm_V), mm_E d 146 10 lv [] st n I L P = mm_E d 146 14 lv [] st n I L P) ∧
  (∀ (lv : List mm_V) (st : List mm_V), mm_E d 146 13 lv [] st n I L P = mm_E d 146 14 lv [] (.inl 0 :: st) n I L P) ∧
  (∀ (lv : List mm_V) z, (0 ≤ z ∧ z < 2) → mm_E d 146 14 lv [] [.inl z] n I L P = some (some (.inl z), n, I, L, P)) :=
  ⟨fun _ _ _ => mq_il (i := 0) rfl rfl,
   fun _ _ _ => mq_il (i := 1) rfl rfl,
   fun _ _ _ _ => mq_bi rfl,
   fun _ _ => mq_push rfl,
   fun _ _ _ _ => mq_bi rfl,
   fun _ _ => mq_push rfl,
   fun _ _ _ _ => mq_ic_ne rfl,
   fun _ _ => mq_push rfl,
   fun _ _ => mq_go rfl,
   fun _ _ => mq_push rfl,
   fun _ _ h0 => mq_rz rfl h0⟩
theorem eX12_has (d n : Nat) (I L : mm_I) (P : mm_P) (x0 : Int) (x1 : Int) : mm_rn (d + 1) 146 [.inl x0, .inl x1] n I L P = mm_E d 146 0 [.inl x0, .inl x1] [] [] n I L P := rfl

set_option maxRecDepth 20000 in
set_option maxHeartbeats 8000000 in
theorem kX12_init (d n : Nat) (I L : mm_I) (P : mm_P) :
  (∀ (st : List mm_V) z, mm_E d 147 0 [(.inr (.inr z))] [] st n I L P = mm_E d 147 1 [(.inr (.inr z))] [] ((.inr (.inr z)) :: st) n I L P) ∧
  (∀ (lv : List mm_V) a, (a < n) → mm_E d 147 1 lv [] (.inr (.inr (some a)) :: []) n I L P = mm_E d 147 4 lv [] [] n I L P) ∧
  (∀ (st : List mm_V) z, mm_E d 147 4 [(.inr (.inr z))] [] st n I L P = mm_E d 147 5 [(.inr (.inr z))] [] ((.inr (.inr z)) :: st) n I L P) ∧
  (∀ (lv : List mm_V) (st : List mm_V), mm_E d 147 5 lv [] st n I L P = mm_E d 147 8 lv [] (.inl 240 :: st) n I L P) ∧
  (∀ (lv : List mm_V) (st : List mm_V) z, (n < mm_NC ∧ mm_ty n = (20, z.toNat) ∧ 0 ≤ z) → mm_E d 147 8 lv [] (.inl z :: st) n I L P = mm_E d 147 10 lv [] (.inr (.inr (some n)) :: st) (n + 1) (mm_zi I n) (mm_zi L n) (mm_zp P n)) ∧
  (∀ (lv : List mm_V) (st : List mm_V) a z, (mm_ok n a 12) → mm_E d 147 10 lv [] (.inr (.inr z) :: .inr (.inr (some a)) :: st) n I L P = mm_E d 147 13 lv [] st n I L (mm_up P a 1 z)) ∧
  (∀ (st : List mm_V) z, mm_E d 147 13 [(.inr (.inr z))] [] st n I L P = mm_E d 147 14 [(.inr (.inr z))] [] ((.inr (.inr z)) :: st) n I L P) ∧
  (∀ (lv : List mm_V) (st : List mm_V), mm_E d 147 14 lv [] st n I L P = mm_E d 147 17 lv [] (.inl 2600 :: st) n I L P) ∧
  (∀ (lv : List mm_V) (st : List mm_V) z, (n < mm_NC ∧ mm_ty n = (20, z.toNat) ∧ 0 ≤ z) → mm_E d 147 17 lv [] (.inl z :: st) n I L P = mm_E d 147 19 lv [] (.inr (.inr (some n)) :: st) (n + 1) (mm_zi I n) (mm_zi L n) (mm_zp P n)) ∧
  (∀ (lv : List mm_V) (st : List mm_V) a z, (mm_ok n a 12) → mm_E d 147 19 lv [] (.inr (.inr z) :: .inr (.inr (some a)) :: st) n I L P = mm_E d 147 22 lv [] st n I L (mm_up P a 6 z)) ∧
  (∀ (st : List mm_V) z, mm_E d 147 22 [(.inr (.inr z))] [] st n I L P = mm_E d 147 23 [(.inr (.inr z))] [] ((.inr (.inr z)) :: st) n I L P) ∧
  (∀ (lv : List mm_V) (st : List mm_V), mm_E d 147 23 lv [] st n I L P = mm_E d 147 26 lv [] (.inl 2600 :: st) n I L P) ∧
  (∀ (lv : List mm_V) (st : List mm_V) z, (n < mm_NC ∧ mm_ty n = (20, z.toNat) ∧ 0 ≤ z) → mm_E d 147 26 lv [] (.inl z :: st) n I L P = mm_E d 147 28 lv [] (.inr (.inr (some n)) :: st) (n + 1) (mm_zi I n) (mm_zi L n) (mm_zp P n)) ∧
  (∀ (lv : List mm_V) (st : List mm_V) a z, (mm_ok n a 12) → mm_E d 147 28 lv [] (.inr (.inr z) :: .inr (.inr (some a)) :: st) n I L P = mm_E d 147 31 lv [] st n I L (mm_up P a 7 z)) ∧
  (∀ (st : List mm_V) z, mm_E d 147 31 [(.inr (.inr z))] [] st n I L P = mm_E d 147 32 [(.inr (.inr z))] [] ((.inr (.inr z)) :: st) n I L P) ∧
  (∀ (lv : List mm_V) (st : List mm_V), mm_E d 147 32 lv [] st n I L P = mm_E d 147 33 lv [] (.inl 5 :: st) n I L P) ∧
  (∀ (lv : List mm_V) (st : List mm_V) z, (n < mm_NC ∧ mm_ty n = (20, z.toNat) ∧ 0 ≤ z) → mm_E d 147 33 lv [] (.inl z :: st) n I L P = mm_E d 147 35 lv [] (.inr (.inr (some n)) :: st) (n + 1) (mm_zi I n) (mm_zi L n) (mm_zp P n)) ∧
  (∀ (lv : List mm_V) (st : List mm_V) a z, (mm_ok n a 12) → mm_E d 147 35 lv [] (.inr (.inr z) :: .inr (.inr (some a)) :: st) n I L P = mm_E d 147 38 lv [] st n I L (mm_up P a 8 z)) ∧
  (∀ (st : List mm_V) z, mm_E d 147 38 [(.inr (.inr z))] [] st n I L P = mm_E d 147 39 [(.inr (.inr z))] [] ((.inr (.inr z)) :: st) n I L P) ∧
  (∀ (lv : List mm_V) (st : List mm_V), mm_E d 147 39 lv [] st n I L P = mm_E d 147 40 lv [] (.inl 5 :: st) n I L P) ∧
  (∀ (lv : List mm_V) (st : List mm_V) z, (n < mm_NC ∧ mm_ty n = (20, z.toNat) ∧ 0 ≤ z) → mm_E d 147 40 lv [] (.inl z :: st) n I L P = mm_E d 147 42 lv [] (.inr (.inr (some n)) :: st) (n + 1) (mm_zi I n) (mm_zi L n) (mm_zp P n)) ∧
  (∀ (lv : List mm_V) (st : List mm_V) a z, (mm_ok n a 12) → mm_E d 147 42 lv [] (.inr (.inr z) :: .inr (.inr (some a)) :: st) n I L P = mm_E d 147 45 lv [] st n I L (mm_up P a 9 z)) ∧
  (∀ (st : List mm_V) z, mm_E d 147 45 [(.inr (.inr z))] [] st n I L P = mm_E d 147 46 [(.inr (.inr z))] [] ((.inr (.inr z)) :: st) n I L P) ∧
  (∀ (lv : List mm_V) (st : List mm_V), mm_E d 147 46 lv [] st n I L P = mm_E d 147 49 lv [] (.inl 700 :: st) n I L P) ∧
  (∀ (lv : List mm_V) (st : List mm_V) z, (n < mm_NC ∧ mm_ty n = (20, z.toNat) ∧ 0 ≤ z) → mm_E d 147 49 lv [] (.inl z :: st) n I L P = mm_E d 147 51 lv [] (.inr (.inr (some n)) :: st) (n + 1) (mm_zi I n) (mm_zi L n) (mm_zp P n)) ∧
  (∀ (lv : List mm_V) (st : List mm_V) a z, (mm_ok n a 12) → mm_E d 147 51 lv [] (.inr (.inr z) :: .inr (.inr (some a)) :: st) n I L P = mm_E d 147 54 lv [] st n I L (mm_up P a 10 z)) ∧
  (∀ (st : List mm_V) z, mm_E d 147 54 [(.inr (.inr z))] [] st n I L P = mm_E d 147 55 [(.inr (.inr z))] [] ((.inr (.inr z)) :: st) n I L P) ∧
  (∀ (lv : List mm_V) (st : List mm_V), mm_E d 147 55 lv [] st n I L P = mm_E d 147 58 lv [] (.inl 700 :: st) n I L P) ∧
  (∀ (lv : List mm_V) (st : List mm_V) z, (n < mm_NC ∧ mm_ty n = (20, z.toNat) ∧ 0 ≤ z) → mm_E d 147 58 lv [] (.inl z :: st) n I L P = mm_E d 147 60 lv [] (.inr (.inr (some n)) :: st) (n + 1) (mm_zi I n) (mm_zi L n) (mm_zp P n)) ∧
  (∀ (lv : List mm_V) (st : List mm_V) a z, (mm_ok n a 12) → mm_E d 147 60 lv [] (.inr (.inr z) :: .inr (.inr (some a)) :: st) n I L P = mm_E d 147 63 lv [] st n I L (mm_up P a 11 z)) ∧
  (∀ (st : List mm_V) z, mm_E d 147 63 [(.inr (.inr z))] [] st n I L P = mm_E d 147 64 [(.inr (.inr z))] [] ((.inr (.inr z)) :: st) n I L P) ∧
  (∀ (lv : List mm_V) (st : List mm_V), mm_E d 147 64 lv [] st n I L P = mm_E d 147 67 lv [] (.inl 700 :: st) n I L P) ∧
  (∀ (lv : List mm_V) (st : List mm_V) z, (n < mm_NC ∧ mm_ty n = (20, z.toNat) ∧ 0 ≤ z) → mm_E d 147 67 lv [] (.inl z :: st) n I L P = mm_E d 147 69 lv [] (.inr (.inr (some n)) :: st) (n + 1) (mm_zi I n) (mm_zi L n) (mm_zp P n)) ∧
  (∀ (lv : List mm_V) (st : List mm_V) a z, (mm_ok n a 12) → mm_E d 147 69 lv [] (.inr (.inr z) :: .inr (.inr (some a)) :: st) n I L P = mm_E d 147 72 lv [] st n I L (mm_up P a 12 z)) ∧
  (∀ (st : List mm_V) z, mm_E d 147 72 [(.inr (.inr z))] [] st n I L P = mm_E d 147 73 [(.inr (.inr z))] [] ((.inr (.inr z)) :: st) n I L P) ∧
  (∀ (lv : List mm_V) (st : List mm_V), mm_E d 147 73 lv [] st n I L P = mm_E d 147 75 lv [] (.inl 6 :: st) n I L P) ∧
  (∀ (lv : List mm_V) (st : List mm_V) z, (n < mm_NC ∧ mm_ty n = (20, z.toNat) ∧ 0 ≤ z) → mm_E d 147 75 lv [] (.inl z :: st) n I L P = mm_E d 147 77 lv [] (.inr (.inr (some n)) :: st) (n + 1) (mm_zi I n) (mm_zi L n) (mm_zp P n)) ∧
  (∀ (lv : List mm_V) (st : List mm_V) a z, (mm_ok n a 12) → mm_E d 147 77 lv [] (.inr (.inr z) :: .inr (.inr (some a)) :: st) n I L P = mm_E d 147 80 lv [] st n I L (mm_up P a 15 z)) ∧
  (∀ (st : List mm_V) z, mm_E d 147 80 [(.inr (.inr z))] [] st n I L P = mm_E d 147 81 [(.inr (.inr z))] [] ((.inr (.inr z)) :: st) n I L P) ∧
  (∀ (lv : List mm_V) (st : List mm_V), mm_E d 147 81 lv [] st n I L P = mm_E d 147 83 lv [] (.inl 80 :: st) n I L P) ∧
  (∀ (lv : List mm_V) (st : List mm_V) z, (n < mm_NC ∧ mm_ty n = (20, z.toNat) ∧ 0 ≤ z) → mm_E d 147 83 lv [] (.inl z :: st) n I L P = mm_E d 147 85 lv [] (.inr (.inr (some n)) :: st) (n + 1) (mm_zi I n) (mm_zi L n) (mm_zp P n)) ∧
  (∀ (lv : List mm_V) (st : List mm_V) a z, (mm_ok n a 12) → mm_E d 147 85 lv [] (.inr (.inr z) :: .inr (.inr (some a)) :: st) n I L P = mm_E d 147 88 lv [] st n I L (mm_up P a 16 z)) ∧
  (∀ (st : List mm_V) z, mm_E d 147 88 [(.inr (.inr z))] [] st n I L P = mm_E d 147 89 [(.inr (.inr z))] [] ((.inr (.inr z)) :: st) n I L P) ∧
  (∀ (lv : List mm_V) (st : List mm_V), mm_E d 147 89 lv [] st n I L P = mm_E d 147 90 lv [] (.inl 3 :: st) n I L P) ∧
  (∀ (lv : List mm_V) (st : List mm_V) z, (n < mm_NC ∧ mm_ty n = (20, z.toNat) ∧ 0 ≤ z) → mm_E d 147 90 lv [] (.inl z :: st) n I L P = mm_E d 147 92 lv [] (.inr (.inr (some n)) :: st) (n + 1) (mm_zi I n) (mm_zi L n) (mm_zp P n)) ∧
  (∀ (lv : List mm_V) (st : List mm_V) a z, (mm_ok n a 12) → mm_E d 147 92 lv [] (.inr (.inr z) :: .inr (.inr (some a)) :: st) n I L P = mm_E d 147 95 lv [] st n I L (mm_up P a 17 z)) ∧
  (∀ (st : List mm_V) z, mm_E d 147 95 [(.inr (.inr z))] [] st n I L P = mm_E d 147 96 [(.inr (.inr z))] [] ((.inr (.inr z)) :: st) n I L P) ∧
  (∀ (lv : List mm_V) (st : List mm_V), mm_E d 147 96 lv [] st n I L P = mm_E d 147 98 lv [] (.inl 16 :: st) n I L P) ∧
  (∀ (lv : List mm_V) (st : List mm_V) z, (n < mm_NC ∧ mm_ty n = (20, z.toNat) ∧ 0 ≤ z) → mm_E d 147 98 lv [] (.inl z :: st) n I L P = mm_E d 147 100 lv [] (.inr (.inr (some n)) :: st) (n + 1) (mm_zi I n) (mm_zi L n) (mm_zp P n)) ∧
  (∀ (lv : List mm_V) (st : List mm_V) a z, (mm_ok n a 12) → mm_E d 147 100 lv [] (.inr (.inr z) :: .inr (.inr (some a)) :: st) n I L P = mm_E d 147 103 lv [] st n I L (mm_up P a 18 z)) ∧
  (∀ (st : List mm_V) z, mm_E d 147 103 [(.inr (.inr z))] [] st n I L P = mm_E d 147 104 [(.inr (.inr z))] [] ((.inr (.inr z)) :: st) n I L P) ∧
  (∀ (lv : List mm_V) (st : List mm_V), mm_E d 147 104 lv [] st n I L P = mm_E d 147 106 lv [] (.inl 24 :: st) n I L P) ∧
  (∀ (lv : List mm_V) (st : List mm_V) z, (n < mm_NC ∧ mm_ty n = (20, z.toNat) ∧ 0 ≤ z) → mm_E d 147 106 lv [] (.inl z :: st) n I L P = mm_E d 147 108 lv [] (.inr (.inr (some n)) :: st) (n + 1) (mm_zi I n) (mm_zi L n) (mm_zp P n)) ∧
  (∀ (lv : List mm_V) (st : List mm_V) a z, (mm_ok n a 12) → mm_E d 147 108 lv [] (.inr (.inr z) :: .inr (.inr (some a)) :: st) n I L P = mm_E d 147 111 lv [] st n I L (mm_up P a 19 z)) ∧
  (∀ (st : List mm_V) z, mm_E d 147 111 [(.inr (.inr z))] [] st n I L P = mm_E d 147 112 [(.inr (.inr z))] [] ((.inr (.inr z)) :: st) n I L P) ∧
  (∀ (lv : List mm_V) (st : List mm_V), mm_E d 147 112 lv [] st n I L P = mm_E d 147 113 lv [] (.inl 3 :: st) n I L P) ∧
  (∀ (lv : List mm_V) (st : List mm_V) z, (n < mm_NC ∧ mm_ty n = (20, z.toNat) ∧ 0 ≤ z) → mm_E d 147 113 lv [] (.inl z :: st) n I L P = mm_E d 147 115 lv [] (.inr (.inr (some n)) :: st) (n + 1) (mm_zi I n) (mm_zi L n) (mm_zp P n)) ∧
  (∀ (lv : List mm_V) (st : List mm_V) a z, (mm_ok n a 12) → mm_E d 147 115 lv [] (.inr (.inr z) :: .inr (.inr (some a)) :: st) n I L P = mm_E d 147 118 lv [] st n I L (mm_up P a 22 z)) ∧
  (∀ (st : List mm_V) z, mm_E d 147 118 [(.inr (.inr z))] [] st n I L P = mm_E d 147 119 [(.inr (.inr z))] [] ((.inr (.inr z)) :: st) n I L P) ∧
  (∀ (lv : List mm_V) (st : List mm_V), mm_E d 147 119 lv [] st n I L P = mm_E d 147 121 lv [] (.inl 16 :: st) n I L P) ∧
  (∀ (lv : List mm_V) (st : List mm_V) z, (n < mm_NC ∧ mm_ty n = (20, z.toNat) ∧ 0 ≤ z) → mm_E d 147 121 lv [] (.inl z :: st) n I L P = mm_E d 147 123 lv [] (.inr (.inr (some n)) :: st) (n + 1) (mm_zi I n) (mm_zi L n) (mm_zp P n)) ∧
  (∀ (lv : List mm_V) (st : List mm_V) a z, (mm_ok n a 12) → mm_E d 147 123 lv [] (.inr (.inr z) :: .inr (.inr (some a)) :: st) n I L P = mm_E d 147 126 lv [] st n I L (mm_up P a 23 z)) ∧
  (∀ (st : List mm_V) z, mm_E d 147 126 [(.inr (.inr z))] [] st n I L P = mm_E d 147 127 [(.inr (.inr z))] [] ((.inr (.inr z)) :: st) n I L P) ∧
  (∀ (lv : List mm_V) (st : List mm_V), mm_E d 147 127 lv [] st n I L P = mm_E d 147 129 lv [] (.inl 8 :: st) n I L P) ∧
  (∀ (lv : List mm_V) (st : List mm_V) z, (n < mm_NC ∧ mm_ty n = (20, z.toNat) ∧ 0 ≤ z) → mm_E d 147 129 lv [] (.inl z :: st) n I L P = mm_E d 147 131 lv [] (.inr (.inr (some n)) :: st) (n + 1) (mm_zi I n) (mm_zi L n) (mm_zp P n)) ∧
  (∀ (lv : List mm_V) (st : List mm_V) a z, (mm_ok n a 12) → mm_E d 147 131 lv [] (.inr (.inr z) :: .inr (.inr (some a)) :: st) n I L P = mm_E d 147 134 lv [] st n I L (mm_up P a 24 z)) ∧
  (∀ (st : List mm_V) z, mm_E d 147 134 [(.inr (.inr z))] [] st n I L P = mm_E d 147 135 [(.inr (.inr z))] [] ((.inr (.inr z)) :: st) n I L P) ∧
  (∀ (lv : List mm_V) (st : List mm_V), mm_E d 147 135 lv [] st n I L P = mm_E d 147 137 lv [] (.inl 64 :: st) n I L P) ∧
  (∀ (lv : List mm_V) (st : List mm_V) z, (n < mm_NC ∧ mm_ty n = (20, z.toNat) ∧ 0 ≤ z) → mm_E d 147 137 lv [] (.inl z :: st) n I L P = mm_E d 147 139 lv [] (.inr (.inr (some n)) :: st) (n + 1) (mm_zi I n) (mm_zi L n) (mm_zp P n)) ∧
  (∀ (lv : List mm_V) (st : List mm_V) a z, (mm_ok n a 12) → mm_E d 147 139 lv [] (.inr (.inr z) :: .inr (.inr (some a)) :: st) n I L P = mm_E d 147 142 lv [] st n I L (mm_up P a 25 z)) ∧
  (∀ (st : List mm_V) z, mm_E d 147 142 [(.inr (.inr z))] [] st n I L P = mm_E d 147 143 [(.inr (.inr z))] [] ((.inr (.inr z)) :: st) n I L P) ∧
  (∀ (lv : List mm_V) (st : List mm_V), mm_E d 147 143 lv [] st n I L P = mm_E d 147 146 lv [] (.inl 211 :: st) n I L P) ∧
  (∀ (lv : List mm_V) (st : List mm_V) z, (n < mm_NC ∧ mm_ty n = (20, z.toNat) ∧ 0 ≤ z) → mm_E d 147 146 lv [] (.inl z :: st) n I L P = mm_E d 147 148 lv [] (.inr (.inr (some n)) :: st) (n + 1) (mm_zi I n) (mm_zi L n) (mm_zp P n)) ∧
  (∀ (lv : List mm_V) (st : List mm_V) a z, (mm_ok n a 12) → mm_E d 147 148 lv [] (.inr (.inr z) :: .inr (.inr (some a)) :: st) n I L P = mm_E d 147 151 lv [] st n I L (mm_up P a 27 z)) ∧
  (∀ (st : List mm_V) z, mm_E d 147 151 [(.inr (.inr z))] [] st n I L P = mm_E d 147 152 [(.inr (.inr z))] [] ((.inr (.inr z)) :: st) n I L P) ∧
  (∀ (lv : List mm_V) (st : List mm_V), mm_E d 147 152 lv [] st n I L P = mm_E d 147 153 lv [] (.inl 5 :: st) n I L P) ∧
  (∀ (lv : List mm_V) (st : List mm_V) z, (n < mm_NC ∧ mm_ty n = (20, z.toNat) ∧ 0 ≤ z) → mm_E d 147 153 lv [] (.inl z :: st) n I L P = mm_E d 147 155 lv [] (.inr (.inr (some n)) :: st) (n + 1) (mm_zi I n) (mm_zi L n) (mm_zp P n)) ∧
  (∀ (lv : List mm_V) (st : List mm_V) a z, (mm_ok n a 12) → mm_E d 147 155 lv [] (.inr (.inr z) :: .inr (.inr (some a)) :: st) n I L P = mm_E d 147 158 lv [] st n I L (mm_up P a 28 z)) ∧
  (∀ (st : List mm_V) z, mm_E d 147 158 [(.inr (.inr z))] [] st n I L P = mm_E d 147 159 [(.inr (.inr z))] [] ((.inr (.inr z)) :: st) n I L P) ∧
  (∀ (lv : List mm_V) (st : List mm_V), mm_E d 147 159 lv [] st n I L P = mm_E d 147 160 lv [] (.inl (-1) :: st) n I L P) ∧
  (∀ (lv : List mm_V) (st : List mm_V) a z, (mm_ok n a 12) → mm_E d 147 160 lv [] (.inl z :: .inr (.inr (some a)) :: st) n I L P = mm_E d 147 163 lv [] st n (mm_ui I a 29 z) L P) ∧
  (∀ (st : List mm_V) z, mm_E d 147 163 [(.inr (.inr z))] [] st n I L P = mm_E d 147 164 [(.inr (.inr z))] [] ((.inr (.inr z)) :: st) n I L P) ∧
  (∀ (lv : List mm_V) (st : List mm_V), mm_E d 147 164 lv [] st n I L P = mm_E d 147 165 lv [] (.inl 2 :: st) n I L P) ∧
  (∀ (lv : List mm_V) (st : List mm_V) a z, (mm_ok n a 12) → mm_E d 147 165 lv [] (.inl z :: .inr (.inr (some a)) :: st) n I L P = mm_E d 147 168 lv [] st n (mm_ui I a 30 z) L P) ∧
  (∀ (st : List mm_V) z, mm_E d 147 168 [(.inr (.inr z))] [] st n I L P = mm_E d 147 169 [(.inr (.inr z))] [] ((.inr (.inr z)) :: st) n I L P) ∧
  (∀ (lv : List mm_V) (st : List mm_V), mm_E d 147 169 lv [] st n I L P = mm_E d 147 171 lv [] (.inl 8 :: st) n I L P) ∧
  (∀ (lv : List mm_V) (st : List mm_V) z, (n < mm_NC ∧ mm_ty n = (20, z.toNat) ∧ 0 ≤ z) → mm_E d 147 171 lv [] (.inl z :: st) n I L P = mm_E d 147 173 lv [] (.inr (.inr (some n)) :: st) (n + 1) (mm_zi I n) (mm_zi L n) (mm_zp P n)) ∧
  (∀ (lv : List mm_V) (st : List mm_V) a z, (mm_ok n a 12) → mm_E d 147 173 lv [] (.inr (.inr z) :: .inr (.inr (some a)) :: st) n I L P = mm_E d 147 176 lv [] st n I L (mm_up P a 31 z)) ∧
  (∀ (st : List mm_V) z, mm_E d 147 176 [(.inr (.inr z))] [] st n I L P = mm_E d 147 177 [(.inr (.inr z))] [] ((.inr (.inr z)) :: st) n I L P) ∧
  (∀ (lv : List mm_V) (st : List mm_V), mm_E d 147 177 lv [] st n I L P = mm_E d 147 180 lv [] (.inl 8440 :: st) n I L P) ∧
  (∀ (lv : List mm_V) (st : List mm_V) z, (n < mm_NC ∧ mm_ty n = (20, z.toNat) ∧ 0 ≤ z) → mm_E d 147 180 lv [] (.inl z :: st) n I L P = mm_E d 147 182 lv [] (.inr (.inr (some n)) :: st) (n + 1) (mm_zi I n) (mm_zi L n) (mm_zp P n)) ∧
  (∀ (lv : List mm_V) (st : List mm_V) a z, (mm_ok n a 12) → mm_E d 147 182 lv [] (.inr (.inr z) :: .inr (.inr (some a)) :: st) n I L P = mm_E d 147 185 lv [] st n I L (mm_up P a 32 z)) ∧
  (∀ (st : List mm_V) z, mm_E d 147 185 [(.inr (.inr z))] [] st n I L P = mm_E d 147 186 [(.inr (.inr z))] [] ((.inr (.inr z)) :: st) n I L P) ∧
  (∀ (lv : List mm_V) (st : List mm_V), mm_E d 147 186 lv [] st n I L P = mm_E d 147 189 lv [] (.inl 270 :: st) n I L P) ∧
  (∀ (lv : List mm_V) (st : List mm_V) z, (n < mm_NC ∧ mm_ty n = (20, z.toNat) ∧ 0 ≤ z) → mm_E d 147 189 lv [] (.inl z :: st) n I L P = mm_E d 147 191 lv [] (.inr (.inr (some n)) :: st) (n + 1) (mm_zi I n) (mm_zi L n) (mm_zp P n)) ∧
  (∀ (lv : List mm_V) (st : List mm_V) a z, (mm_ok n a 12) → mm_E d 147 191 lv [] (.inr (.inr z) :: .inr (.inr (some a)) :: st) n I L P = mm_E d 147 194 lv [] st n I L (mm_up P a 35 z)) ∧
  (∀ (st : List mm_V) z, mm_E d 147 194 [(.inr (.inr z))] [] st n I L P = mm_E d 147 195 [(.inr (.inr z))] [] ((.inr (.inr z)) :: st) n I L P) ∧
  (∀ (lv : List mm_V) (st : List mm_V), mm_E d 147 195 lv [] st n I L P = mm_E d 147 197 lv [] (.inl 10 :: st) n I L P) ∧
  (∀ (lv : List mm_V) (st : List mm_V) z, (n < mm_NC ∧ mm_ty n = (20, z.toNat) ∧ 0 ≤ z) → mm_E d 147 197 lv [] (.inl z :: st) n I L P = mm_E d 147 199 lv [] (.inr (.inr (some n)) :: st) (n + 1) (mm_zi I n) (mm_zi L n) (mm_zp P n)) ∧
  (∀ (lv : List mm_V) (st : List mm_V) a z, (mm_ok n a 12) → mm_E d 147 199 lv [] (.inr (.inr z) :: .inr (.inr (some a)) :: st) n I L P = mm_E d 147 202 lv [] st n I L (mm_up P a 38 z)) ∧
  (∀ (st : List mm_V) z, mm_E d 147 202 [(.inr (.inr z))] [] st n I L P = mm_E d 147 203 [(.inr (.inr z))] [] ((.inr (.inr z)) :: st) n I L P) ∧
  (∀ (lv : List mm_V) (st : List mm_V), mm_E d 147 203 lv [] st n I L P = mm_E d 147 205 lv [] (.inl 10 :: st) n I L P) ∧
  (∀ (lv : List mm_V) (st : List mm_V) z, (n < mm_NC ∧ mm_ty n = (20, z.toNat) ∧ 0 ≤ z) → mm_E d 147 205 lv [] (.inl z :: st) n I L P = mm_E d 147 207 lv [] (.inr (.inr (some n)) :: st) (n + 1) (mm_zi I n) (mm_zi L n) (mm_zp P n)) ∧
  (∀ (lv : List mm_V) (st : List mm_V) a z, (mm_ok n a 12) → mm_E d 147 207 lv [] (.inr (.inr z) :: .inr (.inr (some a)) :: st) n I L P = mm_E d 147 210 lv [] st n I L (mm_up P a 39 z)) ∧
  (∀ (st : List mm_V) z, mm_E d 147 210 [(.inr (.inr z))] [] st n I L P = mm_E d 147 211 [(.inr (.inr z))] [] ((.inr (.inr z)) :: st) n I L P) ∧
  (∀ (lv : List mm_V) (st : List mm_V), mm_E d 147 211 lv [] st n I L P = mm_E d 147 213 lv [] (.inl 10 :: st) n I L P) ∧
  (∀ (lv : List mm_V) (st : List mm_V) z, (n < mm_NC ∧ mm_ty n = (20, z.toNat) ∧ 0 ≤ z) → mm_E d 147 213 lv [] (.inl z :: st) n I L P = mm_E d 147 215 lv [] (.inr (.inr (some n)) :: st) (n + 1) (mm_zi I n) (mm_zi L n) (mm_zp P n)) ∧
  (∀ (lv : List mm_V) (st : List mm_V) a z, (mm_ok n a 12) → mm_E d 147 215 lv [] (.inr (.inr z) :: .inr (.inr (some a)) :: st) n I L P = mm_E d 147 218 lv [] st n I L (mm_up P a 40 z)) ∧
  (∀ (st : List mm_V) z, mm_E d 147 218 [(.inr (.inr z))] [] st n I L P = mm_E d 147 219 [(.inr (.inr z))] [] ((.inr (.inr z)) :: st) n I L P) ∧
  (∀ (lv : List mm_V) (st : List mm_V), mm_E d 147 219 lv [] st n I L P = mm_E d 147 221 lv [] (.inl 10 :: st) n I L P) ∧
  (∀ (lv : List mm_V) (st : List mm_V) z, (n < mm_NC ∧ mm_ty n = (21, z.toNat) ∧ 0 ≤ z) → mm_E d 147 221 lv [] (.inl z :: st) n I L P = mm_E d 147 223 lv [] (.inr (.inr (some n)) :: st) (n + 1) (mm_zi I n) (mm_zi L n) (mm_zp P n)) ∧
  (∀ (lv : List mm_V) (st : List mm_V) a z, (mm_ok n a 12) → mm_E d 147 223 lv [] (.inr (.inr z) :: .inr (.inr (some a)) :: st) n I L P = mm_E d 147 226 lv [] st n I L (mm_up P a 41 z)) ∧
  (∀ (st : List mm_V) z, mm_E d 147 226 [(.inr (.inr z))] [] st n I L P = mm_E d 147 227 [(.inr (.inr z))] [] ((.inr (.inr z)) :: st) n I L P) ∧
  (∀ (lv : List mm_V) (st : List mm_V), mm_E d 147 227 lv [] st n I L P = mm_E d 147 230 lv [] (.inl 168 :: st) n I L P) ∧
  (∀ (lv : List mm_V) (st : List mm_V) z, (n < mm_NC ∧ mm_ty n = (20, z.toNat) ∧ 0 ≤ z) → mm_E d 147 230 lv [] (.inl z :: st) n I L P = mm_E d 147 232 lv [] (.inr (.inr (some n)) :: st) (n + 1) (mm_zi I n) (mm_zi L n) (mm_zp P n)) ∧
  (∀ (lv : List mm_V) (st : List mm_V) a z, (mm_ok n a 12) → mm_E d 147 232 lv [] (.inr (.inr z) :: .inr (.inr (some a)) :: st) n I L P = mm_E d 147 235 lv [] st n I L (mm_up P a 43 z)) ∧
  (∀ (st : List mm_V) z, mm_E d 147 235 [(.inr (.inr z))] [] st n I L P = mm_E d 147 236 [(.inr (.inr z))] [] ((.inr (.inr z)) :: st) n I L P) ∧
  (∀ (lv : List mm_V) (st : List mm_V), mm_E d 147 236 lv [] st n I L P = mm_E d 147 239 lv [] (.inl 1300 :: st) n I L P) ∧
  (∀ (lv : List mm_V) (st : List mm_V) z, (n < mm_NC ∧ mm_ty n = (20, z.toNat) ∧ 0 ≤ z) → mm_E d 147 239 lv [] (.inl z :: st) n I L P = mm_E d 147 241 lv [] (.inr (.inr (some n)) :: st) (n + 1) (mm_zi I n) (mm_zi L n) (mm_zp P n)) ∧
  (∀ (lv : List mm_V) (st : List mm_V) a z, (mm_ok n a 12) → mm_E d 147 241 lv [] (.inr (.inr z) :: .inr (.inr (some a)) :: st) n I L P = mm_E d 147 244 lv [] st n I L (mm_up P a 44 z)) ∧
  (∀ (st : List mm_V) z, mm_E d 147 244 [(.inr (.inr z))] [] st n I L P = mm_E d 147 245 [(.inr (.inr z))] [] ((.inr (.inr z)) :: st) n I L P) ∧
  (∀ (lv : List mm_V) (st : List mm_V), mm_E d 147 245 lv [] st n I L P = mm_E d 147 248 lv [] (.inl 211 :: st) n I L P) ∧
  (∀ (lv : List mm_V) (st : List mm_V) z, (n < mm_NC ∧ mm_ty n = (20, z.toNat) ∧ 0 ≤ z) → mm_E d 147 248 lv [] (.inl z :: st) n I L P = mm_E d 147 250 lv [] (.inr (.inr (some n)) :: st) (n + 1) (mm_zi I n) (mm_zi L n) (mm_zp P n)) ∧
  (∀ (lv : List mm_V) (st : List mm_V) a z, (mm_ok n a 12) → mm_E d 147 250 lv [] (.inr (.inr z) :: .inr (.inr (some a)) :: st) n I L P = mm_E d 147 253 lv [] st n I L (mm_up P a 45 z)) ∧
  (∀ (lv : List mm_V), mm_E d 147 253 lv [] [] n I L P = some (none, n, I, L, P)) :=
  ⟨fun _ _ => mq_al (i := 0) rfl rfl,
   fun _ _ h0 => mq_oi rfl h0 (Nat.le_of_ble_eq_true rfl),
   fun _ _ => mq_al (i := 0) rfl rfl,
   fun _ _ => mq_push rfl,
   fun _ _ _ h0 => mq_newa rfl h0,
   fun _ _ _ _ h0 => mq_putR rfl h0,
   fun _ _ => mq_al (i := 0) rfl rfl,
   fun _ _ => mq_push rfl,
   fun _ _ _ h0 => mq_newa rfl h0,
   fun _ _ _ _ h0 => mq_putR rfl h0,
   fun _ _ => mq_al (i := 0) rfl rfl,
   fun _ _ => mq_push rfl,
   fun _ _ _ h0 => mq_newa rfl h0,
   fun _ _ _ _ h0 => mq_putR rfl h0,
   fun _ _ => mq_al (i := 0) rfl rfl,
   fun _ _ => mq_push rfl,
   fun _ _ _ h0 => mq_newa rfl h0,
   fun _ _ _ _ h0 => mq_putR rfl h0,
   fun _ _ => mq_al (i := 0) rfl rfl,
   fun _ _ => mq_push rfl,
   fun _ _ _ h0 => mq_newa rfl h0,
   fun _ _ _ _ h0 => mq_putR rfl h0,
   fun _ _ => mq_al (i := 0) rfl rfl,
   fun _ _ => mq_push rfl,
   fun _ _ _ h0 => mq_newa rfl h0,
   fun _ _ _ _ h0 => mq_putR rfl h0,
   fun _ _ => mq_al (i := 0) rfl rfl,
   fun _ _ => mq_push rfl,
   fun _ _ _ h0 => mq_newa rfl h0,
   fun _ _ _ _ h0 => mq_putR rfl h0,
   fun _ _ => mq_al (i := 0) rfl rfl,
   fun _ _ => mq_push rfl,
   fun _ _ _ h0 => mq_newa rfl h0,
   fun _ _ _ _ h0 => mq_putR rfl h0,
   fun _ _ => mq_al (i := 0) rfl rfl,
   fun _ _ => mq_push rfl,
   fun _ _ _ h0 => mq_newa rfl h0,
   fun _ _ _ _ h0 => mq_putR rfl h0,
   fun _ _ => mq_al (i := 0) rfl rfl,
   fun _ _ => mq_push rfl,
   fun _ _ _ h0 => mq_newa rfl h0,
   fun _ _ _ _ h0 => mq_putR rfl h0,
   fun _ _ => mq_al (i := 0) rfl rfl,
   fun _ _ => mq_push rfl,
   fun _ _ _ h0 => mq_newa rfl h0,
   fun _ _ _ _ h0 => mq_putR rfl h0,
   fun _ _ => mq_al (i := 0) rfl rfl,
   fun _ _ => mq_push rfl,
   fun _ _ _ h0 => mq_newa rfl h0,
   fun _ _ _ _ h0 => mq_putR rfl h0,
   fun _ _ => mq_al (i := 0) rfl rfl,
   fun _ _ => mq_push rfl,
   fun _ _ _ h0 => mq_newa rfl h0,
   fun _ _ _ _ h0 => mq_putR rfl h0,
   fun _ _ => mq_al (i := 0) rfl rfl,
   fun _ _ => mq_push rfl,
   fun _ _ _ h0 => mq_newa rfl h0,
   fun _ _ _ _ h0 => mq_putR rfl h0,
   fun _ _ => mq_al (i := 0) rfl rfl,
   fun _ _ => mq_push rfl,
   fun _ _ _ h0 => mq_newa rfl h0,
   fun _ _ _ _ h0 => mq_putR rfl h0,
   fun _ _ => mq_al (i := 0) rfl rfl,
   fun _ _ => mq_push rfl,
   fun _ _ _ h0 => mq_newa rfl h0,
   fun _ _ _ _ h0 => mq_putR rfl h0,
   fun _ _ => mq_al (i := 0) rfl rfl,
   fun _ _ => mq_push rfl,
   fun _ _ _ h0 => mq_newa rfl h0,
   fun _ _ _ _ h0 => mq_putR rfl h0,
   fun _ _ => mq_al (i := 0) rfl rfl,
   fun _ _ => mq_push rfl,
   fun _ _ _ h0 => mq_newa rfl h0,
   fun _ _ _ _ h0 => mq_putR rfl h0,
   fun _ _ => mq_al (i := 0) rfl rfl,
   fun _ _ => mq_push rfl,
   fun _ _ _ h0 => mq_newa rfl h0,
   fun _ _ _ _ h0 => mq_putR rfl h0,
   fun _ _ => mq_al (i := 0) rfl rfl,
   fun _ _ => mq_push rfl,
   fun _ _ _ _ h0 => mq_putI rfl h0,
   fun _ _ => mq_al (i := 0) rfl rfl,
   fun _ _ => mq_push rfl,
   fun _ _ _ _ h0 => mq_putI rfl h0,
   fun _ _ => mq_al (i := 0) rfl rfl,
   fun _ _ => mq_push rfl,
   fun _ _ _ h0 => mq_newa rfl h0,
   fun _ _ _ _ h0 => mq_putR rfl h0,
   fun _ _ => mq_al (i := 0) rfl rfl,
   fun _ _ => mq_push rfl,
   fun _ _ _ h0 => mq_newa rfl h0,
   fun _ _ _ _ h0 => mq_putR rfl h0,
   fun _ _ => mq_al (i := 0) rfl rfl,
   fun _ _ => mq_push rfl,
   fun _ _ _ h0 => mq_newa rfl h0,
   fun _ _ _ _ h0 => mq_putR rfl h0,
   fun _ _ => mq_al (i := 0) rfl rfl,
   fun _ _ => mq_push rfl,
   fun _ _ _ h0 => mq_newa rfl h0,
   fun _ _ _ _ h0 => mq_putR rfl h0,
   fun _ _ => mq_al (i := 0) rfl rfl,
   fun _ _ => mq_push rfl,
   fun _ _ _ h0 => mq_newa rfl h0,
   fun _ _ _ _ h0 => mq_putR rfl h0,
   fun _ _ => mq_al (i := 0) rfl rfl,
   fun _ _ => mq_push rfl,
   fun _ _ _ h0 => mq_newa rfl h0,
   fun _ _ _ _ h0 => mq_putR rfl h0,
   fun _ _ => mq_al (i := 0) rfl rfl,
   fun _ _ => mq_push rfl,
   fun _ _ _ h0 => mq_newa rfl h0,
   fun _ _ _ _ h0 => mq_putR rfl h0,
   fun _ _ => mq_al (i := 0) rfl rfl,
   fun _ _ => mq_push rfl,
   fun _ _ _ h0 => mq_newa rfl h0,
   fun _ _ _ _ h0 => mq_putR rfl h0,
   fun _ _ => mq_al (i := 0) rfl rfl,
   fun _ _ => mq_push rfl,
   fun _ _ _ h0 => mq_newa rfl h0,
   fun _ _ _ _ h0 => mq_putR rfl h0,
   fun _ _ => mq_al (i := 0) rfl rfl,
   fun _ _ => mq_push rfl,
   fun _ _ _ h0 => mq_newa rfl h0,
   fun _ _ _ _ h0 => mq_putR rfl h0,
   fun _ => mq_rv rfl⟩
theorem eX12_init (d n : Nat) (I L : mm_I) (P : mm_P) (x0 : Option Nat) : mm_rn (d + 1) 147 [.inr (.inr x0)] n I L P = mm_E d 147 0 [.inr (.inr x0)] [] [] n I L P := rfl

set_option maxRecDepth 20000 in
set_option maxHeartbeats 8000000 in
theorem kX12_thrown (d n : Nat) (I L : mm_I) (P : mm_P) :
  (∀ (st : List mm_V) z, mm_E d 148 0 [(.inr (.inr z))] [] st n I L P = mm_E d 148 1 [(.inr (.inr z))] [] ((.inr (.inr z)) :: st) n I L P) ∧
  (∀ (lv : List mm_V) (st : List mm_V) a, (mm_ok n a 12) → mm_E d 148 1 lv [] (.inr (.inr (some a)) :: st) n I L P = mm_E d 148 4 lv [] (.inl (I a 0) :: st) n I L P) ∧
  (∀ (lv : List mm_V) z, mm_E d 148 4 lv [] [.inl z] n I L P = some (some (.inl z), n, I, L, P)) :=
  ⟨fun _ _ => mq_al (i := 0) rfl rfl,
   fun _ _ _ h0 => mq_getI rfl h0,
   fun _ _ => mq_ri rfl⟩
theorem eX12_thrown (d n : Nat) (I L : mm_I) (P : mm_P) (x0 : Option Nat) : mm_rn (d + 1) 148 [.inr (.inr x0)] n I L P = mm_E d 148 0 [.inr (.inr x0)] [] [] n I L P := rfl

set_option maxRecDepth 20000 in
set_option maxHeartbeats 8000000 in
theorem kX12_byteOf (d n : Nat) (I L : mm_I) (P : mm_P) :
  (∀ (st : List mm_V) z (l0 : mm_V) (l1 : mm_V) (l2 : mm_V) (l3 : mm_V) (l4 : mm_V) (l6 : mm_V), mm_E d 149 0 [l0, l1, l2, l3, l4, (.inl z), l6] [] st n I L P = mm_E d 149 2 [l0, l1, l2, l3, l4, (.inl z), l6] [] ((.inl z) :: st) n I L P) ∧
  (∀ (lv : List mm_V) (st : List mm_V), mm_E d 149 2 lv [] st n I L P = mm_E d 149 3 lv [] (.inl 4 :: st) n I L P) ∧
  (∀ (lv : List mm_V) (st : List mm_V) a b, mm_E d 149 3 lv [] (.inl b :: .inl a :: st) n I L P = if b ≤ a then mm_E d 149 10 lv [] st n I L P else mm_E d 149 6 lv [] st n I L P) ∧
  (∀ (st : List mm_V) z (l1 : mm_V) (l2 : mm_V) (l3 : mm_V) (l4 : mm_V) (l5 : mm_V) (l6 : mm_V), mm_E d 149 6 [(.inl z), l1, l2, l3, l4, l5, l6] [] st n I L P = mm_E d 149 7 [(.inl z), l1, l2, l3, l4, l5, l6] [] ((.inl z) :: st) n I L P) ∧
  (∀ (lv : List mm_V) (st : List mm_V), mm_E d 149 7 lv [] st n I L P = mm_E d 149 45 lv [] st n I L P) ∧
  (∀ (st : List mm_V) z (l0 : mm_V) (l1 : mm_V) (l2 : mm_V) (l3 : mm_V) (l4 : mm_V) (l6 : mm_V), mm_E d 149 10 [l0, l1, l2, l3, l4, (.inl z), l6] [] st n I L P = mm_E d 149 12 [l0, l1, l2, l3, l4, (.inl z), l6] [] ((.inl z) :: st) n I L P) ∧
  (∀ (lv : List mm_V) (st : List mm_V), mm_E d 149 12 lv [] st n I L P = mm_E d 149 14 lv [] (.inl 8 :: st) n I L P) ∧
  (∀ (lv : List mm_V) (st : List mm_V) a b, mm_E d 149 14 lv [] (.inl b :: .inl a :: st) n I L P = if b ≤ a then mm_E d 149 21 lv [] st n I L P else mm_E d 149 17 lv [] st n I L P) ∧
  (∀ (st : List mm_V) z (l0 : mm_V) (l2 : mm_V) (l3 : mm_V) (l4 : mm_V) (l5 : mm_V) (l6 : mm_V), mm_E d 149 17 [l0, (.inl z), l2, l3, l4, l5, l6] [] st n I L P = mm_E d 149 18 [l0, (.inl z), l2, l3, l4, l5, l6] [] ((.inl z) :: st) n I L P) ∧
  (∀ (lv : List mm_V) (st : List mm_V), mm_E d 149 18 lv [] st n I L P = mm_E d 149 45 lv [] st n I L P) ∧
  (∀ (st : List mm_V) z (l0 : mm_V) (l1 : mm_V) (l2 : mm_V) (l3 : mm_V) (l4 : mm_V) (l6 : mm_V), mm_E d 149 21 [l0, l1, l2, l3, l4, (.inl z), l6] [] st n I L P = mm_E d 149 23 [l0, l1, l2, l3, l4, (.inl z), l6] [] ((.inl z) :: st) n I L P) ∧
  (∀ (lv : List mm_V) (st : List mm_V), mm_E d 149 23 lv [] st n I L P = mm_E d 149 25 lv [] (.inl 12 :: st) n I L P) ∧
  (∀ (lv : List mm_V) (st : List mm_V) a b, mm_E d 149 25 lv [] (.inl b :: .inl a :: st) n I L P = if b ≤ a then mm_E d 149 32 lv [] st n I L P else mm_E d 149 28 lv [] st n I L P) ∧
  (∀ (st : List mm_V) z (l0 : mm_V) (l1 : mm_V) (l3 : mm_V) (l4 : mm_V) (l5 : mm_V) (l6 : mm_V), mm_E d 149 28 [l0, l1, (.inl z), l3, l4, l5, l6] [] st n I L P = mm_E d 149 29 [l0, l1, (.inl z), l3, l4, l5, l6] [] ((.inl z) :: st) n I L P) ∧
  (∀ (lv : List mm_V) (st : List mm_V), mm_E d 149 29 lv [] st n I L P = mm_E d 149 45 lv [] st n I L P) ∧
  (∀ (st : List mm_V) z (l0 : mm_V) (l1 : mm_V) (l2 : mm_V) (l3 : mm_V) (l4 : mm_V) (l6 : mm_V), mm_E d 149 32 [l0, l1, l2, l3, l4, (.inl z), l6] [] st n I L P = mm_E d 149 34 [l0, l1, l2, l3, l4, (.inl z), l6] [] ((.inl z) :: st) n I L P) ∧
  (∀ (lv : List mm_V) (st : List mm_V), mm_E d 149 34 lv [] st n I L P = mm_E d 149 36 lv [] (.inl 16 :: st) n I L P) ∧
  (∀ (lv : List mm_V) (st : List mm_V) a b, mm_E d 149 36 lv [] (.inl b :: .inl a :: st) n I L P = if b ≤ a then mm_E d 149 43 lv [] st n I L P else mm_E d 149 39 lv [] st n I L P) ∧
  (∀ (st : List mm_V) z (l0 : mm_V) (l1 : mm_V) (l2 : mm_V) (l4 : mm_V) (l5 : mm_V) (l6 : mm_V), mm_E d 149 39 [l0, l1, l2, (.inl z), l4, l5, l6] [] st n I L P = mm_E d 149 40 [l0, l1, l2, (.inl z), l4, l5, l6] [] ((.inl z) :: st) n I L P) ∧
  (∀ (lv : List mm_V) (st : List mm_V), mm_E d 149 40 lv [] st n I L P = mm_E d 149 45 lv [] st n I L P) ∧
  (∀ (st : List mm_V) z (l0 : mm_V) (l1 : mm_V) (l2 : mm_V) (l3 : mm_V) (l5 : mm_V) (l6 : mm_V), mm_E d 149 43 [l0, l1, l2, l3, (.inl z), l5, l6] [] st n I L P = mm_E d 149 45 [l0, l1, l2, l3, (.inl z), l5, l6] [] ((.inl z) :: st) n I L P) ∧
  (∀ (st : List mm_V) z (l0 : mm_V) (l1 : mm_V) (l2 : mm_V) (l3 : mm_V) (l4 : mm_V) (l5 : mm_V) (l6 : mm_V), mm_E d 149 45 [l0, l1, l2, l3, l4, l5, l6] [] ((.inl z) :: st) n I L P = mm_E d 149 47 [l0, l1, l2, l3, l4, l5, (.inl z)] [] st n I L P) ∧
  (∀ (st : List mm_V) z (l0 : mm_V) (l1 : mm_V) (l2 : mm_V) (l3 : mm_V) (l4 : mm_V) (l5 : mm_V), mm_E d 149 47 [l0, l1, l2, l3, l4, l5, (.inl z)] [] st n I L P = mm_E d 149 49 [l0, l1, l2, l3, l4, l5, (.inl z)] [] ((.inl z) :: st) n I L P) ∧
  (∀ (lv : List mm_V) (st : List mm_V), mm_E d 149 49 lv [] st n I L P = mm_E d 149 51 lv [] (.inl 24 :: st) n I L P) ∧
  (∀ (lv : List mm_V) (st : List mm_V), mm_E d 149 51 lv [] st n I L P = mm_E d 149 53 lv [] (.inl 8 :: st) n I L P) ∧
  (∀ (st : List mm_V) z (l0 : mm_V) (l1 : mm_V) (l2 : mm_V) (l3 : mm_V) (l4 : mm_V) (l6 : mm_V), mm_E d 149 53 [l0, l1, l2, l3, l4, (.inl z), l6] [] st n I L P = mm_E d 149 55 [l0, l1, l2, l3, l4, (.inl z), l6] [] ((.inl z) :: st) n I L P) ∧
  (∀ (lv : List mm_V) (st : List mm_V), mm_E d 149 55 lv [] st n I L P = mm_E d 149 56 lv [] (.inl 4 :: st) n I L P) ∧
  (∀ (lv : List mm_V) (st : List mm_V) a b, (¬ b = 0) → mm_E d 149 56 lv [] (.inl b :: .inl a :: st) n I L P = mm_E d 149 57 lv [] (.inl (mm_w (Int.tmod a b)) :: st) n I L P) ∧
  (∀ (lv : List mm_V) (st : List mm_V) a b, mm_E d 149 57 lv [] (.inl b :: .inl a :: st) n I L P = mm_E d 149 58 lv [] (.inl (mm_mul a b) :: st) n I L P) ∧
  (∀ (lv : List mm_V) (st : List mm_V) a b, mm_E d 149 58 lv [] (.inl b :: .inl a :: st) n I L P = mm_E d 149 59 lv [] (.inl (mm_sub a b) :: st) n I L P) ∧
  (∀ (lv : List mm_V) (st : List mm_V) a b, mm_E d 149 59 lv [] (.inl b :: .inl a :: st) n I L P = mm_E d 149 60 lv [] (.inl (mm_shr a b) :: st) n I L P) ∧
  (∀ (lv : List mm_V) (st : List mm_V), mm_E d 149 60 lv [] st n I L P = mm_E d 149 63 lv [] (.inl 255 :: st) n I L P) ∧
  (∀ (lv : List mm_V) (st : List mm_V) a b, mm_E d 149 63 lv [] (.inl b :: .inl a :: st) n I L P = mm_E d 149 64 lv [] (.inl (mm_and a b) :: st) n I L P) ∧
  (∀ (lv : List mm_V) z, mm_E d 149 64 lv [] [.inl z] n I L P = some (some (.inl z), n, I, L, P)) :=
  ⟨fun _ _ _ _ _ _ _ _ => mq_il (i := 5) rfl rfl,
   fun _ _ => mq_push rfl,
   fun _ _ _ _ => mq_ic_ge rfl,
   fun _ _ _ _ _ _ _ _ => mq_il (i := 0) rfl rfl,
   fun _ _ => mq_go rfl,
   fun _ _ _ _ _ _ _ _ => mq_il (i := 5) rfl rfl,
   fun _ _ => mq_push rfl,
   fun _ _ _ _ => mq_ic_ge rfl,
   fun _ _ _ _ _ _ _ _ => mq_il (i := 1) rfl rfl,
   fun _ _ => mq_go rfl,
   fun _ _ _ _ _ _ _ _ => mq_il (i := 5) rfl rfl,
   fun _ _ => mq_push rfl,
   fun _ _ _ _ => mq_ic_ge rfl,
   fun _ _ _ _ _ _ _ _ => mq_il (i := 2) rfl rfl,
   fun _ _ => mq_go rfl,
   fun _ _ _ _ _ _ _ _ => mq_il (i := 5) rfl rfl,
   fun _ _ => mq_push rfl,
   fun _ _ _ _ => mq_ic_ge rfl,
   fun _ _ _ _ _ _ _ _ => mq_il (i := 3) rfl rfl,
   fun _ _ => mq_go rfl,
   fun _ _ _ _ _ _ _ _ => mq_il (i := 4) rfl rfl,
   fun _ _ _ _ _ _ _ _ _ => mq_is (i := 6) rfl rfl rfl,
   fun _ _ _ _ _ _ _ _ => mq_il (i := 6) rfl rfl,
   fun _ _ => mq_push rfl,
   fun _ _ => mq_push rfl,
   fun _ _ _ _ _ _ _ _ => mq_il (i := 5) rfl rfl,
   fun _ _ => mq_push rfl,
   fun _ _ _ _ h0 => mq_di rfl h0,
   fun _ _ _ _ => mq_bi rfl,
   fun _ _ _ _ => mq_bi rfl,
   fun _ _ _ _ => mq_bi rfl,
   fun _ _ => mq_push rfl,
   fun _ _ _ _ => mq_bi rfl,
   fun _ _ => mq_ri rfl⟩
theorem eX12_byteOf (d n : Nat) (I L : mm_I) (P : mm_P) (x0 : Int) (x1 : Int) (x2 : Int) (x3 : Int) (x4 : Int) (x5 : Int) : mm_rn (d + 1) 149 [.inl x0, .inl x1, .inl x2, .inl x3, .inl x4, .inl x5] n I L P = mm_E d 149 0 [.inl x0, .inl x1, .inl x2, .inl x3, .inl x4, .inl x5, mm_junk] [] [] n I L P := rfl

set_option maxRecDepth 20000 in
set_option maxHeartbeats 8000000 in
theorem kX12_feed (d n : Nat) (I L : mm_I) (P : mm_P) :
  (∀ (lv : List mm_V) (st : List mm_V), mm_E d 150 0 lv [] st n I L P = mm_E d 150 1 lv [] (.inl 0 :: st) n I L P) ∧
  (∀ (st : List mm_V) z (l0 : mm_V) (l1 : mm_V) (l2 : mm_V) (l3 : mm_V) (l4 : mm_V) (l5 : mm_V) (l6 : mm_V) (l7 : mm_V) (l8 : mm_V), mm_E d 150 1 [l0, l1, l2, l3, l4, l5, l6, l7, l8] [] ((.inl z) :: st) n I L P = mm_E d 150 3 [l0, l1, l2, l3, l4, l5, (.inl z), l7, l8] [] st n I L P) ∧
  (∀ (lv : List mm_V) (st : List mm_V), mm_E d 150 3 lv [] st n I L P = mm_E d 150 4 lv [] (.inl 0 :: st) n I L P) ∧
  (∀ (st : List mm_V) z (l0 : mm_V) (l1 : mm_V) (l2 : mm_V) (l3 : mm_V) (l4 : mm_V) (l5 : mm_V) (l6 : mm_V) (l7 : mm_V) (l8 : mm_V), mm_E d 150 4 [l0, l1, l2, l3, l4, l5, l6, l7, l8] [] ((.inl z) :: st) n I L P = mm_E d 150 6 [l0, l1, l2, l3, l4, l5, l6, (.inl z), l8] [] st n I L P) ∧
  (∀ (lv : List mm_V) (st : List mm_V), mm_E d 150 8 lv [] st n I L P = mm_E d 150 10 lv [] (.inl 20 :: st) n I L P) ∧
  (∀ (lv : List mm_V) (st : List mm_V) a b, mm_E d 150 10 lv [] (.inl b :: .inl a :: st) n I L P = if b ≤ a then mm_E d 150 44 lv [] st n I L P else mm_E d 150 13 lv [] st n I L P) ∧
  (∀ (st : List mm_V) z (l0 : mm_V) (l1 : mm_V) (l2 : mm_V) (l3 : mm_V) (l4 : mm_V) (l5 : mm_V) (l7 : mm_V) (l8 : mm_V), mm_E d 150 13 [l0, l1, l2, l3, l4, l5, (.inl z), l7, l8] [] st n I L P = mm_E d 150 15 [l0, l1, l2, l3, l4, l5, (.inl z), l7, l8] [] ((.inl z) :: st) n I L P) ∧
  (∀ (st : List mm_V) z (l0 : mm_V) (l2 : mm_V) (l3 : mm_V) (l4 : mm_V) (l5 : mm_V) (l6 : mm_V) (l7 : mm_V) (l8 : mm_V), mm_E d 150 15 [l0, (.inl z), l2, l3, l4, l5, l6, l7, l8] [] st n I L P = mm_E d 150 16 [l0, (.inl z), l2, l3, l4, l5, l6, l7, l8] [] ((.inl z) :: st) n I L P) ∧
  (∀ (st : List mm_V) z (l0 : mm_V) (l1 : mm_V) (l3 : mm_V) (l4 : mm_V) (l5 : mm_V) (l6 : mm_V) (l7 : mm_V) (l8 : mm_V), mm_E d 150 16 [l0, l1, (.inl z), l3, l4, l5, l6, l7, l8] [] st n I L P = mm_E d 150 17 [l0, l1, (.inl z), l3, l4, l5, l6, l7, l8] [] ((.inl z) :: st) n I L P) ∧
  (∀ (st : List mm_V) z (l0 : mm_V) (l1 : mm_V) (l2 : mm_V) (l4 : mm_V) (l5 : mm_V) (l6 : mm_V) (l7 : mm_V) (l8 : mm_V), mm_E d 150 17 [l0, l1, l2, (.inl z), l4, l5, l6, l7, l8] [] st n I L P = mm_E d 150 18 [l0, l1, l2, (.inl z), l4, l5, l6, l7, l8] [] ((.inl z) :: st) n I L P) ∧
  (∀ (st : List mm_V) z (l0 : mm_V) (l1 : mm_V) (l2 : mm_V) (l3 : mm_V) (l5 : mm_V) (l6 : mm_V) (l7 : mm_V) (l8 : mm_V), mm_E d 150 18 [l0, l1, l2, l3, (.inl z), l5, l6, l7, l8] [] st n I L P = mm_E d 150 20 [l0, l1, l2, l3, (.inl z), l5, l6, l7, l8] [] ((.inl z) :: st) n I L P) ∧
  (∀ (st : List mm_V) z (l0 : mm_V) (l1 : mm_V) (l2 : mm_V) (l3 : mm_V) (l4 : mm_V) (l6 : mm_V) (l7 : mm_V) (l8 : mm_V), mm_E d 150 20 [l0, l1, l2, l3, l4, (.inl z), l6, l7, l8] [] st n I L P = mm_E d 150 22 [l0, l1, l2, l3, l4, (.inl z), l6, l7, l8] [] ((.inl z) :: st) n I L P) ∧
  (∀ (st : List mm_V) z (l0 : mm_V) (l1 : mm_V) (l2 : mm_V) (l3 : mm_V) (l4 : mm_V) (l5 : mm_V) (l6 : mm_V) (l8 : mm_V), mm_E d 150 22 [l0, l1, l2, l3, l4, l5, l6, (.inl z), l8] [] st n I L P = mm_E d 150 24 [l0, l1, l2, l3, l4, l5, l6, (.inl z), l8] [] ((.inl z) :: st) n I L P) ∧
  (∀ (lv : List mm_V) x0 x1 x2 x3 x4 x5 w0, mm_E d 150 24 lv [] (.inl x5 :: .inl x4 :: .inl x3 :: .inl x2 :: .inl x1 :: .inl x0 :: [.inl w0]) n I L P = mm_kr d 150 27 lv [] [.inl w0] n (mm_rn d 149 [.inl x0, .inl x1, .inl x2, .inl x3, .inl x4, .inl x5] n I L P)) ∧
  (∀ (lv : List mm_V) (st : List mm_V) a, mm_E d 150 27 lv [] (.inl a :: st) n I L P = if a = 0 then mm_E d 150 34 lv [] st n I L P else mm_E d 150 30 lv [] st n I L P) ∧
  (∀ (lv : List mm_V) (st : List mm_V), mm_E d 150 30 lv [] st n I L P = mm_E d 150 31 lv [] (.inl 1 :: st) n I L P) ∧
  (∀ (lv : List mm_V) (st : List mm_V), mm_E d 150 31 lv [] st n I L P = mm_E d 150 35 lv [] st n I L P) ∧
  (∀ (lv : List mm_V) (st : List mm_V), mm_E d 150 34 lv [] st n I L P = mm_E d 150 35 lv [] (.inl 0 :: st) n I L P) ∧
  (∀ (lv : List mm_V) (st : List mm_V) a b, mm_E d 150 35 lv [] (.inl b :: .inl a :: st) n I L P = mm_E d 150 36 lv [] (.inl (mm_add a b) :: st) n I L P) ∧
  (∀ (st : List mm_V) z (l0 : mm_V) (l1 : mm_V) (l2 : mm_V) (l3 : mm_V) (l4 : mm_V) (l5 : mm_V) (l6 : mm_V) (l7 : mm_V) (l8 : mm_V), mm_E d 150 36 [l0, l1, l2, l3, l4, l5, l6, l7, l8] [] ((.inl z) :: st) n I L P = mm_E d 150 38 [l0, l1, l2, l3, l4, l5, (.inl z), l7, l8] [] st n I L P) ∧
  (∀ (st : List mm_V) z (l0 : mm_V) (l1 : mm_V) (l2 : mm_V) (l3 : mm_V) (l4 : mm_V) (l5 : mm_V) (l6 : mm_V) (l8 : mm_V), mm_E d 150 38 [l0, l1, l2, l3, l4, l5, l6, (.inl z), l8] [] st n I L P = mm_E d 150 41 [l0, l1, l2, l3, l4, l5, l6, (.inl (mm_add z 1)), l8] [] st n I L P) ∧
  (∀ (lv : List mm_V) (st : List mm_V), mm_E d 150 41 lv [] st n I L P = mm_E d 150 6 lv [] st n I L P) ∧
  (∀ (st : List mm_V) z (l1 : mm_V) (l2 : mm_V) (l3 : mm_V) (l4 : mm_V) (l5 : mm_V) (l6 : mm_V) (l7 : mm_V) (l8 : mm_V), mm_E d 150 44 [(.inr (.inr z)), l1, l2, l3, l4, l5, l6, l7, l8] [] st n I L P = mm_E d 150 45 [(.inr (.inr z)), l1, l2, l3, l4, l5, l6, l7, l8] [] ((.inr (.inr z)) :: st) n I L P) ∧
  (∀ (lv : List mm_V) (st : List mm_V) a, (mm_ok n a 12) → mm_E d 150 45 lv [] (.inr (.inr (some a)) :: st) n I L P = mm_E d 150 48 lv [] (.inl (I a 2) :: st) n I L P) ∧
  (∀ (st : List mm_V) z (l0 : mm_V) (l1 : mm_V) (l2 : mm_V) (l3 : mm_V) (l4 : mm_V) (l5 : mm_V) (l7 : mm_V) (l8 : mm_V), mm_E d 150 48 [l0, l1, l2, l3, l4, l5, (.inl z), l7, l8] [] st n I L P = mm_E d 150 50 [l0, l1, l2, l3, l4, l5, (.inl z), l7, l8] [] ((.inl z) :: st) n I L P) ∧
  (∀ (lv : List mm_V) (st : List mm_V) a b, mm_E d 150 50 lv [] (.inl b :: .inl a :: st) n I L P = mm_E d 150 51 lv [] (.inl (mm_add a b) :: st) n I L P) ∧
  (∀ (lv : List mm_V) (st : List mm_V), mm_E d 150 51 lv [] st n I L P = mm_E d 150 54 lv [] (.inl 240 :: st) n I L P) ∧
  (∀ (lv : List mm_V) (st : List mm_V) a b, mm_E d 150 54 lv [] (.inl b :: .inl a :: st) n I L P = if a ≤ b then mm_E d 150 59 lv [] st n I L P else mm_E d 150 57 lv [] st n I L P) ∧
  (∀ (lv : List mm_V) (st : List mm_V), mm_E d 150 57 lv [] st n I L P = mm_E d 150 58 lv [] (.inl (-1) :: st) n I L P) ∧
  (∀ (lv : List mm_V) z, mm_E d 150 58 lv [] [.inl z] n I L P = some (some (.inl z), n, I, L, P)) ∧
  (∀ (lv : List mm_V) (st : List mm_V), mm_E d 150 59 lv [] st n I L P = mm_E d 150 60 lv [] (.inl 0 :: st) n I L P) ∧
  (∀ (st : List mm_V) z (l0 : mm_V) (l1 : mm_V) (l2 : mm_V) (l3 : mm_V) (l4 : mm_V) (l5 : mm_V) (l6 : mm_V) (l7 : mm_V) (l8 : mm_V), mm_E d 150 60 [l0, l1, l2, l3, l4, l5, l6, l7, l8] [] ((.inl z) :: st) n I L P = mm_E d 150 62 [l0, l1, l2, l3, l4, l5, l6, (.inl z), l8] [] st n I L P) ∧
  (∀ (lv : List mm_V) (st : List mm_V), mm_E d 150 64 lv [] st n I L P = mm_E d 150 66 lv [] (.inl 20 :: st) n I L P) ∧
  (∀ (lv : List mm_V) (st : List mm_V) a b, mm_E d 150 66 lv [] (.inl b :: .inl a :: st) n I L P = if b ≤ a then mm_E d 150 115 lv [] st n I L P else mm_E d 150 69 lv [] st n I L P) ∧
  (∀ (st : List mm_V) z (l0 : mm_V) (l2 : mm_V) (l3 : mm_V) (l4 : mm_V) (l5 : mm_V) (l6 : mm_V) (l7 : mm_V) (l8 : mm_V), mm_E d 150 69 [l0, (.inl z), l2, l3, l4, l5, l6, l7, l8] [] st n I L P = mm_E d 150 70 [l0, (.inl z), l2, l3, l4, l5, l6, l7, l8] [] ((.inl z) :: st) n I L P) ∧
  (∀ (st : List mm_V) z (l0 : mm_V) (l1 : mm_V) (l3 : mm_V) (l4 : mm_V) (l5 : mm_V) (l6 : mm_V) (l7 : mm_V) (l8 : mm_V), mm_E d 150 70 [l0, l1, (.inl z), l3, l4, l5, l6, l7, l8] [] st n I L P = mm_E d 150 71 [l0, l1, (.inl z), l3, l4, l5, l6, l7, l8] [] ((.inl z) :: st) n I L P) ∧
  (∀ (st : List mm_V) z (l0 : mm_V) (l1 : mm_V) (l2 : mm_V) (l4 : mm_V) (l5 : mm_V) (l6 : mm_V) (l7 : mm_V) (l8 : mm_V), mm_E d 150 71 [l0, l1, l2, (.inl z), l4, l5, l6, l7, l8] [] st n I L P = mm_E d 150 72 [l0, l1, l2, (.inl z), l4, l5, l6, l7, l8] [] ((.inl z) :: st) n I L P) ∧
  (∀ (st : List mm_V) z (l0 : mm_V) (l1 : mm_V) (l2 : mm_V) (l3 : mm_V) (l5 : mm_V) (l6 : mm_V) (l7 : mm_V) (l8 : mm_V), mm_E d 150 72 [l0, l1, l2, l3, (.inl z), l5, l6, l7, l8] [] st n I L P = mm_E d 150 74 [l0, l1, l2, l3, (.inl z), l5, l6, l7, l8] [] ((.inl z) :: st) n I L P) ∧
  (∀ (st : List mm_V) z (l0 : mm_V) (l1 : mm_V) (l2 : mm_V) (l3 : mm_V) (l4 : mm_V) (l6 : mm_V) (l7 : mm_V) (l8 : mm_V), mm_E d 150 74 [l0, l1, l2, l3, l4, (.inl z), l6, l7, l8] [] st n I L P = mm_E d 150 76 [l0, l1, l2, l3, l4, (.inl z), l6, l7, l8] [] ((.inl z) :: st) n I L P) ∧
  (∀ (st : List mm_V) z (l0 : mm_V) (l1 : mm_V) (l2 : mm_V) (l3 : mm_V) (l4 : mm_V) (l5 : mm_V) (l6 : mm_V) (l8 : mm_V), mm_E d 150 76 [l0, l1, l2, l3, l4, l5, l6, (.inl z), l8] [] st n I L P = mm_E d 150 78 [l0, l1, l2, l3, l4, l5, l6, (.inl z), l8] [] ((.inl z) :: st) n I L P) ∧
  (∀ (lv : List mm_V) x0 x1 x2 x3 x4 x5, mm_E d 150 78 lv [] (.inl x5 :: .inl x4 :: .inl x3 :: .inl x2 :: .inl x1 :: .inl x0 :: []) n I L P = mm_kr d 150 81 lv [] [] n (mm_rn d 149 [.inl x0, .inl x1, .inl x2, .inl x3, .inl x4, .inl x5] n I L P)) ∧
  (∀ (st : List mm_V) z (l0 : mm_V) (l1 : mm_V) (l2 : mm_V) (l3 : mm_V) (l4 : mm_V) (l5 : mm_V) (l6 : mm_V) (l7 : mm_V) (l8 : mm_V), mm_E d 150 81 [l0, l1, l2, l3, l4, l5, l6, l7, l8] [] ((.inl z) :: st) n I L P = mm_E d 150 83 [l0, l1, l2, l3, l4, l5, l6, l7, (.inl z)] [] st n I L P) ∧
  (∀ (st : List mm_V) z (l0 : mm_V) (l1 : mm_V) (l2 : mm_V) (l3 : mm_V) (l4 : mm_V) (l5 : mm_V) (l6 : mm_V) (l7 : mm_V), mm_E d 150 83 [l0, l1, l2, l3, l4, l5, l6, l7, (.inl z)] [] st n I L P = mm_E d 150 85 [l0, l1, l2, l3, l4, l5, l6, l7, (.inl z)] [] ((.inl z) :: st) n I L P) ∧
  (∀ (lv : List mm_V) (st : List mm_V) a, mm_E d 150 85 lv [] (.inl a :: st) n I L P = if a = 0 then mm_E d 150 109 lv [] st n I L P else mm_E d 150 88 lv [] st n I L P) ∧
  (∀ (st : List mm_V) z (l1 : mm_V) (l2 : mm_V) (l3 : mm_V) (l4 : mm_V) (l5 : mm_V) (l6 : mm_V) (l7 : mm_V) (l8 : mm_V), mm_E d 150 88 [(.inr (.inr z)), l1, l2, l3, l4, l5, l6, l7, l8] [] st n I L P = mm_E d 150 89 [(.inr (.inr z)), l1, l2, l3, l4, l5, l6, l7, l8] [] ((.inr (.inr z)) :: st) n I L P) ∧
  (∀ (lv : List mm_V) (st : List mm_V) a, (mm_ok n a 12) → mm_E d 150 89 lv [] (.inr (.inr (some a)) :: st) n I L P = mm_E d 150 92 lv [] (.inr (.inr (P a 1)) :: st) n I L P) ∧
  (∀ (st : List mm_V) z (l1 : mm_V) (l2 : mm_V) (l3 : mm_V) (l4 : mm_V) (l5 : mm_V) (l6 : mm_V) (l7 : mm_V) (l8 : mm_V), mm_E d 150 92 [(.inr (.inr z)), l1, l2, l3, l4, l5, l6, l7, l8] [] st n I L P = mm_E d 150 93 [(.inr (.inr z)), l1, l2, l3, l4, l5, l6, l7, l8] [] ((.inr (.inr z)) :: st) n I L P) ∧
  (∀ (lv : List mm_V) (st : List mm_V) a, (mm_ok n a 12) → mm_E d 150 93 lv [] (.inr (.inr (some a)) :: st) n I L P = mm_E d 150 96 lv [] (.inl (I a 2) :: st) n I L P) ∧
  (∀ (st : List mm_V) z (l0 : mm_V) (l1 : mm_V) (l2 : mm_V) (l3 : mm_V) (l4 : mm_V) (l5 : mm_V) (l6 : mm_V) (l7 : mm_V), mm_E d 150 96 [l0, l1, l2, l3, l4, l5, l6, l7, (.inl z)] [] st n I L P = mm_E d 150 98 [l0, l1, l2, l3, l4, l5, l6, l7, (.inl z)] [] ((.inl z) :: st) n I L P) ∧
  (∀ (lv : List mm_V) (st : List mm_V) a i z, (mm_ix n a 20 i) → mm_E d 150 98 lv [] (.inl z :: .inl i :: .inr (.inr (some a)) :: st) n I L P = mm_E d 150 99 lv [] st n (mm_ui I a i.toNat z) L P) ∧
  (∀ (st : List mm_V) z (l1 : mm_V) (l2 : mm_V) (l3 : mm_V) (l4 : mm_V) (l5 : mm_V) (l6 : mm_V) (l7 : mm_V) (l8 : mm_V), mm_E d 150 99 [(.inr (.inr z)), l1, l2, l3, l4, l5, l6, l7, l8] [] st n I L P = mm_E d 150 100 [(.inr (.inr z)), l1, l2, l3, l4, l5, l6, l7, l8] [] ((.inr (.inr z)) :: st) n I L P) ∧
  (∀ (lv : List mm_V) (st : List mm_V) a, mm_E d 150 100 lv [] ((.inr (.inr a)) :: st) n I L P = mm_E d 150 101 lv [] ((.inr (.inr a)) :: (.inr (.inr a)) :: st) n I L P) ∧
  (∀ (lv : List mm_V) (st : List mm_V) a, (mm_ok n a 12) → mm_E d 150 101 lv [] (.inr (.inr (some a)) :: st) n I L P = mm_E d 150 104 lv [] (.inl (I a 2) :: st) n I L P) ∧
  (∀ (lv : List mm_V) (st : List mm_V), mm_E d 150 104 lv [] st n I L P = mm_E d 150 105 lv [] (.inl 1 :: st) n I L P) ∧
  (∀ (lv : List mm_V) (st : List mm_V) a b, mm_E d 150 105 lv [] (.inl b :: .inl a :: st) n I L P = mm_E d 150 106 lv [] (.inl (mm_add a b) :: st) n I L P) ∧
  (∀ (lv : List mm_V) (st : List mm_V) a z, (mm_ok n a 12) → mm_E d 150 106 lv [] (.inl z :: .inr (.inr (some a)) :: st) n I L P = mm_E d 150 109 lv [] st n (mm_ui I a 2 z) L P) ∧
  (∀ (st : List mm_V) z (l0 : mm_V) (l1 : mm_V) (l2 : mm_V) (l3 : mm_V) (l4 : mm_V) (l5 : mm_V) (l6 : mm_V) (l8 : mm_V), mm_E d 150 109 [l0, l1, l2, l3, l4, l5, l6, (.inl z), l8] [] st n I L P = mm_E d 150 112 [l0, l1, l2, l3, l4, l5, l6, (.inl (mm_add z 1)), l8] [] st n I L P) ∧
  (∀ (lv : List mm_V) (st : List mm_V), mm_E d 150 112 lv [] st n I L P = mm_E d 150 62 lv [] st n I L P) ∧
  (∀ (st : List mm_V) z (l1 : mm_V) (l2 : mm_V) (l3 : mm_V) (l4 : mm_V) (l5 : mm_V) (l6 : mm_V) (l7 : mm_V) (l8 : mm_V), mm_E d 150 115 [(.inr (.inr z)), l1, l2, l3, l4, l5, l6, l7, l8] [] st n I L P = mm_E d 150 116 [(.inr (.inr z)), l1, l2, l3, l4, l5, l6, l7, l8] [] ((.inr (.inr z)) :: st) n I L P) ∧
  (∀ (lv : List mm_V) (st : List mm_V) a, (mm_ok n a 12) → mm_E d 150 116 lv [] (.inr (.inr (some a)) :: st) n I L P = mm_E d 150 119 lv [] (.inl (I a 2) :: st) n I L P) ∧
  (∀ (lv : List mm_V) z, mm_E d 150 119 lv [] [.inl z] n I L P = some (some (.inl z), n, I, L, P)) :=
  ⟨fun _ _ => mq_push rfl,
   fun _ _ _ _ _ _ _ _ _ _ _ => mq_is (i := 6) rfl rfl rfl,
   fun _ _ => mq_push rfl,
   fun _ _ _ _ _ _ _ _ _ _ _ => mq_is (i := 7) rfl rfl rfl,
   fun _ _ => mq_push rfl,
   fun _ _ _ _ => mq_ic_ge rfl,
   fun _ _ _ _ _ _ _ _ _ _ => mq_il (i := 6) rfl rfl,
   fun _ _ _ _ _ _ _ _ _ _ => mq_il (i := 1) rfl rfl,
   fun _ _ _ _ _ _ _ _ _ _ => mq_il (i := 2) rfl rfl,
   fun _ _ _ _ _ _ _ _ _ _ => mq_il (i := 3) rfl rfl,
   fun _ _ _ _ _ _ _ _ _ _ => mq_il (i := 4) rfl rfl,
   fun _ _ _ _ _ _ _ _ _ _ => mq_il (i := 5) rfl rfl,
   fun _ _ _ _ _ _ _ _ _ _ => mq_il (i := 7) rfl rfl,
   fun _ _ _ _ _ _ _ _ => mq_cSr (na := 6) rfl (Nat.le_of_ble_eq_true rfl) (Nat.le_of_ble_eq_true rfl),
   fun _ _ _ => mq_if_eq rfl,
   fun _ _ => mq_push rfl,
   fun _ _ => mq_go rfl,
   fun _ _ => mq_push rfl,
   fun _ _ _ _ => mq_bi rfl,
   fun _ _ _ _ _ _ _ _ _ _ _ => mq_is (i := 6) rfl rfl rfl,
   fun _ _ _ _ _ _ _ _ _ _ => mq_iinc (i := 7) rfl rfl rfl rfl,
   fun _ _ => mq_go rfl,
   fun _ _ _ _ _ _ _ _ _ _ => mq_al (i := 0) rfl rfl,
   fun _ _ _ h0 => mq_getI rfl h0,
   fun _ _ _ _ _ _ _ _ _ _ => mq_il (i := 6) rfl rfl,
   fun _ _ _ _ => mq_bi rfl,
   fun _ _ => mq_push rfl,
   fun _ _ _ _ => mq_ic_le rfl,
   fun _ _ => mq_push rfl,
   fun _ _ => mq_ri rfl,
   fun _ _ => mq_push rfl,
   fun _ _ _ _ _ _ _ _ _ _ _ => mq_is (i := 7) rfl rfl rfl,
   fun _ _ => mq_push rfl,
   fun _ _ _ _ => mq_ic_ge rfl,
   fun _ _ _ _ _ _ _ _ _ _ => mq_il (i := 1) rfl rfl,
   fun _ _ _ _ _ _ _ _ _ _ => mq_il (i := 2) rfl rfl,
   fun _ _ _ _ _ _ _ _ _ _ => mq_il (i := 3) rfl rfl,
   fun _ _ _ _ _ _ _ _ _ _ => mq_il (i := 4) rfl rfl,
   fun _ _ _ _ _ _ _ _ _ _ => mq_il (i := 5) rfl rfl,
   fun _ _ _ _ _ _ _ _ _ _ => mq_il (i := 7) rfl rfl,
   fun _ _ _ _ _ _ _ => mq_cSr (na := 6) rfl (Nat.le_of_ble_eq_true rfl) (Nat.le_of_ble_eq_true rfl),
   fun _ _ _ _ _ _ _ _ _ _ _ => mq_is (i := 8) rfl rfl rfl,
   fun _ _ _ _ _ _ _ _ _ _ => mq_il (i := 8) rfl rfl,
   fun _ _ _ => mq_if_eq rfl,
   fun _ _ _ _ _ _ _ _ _ _ => mq_al (i := 0) rfl rfl,
   fun _ _ _ h0 => mq_getR rfl h0,
   fun _ _ _ _ _ _ _ _ _ _ => mq_al (i := 0) rfl rfl,
   fun _ _ _ h0 => mq_getI rfl h0,
   fun _ _ _ _ _ _ _ _ _ _ => mq_il (i := 8) rfl rfl,
   fun _ _ _ _ _ h0 => mq_iast rfl h0,
   fun _ _ _ _ _ _ _ _ _ _ => mq_al (i := 0) rfl rfl,
   fun _ _ _ => mq_dup rfl rfl,
   fun _ _ _ h0 => mq_getI rfl h0,
   fun _ _ => mq_push rfl,
   fun _ _ _ _ => mq_bi rfl,
   fun _ _ _ _ h0 => mq_putI rfl h0,
   fun _ _ _ _ _ _ _ _ _ _ => mq_iinc (i := 7) rfl rfl rfl rfl,
   fun _ _ => mq_go rfl,
   fun _ _ _ _ _ _ _ _ _ _ => mq_al (i := 0) rfl rfl,
   fun _ _ _ h0 => mq_getI rfl h0,
   fun _ _ => mq_ri rfl⟩
theorem hX12_feed_6 (d n : Nat) (I L : mm_I) (P : mm_P) : ∀ (st : List mm_V) z (l0 : mm_V) (l1 : mm_V) (l2 : mm_V) (l3 : mm_V) (l4 : mm_V) (l5 : mm_V) (l6 : mm_V) (l8 : mm_V), mm_E d 150 6 [l0, l1, l2, l3, l4, l5, l6, (.inl z), l8] [] st n I L P = mm_E d 150 8 [l0, l1, l2, l3, l4, l5, l6, (.inl z), l8] [] ((.inl z) :: st) n I L P := fun _ _ _ _ _ _ _ _ _ _ => mq_il (i := 7) rfl rfl
theorem hX12_feed_62 (d n : Nat) (I L : mm_I) (P : mm_P) : ∀ (st : List mm_V) z (l0 : mm_V) (l1 : mm_V) (l2 : mm_V) (l3 : mm_V) (l4 : mm_V) (l5 : mm_V) (l6 : mm_V) (l8 : mm_V), mm_E d 150 62 [l0, l1, l2, l3, l4, l5, l6, (.inl z), l8] [] st n I L P = mm_E d 150 64 [l0, l1, l2, l3, l4, l5, l6, (.inl z), l8] [] ((.inl z) :: st) n I L P := fun _ _ _ _ _ _ _ _ _ _ => mq_il (i := 7) rfl rfl
theorem eX12_feed (d n : Nat) (I L : mm_I) (P : mm_P) (x0 : Option Nat) (x1 : Int) (x2 : Int) (x3 : Int) (x4 : Int) (x5 : Int) : mm_rn (d + 1) 150 [.inr (.inr x0), .inl x1, .inl x2, .inl x3, .inl x4, .inl x5] n I L P = mm_E d 150 0 [.inr (.inr x0), .inl x1, .inl x2, .inl x3, .inl x4, .inl x5, mm_junk, mm_junk, mm_junk] [] [] n I L P := rfl

set_option maxRecDepth 20000 in
set_option maxHeartbeats 8000000 in
theorem kX12_end (d n : Nat) (I L : mm_I) (P : mm_P) :
  (∀ (st : List mm_V) z (l0 : mm_V), mm_E d 151 0 [l0, (.inl z)] [] st n I L P = mm_E d 151 1 [l0, (.inl z)] [] ((.inl z) :: st) n I L P) ∧
  (∀ (lv : List mm_V) (st : List mm_V) a, mm_E d 151 1 lv [] (.inl a :: st) n I L P = if a < 0 then mm_E d 151 12 lv [] st n I L P else mm_E d 151 4 lv [] st n I L P) ∧
  (∀ (st : List mm_V) z (l0 : mm_V), mm_E d 151 4 [l0, (.inl z)] [] st n I L P = mm_E d 151 5 [l0, (.inl z)] [] ((.inl z) :: st) n I L P) ∧
  (∀ (st : List mm_V) z (l1 : mm_V), mm_E d 151 5 [(.inr (.inr z)), l1] [] st n I L P = mm_E d 151 6 [(.inr (.inr z)), l1] [] ((.inr (.inr z)) :: st) n I L P) ∧
  (∀ (lv : List mm_V) (st : List mm_V) a, (mm_ok n a 12) → mm_E d 151 6 lv [] (.inr (.inr (some a)) :: st) n I L P = mm_E d 151 9 lv [] (.inl (I a 2) :: st) n I L P) ∧
  (∀ (lv : List mm_V) (st : List mm_V) a b, mm_E d 151 9 lv [] (.inl b :: .inl a :: st) n I L P = if a ≤ b then mm_E d 151 14 lv [] st n I L P else mm_E d 151 12 lv [] st n I L P) ∧
  (∀ (lv : List mm_V) (st : List mm_V), mm_E d 151 12 lv [] st n I L P = mm_E d 151 13 lv [] (.inl 0 :: st) n I L P) ∧
  (∀ (lv : List mm_V) z, (0 ≤ z ∧ z < 2) → mm_E d 151 13 lv [] [.inl z] n I L P = some (some (.inl z), n, I, L, P)) ∧
  (∀ (st : List mm_V) z (l1 : mm_V), mm_E d 151 14 [(.inr (.inr z)), l1] [] st n I L P = mm_E d 151 15 [(.inr (.inr z)), l1] [] ((.inr (.inr z)) :: st) n I L P) ∧
  (∀ (st : List mm_V) z (l0 : mm_V), mm_E d 151 15 [l0, (.inl z)] [] st n I L P = mm_E d 151 16 [l0, (.inl z)] [] ((.inl z) :: st) n I L P) ∧
  (∀ (lv : List mm_V) (st : List mm_V) a z, (mm_ok n a 12) → mm_E d 151 16 lv [] (.inl z :: .inr (.inr (some a)) :: st) n I L P = mm_E d 151 19 lv [] st n (mm_ui I a 2 z) L P) ∧
  (∀ (lv : List mm_V) (st : List mm_V), mm_E d 151 19 lv [] st n I L P = mm_E d 151 20 lv [] (.inl 1 :: st) n I L P) ∧
  (∀ (lv : List mm_V) z, (0 ≤ z ∧ z < 2) → mm_E d 151 20 lv [] [.inl z] n I L P = some (some (.inl z), n, I, L, P)) :=
  ⟨fun _ _ _ => mq_il (i := 1) rfl rfl,
   fun _ _ _ => mq_if_lt rfl,
   fun _ _ _ => mq_il (i := 1) rfl rfl,
   fun _ _ _ => mq_al (i := 0) rfl rfl,
   fun _ _ _ h0 => mq_getI rfl h0,
   fun _ _ _ _ => mq_ic_le rfl,
   fun _ _ => mq_push rfl,
   fun _ _ h0 => mq_rz rfl h0,
   fun _ _ _ => mq_al (i := 0) rfl rfl,
   fun _ _ _ => mq_il (i := 1) rfl rfl,
   fun _ _ _ _ h0 => mq_putI rfl h0,
   fun _ _ => mq_push rfl,
   fun _ _ h0 => mq_rz rfl h0⟩
theorem eX12_end (d n : Nat) (I L : mm_I) (P : mm_P) (x0 : Option Nat) (x1 : Int) : mm_rn (d + 1) 151 [.inr (.inr x0), .inl x1] n I L P = mm_E d 151 0 [.inr (.inr x0), .inl x1] [] [] n I L P := rfl

set_option maxRecDepth 20000 in
set_option maxHeartbeats 8000000 in
theorem kX12_here (d n : Nat) (I L : mm_I) (P : mm_P) :
  (∀ (st : List mm_V) z, mm_E d 152 0 [(.inr (.inr z))] [] st n I L P = mm_E d 152 1 [(.inr (.inr z))] [] ((.inr (.inr z)) :: st) n I L P) ∧
  (∀ (lv : List mm_V) (st : List mm_V) a, (mm_ok n a 12) → mm_E d 152 1 lv [] (.inr (.inr (some a)) :: st) n I L P = mm_E d 152 4 lv [] (.inl (I a 3) :: st) n I L P) ∧
  (∀ (st : List mm_V) z, mm_E d 152 4 [(.inr (.inr z))] [] st n I L P = mm_E d 152 5 [(.inr (.inr z))] [] ((.inr (.inr z)) :: st) n I L P) ∧
  (∀ (lv : List mm_V) (st : List mm_V) a, (mm_ok n a 12) → mm_E d 152 5 lv [] (.inr (.inr (some a)) :: st) n I L P = mm_E d 152 8 lv [] (.inl (I a 2) :: st) n I L P) ∧
  (∀ (lv : List mm_V) (st : List mm_V) a b, mm_E d 152 8 lv [] (.inl b :: .inl a :: st) n I L P = if b ≤ a then mm_E d 152 23 lv [] st n I L P else mm_E d 152 11 lv [] st n I L P) ∧
  (∀ (st : List mm_V) z, mm_E d 152 11 [(.inr (.inr z))] [] st n I L P = mm_E d 152 12 [(.inr (.inr z))] [] ((.inr (.inr z)) :: st) n I L P) ∧
  (∀ (lv : List mm_V) (st : List mm_V) a, (mm_ok n a 12) → mm_E d 152 12 lv [] (.inr (.inr (some a)) :: st) n I L P = mm_E d 152 15 lv [] (.inr (.inr (P a 1)) :: st) n I L P) ∧
  (∀ (st : List mm_V) z, mm_E d 152 15 [(.inr (.inr z))] [] st n I L P = mm_E d 152 16 [(.inr (.inr z))] [] ((.inr (.inr z)) :: st) n I L P) ∧
  (∀ (lv : List mm_V) (st : List mm_V) a, (mm_ok n a 12) → mm_E d 152 16 lv [] (.inr (.inr (some a)) :: st) n I L P = mm_E d 152 19 lv [] (.inl (I a 3) :: st) n I L P) ∧
  (∀ (lv : List mm_V) (st : List mm_V) a i, (mm_ix n a 20 i) → mm_E d 152 19 lv [] (.inl i :: .inr (.inr (some a)) :: st) n I L P = mm_E d 152 20 lv [] (.inl (I a i.toNat) :: st) n I L P) ∧
  (∀ (lv : List mm_V) (st : List mm_V), mm_E d 152 20 lv [] st n I L P = mm_E d 152 24 lv [] st n I L P) ∧
  (∀ (lv : List mm_V) (st : List mm_V), mm_E d 152 23 lv [] st n I L P = mm_E d 152 24 lv [] (.inl (-1) :: st) n I L P) ∧
  (∀ (lv : List mm_V) z, mm_E d 152 24 lv [] [.inl z] n I L P = some (some (.inl z), n, I, L, P)) :=
  ⟨fun _ _ => mq_al (i := 0) rfl rfl,
   fun _ _ _ h0 => mq_getI rfl h0,
   fun _ _ => mq_al (i := 0) rfl rfl,
   fun _ _ _ h0 => mq_getI rfl h0,
   fun _ _ _ _ => mq_ic_ge rfl,
   fun _ _ => mq_al (i := 0) rfl rfl,
   fun _ _ _ h0 => mq_getR rfl h0,
   fun _ _ => mq_al (i := 0) rfl rfl,
   fun _ _ _ h0 => mq_getI rfl h0,
   fun _ _ _ _ h0 => mq_iald rfl h0,
   fun _ _ => mq_go rfl,
   fun _ _ => mq_push rfl,
   fun _ _ => mq_ri rfl⟩
theorem eX12_here (d n : Nat) (I L : mm_I) (P : mm_P) (x0 : Option Nat) : mm_rn (d + 1) 152 [.inr (.inr x0)] n I L P = mm_E d 152 0 [.inr (.inr x0)] [] [] n I L P := rfl

set_option maxRecDepth 20000 in
set_option maxHeartbeats 8000000 in
theorem kX12_look (d n : Nat) (I L : mm_I) (P : mm_P) :
  (∀ (lv : List mm_V) a, (mm_ok n a 12) → mm_E d 153 1 lv [] (.inr (.inr (some a)) :: []) n I L P = mm_kr d 153 4 lv [] [] n (mm_rn d 152 [.inr (.inr (some a))] n I L P)) ∧
  (∀ (lv : List mm_V) (st : List mm_V), mm_E d 153 4 lv [] st n I L P = mm_E d 153 6 lv [] (.inl 32 :: st) n I L P) ∧
  (∀ (lv : List mm_V) (st : List mm_V) a b, mm_E d 153 6 lv [] (.inl b :: .inl a :: st) n I L P = if a = b then mm_E d 153 9 lv [] st n I L P else mm_E d 153 22 lv [] st n I L P) ∧
  (∀ (st : List mm_V) z, mm_E d 153 9 [(.inr (.inr z))] [] st n I L P = mm_E d 153 10 [(.inr (.inr z))] [] ((.inr (.inr z)) :: st) n I L P) ∧
  (∀ (lv : List mm_V) (st : List mm_V) a, mm_E d 153 10 lv [] ((.inr (.inr a)) :: st) n I L P = mm_E d 153 11 lv [] ((.inr (.inr a)) :: (.inr (.inr a)) :: st) n I L P) ∧
  (∀ (lv : List mm_V) (st : List mm_V) a, (mm_ok n a 12) → mm_E d 153 11 lv [] (.inr (.inr (some a)) :: st) n I L P = mm_E d 153 14 lv [] (.inl (I a 3) :: st) n I L P) ∧
  (∀ (lv : List mm_V) (st : List mm_V), mm_E d 153 14 lv [] st n I L P = mm_E d 153 15 lv [] (.inl 1 :: st) n I L P) ∧
  (∀ (lv : List mm_V) (st : List mm_V) a b, mm_E d 153 15 lv [] (.inl b :: .inl a :: st) n I L P = mm_E d 153 16 lv [] (.inl (mm_add a b) :: st) n I L P) ∧
  (∀ (lv : List mm_V) (st : List mm_V) a z, (mm_ok n a 12) → mm_E d 153 16 lv [] (.inl z :: .inr (.inr (some a)) :: st) n I L P = mm_E d 153 19 lv [] st n (mm_ui I a 3 z) L P) ∧
  (∀ (lv : List mm_V) (st : List mm_V), mm_E d 153 19 lv [] st n I L P = mm_E d 153 0 lv [] st n I L P) ∧
  (∀ (st : List mm_V) z, mm_E d 153 22 [(.inr (.inr z))] [] st n I L P = mm_E d 153 23 [(.inr (.inr z))] [] ((.inr (.inr z)) :: st) n I L P) ∧
  (∀ (lv : List mm_V) a, (mm_ok n a 12) → mm_E d 153 23 lv [] (.inr (.inr (some a)) :: []) n I L P = mm_kr d 153 26 lv [] [] n (mm_rn d 152 [.inr (.inr (some a))] n I L P)) ∧
  (∀ (lv : List mm_V) z, mm_E d 153 26 lv [] [.inl z] n I L P = some (some (.inl z), n, I, L, P)) :=
  ⟨fun _ _ h0 => mq_cVr (na := 0) rfl rfl (Nat.le_of_ble_eq_true rfl) (Nat.le_of_ble_eq_true rfl) h0,
   fun _ _ => mq_push rfl,
   fun _ _ _ _ => mq_ic_ne rfl,
   fun _ _ => mq_al (i := 0) rfl rfl,
   fun _ _ _ => mq_dup rfl rfl,
   fun _ _ _ h0 => mq_getI rfl h0,
   fun _ _ => mq_push rfl,
   fun _ _ _ _ => mq_bi rfl,
   fun _ _ _ _ h0 => mq_putI rfl h0,
   fun _ _ => mq_go rfl,
   fun _ _ => mq_al (i := 0) rfl rfl,
   fun _ _ h0 => mq_cVr (na := 0) rfl rfl (Nat.le_of_ble_eq_true rfl) (Nat.le_of_ble_eq_true rfl) h0,
   fun _ _ => mq_ri rfl⟩
theorem hX12_look_0 (d n : Nat) (I L : mm_I) (P : mm_P) : ∀ (st : List mm_V) z, mm_E d 153 0 [(.inr (.inr z))] [] st n I L P = mm_E d 153 1 [(.inr (.inr z))] [] ((.inr (.inr z)) :: st) n I L P := fun _ _ => mq_al (i := 0) rfl rfl
theorem eX12_look (d n : Nat) (I L : mm_I) (P : mm_P) (x0 : Option Nat) : mm_rn (d + 1) 153 [.inr (.inr x0)] n I L P = mm_E d 153 0 [.inr (.inr x0)] [] [] n I L P := rfl

set_option maxRecDepth 20000 in
set_option maxHeartbeats 8000000 in
theorem kX12_bad (d n : Nat) (I L : mm_I) (P : mm_P) :
  (∀ (st : List mm_V) z, mm_E d 154 0 [(.inr (.inr z))] [] st n I L P = mm_E d 154 1 [(.inr (.inr z))] [] ((.inr (.inr z)) :: st) n I L P) ∧
  (∀ (st : List mm_V) z, mm_E d 154 1 [(.inr (.inr z))] [] st n I L P = mm_E d 154 2 [(.inr (.inr z))] [] ((.inr (.inr z)) :: st) n I L P) ∧
  (∀ (lv : List mm_V) (st : List mm_V) a, (mm_ok n a 12) → mm_E d 154 2 lv [] (.inr (.inr (some a)) :: st) n I L P = mm_E d 154 5 lv [] (.inl (I a 4) :: st) n I L P) ∧
  (∀ (lv : List mm_V) (st : List mm_V), mm_E d 154 5 lv [] st n I L P = mm_E d 154 6 lv [] (.inl (-1) :: st) n I L P) ∧
  (∀ (lv : List mm_V) (st : List mm_V) a b, mm_E d 154 6 lv [] (.inl b :: .inl a :: st) n I L P = if a = b then mm_E d 154 9 lv [] st n I L P else mm_E d 154 16 lv [] st n I L P) ∧
  (∀ (st : List mm_V) z, mm_E d 154 9 [(.inr (.inr z))] [] st n I L P = mm_E d 154 10 [(.inr (.inr z))] [] ((.inr (.inr z)) :: st) n I L P) ∧
  (∀ (lv : List mm_V) (st : List mm_V) a, (mm_ok n a 12) → mm_E d 154 10 lv [] (.inr (.inr (some a)) :: st) n I L P = mm_E d 154 13 lv [] (.inl (I a 3) :: st) n I L P) ∧
  (∀ (lv : List mm_V) (st : List mm_V), mm_E d 154 13 lv [] st n I L P = mm_E d 154 20 lv [] st n I L P) ∧
  (∀ (st : List mm_V) z, mm_E d 154 16 [(.inr (.inr z))] [] st n I L P = mm_E d 154 17 [(.inr (.inr z))] [] ((.inr (.inr z)) :: st) n I L P) ∧
  (∀ (lv : List mm_V) (st : List mm_V) a, (mm_ok n a 12) → mm_E d 154 17 lv [] (.inr (.inr (some a)) :: st) n I L P = mm_E d 154 20 lv [] (.inl (I a 4) :: st) n I L P) ∧
  (∀ (lv : List mm_V) (st : List mm_V) a z, (mm_ok n a 12) → mm_E d 154 20 lv [] (.inl z :: .inr (.inr (some a)) :: st) n I L P = mm_E d 154 23 lv [] st n (mm_ui I a 4 z) L P) ∧
  (∀ (lv : List mm_V), mm_E d 154 23 lv [] [] n I L P = some (none, n, I, L, P)) :=
  ⟨fun _ _ => mq_al (i := 0) rfl rfl,
   fun _ _ => mq_al (i := 0) rfl rfl,
   fun _ _ _ h0 => mq_getI rfl h0,
   fun _ _ => mq_push rfl,
   fun _ _ _ _ => mq_ic_ne rfl,
   fun _ _ => mq_al (i := 0) rfl rfl,
   fun _ _ _ h0 => mq_getI rfl h0,
   fun _ _ => mq_go rfl,
   fun _ _ => mq_al (i := 0) rfl rfl,
   fun _ _ _ h0 => mq_getI rfl h0,
   fun _ _ _ _ h0 => mq_putI rfl h0,
   fun _ => mq_rv rfl⟩
theorem eX12_bad (d n : Nat) (I L : mm_I) (P : mm_P) (x0 : Option Nat) : mm_rn (d + 1) 154 [.inr (.inr x0)] n I L P = mm_E d 154 0 [.inr (.inr x0)] [] [] n I L P := rfl

set_option maxRecDepth 20000 in
set_option maxHeartbeats 8000000 in
theorem kX12_isDigit (d n : Nat) (I L : mm_I) (P : mm_P) :
  (∀ (st : List mm_V) z, mm_E d 155 0 [(.inl z)] [] st n I L P = mm_E d 155 1 [(.inl z)] [] ((.inl z) :: st) n I L P) ∧
  (∀ (lv : List mm_V) (st : List mm_V), mm_E d 155 1 lv [] st n I L P = mm_E d 155 3 lv [] (.inl 48 :: st) n I L P) ∧
  (∀ (lv : List mm_V) (st : List mm_V) a b, mm_E d 155 3 lv [] (.inl b :: .inl a :: st) n I L P = if a < b then mm_E d 155 16 lv [] st n I L P else mm_E d 155 6 lv [] st n I L P) ∧
  (∀ (st : List mm_V) z, mm_E d 155 6 [(.inl z)] [] st n I L P = mm_E d 155 7 [(.inl z)] [] ((.inl z) :: st) n I L P) ∧
  (∀ (lv : List mm_V) (st : List mm_V), mm_E d 155 7 lv [] st n I L P = mm_E d 155 9 lv [] (.inl 57 :: st) n I L P) ∧
  (∀ (lv : List mm_V) (st : List mm_V) a b, mm_E d 155 9 lv [] (.inl b :: .inl a :: st) n I L P = if b < a then mm_E d 155 16 lv [] st n I L P else mm_E d 155 12 lv [] st n I L P) ∧
  (∀ (lv : List mm_V) (st : List mm_V), mm_E d 155 12 lv [] st n I L P = mm_E d 155 13 lv [] (.inl 1 :: st) n I L P) ∧
  (∀ (lv : List mm_V) (st : List mm_V), mm_E d 155 13 lv [] st n I L P = mm_E d 155 17 lv [] st n I L P) ∧
  (∀ (lv : List mm_V) (st : List mm_V), mm_E d 155 16 lv [] st n I L P = mm_E d 155 17 lv [] (.inl 0 :: st) n I L P) ∧
  (∀ (lv : List mm_V) z, (0 ≤ z ∧ z < 2) → mm_E d 155 17 lv [] [.inl z] n I L P = some (some (.inl z), n, I, L, P)) :=
  ⟨fun _ _ => mq_il (i := 0) rfl rfl,
   fun _ _ => mq_push rfl,
   fun _ _ _ _ => mq_ic_lt rfl,
   fun _ _ => mq_il (i := 0) rfl rfl,
   fun _ _ => mq_push rfl,
   fun _ _ _ _ => mq_ic_gt rfl,
   fun _ _ => mq_push rfl,
   fun _ _ => mq_go rfl,
   fun _ _ => mq_push rfl,
   fun _ _ h0 => mq_rz rfl h0⟩
theorem eX12_isDigit (d n : Nat) (I L : mm_I) (P : mm_P) (x0 : Int) : mm_rn (d + 1) 155 [.inl x0] n I L P = mm_E d 155 0 [.inl x0] [] [] n I L P := rfl

set_option maxRecDepth 20000 in
set_option maxHeartbeats 8000000 in
theorem kX12_put (d n : Nat) (I L : mm_I) (P : mm_P) :
  (∀ (st : List mm_V) z (l1 : mm_V) (l2 : mm_V), mm_E d 156 0 [(.inr (.inr z)), l1, l2] [] st n I L P = mm_E d 156 1 [(.inr (.inr z)), l1, l2] [] ((.inr (.inr z)) :: st) n I L P) ∧
  (∀ (lv : List mm_V) (st : List mm_V) a, (mm_ok n a 12) → mm_E d 156 1 lv [] (.inr (.inr (some a)) :: st) n I L P = mm_E d 156 4 lv [] (.inr (.inr (P a 6)) :: st) n I L P) ∧
  (∀ (lv : List mm_V) (st : List mm_V), mm_E d 156 4 lv [] st n I L P = mm_E d 156 7 lv [] (.inl 520 :: st) n I L P) ∧
  (∀ (st : List mm_V) z (l1 : mm_V) (l2 : mm_V), mm_E d 156 7 [(.inr (.inr z)), l1, l2] [] st n I L P = mm_E d 156 8 [(.inr (.inr z)), l1, l2] [] ((.inr (.inr z)) :: st) n I L P) ∧
  (∀ (lv : List mm_V) (st : List mm_V) a, (mm_ok n a 12) → mm_E d 156 8 lv [] (.inr (.inr (some a)) :: st) n I L P = mm_E d 156 11 lv [] (.inl (I a 14) :: st) n I L P) ∧
  (∀ (lv : List mm_V) (st : List mm_V) a b, mm_E d 156 11 lv [] (.inl b :: .inl a :: st) n I L P = mm_E d 156 12 lv [] (.inl (mm_mul a b) :: st) n I L P) ∧
  (∀ (st : List mm_V) z (l1 : mm_V) (l2 : mm_V), mm_E d 156 12 [(.inr (.inr z)), l1, l2] [] st n I L P = mm_E d 156 13 [(.inr (.inr z)), l1, l2] [] ((.inr (.inr z)) :: st) n I L P) ∧
  (∀ (lv : List mm_V) (st : List mm_V) a, (mm_ok n a 12) → mm_E d 156 13 lv [] (.inr (.inr (some a)) :: st) n I L P = mm_E d 156 16 lv [] (.inr (.inr (P a 8)) :: st) n I L P) ∧
  (∀ (st : List mm_V) z (l1 : mm_V) (l2 : mm_V), mm_E d 156 16 [(.inr (.inr z)), l1, l2] [] st n I L P = mm_E d 156 17 [(.inr (.inr z)), l1, l2] [] ((.inr (.inr z)) :: st) n I L P) ∧
  (∀ (lv : List mm_V) (st : List mm_V) a, (mm_ok n a 12) → mm_E d 156 17 lv [] (.inr (.inr (some a)) :: st) n I L P = mm_E d 156 20 lv [] (.inl (I a 14) :: st) n I L P) ∧
  (∀ (lv : List mm_V) (st : List mm_V) a i, (mm_ix n a 20 i) → mm_E d 156 20 lv [] (.inl i :: .inr (.inr (some a)) :: st) n I L P = mm_E d 156 21 lv [] (.inl (I a i.toNat) :: st) n I L P) ∧
  (∀ (lv : List mm_V) (st : List mm_V) a b, mm_E d 156 21 lv [] (.inl b :: .inl a :: st) n I L P = mm_E d 156 22 lv [] (.inl (mm_add a b) :: st) n I L P) ∧
  (∀ (st : List mm_V) z (l0 : mm_V) (l2 : mm_V), mm_E d 156 22 [l0, (.inl z), l2] [] st n I L P = mm_E d 156 23 [l0, (.inl z), l2] [] ((.inl z) :: st) n I L P) ∧
  (∀ (lv : List mm_V) (st : List mm_V) a i z, (mm_ix n a 20 i) → mm_E d 156 23 lv [] (.inl z :: .inl i :: .inr (.inr (some a)) :: st) n I L P = mm_E d 156 24 lv [] st n (mm_ui I a i.toNat z) L P) ∧
  (∀ (st : List mm_V) z (l1 : mm_V) (l2 : mm_V), mm_E d 156 24 [(.inr (.inr z)), l1, l2] [] st n I L P = mm_E d 156 25 [(.inr (.inr z)), l1, l2] [] ((.inr (.inr z)) :: st) n I L P) ∧
  (∀ (lv : List mm_V) (st : List mm_V) a, (mm_ok n a 12) → mm_E d 156 25 lv [] (.inr (.inr (some a)) :: st) n I L P = mm_E d 156 28 lv [] (.inr (.inr (P a 7)) :: st) n I L P) ∧
  (∀ (lv : List mm_V) (st : List mm_V), mm_E d 156 28 lv [] st n I L P = mm_E d 156 31 lv [] (.inl 520 :: st) n I L P) ∧
  (∀ (st : List mm_V) z (l1 : mm_V) (l2 : mm_V), mm_E d 156 31 [(.inr (.inr z)), l1, l2] [] st n I L P = mm_E d 156 32 [(.inr (.inr z)), l1, l2] [] ((.inr (.inr z)) :: st) n I L P) ∧
  (∀ (lv : List mm_V) (st : List mm_V) a, (mm_ok n a 12) → mm_E d 156 32 lv [] (.inr (.inr (some a)) :: st) n I L P = mm_E d 156 35 lv [] (.inl (I a 14) :: st) n I L P) ∧
  (∀ (lv : List mm_V) (st : List mm_V) a b, mm_E d 156 35 lv [] (.inl b :: .inl a :: st) n I L P = mm_E d 156 36 lv [] (.inl (mm_mul a b) :: st) n I L P) ∧
  (∀ (st : List mm_V) z (l1 : mm_V) (l2 : mm_V), mm_E d 156 36 [(.inr (.inr z)), l1, l2] [] st n I L P = mm_E d 156 37 [(.inr (.inr z)), l1, l2] [] ((.inr (.inr z)) :: st) n I L P) ∧
  (∀ (lv : List mm_V) (st : List mm_V) a, (mm_ok n a 12) → mm_E d 156 37 lv [] (.inr (.inr (some a)) :: st) n I L P = mm_E d 156 40 lv [] (.inr (.inr (P a 8)) :: st) n I L P) ∧
  (∀ (st : List mm_V) z (l1 : mm_V) (l2 : mm_V), mm_E d 156 40 [(.inr (.inr z)), l1, l2] [] st n I L P = mm_E d 156 41 [(.inr (.inr z)), l1, l2] [] ((.inr (.inr z)) :: st) n I L P) ∧
  (∀ (lv : List mm_V) (st : List mm_V) a, (mm_ok n a 12) → mm_E d 156 41 lv [] (.inr (.inr (some a)) :: st) n I L P = mm_E d 156 44 lv [] (.inl (I a 14) :: st) n I L P) ∧
  (∀ (lv : List mm_V) (st : List mm_V) a i, (mm_ix n a 20 i) → mm_E d 156 44 lv [] (.inl i :: .inr (.inr (some a)) :: st) n I L P = mm_E d 156 45 lv [] (.inl (I a i.toNat) :: st) n I L P) ∧
  (∀ (lv : List mm_V) (st : List mm_V) a b, mm_E d 156 45 lv [] (.inl b :: .inl a :: st) n I L P = mm_E d 156 46 lv [] (.inl (mm_add a b) :: st) n I L P) ∧
  (∀ (st : List mm_V) z (l0 : mm_V) (l1 : mm_V), mm_E d 156 46 [l0, l1, (.inl z)] [] st n I L P = mm_E d 156 47 [l0, l1, (.inl z)] [] ((.inl z) :: st) n I L P) ∧
  (∀ (lv : List mm_V) (st : List mm_V) a i z, (mm_ix n a 20 i) → mm_E d 156 47 lv [] (.inl z :: .inl i :: .inr (.inr (some a)) :: st) n I L P = mm_E d 156 48 lv [] st n (mm_ui I a i.toNat z) L P) ∧
  (∀ (st : List mm_V) z (l1 : mm_V) (l2 : mm_V), mm_E d 156 48 [(.inr (.inr z)), l1, l2] [] st n I L P = mm_E d 156 49 [(.inr (.inr z)), l1, l2] [] ((.inr (.inr z)) :: st) n I L P) ∧
  (∀ (lv : List mm_V) (st : List mm_V) a, (mm_ok n a 12) → mm_E d 156 49 lv [] (.inr (.inr (some a)) :: st) n I L P = mm_E d 156 52 lv [] (.inr (.inr (P a 8)) :: st) n I L P) ∧
  (∀ (st : List mm_V) z (l1 : mm_V) (l2 : mm_V), mm_E d 156 52 [(.inr (.inr z)), l1, l2] [] st n I L P = mm_E d 156 53 [(.inr (.inr z)), l1, l2] [] ((.inr (.inr z)) :: st) n I L P) ∧
  (∀ (lv : List mm_V) (st : List mm_V) a, (mm_ok n a 12) → mm_E d 156 53 lv [] (.inr (.inr (some a)) :: st) n I L P = mm_E d 156 56 lv [] (.inl (I a 14) :: st) n I L P) ∧
  (∀ (lv : List mm_V) (st : List mm_V) a b, mm_E d 156 56 lv [] ((.inl a) :: (.inr (.inr b)) :: st) n I L P = mm_E d 156 57 lv [] ((.inl a) :: (.inr (.inr b)) :: (.inl a) :: (.inr (.inr b)) :: st) n I L P) ∧
  (∀ (lv : List mm_V) (st : List mm_V) a i, (mm_ix n a 20 i) → mm_E d 156 57 lv [] (.inl i :: .inr (.inr (some a)) :: st) n I L P = mm_E d 156 58 lv [] (.inl (I a i.toNat) :: st) n I L P) ∧
  (∀ (lv : List mm_V) (st : List mm_V), mm_E d 156 58 lv [] st n I L P = mm_E d 156 59 lv [] (.inl 1 :: st) n I L P) ∧
  (∀ (lv : List mm_V) (st : List mm_V) a b, mm_E d 156 59 lv [] (.inl b :: .inl a :: st) n I L P = mm_E d 156 60 lv [] (.inl (mm_add a b) :: st) n I L P) ∧
  (∀ (lv : List mm_V) (st : List mm_V) a i z, (mm_ix n a 20 i) → mm_E d 156 60 lv [] (.inl z :: .inl i :: .inr (.inr (some a)) :: st) n I L P = mm_E d 156 61 lv [] st n (mm_ui I a i.toNat z) L P) ∧
  (∀ (lv : List mm_V), mm_E d 156 61 lv [] [] n I L P = some (none, n, I, L, P)) :=
  ⟨fun _ _ _ _ => mq_al (i := 0) rfl rfl,
   fun _ _ _ h0 => mq_getR rfl h0,
   fun _ _ => mq_push rfl,
   fun _ _ _ _ => mq_al (i := 0) rfl rfl,
   fun _ _ _ h0 => mq_getI rfl h0,
   fun _ _ _ _ => mq_bi rfl,
   fun _ _ _ _ => mq_al (i := 0) rfl rfl,
   fun _ _ _ h0 => mq_getR rfl h0,
   fun _ _ _ _ => mq_al (i := 0) rfl rfl,
   fun _ _ _ h0 => mq_getI rfl h0,
   fun _ _ _ _ h0 => mq_iald rfl h0,
   fun _ _ _ _ => mq_bi rfl,
   fun _ _ _ _ => mq_il (i := 1) rfl rfl,
   fun _ _ _ _ _ h0 => mq_iast rfl h0,
   fun _ _ _ _ => mq_al (i := 0) rfl rfl,
   fun _ _ _ h0 => mq_getR rfl h0,
   fun _ _ => mq_push rfl,
   fun _ _ _ _ => mq_al (i := 0) rfl rfl,
   fun _ _ _ h0 => mq_getI rfl h0,
   fun _ _ _ _ => mq_bi rfl,
   fun _ _ _ _ => mq_al (i := 0) rfl rfl,
   fun _ _ _ h0 => mq_getR rfl h0,
   fun _ _ _ _ => mq_al (i := 0) rfl rfl,
   fun _ _ _ h0 => mq_getI rfl h0,
   fun _ _ _ _ h0 => mq_iald rfl h0,
   fun _ _ _ _ => mq_bi rfl,
   fun _ _ _ _ => mq_il (i := 2) rfl rfl,
   fun _ _ _ _ _ h0 => mq_iast rfl h0,
   fun _ _ _ _ => mq_al (i := 0) rfl rfl,
   fun _ _ _ h0 => mq_getR rfl h0,
   fun _ _ _ _ => mq_al (i := 0) rfl rfl,
   fun _ _ _ h0 => mq_getI rfl h0,
   fun _ _ _ _ => mq_dup2 rfl rfl rfl,
   fun _ _ _ _ h0 => mq_iald rfl h0,
   fun _ _ => mq_push rfl,
   fun _ _ _ _ => mq_bi rfl,
   fun _ _ _ _ _ h0 => mq_iast rfl h0,
   fun _ => mq_rv rfl⟩
theorem eX12_put (d n : Nat) (I L : mm_I) (P : mm_P) (x0 : Option Nat) (x1 : Int) (x2 : Int) : mm_rn (d + 1) 156 [.inr (.inr x0), .inl x1, .inl x2] n I L P = mm_E d 156 0 [.inr (.inr x0), .inl x1, .inl x2] [] [] n I L P := rfl

set_option maxRecDepth 20000 in
set_option maxHeartbeats 8000000 in
theorem kX12_letterOf (d n : Nat) (I L : mm_I) (P : mm_P) :
  (∀ (st : List mm_V) z, mm_E d 157 0 [(.inl z)] [] st n I L P = mm_E d 157 1 [(.inl z)] [] ((.inl z) :: st) n I L P) ∧
  (∀ (lv : List mm_V) (st : List mm_V), mm_E d 157 1 lv [] st n I L P = mm_E d 157 3 lv [] (.inl 122 :: st) n I L P) ∧
  (∀ (lv : List mm_V) (st : List mm_V) a b, mm_E d 157 3 lv [] (.inl b :: .inl a :: st) n I L P = if a = b then mm_E d 157 6 lv [] st n I L P else mm_E d 157 10 lv [] st n I L P) ∧
  (∀ (lv : List mm_V) (st : List mm_V), mm_E d 157 6 lv [] st n I L P = mm_E d 157 7 lv [] (.inl 0 :: st) n I L P) ∧
  (∀ (lv : List mm_V) (st : List mm_V), mm_E d 157 7 lv [] st n I L P = mm_E d 157 61 lv [] st n I L P) ∧
  (∀ (st : List mm_V) z, mm_E d 157 10 [(.inl z)] [] st n I L P = mm_E d 157 11 [(.inl z)] [] ((.inl z) :: st) n I L P) ∧
  (∀ (lv : List mm_V) (st : List mm_V), mm_E d 157 11 lv [] st n I L P = mm_E d 157 13 lv [] (.inl 107 :: st) n I L P) ∧
  (∀ (lv : List mm_V) (st : List mm_V) a b, mm_E d 157 13 lv [] (.inl b :: .inl a :: st) n I L P = if a = b then mm_E d 157 16 lv [] st n I L P else mm_E d 157 20 lv [] st n I L P) ∧
  (∀ (lv : List mm_V) (st : List mm_V), mm_E d 157 16 lv [] st n I L P = mm_E d 157 17 lv [] (.inl 1 :: st) n I L P) ∧
  (∀ (lv : List mm_V) (st : List mm_V), mm_E d 157 17 lv [] st n I L P = mm_E d 157 61 lv [] st n I L P) ∧
  (∀ (st : List mm_V) z, mm_E d 157 20 [(.inl z)] [] st n I L P = mm_E d 157 21 [(.inl z)] [] ((.inl z) :: st) n I L P) ∧
  (∀ (lv : List mm_V) (st : List mm_V), mm_E d 157 21 lv [] st n I L P = mm_E d 157 23 lv [] (.inl 119 :: st) n I L P) ∧
  (∀ (lv : List mm_V) (st : List mm_V) a b, mm_E d 157 23 lv [] (.inl b :: .inl a :: st) n I L P = if a = b then mm_E d 157 26 lv [] st n I L P else mm_E d 157 30 lv [] st n I L P) ∧
  (∀ (lv : List mm_V) (st : List mm_V), mm_E d 157 26 lv [] st n I L P = mm_E d 157 27 lv [] (.inl 2 :: st) n I L P) ∧
  (∀ (lv : List mm_V) (st : List mm_V), mm_E d 157 27 lv [] st n I L P = mm_E d 157 61 lv [] st n I L P) ∧
  (∀ (st : List mm_V) z, mm_E d 157 30 [(.inl z)] [] st n I L P = mm_E d 157 31 [(.inl z)] [] ((.inl z) :: st) n I L P) ∧
  (∀ (lv : List mm_V) (st : List mm_V), mm_E d 157 31 lv [] st n I L P = mm_E d 157 33 lv [] (.inl 100 :: st) n I L P) ∧
  (∀ (lv : List mm_V) (st : List mm_V) a b, mm_E d 157 33 lv [] (.inl b :: .inl a :: st) n I L P = if a = b then mm_E d 157 36 lv [] st n I L P else mm_E d 157 40 lv [] st n I L P) ∧
  (∀ (lv : List mm_V) (st : List mm_V), mm_E d 157 36 lv [] st n I L P = mm_E d 157 37 lv [] (.inl 3 :: st) n I L P) ∧
  (∀ (lv : List mm_V) (st : List mm_V), mm_E d 157 37 lv [] st n I L P = mm_E d 157 61 lv [] st n I L P) ∧
  (∀ (st : List mm_V) z, mm_E d 157 40 [(.inl z)] [] st n I L P = mm_E d 157 41 [(.inl z)] [] ((.inl z) :: st) n I L P) ∧
  (∀ (lv : List mm_V) (st : List mm_V), mm_E d 157 41 lv [] st n I L P = mm_E d 157 43 lv [] (.inl 110 :: st) n I L P) ∧
  (∀ (lv : List mm_V) (st : List mm_V) a b, mm_E d 157 43 lv [] (.inl b :: .inl a :: st) n I L P = if a = b then mm_E d 157 46 lv [] st n I L P else mm_E d 157 50 lv [] st n I L P) ∧
  (∀ (lv : List mm_V) (st : List mm_V), mm_E d 157 46 lv [] st n I L P = mm_E d 157 47 lv [] (.inl 4 :: st) n I L P) ∧
  (∀ (lv : List mm_V) (st : List mm_V), mm_E d 157 47 lv [] st n I L P = mm_E d 157 61 lv [] st n I L P) ∧
  (∀ (st : List mm_V) z, mm_E d 157 50 [(.inl z)] [] st n I L P = mm_E d 157 51 [(.inl z)] [] ((.inl z) :: st) n I L P) ∧
  (∀ (lv : List mm_V) (st : List mm_V), mm_E d 157 51 lv [] st n I L P = mm_E d 157 53 lv [] (.inl 104 :: st) n I L P) ∧
  (∀ (lv : List mm_V) (st : List mm_V) a b, mm_E d 157 53 lv [] (.inl b :: .inl a :: st) n I L P = if a = b then mm_E d 157 56 lv [] st n I L P else mm_E d 157 60 lv [] st n I L P) ∧
  (∀ (lv : List mm_V) (st : List mm_V), mm_E d 157 56 lv [] st n I L P = mm_E d 157 57 lv [] (.inl 5 :: st) n I L P) ∧
  (∀ (lv : List mm_V) (st : List mm_V), mm_E d 157 57 lv [] st n I L P = mm_E d 157 61 lv [] st n I L P) ∧
  (∀ (lv : List mm_V) (st : List mm_V), mm_E d 157 60 lv [] st n I L P = mm_E d 157 61 lv [] (.inl (-1) :: st) n I L P) ∧
  (∀ (lv : List mm_V) z, mm_E d 157 61 lv [] [.inl z] n I L P = some (some (.inl z), n, I, L, P)) :=
  ⟨fun _ _ => mq_il (i := 0) rfl rfl,
   fun _ _ => mq_push rfl,
   fun _ _ _ _ => mq_ic_ne rfl,
   fun _ _ => mq_push rfl,
   fun _ _ => mq_go rfl,
   fun _ _ => mq_il (i := 0) rfl rfl,
   fun _ _ => mq_push rfl,
   fun _ _ _ _ => mq_ic_ne rfl,
   fun _ _ => mq_push rfl,
   fun _ _ => mq_go rfl,
   fun _ _ => mq_il (i := 0) rfl rfl,
   fun _ _ => mq_push rfl,
   fun _ _ _ _ => mq_ic_ne rfl,
   fun _ _ => mq_push rfl,
   fun _ _ => mq_go rfl,
   fun _ _ => mq_il (i := 0) rfl rfl,
   fun _ _ => mq_push rfl,
   fun _ _ _ _ => mq_ic_ne rfl,
   fun _ _ => mq_push rfl,
   fun _ _ => mq_go rfl,
   fun _ _ => mq_il (i := 0) rfl rfl,
   fun _ _ => mq_push rfl,
   fun _ _ _ _ => mq_ic_ne rfl,
   fun _ _ => mq_push rfl,
   fun _ _ => mq_go rfl,
   fun _ _ => mq_il (i := 0) rfl rfl,
   fun _ _ => mq_push rfl,
   fun _ _ _ _ => mq_ic_ne rfl,
   fun _ _ => mq_push rfl,
   fun _ _ => mq_go rfl,
   fun _ _ => mq_push rfl,
   fun _ _ => mq_ri rfl⟩
theorem eX12_letterOf (d n : Nat) (I L : mm_I) (P : mm_P) (x0 : Int) : mm_rn (d + 1) 157 [.inl x0] n I L P = mm_E d 157 0 [.inl x0] [] [] n I L P := rfl

set_option maxRecDepth 20000 in
set_option maxHeartbeats 8000000 in
theorem kX12_opens (d n : Nat) (I L : mm_I) (P : mm_P) :
  (∀ (st : List mm_V) z, mm_E d 158 0 [(.inr (.inr z))] [] st n I L P = mm_E d 158 1 [(.inr (.inr z))] [] ((.inr (.inr z)) :: st) n I L P) ∧
  (∀ (lv : List mm_V) (st : List mm_V) a, (mm_ok n a 12) → mm_E d 158 1 lv [] (.inr (.inr (some a)) :: st) n I L P = mm_E d 158 4 lv [] (.inl (I a 5) :: st) n I L P) ∧
  (∀ (lv : List mm_V) (st : List mm_V), mm_E d 158 4 lv [] st n I L P = mm_E d 158 6 lv [] (.inl 6 :: st) n I L P) ∧
  (∀ (lv : List mm_V) (st : List mm_V) a b, mm_E d 158 6 lv [] (.inl b :: .inl a :: st) n I L P = if a = b then mm_E d 158 9 lv [] st n I L P else mm_E d 158 13 lv [] st n I L P) ∧
  (∀ (st : List mm_V) z, mm_E d 158 9 [(.inr (.inr z))] [] st n I L P = mm_E d 158 10 [(.inr (.inr z))] [] ((.inr (.inr z)) :: st) n I L P) ∧
  (∀ (lv : List mm_V) a, (mm_ok n a 12) → mm_E d 158 10 lv [] (.inr (.inr (some a)) :: []) n I L P = mm_kv d 158 13 lv [] [] n (mm_rn d 154 [.inr (.inr (some a))] n I L P)) ∧
  (∀ (st : List mm_V) z, mm_E d 158 13 [(.inr (.inr z))] [] st n I L P = mm_E d 158 14 [(.inr (.inr z))] [] ((.inr (.inr z)) :: st) n I L P) ∧
  (∀ (lv : List mm_V) (st : List mm_V) a, mm_E d 158 14 lv [] ((.inr (.inr a)) :: st) n I L P = mm_E d 158 15 lv [] ((.inr (.inr a)) :: (.inr (.inr a)) :: st) n I L P) ∧
  (∀ (lv : List mm_V) (st : List mm_V) a, (mm_ok n a 12) → mm_E d 158 15 lv [] (.inr (.inr (some a)) :: st) n I L P = mm_E d 158 18 lv [] (.inl (I a 5) :: st) n I L P) ∧
  (∀ (lv : List mm_V) (st : List mm_V), mm_E d 158 18 lv [] st n I L P = mm_E d 158 19 lv [] (.inl 1 :: st) n I L P) ∧
  (∀ (lv : List mm_V) (st : List mm_V) a b, mm_E d 158 19 lv [] (.inl b :: .inl a :: st) n I L P = mm_E d 158 20 lv [] (.inl (mm_add a b) :: st) n I L P) ∧
  (∀ (lv : List mm_V) (st : List mm_V) a z, (mm_ok n a 12) → mm_E d 158 20 lv [] (.inl z :: .inr (.inr (some a)) :: st) n I L P = mm_E d 158 23 lv [] st n (mm_ui I a 5 z) L P) ∧
  (∀ (st : List mm_V) z, mm_E d 158 23 [(.inr (.inr z))] [] st n I L P = mm_E d 158 24 [(.inr (.inr z))] [] ((.inr (.inr z)) :: st) n I L P) ∧
  (∀ (lv : List mm_V) (st : List mm_V) a, mm_E d 158 24 lv [] ((.inr (.inr a)) :: st) n I L P = mm_E d 158 25 lv [] ((.inr (.inr a)) :: (.inr (.inr a)) :: st) n I L P) ∧
  (∀ (lv : List mm_V) (st : List mm_V) a, (mm_ok n a 12) → mm_E d 158 25 lv [] (.inr (.inr (some a)) :: st) n I L P = mm_E d 158 28 lv [] (.inl (I a 3) :: st) n I L P) ∧
  (∀ (lv : List mm_V) (st : List mm_V), mm_E d 158 28 lv [] st n I L P = mm_E d 158 29 lv [] (.inl 1 :: st) n I L P) ∧
  (∀ (lv : List mm_V) (st : List mm_V) a b, mm_E d 158 29 lv [] (.inl b :: .inl a :: st) n I L P = mm_E d 158 30 lv [] (.inl (mm_add a b) :: st) n I L P) ∧
  (∀ (lv : List mm_V) (st : List mm_V) a z, (mm_ok n a 12) → mm_E d 158 30 lv [] (.inl z :: .inr (.inr (some a)) :: st) n I L P = mm_E d 158 33 lv [] st n (mm_ui I a 3 z) L P) ∧
  (∀ (lv : List mm_V), mm_E d 158 33 lv [] [] n I L P = some (none, n, I, L, P)) :=
  ⟨fun _ _ => mq_al (i := 0) rfl rfl,
   fun _ _ _ h0 => mq_getI rfl h0,
   fun _ _ => mq_push rfl,
   fun _ _ _ _ => mq_ic_ne rfl,
   fun _ _ => mq_al (i := 0) rfl rfl,
   fun _ _ h0 => mq_cVv (na := 0) rfl rfl (Nat.le_of_ble_eq_true rfl) (Nat.le_of_ble_eq_true rfl) h0,
   fun _ _ => mq_al (i := 0) rfl rfl,
   fun _ _ _ => mq_dup rfl rfl,
   fun _ _ _ h0 => mq_getI rfl h0,
   fun _ _ => mq_push rfl,
   fun _ _ _ _ => mq_bi rfl,
   fun _ _ _ _ h0 => mq_putI rfl h0,
   fun _ _ => mq_al (i := 0) rfl rfl,
   fun _ _ _ => mq_dup rfl rfl,
   fun _ _ _ h0 => mq_getI rfl h0,
   fun _ _ => mq_push rfl,
   fun _ _ _ _ => mq_bi rfl,
   fun _ _ _ _ h0 => mq_putI rfl h0,
   fun _ => mq_rv rfl⟩
theorem eX12_opens (d n : Nat) (I L : mm_I) (P : mm_P) (x0 : Option Nat) : mm_rn (d + 1) 158 [.inr (.inr x0)] n I L P = mm_E d 158 0 [.inr (.inr x0)] [] [] n I L P := rfl

set_option maxRecDepth 20000 in
set_option maxHeartbeats 8000000 in
theorem kX12_closes (d n : Nat) (I L : mm_I) (P : mm_P) :
  (∀ (st : List mm_V) z (l1 : mm_V), mm_E d 159 0 [(.inr (.inr z)), l1] [] st n I L P = mm_E d 159 1 [(.inr (.inr z)), l1] [] ((.inr (.inr z)) :: st) n I L P) ∧
  (∀ (lv : List mm_V) (st : List mm_V) a, (mm_ok n a 12) → mm_E d 159 1 lv [] (.inr (.inr (some a)) :: st) n I L P = mm_E d 159 4 lv [] (.inl (I a 4) :: st) n I L P) ∧
  (∀ (lv : List mm_V) (st : List mm_V), mm_E d 159 4 lv [] st n I L P = mm_E d 159 5 lv [] (.inl (-1) :: st) n I L P) ∧
  (∀ (lv : List mm_V) (st : List mm_V) a b, mm_E d 159 5 lv [] (.inl b :: .inl a :: st) n I L P = if a = b then mm_E d 159 8 lv [] st n I L P else mm_E d 159 20 lv [] st n I L P) ∧
  (∀ (st : List mm_V) z (l1 : mm_V), mm_E d 159 8 [(.inr (.inr z)), l1] [] st n I L P = mm_E d 159 9 [(.inr (.inr z)), l1] [] ((.inr (.inr z)) :: st) n I L P) ∧
  (∀ (lv : List mm_V) a, (mm_ok n a 12) → mm_E d 159 9 lv [] (.inr (.inr (some a)) :: []) n I L P = mm_kr d 159 12 lv [] [] n (mm_rn d 153 [.inr (.inr (some a))] n I L P)) ∧
  (∀ (st : List mm_V) z (l0 : mm_V), mm_E d 159 12 [l0, (.inl z)] [] st n I L P = mm_E d 159 13 [l0, (.inl z)] [] ((.inl z) :: st) n I L P) ∧
  (∀ (lv : List mm_V) (st : List mm_V) a b, mm_E d 159 13 lv [] (.inl b :: .inl a :: st) n I L P = if a = b then mm_E d 159 20 lv [] st n I L P else mm_E d 159 16 lv [] st n I L P) ∧
  (∀ (st : List mm_V) z (l1 : mm_V), mm_E d 159 16 [(.inr (.inr z)), l1] [] st n I L P = mm_E d 159 17 [(.inr (.inr z)), l1] [] ((.inr (.inr z)) :: st) n I L P) ∧
  (∀ (lv : List mm_V) a, (mm_ok n a 12) → mm_E d 159 17 lv [] (.inr (.inr (some a)) :: []) n I L P = mm_kv d 159 20 lv [] [] n (mm_rn d 154 [.inr (.inr (some a))] n I L P)) ∧
  (∀ (st : List mm_V) z (l1 : mm_V), mm_E d 159 20 [(.inr (.inr z)), l1] [] st n I L P = mm_E d 159 21 [(.inr (.inr z)), l1] [] ((.inr (.inr z)) :: st) n I L P) ∧
  (∀ (lv : List mm_V) (st : List mm_V) a, mm_E d 159 21 lv [] ((.inr (.inr a)) :: st) n I L P = mm_E d 159 22 lv [] ((.inr (.inr a)) :: (.inr (.inr a)) :: st) n I L P) ∧
  (∀ (lv : List mm_V) (st : List mm_V) a, (mm_ok n a 12) → mm_E d 159 22 lv [] (.inr (.inr (some a)) :: st) n I L P = mm_E d 159 25 lv [] (.inl (I a 3) :: st) n I L P) ∧
  (∀ (lv : List mm_V) (st : List mm_V), mm_E d 159 25 lv [] st n I L P = mm_E d 159 26 lv [] (.inl 1 :: st) n I L P) ∧
  (∀ (lv : List mm_V) (st : List mm_V) a b, mm_E d 159 26 lv [] (.inl b :: .inl a :: st) n I L P = mm_E d 159 27 lv [] (.inl (mm_add a b) :: st) n I L P) ∧
  (∀ (lv : List mm_V) (st : List mm_V) a z, (mm_ok n a 12) → mm_E d 159 27 lv [] (.inl z :: .inr (.inr (some a)) :: st) n I L P = mm_E d 159 30 lv [] st n (mm_ui I a 3 z) L P) ∧
  (∀ (st : List mm_V) z (l1 : mm_V), mm_E d 159 30 [(.inr (.inr z)), l1] [] st n I L P = mm_E d 159 31 [(.inr (.inr z)), l1] [] ((.inr (.inr z)) :: st) n I L P) ∧
  (∀ (lv : List mm_V) (st : List mm_V) a, mm_E d 159 31 lv [] ((.inr (.inr a)) :: st) n I L P = mm_E d 159 32 lv [] ((.inr (.inr a)) :: (.inr (.inr a)) :: st) n I L P) ∧
  (∀ (lv : List mm_V) (st : List mm_V) a, (mm_ok n a 12) → mm_E d 159 32 lv [] (.inr (.inr (some a)) :: st) n I L P = mm_E d 159 35 lv [] (.inl (I a 5) :: st) n I L P) ∧
  (∀ (lv : List mm_V) (st : List mm_V), mm_E d 159 35 lv [] st n I L P = mm_E d 159 36 lv [] (.inl 1 :: st) n I L P) ∧
  (∀ (lv : List mm_V) (st : List mm_V) a b, mm_E d 159 36 lv [] (.inl b :: .inl a :: st) n I L P = mm_E d 159 37 lv [] (.inl (mm_sub a b) :: st) n I L P) ∧
  (∀ (lv : List mm_V) (st : List mm_V) a z, (mm_ok n a 12) → mm_E d 159 37 lv [] (.inl z :: .inr (.inr (some a)) :: st) n I L P = mm_E d 159 40 lv [] st n (mm_ui I a 5 z) L P) ∧
  (∀ (lv : List mm_V), mm_E d 159 40 lv [] [] n I L P = some (none, n, I, L, P)) :=
  ⟨fun _ _ _ => mq_al (i := 0) rfl rfl,
   fun _ _ _ h0 => mq_getI rfl h0,
   fun _ _ => mq_push rfl,
   fun _ _ _ _ => mq_ic_ne rfl,
   fun _ _ _ => mq_al (i := 0) rfl rfl,
   fun _ _ h0 => mq_cVr (na := 0) rfl rfl (Nat.le_of_ble_eq_true rfl) (Nat.le_of_ble_eq_true rfl) h0,
   fun _ _ _ => mq_il (i := 1) rfl rfl,
   fun _ _ _ _ => mq_ic_eq rfl,
   fun _ _ _ => mq_al (i := 0) rfl rfl,
   fun _ _ h0 => mq_cVv (na := 0) rfl rfl (Nat.le_of_ble_eq_true rfl) (Nat.le_of_ble_eq_true rfl) h0,
   fun _ _ _ => mq_al (i := 0) rfl rfl,
   fun _ _ _ => mq_dup rfl rfl,
   fun _ _ _ h0 => mq_getI rfl h0,
   fun _ _ => mq_push rfl,
   fun _ _ _ _ => mq_bi rfl,
   fun _ _ _ _ h0 => mq_putI rfl h0,
   fun _ _ _ => mq_al (i := 0) rfl rfl,
   fun _ _ _ => mq_dup rfl rfl,
   fun _ _ _ h0 => mq_getI rfl h0,
   fun _ _ => mq_push rfl,
   fun _ _ _ _ => mq_bi rfl,
   fun _ _ _ _ h0 => mq_putI rfl h0,
   fun _ => mq_rv rfl⟩
theorem eX12_closes (d n : Nat) (I L : mm_I) (P : mm_P) (x0 : Option Nat) (x1 : Int) : mm_rn (d + 1) 159 [.inr (.inr x0), .inl x1] n I L P = mm_E d 159 0 [.inr (.inr x0), .inl x1] [] [] n I L P := rfl

set_option maxRecDepth 20000 in
set_option maxHeartbeats 8000000 in
theorem kX12_plainNumber (d n : Nat) (I L : mm_I) (P : mm_P) :
  (∀ (lv : List mm_V) (st : List mm_V), mm_E d 160 0 lv [] st n I L P = mm_E d 160 1 lv [] (.inl 0 :: st) n I L P) ∧
  (∀ (st : List mm_V) z (l0 : mm_V) (l1 : mm_V) (l2 : mm_V), mm_E d 160 1 [l0, l1, l2] [] ((.inl z) :: st) n I L P = mm_E d 160 2 [l0, (.inl z), l2] [] st n I L P) ∧
  (∀ (lv : List mm_V) (st : List mm_V), mm_E d 160 2 lv [] st n I L P = mm_E d 160 3 lv [] (.inl 0 :: st) n I L P) ∧
  (∀ (st : List mm_V) z (l0 : mm_V) (l1 : mm_V) (l2 : mm_V), mm_E d 160 3 [l0, l1, l2] [] ((.inl z) :: st) n I L P = mm_E d 160 4 [l0, l1, (.inl z)] [] st n I L P) ∧
  (∀ (lv : List mm_V) (st : List mm_V), mm_E d 160 5 lv [] st n I L P = mm_E d 160 6 lv [] (.inl 4 :: st) n I L P) ∧
  (∀ (lv : List mm_V) (st : List mm_V) a b, mm_E d 160 6 lv [] (.inl b :: .inl a :: st) n I L P = if b ≤ a then mm_E d 160 48 lv [] st n I L P else mm_E d 160 9 lv [] st n I L P) ∧
  (∀ (st : List mm_V) z (l1 : mm_V) (l2 : mm_V), mm_E d 160 9 [(.inr (.inr z)), l1, l2] [] st n I L P = mm_E d 160 10 [(.inr (.inr z)), l1, l2] [] ((.inr (.inr z)) :: st) n I L P) ∧
  (∀ (lv : List mm_V) a, (mm_ok n a 12) → mm_E d 160 10 lv [] (.inr (.inr (some a)) :: []) n I L P = mm_kr d 160 13 lv [] [] n (mm_rn d 152 [.inr (.inr (some a))] n I L P)) ∧
  (∀ (lv : List mm_V) x0, mm_E d 160 13 lv [] (.inl x0 :: []) n I L P = mm_kr d 160 16 lv [] [] n (mm_rn d 155 [.inl x0] n I L P)) ∧
  (∀ (lv : List mm_V) (st : List mm_V) a, mm_E d 160 16 lv [] (.inl a :: st) n I L P = if a = 0 then mm_E d 160 48 lv [] st n I L P else mm_E d 160 19 lv [] st n I L P) ∧
  (∀ (lv : List mm_V) (st : List mm_V), mm_E d 160 19 lv [] st n I L P = mm_E d 160 21 lv [] (.inl 10 :: st) n I L P) ∧
  (∀ (st : List mm_V) z (l0 : mm_V) (l2 : mm_V), mm_E d 160 21 [l0, (.inl z), l2] [] st n I L P = mm_E d 160 22 [l0, (.inl z), l2] [] ((.inl z) :: st) n I L P) ∧
  (∀ (lv : List mm_V) (st : List mm_V) a b, mm_E d 160 22 lv [] (.inl b :: .inl a :: st) n I L P = mm_E d 160 23 lv [] (.inl (mm_mul a b) :: st) n I L P) ∧
  (∀ (st : List mm_V) z (l1 : mm_V) (l2 : mm_V), mm_E d 160 23 [(.inr (.inr z)), l1, l2] [] st n I L P = mm_E d 160 24 [(.inr (.inr z)), l1, l2] [] ((.inr (.inr z)) :: st) n I L P) ∧
  (∀ (lv : List mm_V) a w0, (mm_ok n a 12) → mm_E d 160 24 lv [] (.inr (.inr (some a)) :: [.inl w0]) n I L P = mm_kr d 160 27 lv [] [.inl w0] n (mm_rn d 152 [.inr (.inr (some a))] n I L P)) ∧
  (∀ (lv : List mm_V) (st : List mm_V) a b, mm_E d 160 27 lv [] (.inl b :: .inl a :: st) n I L P = mm_E d 160 28 lv [] (.inl (mm_add a b) :: st) n I L P) ∧
  (∀ (lv : List mm_V) (st : List mm_V), mm_E d 160 28 lv [] st n I L P = mm_E d 160 30 lv [] (.inl 48 :: st) n I L P) ∧
  (∀ (lv : List mm_V) (st : List mm_V) a b, mm_E d 160 30 lv [] (.inl b :: .inl a :: st) n I L P = mm_E d 160 31 lv [] (.inl (mm_sub a b) :: st) n I L P) ∧
  (∀ (st : List mm_V) z (l0 : mm_V) (l1 : mm_V) (l2 : mm_V), mm_E d 160 31 [l0, l1, l2] [] ((.inl z) :: st) n I L P = mm_E d 160 32 [l0, (.inl z), l2] [] st n I L P) ∧
  (∀ (st : List mm_V) z (l1 : mm_V) (l2 : mm_V), mm_E d 160 32 [(.inr (.inr z)), l1, l2] [] st n I L P = mm_E d 160 33 [(.inr (.inr z)), l1, l2] [] ((.inr (.inr z)) :: st) n I L P) ∧
  (∀ (lv : List mm_V) (st : List mm_V) a, mm_E d 160 33 lv [] ((.inr (.inr a)) :: st) n I L P = mm_E d 160 34 lv [] ((.inr (.inr a)) :: (.inr (.inr a)) :: st) n I L P) ∧
  (∀ (lv : List mm_V) (st : List mm_V) a, (mm_ok n a 12) → mm_E d 160 34 lv [] (.inr (.inr (some a)) :: st) n I L P = mm_E d 160 37 lv [] (.inl (I a 3) :: st) n I L P) ∧
  (∀ (lv : List mm_V) (st : List mm_V), mm_E d 160 37 lv [] st n I L P = mm_E d 160 38 lv [] (.inl 1 :: st) n I L P) ∧
  (∀ (lv : List mm_V) (st : List mm_V) a b, mm_E d 160 38 lv [] (.inl b :: .inl a :: st) n I L P = mm_E d 160 39 lv [] (.inl (mm_add a b) :: st) n I L P) ∧
  (∀ (lv : List mm_V) (st : List mm_V) a z, (mm_ok n a 12) → mm_E d 160 39 lv [] (.inl z :: .inr (.inr (some a)) :: st) n I L P = mm_E d 160 42 lv [] st n (mm_ui I a 3 z) L P) ∧
  (∀ (st : List mm_V) z (l0 : mm_V) (l1 : mm_V), mm_E d 160 42 [l0, l1, (.inl z)] [] st n I L P = mm_E d 160 45 [l0, l1, (.inl (mm_add z 1))] [] st n I L P) ∧
  (∀ (lv : List mm_V) (st : List mm_V), mm_E d 160 45 lv [] st n I L P = mm_E d 160 4 lv [] st n I L P) ∧
  (∀ (st : List mm_V) z (l1 : mm_V) (l2 : mm_V), mm_E d 160 48 [(.inr (.inr z)), l1, l2] [] st n I L P = mm_E d 160 49 [(.inr (.inr z)), l1, l2] [] ((.inr (.inr z)) :: st) n I L P) ∧
  (∀ (lv : List mm_V) a, (mm_ok n a 12) → mm_E d 160 49 lv [] (.inr (.inr (some a)) :: []) n I L P = mm_kr d 160 52 lv [] [] n (mm_rn d 152 [.inr (.inr (some a))] n I L P)) ∧
  (∀ (lv : List mm_V) x0, mm_E d 160 52 lv [] (.inl x0 :: []) n I L P = mm_kr d 160 55 lv [] [] n (mm_rn d 155 [.inl x0] n I L P)) ∧
  (∀ (lv : List mm_V) (st : List mm_V) a, mm_E d 160 55 lv [] (.inl a :: st) n I L P = if a = 0 then mm_E d 160 62 lv [] st n I L P else mm_E d 160 58 lv [] st n I L P) ∧
  (∀ (st : List mm_V) z (l1 : mm_V) (l2 : mm_V), mm_E d 160 58 [(.inr (.inr z)), l1, l2] [] st n I L P = mm_E d 160 59 [(.inr (.inr z)), l1, l2] [] ((.inr (.inr z)) :: st) n I L P) ∧
  (∀ (lv : List mm_V) a, (mm_ok n a 12) → mm_E d 160 59 lv [] (.inr (.inr (some a)) :: []) n I L P = mm_kv d 160 62 lv [] [] n (mm_rn d 154 [.inr (.inr (some a))] n I L P)) ∧
  (∀ (st : List mm_V) z (l0 : mm_V) (l2 : mm_V), mm_E d 160 62 [l0, (.inl z), l2] [] st n I L P = mm_E d 160 63 [l0, (.inl z), l2] [] ((.inl z) :: st) n I L P) ∧
  (∀ (lv : List mm_V) z, mm_E d 160 63 lv [] [.inl z] n I L P = some (some (.inl z), n, I, L, P)) :=
  ⟨fun _ _ => mq_push rfl,
   fun _ _ _ _ _ => mq_is (i := 1) rfl rfl rfl,
   fun _ _ => mq_push rfl,
   fun _ _ _ _ _ => mq_is (i := 2) rfl rfl rfl,
   fun _ _ => mq_push rfl,
   fun _ _ _ _ => mq_ic_ge rfl,
   fun _ _ _ _ => mq_al (i := 0) rfl rfl,
   fun _ _ h0 => mq_cVr (na := 0) rfl rfl (Nat.le_of_ble_eq_true rfl) (Nat.le_of_ble_eq_true rfl) h0,
   fun _ _ => mq_cSr (na := 1) rfl (Nat.le_of_ble_eq_true rfl) (Nat.le_of_ble_eq_true rfl),
   fun _ _ _ => mq_if_eq rfl,
   fun _ _ => mq_push rfl,
   fun _ _ _ _ => mq_il (i := 1) rfl rfl,
   fun _ _ _ _ => mq_bi rfl,
   fun _ _ _ _ => mq_al (i := 0) rfl rfl,
   fun _ _ _ h0 => mq_cVr (na := 0) rfl rfl (Nat.le_of_ble_eq_true rfl) (Nat.le_of_ble_eq_true rfl) h0,
   fun _ _ _ _ => mq_bi rfl,
   fun _ _ => mq_push rfl,
   fun _ _ _ _ => mq_bi rfl,
   fun _ _ _ _ _ => mq_is (i := 1) rfl rfl rfl,
   fun _ _ _ _ => mq_al (i := 0) rfl rfl,
   fun _ _ _ => mq_dup rfl rfl,
   fun _ _ _ h0 => mq_getI rfl h0,
   fun _ _ => mq_push rfl,
   fun _ _ _ _ => mq_bi rfl,
   fun _ _ _ _ h0 => mq_putI rfl h0,
   fun _ _ _ _ => mq_iinc (i := 2) rfl rfl rfl rfl,
   fun _ _ => mq_go rfl,
   fun _ _ _ _ => mq_al (i := 0) rfl rfl,
   fun _ _ h0 => mq_cVr (na := 0) rfl rfl (Nat.le_of_ble_eq_true rfl) (Nat.le_of_ble_eq_true rfl) h0,
   fun _ _ => mq_cSr (na := 1) rfl (Nat.le_of_ble_eq_true rfl) (Nat.le_of_ble_eq_true rfl),
   fun _ _ _ => mq_if_eq rfl,
   fun _ _ _ _ => mq_al (i := 0) rfl rfl,
   fun _ _ h0 => mq_cVv (na := 0) rfl rfl (Nat.le_of_ble_eq_true rfl) (Nat.le_of_ble_eq_true rfl) h0,
   fun _ _ _ _ => mq_il (i := 1) rfl rfl,
   fun _ _ => mq_ri rfl⟩
theorem hX12_plainNumber_4 (d n : Nat) (I L : mm_I) (P : mm_P) : ∀ (st : List mm_V) z (l0 : mm_V) (l1 : mm_V), mm_E d 160 4 [l0, l1, (.inl z)] [] st n I L P = mm_E d 160 5 [l0, l1, (.inl z)] [] ((.inl z) :: st) n I L P := fun _ _ _ _ => mq_il (i := 2) rfl rfl
theorem eX12_plainNumber (d n : Nat) (I L : mm_I) (P : mm_P) (x0 : Option Nat) : mm_rn (d + 1) 160 [.inr (.inr x0)] n I L P = mm_E d 160 0 [.inr (.inr x0), mm_junk, mm_junk] [] [] n I L P := rfl

set_option maxRecDepth 20000 in
set_option maxHeartbeats 8000000 in
theorem kX12_atom (d n : Nat) (I L : mm_I) (P : mm_P) :
  (∀ (st : List mm_V) z (l1 : mm_V), mm_E d 161 0 [(.inr (.inr z)), l1] [] st n I L P = mm_E d 161 1 [(.inr (.inr z)), l1] [] ((.inr (.inr z)) :: st) n I L P) ∧
  (∀ (lv : List mm_V) a, (mm_ok n a 12) → mm_E d 161 1 lv [] (.inr (.inr (some a)) :: []) n I L P = mm_kr d 161 4 lv [] [] n (mm_rn d 153 [.inr (.inr (some a))] n I L P)) ∧
  (∀ (st : List mm_V) z (l0 : mm_V) (l1 : mm_V), mm_E d 161 4 [l0, l1] [] ((.inl z) :: st) n I L P = mm_E d 161 5 [l0, (.inl z)] [] st n I L P) ∧
  (∀ (st : List mm_V) z (l0 : mm_V), mm_E d 161 5 [l0, (.inl z)] [] st n I L P = mm_E d 161 6 [l0, (.inl z)] [] ((.inl z) :: st) n I L P) ∧
  (∀ (lv : List mm_V) x0, mm_E d 161 6 lv [] (.inl x0 :: []) n I L P = mm_kr d 161 9 lv [] [] n (mm_rn d 155 [.inl x0] n I L P)) ∧
  (∀ (lv : List mm_V) (st : List mm_V) a, mm_E d 161 9 lv [] (.inl a :: st) n I L P = if a = 0 then mm_E d 161 24 lv [] st n I L P else mm_E d 161 12 lv [] st n I L P) ∧
  (∀ (st : List mm_V) z (l1 : mm_V), mm_E d 161 12 [(.inr (.inr z)), l1] [] st n I L P = mm_E d 161 13 [(.inr (.inr z)), l1] [] ((.inr (.inr z)) :: st) n I L P) ∧
  (∀ (lv : List mm_V) (st : List mm_V), mm_E d 161 13 lv [] st n I L P = mm_E d 161 14 lv [] (.inl 0 :: st) n I L P) ∧
  (∀ (st : List mm_V) z (l1 : mm_V), mm_E d 161 14 [(.inr (.inr z)), l1] [] st n I L P = mm_E d 161 15 [(.inr (.inr z)), l1] [] ((.inr (.inr z)) :: st) n I L P) ∧
  (∀ (lv : List mm_V) a w0 w1, (mm_ok n a 12) → mm_E d 161 15 lv [] (.inr (.inr (some a)) :: [.inl w0, .inr (.inr w1)]) n I L P = mm_kr d 161 18 lv [] [.inl w0, .inr (.inr w1)] n (mm_rn d 160 [.inr (.inr (some a))] n I L P)) ∧
  (∀ (lv : List mm_V) a x0 x1, (mm_ok n a 12) → mm_E d 161 18 lv [] (.inl x1 :: .inl x0 :: .inr (.inr (some a)) :: []) n I L P = mm_kv d 161 21 lv [] [] n (mm_rn d 156 [.inr (.inr (some a)), .inl x0, .inl x1] n I L P)) ∧
  (∀ (lv : List mm_V) (st : List mm_V), mm_E d 161 21 lv [] st n I L P = mm_E d 161 89 lv [] st n I L P) ∧
  (∀ (st : List mm_V) z (l0 : mm_V), mm_E d 161 24 [l0, (.inl z)] [] st n I L P = mm_E d 161 25 [l0, (.inl z)] [] ((.inl z) :: st) n I L P) ∧
  (∀ (lv : List mm_V) x0, mm_E d 161 25 lv [] (.inl x0 :: []) n I L P = mm_kr d 161 28 lv [] [] n (mm_rn d 157 [.inl x0] n I L P)) ∧
  (∀ (lv : List mm_V) (st : List mm_V), mm_E d 161 28 lv [] st n I L P = mm_E d 161 29 lv [] (.inl (-1) :: st) n I L P) ∧
  (∀ (lv : List mm_V) (st : List mm_V) a b, mm_E d 161 29 lv [] (.inl b :: .inl a :: st) n I L P = if a = b then mm_E d 161 54 lv [] st n I L P else mm_E d 161 32 lv [] st n I L P) ∧
  (∀ (st : List mm_V) z (l1 : mm_V), mm_E d 161 32 [(.inr (.inr z)), l1] [] st n I L P = mm_E d 161 33 [(.inr (.inr z)), l1] [] ((.inr (.inr z)) :: st) n I L P) ∧
  (∀ (lv : List mm_V) (st : List mm_V) a, mm_E d 161 33 lv [] ((.inr (.inr a)) :: st) n I L P = mm_E d 161 34 lv [] ((.inr (.inr a)) :: (.inr (.inr a)) :: st) n I L P) ∧
  (∀ (lv : List mm_V) (st : List mm_V) a, (mm_ok n a 12) → mm_E d 161 34 lv [] (.inr (.inr (some a)) :: st) n I L P = mm_E d 161 37 lv [] (.inl (I a 3) :: st) n I L P) ∧
  (∀ (lv : List mm_V) (st : List mm_V), mm_E d 161 37 lv [] st n I L P = mm_E d 161 38 lv [] (.inl 1 :: st) n I L P) ∧
  (∀ (lv : List mm_V) (st : List mm_V) a b, mm_E d 161 38 lv [] (.inl b :: .inl a :: st) n I L P = mm_E d 161 39 lv [] (.inl (mm_add a b) :: st) n I L P) ∧
  (∀ (lv : List mm_V) (st : List mm_V) a z, (mm_ok n a 12) → mm_E d 161 39 lv [] (.inl z :: .inr (.inr (some a)) :: st) n I L P = mm_E d 161 42 lv [] st n (mm_ui I a 3 z) L P) ∧
  (∀ (st : List mm_V) z (l1 : mm_V), mm_E d 161 42 [(.inr (.inr z)), l1] [] st n I L P = mm_E d 161 43 [(.inr (.inr z)), l1] [] ((.inr (.inr z)) :: st) n I L P) ∧
  (∀ (lv : List mm_V) (st : List mm_V), mm_E d 161 43 lv [] st n I L P = mm_E d 161 44 lv [] (.inl 1 :: st) n I L P) ∧
  (∀ (st : List mm_V) z (l0 : mm_V), mm_E d 161 44 [l0, (.inl z)] [] st n I L P = mm_E d 161 45 [l0, (.inl z)] [] ((.inl z) :: st) n I L P) ∧
  (∀ (lv : List mm_V) x0 w0 w1, mm_E d 161 45 lv [] (.inl x0 :: [.inl w0, .inr (.inr w1)]) n I L P = mm_kr d 161 48 lv [] [.inl w0, .inr (.inr w1)] n (mm_rn d 157 [.inl x0] n I L P)) ∧
  (∀ (lv : List mm_V) a x0 x1, (mm_ok n a 12) → mm_E d 161 48 lv [] (.inl x1 :: .inl x0 :: .inr (.inr (some a)) :: []) n I L P = mm_kv d 161 51 lv [] [] n (mm_rn d 156 [.inr (.inr (some a)), .inl x0, .inl x1] n I L P)) ∧
  (∀ (lv : List mm_V) (st : List mm_V), mm_E d 161 51 lv [] st n I L P = mm_E d 161 89 lv [] st n I L P) ∧
  (∀ (st : List mm_V) z (l0 : mm_V), mm_E d 161 54 [l0, (.inl z)] [] st n I L P = mm_E d 161 55 [l0, (.inl z)] [] ((.inl z) :: st) n I L P) ∧
  (∀ (lv : List mm_V) (st : List mm_V), mm_E d 161 55 lv [] st n I L P = mm_E d 161 57 lv [] (.inl 91 :: st) n I L P) ∧
  (∀ (lv : List mm_V) (st : List mm_V) a b, mm_E d 161 57 lv [] (.inl b :: .inl a :: st) n I L P = if a = b then mm_E d 161 60 lv [] st n I L P else mm_E d 161 85 lv [] st n I L P) ∧
  (∀ (st : List mm_V) z (l1 : mm_V), mm_E d 161 60 [(.inr (.inr z)), l1] [] st n I L P = mm_E d 161 61 [(.inr (.inr z)), l1] [] ((.inr (.inr z)) :: st) n I L P) ∧
  (∀ (lv : List mm_V) a, (mm_ok n a 12) → mm_E d 161 61 lv [] (.inr (.inr (some a)) :: []) n I L P = mm_kv d 161 64 lv [] [] n (mm_rn d 158 [.inr (.inr (some a))] n I L P)) ∧
  (∀ (st : List mm_V) z (l1 : mm_V), mm_E d 161 64 [(.inr (.inr z)), l1] [] st n I L P = mm_E d 161 65 [(.inr (.inr z)), l1] [] ((.inr (.inr z)) :: st) n I L P) ∧
  (∀ (lv : List mm_V) (st : List mm_V) a, (mm_ok n a 12) → mm_E d 161 65 lv [] (.inr (.inr (some a)) :: st) n I L P = mm_E d 161 68 lv [] (.inl (I a 4) :: st) n I L P) ∧
  (∀ (lv : List mm_V) (st : List mm_V), mm_E d 161 68 lv [] st n I L P = mm_E d 161 69 lv [] (.inl (-1) :: st) n I L P) ∧
  (∀ (lv : List mm_V) (st : List mm_V) a b, mm_E d 161 69 lv [] (.inl b :: .inl a :: st) n I L P = if a = b then mm_E d 161 72 lv [] st n I L P else mm_E d 161 89 lv [] st n I L P) ∧
  (∀ (st : List mm_V) z (l1 : mm_V), mm_E d 161 72 [(.inr (.inr z)), l1] [] st n I L P = mm_E d 161 73 [(.inr (.inr z)), l1] [] ((.inr (.inr z)) :: st) n I L P) ∧
  (∀ (lv : List mm_V) a, (mm_ok n a 12) → mm_E d 161 73 lv [] (.inr (.inr (some a)) :: []) n I L P = mm_kv d 161 76 lv [] [] n (mm_rn d 163 [.inr (.inr (some a))] n I L P)) ∧
  (∀ (st : List mm_V) z (l1 : mm_V), mm_E d 161 76 [(.inr (.inr z)), l1] [] st n I L P = mm_E d 161 77 [(.inr (.inr z)), l1] [] ((.inr (.inr z)) :: st) n I L P) ∧
  (∀ (lv : List mm_V) (st : List mm_V), mm_E d 161 77 lv [] st n I L P = mm_E d 161 79 lv [] (.inl 93 :: st) n I L P) ∧
  (∀ (lv : List mm_V) a x0, (mm_ok n a 12) → mm_E d 161 79 lv [] (.inl x0 :: .inr (.inr (some a)) :: []) n I L P = mm_kv d 161 82 lv [] [] n (mm_rn d 159 [.inr (.inr (some a)), .inl x0] n I L P)) ∧
  (∀ (lv : List mm_V) (st : List mm_V), mm_E d 161 82 lv [] st n I L P = mm_E d 161 89 lv [] st n I L P) ∧
  (∀ (st : List mm_V) z (l1 : mm_V), mm_E d 161 85 [(.inr (.inr z)), l1] [] st n I L P = mm_E d 161 86 [(.inr (.inr z)), l1] [] ((.inr (.inr z)) :: st) n I L P) ∧
  (∀ (lv : List mm_V) a, (mm_ok n a 12) → mm_E d 161 86 lv [] (.inr (.inr (some a)) :: []) n I L P = mm_kv d 161 89 lv [] [] n (mm_rn d 154 [.inr (.inr (some a))] n I L P)) ∧
  (∀ (lv : List mm_V), mm_E d 161 89 lv [] [] n I L P = some (none, n, I, L, P)) :=
  ⟨fun _ _ _ => mq_al (i := 0) rfl rfl,
   fun _ _ h0 => mq_cVr (na := 0) rfl rfl (Nat.le_of_ble_eq_true rfl) (Nat.le_of_ble_eq_true rfl) h0,
   fun _ _ _ _ => mq_is (i := 1) rfl rfl rfl,
   fun _ _ _ => mq_il (i := 1) rfl rfl,
   fun _ _ => mq_cSr (na := 1) rfl (Nat.le_of_ble_eq_true rfl) (Nat.le_of_ble_eq_true rfl),
   fun _ _ _ => mq_if_eq rfl,
   fun _ _ _ => mq_al (i := 0) rfl rfl,
   fun _ _ => mq_push rfl,
   fun _ _ _ => mq_al (i := 0) rfl rfl,
   fun _ _ _ _ h0 => mq_cVr (na := 0) rfl rfl (Nat.le_of_ble_eq_true rfl) (Nat.le_of_ble_eq_true rfl) h0,
   fun _ _ _ _ h0 => mq_cVv (na := 2) rfl rfl (Nat.le_of_ble_eq_true rfl) (Nat.le_of_ble_eq_true rfl) h0,
   fun _ _ => mq_go rfl,
   fun _ _ _ => mq_il (i := 1) rfl rfl,
   fun _ _ => mq_cSr (na := 1) rfl (Nat.le_of_ble_eq_true rfl) (Nat.le_of_ble_eq_true rfl),
   fun _ _ => mq_push rfl,
   fun _ _ _ _ => mq_ic_eq rfl,
   fun _ _ _ => mq_al (i := 0) rfl rfl,
   fun _ _ _ => mq_dup rfl rfl,
   fun _ _ _ h0 => mq_getI rfl h0,
   fun _ _ => mq_push rfl,
   fun _ _ _ _ => mq_bi rfl,
   fun _ _ _ _ h0 => mq_putI rfl h0,
   fun _ _ _ => mq_al (i := 0) rfl rfl,
   fun _ _ => mq_push rfl,
   fun _ _ _ => mq_il (i := 1) rfl rfl,
   fun _ _ _ _ => mq_cSr (na := 1) rfl (Nat.le_of_ble_eq_true rfl) (Nat.le_of_ble_eq_true rfl),
   fun _ _ _ _ h0 => mq_cVv (na := 2) rfl rfl (Nat.le_of_ble_eq_true rfl) (Nat.le_of_ble_eq_true rfl) h0,
   fun _ _ => mq_go rfl,
   fun _ _ _ => mq_il (i := 1) rfl rfl,
   fun _ _ => mq_push rfl,
   fun _ _ _ _ => mq_ic_ne rfl,
   fun _ _ _ => mq_al (i := 0) rfl rfl,
   fun _ _ h0 => mq_cVv (na := 0) rfl rfl (Nat.le_of_ble_eq_true rfl) (Nat.le_of_ble_eq_true rfl) h0,
   fun _ _ _ => mq_al (i := 0) rfl rfl,
   fun _ _ _ h0 => mq_getI rfl h0,
   fun _ _ => mq_push rfl,
   fun _ _ _ _ => mq_ic_ne rfl,
   fun _ _ _ => mq_al (i := 0) rfl rfl,
   fun _ _ h0 => mq_cVv (na := 0) rfl rfl (Nat.le_of_ble_eq_true rfl) (Nat.le_of_ble_eq_true rfl) h0,
   fun _ _ _ => mq_al (i := 0) rfl rfl,
   fun _ _ => mq_push rfl,
   fun _ _ _ h0 => mq_cVv (na := 1) rfl rfl (Nat.le_of_ble_eq_true rfl) (Nat.le_of_ble_eq_true rfl) h0,
   fun _ _ => mq_go rfl,
   fun _ _ _ => mq_al (i := 0) rfl rfl,
   fun _ _ h0 => mq_cVv (na := 0) rfl rfl (Nat.le_of_ble_eq_true rfl) (Nat.le_of_ble_eq_true rfl) h0,
   fun _ => mq_rv rfl⟩
theorem eX12_atom (d n : Nat) (I L : mm_I) (P : mm_P) (x0 : Option Nat) : mm_rn (d + 1) 161 [.inr (.inr x0)] n I L P = mm_E d 161 0 [.inr (.inr x0), mm_junk] [] [] n I L P := rfl

set_option maxRecDepth 20000 in
set_option maxHeartbeats 8000000 in
theorem kX12_term (d n : Nat) (I L : mm_I) (P : mm_P) :
  (∀ (st : List mm_V) z (l1 : mm_V), mm_E d 162 0 [(.inr (.inr z)), l1] [] st n I L P = mm_E d 162 1 [(.inr (.inr z)), l1] [] ((.inr (.inr z)) :: st) n I L P) ∧
  (∀ (lv : List mm_V) a, (mm_ok n a 12) → mm_E d 162 1 lv [] (.inr (.inr (some a)) :: []) n I L P = mm_kv d 162 4 lv [] [] n (mm_rn d 161 [.inr (.inr (some a))] n I L P)) ∧
  (∀ (st : List mm_V) z (l1 : mm_V), mm_E d 162 4 [(.inr (.inr z)), l1] [] st n I L P = mm_E d 162 5 [(.inr (.inr z)), l1] [] ((.inr (.inr z)) :: st) n I L P) ∧
  (∀ (lv : List mm_V) (st : List mm_V) a, (mm_ok n a 12) → mm_E d 162 5 lv [] (.inr (.inr (some a)) :: st) n I L P = mm_E d 162 8 lv [] (.inl (I a 4) :: st) n I L P) ∧
  (∀ (lv : List mm_V) (st : List mm_V), mm_E d 162 8 lv [] st n I L P = mm_E d 162 9 lv [] (.inl (-1) :: st) n I L P) ∧
  (∀ (lv : List mm_V) (st : List mm_V) a b, mm_E d 162 9 lv [] (.inl b :: .inl a :: st) n I L P = if a = b then mm_E d 162 12 lv [] st n I L P else mm_E d 162 19 lv [] st n I L P) ∧
  (∀ (st : List mm_V) z (l1 : mm_V), mm_E d 162 12 [(.inr (.inr z)), l1] [] st n I L P = mm_E d 162 13 [(.inr (.inr z)), l1] [] ((.inr (.inr z)) :: st) n I L P) ∧
  (∀ (lv : List mm_V) a, (mm_ok n a 12) → mm_E d 162 13 lv [] (.inr (.inr (some a)) :: []) n I L P = mm_kr d 162 16 lv [] [] n (mm_rn d 153 [.inr (.inr (some a))] n I L P)) ∧
  (∀ (lv : List mm_V) (st : List mm_V), mm_E d 162 16 lv [] st n I L P = mm_E d 162 20 lv [] st n I L P) ∧
  (∀ (lv : List mm_V) (st : List mm_V), mm_E d 162 19 lv [] st n I L P = mm_E d 162 20 lv [] (.inl (-1) :: st) n I L P) ∧
  (∀ (st : List mm_V) z (l0 : mm_V) (l1 : mm_V), mm_E d 162 20 [l0, l1] [] ((.inl z) :: st) n I L P = mm_E d 162 21 [l0, (.inl z)] [] st n I L P) ∧
  (∀ (lv : List mm_V) (st : List mm_V), mm_E d 162 22 lv [] st n I L P = mm_E d 162 24 lv [] (.inl 42 :: st) n I L P) ∧
  (∀ (lv : List mm_V) (st : List mm_V) a b, mm_E d 162 24 lv [] (.inl b :: .inl a :: st) n I L P = if a = b then mm_E d 162 33 lv [] st n I L P else mm_E d 162 27 lv [] st n I L P) ∧
  (∀ (st : List mm_V) z (l0 : mm_V), mm_E d 162 27 [l0, (.inl z)] [] st n I L P = mm_E d 162 28 [l0, (.inl z)] [] ((.inl z) :: st) n I L P) ∧
  (∀ (lv : List mm_V) (st : List mm_V), mm_E d 162 28 lv [] st n I L P = mm_E d 162 30 lv [] (.inl 47 :: st) n I L P) ∧
  (∀ (lv : List mm_V) (st : List mm_V) a b, mm_E d 162 30 lv [] (.inl b :: .inl a :: st) n I L P = if a = b then mm_E d 162 33 lv [] st n I L P else mm_E d 162 83 lv [] st n I L P) ∧
  (∀ (st : List mm_V) z (l1 : mm_V), mm_E d 162 33 [(.inr (.inr z)), l1] [] st n I L P = mm_E d 162 34 [(.inr (.inr z)), l1] [] ((.inr (.inr z)) :: st) n I L P) ∧
  (∀ (lv : List mm_V) (st : List mm_V) a, mm_E d 162 34 lv [] ((.inr (.inr a)) :: st) n I L P = mm_E d 162 35 lv [] ((.inr (.inr a)) :: (.inr (.inr a)) :: st) n I L P) ∧
  (∀ (lv : List mm_V) (st : List mm_V) a, (mm_ok n a 12) → mm_E d 162 35 lv [] (.inr (.inr (some a)) :: st) n I L P = mm_E d 162 38 lv [] (.inl (I a 3) :: st) n I L P) ∧
  (∀ (lv : List mm_V) (st : List mm_V), mm_E d 162 38 lv [] st n I L P = mm_E d 162 39 lv [] (.inl 1 :: st) n I L P) ∧
  (∀ (lv : List mm_V) (st : List mm_V) a b, mm_E d 162 39 lv [] (.inl b :: .inl a :: st) n I L P = mm_E d 162 40 lv [] (.inl (mm_add a b) :: st) n I L P) ∧
  (∀ (lv : List mm_V) (st : List mm_V) a z, (mm_ok n a 12) → mm_E d 162 40 lv [] (.inl z :: .inr (.inr (some a)) :: st) n I L P = mm_E d 162 43 lv [] st n (mm_ui I a 3 z) L P) ∧
  (∀ (st : List mm_V) z (l1 : mm_V), mm_E d 162 43 [(.inr (.inr z)), l1] [] st n I L P = mm_E d 162 44 [(.inr (.inr z)), l1] [] ((.inr (.inr z)) :: st) n I L P) ∧
  (∀ (lv : List mm_V) a, (mm_ok n a 12) → mm_E d 162 44 lv [] (.inr (.inr (some a)) :: []) n I L P = mm_kv d 162 47 lv [] [] n (mm_rn d 161 [.inr (.inr (some a))] n I L P)) ∧
  (∀ (st : List mm_V) z (l1 : mm_V), mm_E d 162 47 [(.inr (.inr z)), l1] [] st n I L P = mm_E d 162 48 [(.inr (.inr z)), l1] [] ((.inr (.inr z)) :: st) n I L P) ∧
  (∀ (st : List mm_V) z (l0 : mm_V), mm_E d 162 48 [l0, (.inl z)] [] st n I L P = mm_E d 162 49 [l0, (.inl z)] [] ((.inl z) :: st) n I L P) ∧
  (∀ (lv : List mm_V) (st : List mm_V), mm_E d 162 49 lv [] st n I L P = mm_E d 162 51 lv [] (.inl 42 :: st) n I L P) ∧
  (∀ (lv : List mm_V) (st : List mm_V) a b, mm_E d 162 51 lv [] (.inl b :: .inl a :: st) n I L P = if a = b then mm_E d 162 54 lv [] st n I L P else mm_E d 162 58 lv [] st n I L P) ∧
  (∀ (lv : List mm_V) (st : List mm_V), mm_E d 162 54 lv [] st n I L P = mm_E d 162 55 lv [] (.inl 4 :: st) n I L P) ∧
  (∀ (lv : List mm_V) (st : List mm_V), mm_E d 162 55 lv [] st n I L P = mm_E d 162 59 lv [] st n I L P) ∧
  (∀ (lv : List mm_V) (st : List mm_V), mm_E d 162 58 lv [] st n I L P = mm_E d 162 59 lv [] (.inl 5 :: st) n I L P) ∧
  (∀ (lv : List mm_V) (st : List mm_V), mm_E d 162 59 lv [] st n I L P = mm_E d 162 60 lv [] (.inl 0 :: st) n I L P) ∧
  (∀ (lv : List mm_V) a x0 x1, (mm_ok n a 12) → mm_E d 162 60 lv [] (.inl x1 :: .inl x0 :: .inr (.inr (some a)) :: []) n I L P = mm_kv d 162 63 lv [] [] n (mm_rn d 156 [.inr (.inr (some a)), .inl x0, .inl x1] n I L P)) ∧
  (∀ (st : List mm_V) z (l1 : mm_V), mm_E d 162 63 [(.inr (.inr z)), l1] [] st n I L P = mm_E d 162 64 [(.inr (.inr z)), l1] [] ((.inr (.inr z)) :: st) n I L P) ∧
  (∀ (lv : List mm_V) (st : List mm_V) a, (mm_ok n a 12) → mm_E d 162 64 lv [] (.inr (.inr (some a)) :: st) n I L P = mm_E d 162 67 lv [] (.inl (I a 4) :: st) n I L P) ∧
  (∀ (lv : List mm_V) (st : List mm_V), mm_E d 162 67 lv [] st n I L P = mm_E d 162 68 lv [] (.inl (-1) :: st) n I L P) ∧
  (∀ (lv : List mm_V) (st : List mm_V) a b, mm_E d 162 68 lv [] (.inl b :: .inl a :: st) n I L P = if a = b then mm_E d 162 71 lv [] st n I L P else mm_E d 162 78 lv [] st n I L P) ∧
  (∀ (st : List mm_V) z (l1 : mm_V), mm_E d 162 71 [(.inr (.inr z)), l1] [] st n I L P = mm_E d 162 72 [(.inr (.inr z)), l1] [] ((.inr (.inr z)) :: st) n I L P) ∧
  (∀ (lv : List mm_V) a, (mm_ok n a 12) → mm_E d 162 72 lv [] (.inr (.inr (some a)) :: []) n I L P = mm_kr d 162 75 lv [] [] n (mm_rn d 153 [.inr (.inr (some a))] n I L P)) ∧
  (∀ (lv : List mm_V) (st : List mm_V), mm_E d 162 75 lv [] st n I L P = mm_E d 162 79 lv [] st n I L P) ∧
  (∀ (lv : List mm_V) (st : List mm_V), mm_E d 162 78 lv [] st n I L P = mm_E d 162 79 lv [] (.inl (-1) :: st) n I L P) ∧
  (∀ (st : List mm_V) z (l0 : mm_V) (l1 : mm_V), mm_E d 162 79 [l0, l1] [] ((.inl z) :: st) n I L P = mm_E d 162 80 [l0, (.inl z)] [] st n I L P) ∧
  (∀ (lv : List mm_V) (st : List mm_V), mm_E d 162 80 lv [] st n I L P = mm_E d 162 21 lv [] st n I L P) ∧
  (∀ (lv : List mm_V), mm_E d 162 83 lv [] [] n I L P = some (none, n, I, L, P)) :=
  ⟨fun _ _ _ => mq_al (i := 0) rfl rfl,
   fun _ _ h0 => mq_cVv (na := 0) rfl rfl (Nat.le_of_ble_eq_true rfl) (Nat.le_of_ble_eq_true rfl) h0,
   fun _ _ _ => mq_al (i := 0) rfl rfl,
   fun _ _ _ h0 => mq_getI rfl h0,
   fun _ _ => mq_push rfl,
   fun _ _ _ _ => mq_ic_ne rfl,
   fun _ _ _ => mq_al (i := 0) rfl rfl,
   fun _ _ h0 => mq_cVr (na := 0) rfl rfl (Nat.le_of_ble_eq_true rfl) (Nat.le_of_ble_eq_true rfl) h0,
   fun _ _ => mq_go rfl,
   fun _ _ => mq_push rfl,
   fun _ _ _ _ => mq_is (i := 1) rfl rfl rfl,
   fun _ _ => mq_push rfl,
   fun _ _ _ _ => mq_ic_eq rfl,
   fun _ _ _ => mq_il (i := 1) rfl rfl,
   fun _ _ => mq_push rfl,
   fun _ _ _ _ => mq_ic_ne rfl,
   fun _ _ _ => mq_al (i := 0) rfl rfl,
   fun _ _ _ => mq_dup rfl rfl,
   fun _ _ _ h0 => mq_getI rfl h0,
   fun _ _ => mq_push rfl,
   fun _ _ _ _ => mq_bi rfl,
   fun _ _ _ _ h0 => mq_putI rfl h0,
   fun _ _ _ => mq_al (i := 0) rfl rfl,
   fun _ _ h0 => mq_cVv (na := 0) rfl rfl (Nat.le_of_ble_eq_true rfl) (Nat.le_of_ble_eq_true rfl) h0,
   fun _ _ _ => mq_al (i := 0) rfl rfl,
   fun _ _ _ => mq_il (i := 1) rfl rfl,
   fun _ _ => mq_push rfl,
   fun _ _ _ _ => mq_ic_ne rfl,
   fun _ _ => mq_push rfl,
   fun _ _ => mq_go rfl,
   fun _ _ => mq_push rfl,
   fun _ _ => mq_push rfl,
   fun _ _ _ _ h0 => mq_cVv (na := 2) rfl rfl (Nat.le_of_ble_eq_true rfl) (Nat.le_of_ble_eq_true rfl) h0,
   fun _ _ _ => mq_al (i := 0) rfl rfl,
   fun _ _ _ h0 => mq_getI rfl h0,
   fun _ _ => mq_push rfl,
   fun _ _ _ _ => mq_ic_ne rfl,
   fun _ _ _ => mq_al (i := 0) rfl rfl,
   fun _ _ h0 => mq_cVr (na := 0) rfl rfl (Nat.le_of_ble_eq_true rfl) (Nat.le_of_ble_eq_true rfl) h0,
   fun _ _ => mq_go rfl,
   fun _ _ => mq_push rfl,
   fun _ _ _ _ => mq_is (i := 1) rfl rfl rfl,
   fun _ _ => mq_go rfl,
   fun _ => mq_rv rfl⟩
theorem hX12_term_21 (d n : Nat) (I L : mm_I) (P : mm_P) : ∀ (st : List mm_V) z (l0 : mm_V), mm_E d 162 21 [l0, (.inl z)] [] st n I L P = mm_E d 162 22 [l0, (.inl z)] [] ((.inl z) :: st) n I L P := fun _ _ _ => mq_il (i := 1) rfl rfl
theorem eX12_term (d n : Nat) (I L : mm_I) (P : mm_P) (x0 : Option Nat) : mm_rn (d + 1) 162 [.inr (.inr x0)] n I L P = mm_E d 162 0 [.inr (.inr x0), mm_junk] [] [] n I L P := rfl

set_option maxRecDepth 20000 in
set_option maxHeartbeats 8000000 in
theorem kX12_sum (d n : Nat) (I L : mm_I) (P : mm_P) :
  (∀ (st : List mm_V) z (l1 : mm_V), mm_E d 163 0 [(.inr (.inr z)), l1] [] st n I L P = mm_E d 163 1 [(.inr (.inr z)), l1] [] ((.inr (.inr z)) :: st) n I L P) ∧
  (∀ (lv : List mm_V) a, (mm_ok n a 12) → mm_E d 163 1 lv [] (.inr (.inr (some a)) :: []) n I L P = mm_kv d 163 4 lv [] [] n (mm_rn d 162 [.inr (.inr (some a))] n I L P)) ∧
  (∀ (st : List mm_V) z (l1 : mm_V), mm_E d 163 4 [(.inr (.inr z)), l1] [] st n I L P = mm_E d 163 5 [(.inr (.inr z)), l1] [] ((.inr (.inr z)) :: st) n I L P) ∧
  (∀ (lv : List mm_V) (st : List mm_V) a, (mm_ok n a 12) → mm_E d 163 5 lv [] (.inr (.inr (some a)) :: st) n I L P = mm_E d 163 8 lv [] (.inl (I a 4) :: st) n I L P) ∧
  (∀ (lv : List mm_V) (st : List mm_V), mm_E d 163 8 lv [] st n I L P = mm_E d 163 9 lv [] (.inl (-1) :: st) n I L P) ∧
  (∀ (lv : List mm_V) (st : List mm_V) a b, mm_E d 163 9 lv [] (.inl b :: .inl a :: st) n I L P = if a = b then mm_E d 163 12 lv [] st n I L P else mm_E d 163 19 lv [] st n I L P) ∧
  (∀ (st : List mm_V) z (l1 : mm_V), mm_E d 163 12 [(.inr (.inr z)), l1] [] st n I L P = mm_E d 163 13 [(.inr (.inr z)), l1] [] ((.inr (.inr z)) :: st) n I L P) ∧
  (∀ (lv : List mm_V) a, (mm_ok n a 12) → mm_E d 163 13 lv [] (.inr (.inr (some a)) :: []) n I L P = mm_kr d 163 16 lv [] [] n (mm_rn d 153 [.inr (.inr (some a))] n I L P)) ∧
  (∀ (lv : List mm_V) (st : List mm_V), mm_E d 163 16 lv [] st n I L P = mm_E d 163 20 lv [] st n I L P) ∧
  (∀ (lv : List mm_V) (st : List mm_V), mm_E d 163 19 lv [] st n I L P = mm_E d 163 20 lv [] (.inl (-1) :: st) n I L P) ∧
  (∀ (st : List mm_V) z (l0 : mm_V) (l1 : mm_V), mm_E d 163 20 [l0, l1] [] ((.inl z) :: st) n I L P = mm_E d 163 21 [l0, (.inl z)] [] st n I L P) ∧
  (∀ (lv : List mm_V) (st : List mm_V), mm_E d 163 22 lv [] st n I L P = mm_E d 163 24 lv [] (.inl 43 :: st) n I L P) ∧
  (∀ (lv : List mm_V) (st : List mm_V) a b, mm_E d 163 24 lv [] (.inl b :: .inl a :: st) n I L P = if a = b then mm_E d 163 33 lv [] st n I L P else mm_E d 163 27 lv [] st n I L P) ∧
  (∀ (st : List mm_V) z (l0 : mm_V), mm_E d 163 27 [l0, (.inl z)] [] st n I L P = mm_E d 163 28 [l0, (.inl z)] [] ((.inl z) :: st) n I L P) ∧
  (∀ (lv : List mm_V) (st : List mm_V), mm_E d 163 28 lv [] st n I L P = mm_E d 163 30 lv [] (.inl 45 :: st) n I L P) ∧
  (∀ (lv : List mm_V) (st : List mm_V) a b, mm_E d 163 30 lv [] (.inl b :: .inl a :: st) n I L P = if a = b then mm_E d 163 33 lv [] st n I L P else mm_E d 163 83 lv [] st n I L P) ∧
  (∀ (st : List mm_V) z (l1 : mm_V), mm_E d 163 33 [(.inr (.inr z)), l1] [] st n I L P = mm_E d 163 34 [(.inr (.inr z)), l1] [] ((.inr (.inr z)) :: st) n I L P) ∧
  (∀ (lv : List mm_V) (st : List mm_V) a, mm_E d 163 34 lv [] ((.inr (.inr a)) :: st) n I L P = mm_E d 163 35 lv [] ((.inr (.inr a)) :: (.inr (.inr a)) :: st) n I L P) ∧
  (∀ (lv : List mm_V) (st : List mm_V) a, (mm_ok n a 12) → mm_E d 163 35 lv [] (.inr (.inr (some a)) :: st) n I L P = mm_E d 163 38 lv [] (.inl (I a 3) :: st) n I L P) ∧
  (∀ (lv : List mm_V) (st : List mm_V), mm_E d 163 38 lv [] st n I L P = mm_E d 163 39 lv [] (.inl 1 :: st) n I L P) ∧
  (∀ (lv : List mm_V) (st : List mm_V) a b, mm_E d 163 39 lv [] (.inl b :: .inl a :: st) n I L P = mm_E d 163 40 lv [] (.inl (mm_add a b) :: st) n I L P) ∧
  (∀ (lv : List mm_V) (st : List mm_V) a z, (mm_ok n a 12) → mm_E d 163 40 lv [] (.inl z :: .inr (.inr (some a)) :: st) n I L P = mm_E d 163 43 lv [] st n (mm_ui I a 3 z) L P) ∧
  (∀ (st : List mm_V) z (l1 : mm_V), mm_E d 163 43 [(.inr (.inr z)), l1] [] st n I L P = mm_E d 163 44 [(.inr (.inr z)), l1] [] ((.inr (.inr z)) :: st) n I L P) ∧
  (∀ (lv : List mm_V) a, (mm_ok n a 12) → mm_E d 163 44 lv [] (.inr (.inr (some a)) :: []) n I L P = mm_kv d 163 47 lv [] [] n (mm_rn d 162 [.inr (.inr (some a))] n I L P)) ∧
  (∀ (st : List mm_V) z (l1 : mm_V), mm_E d 163 47 [(.inr (.inr z)), l1] [] st n I L P = mm_E d 163 48 [(.inr (.inr z)), l1] [] ((.inr (.inr z)) :: st) n I L P) ∧
  (∀ (st : List mm_V) z (l0 : mm_V), mm_E d 163 48 [l0, (.inl z)] [] st n I L P = mm_E d 163 49 [l0, (.inl z)] [] ((.inl z) :: st) n I L P) ∧
  (∀ (lv : List mm_V) (st : List mm_V), mm_E d 163 49 lv [] st n I L P = mm_E d 163 51 lv [] (.inl 43 :: st) n I L P) ∧
  (∀ (lv : List mm_V) (st : List mm_V) a b, mm_E d 163 51 lv [] (.inl b :: .inl a :: st) n I L P = if a = b then mm_E d 163 54 lv [] st n I L P else mm_E d 163 58 lv [] st n I L P) ∧
  (∀ (lv : List mm_V) (st : List mm_V), mm_E d 163 54 lv [] st n I L P = mm_E d 163 55 lv [] (.inl 2 :: st) n I L P) ∧
  (∀ (lv : List mm_V) (st : List mm_V), mm_E d 163 55 lv [] st n I L P = mm_E d 163 59 lv [] st n I L P) ∧
  (∀ (lv : List mm_V) (st : List mm_V), mm_E d 163 58 lv [] st n I L P = mm_E d 163 59 lv [] (.inl 3 :: st) n I L P) ∧
  (∀ (lv : List mm_V) (st : List mm_V), mm_E d 163 59 lv [] st n I L P = mm_E d 163 60 lv [] (.inl 0 :: st) n I L P) ∧
  (∀ (lv : List mm_V) a x0 x1, (mm_ok n a 12) → mm_E d 163 60 lv [] (.inl x1 :: .inl x0 :: .inr (.inr (some a)) :: []) n I L P = mm_kv d 163 63 lv [] [] n (mm_rn d 156 [.inr (.inr (some a)), .inl x0, .inl x1] n I L P)) ∧
  (∀ (st : List mm_V) z (l1 : mm_V), mm_E d 163 63 [(.inr (.inr z)), l1] [] st n I L P = mm_E d 163 64 [(.inr (.inr z)), l1] [] ((.inr (.inr z)) :: st) n I L P) ∧
  (∀ (lv : List mm_V) (st : List mm_V) a, (mm_ok n a 12) → mm_E d 163 64 lv [] (.inr (.inr (some a)) :: st) n I L P = mm_E d 163 67 lv [] (.inl (I a 4) :: st) n I L P) ∧
  (∀ (lv : List mm_V) (st : List mm_V), mm_E d 163 67 lv [] st n I L P = mm_E d 163 68 lv [] (.inl (-1) :: st) n I L P) ∧
  (∀ (lv : List mm_V) (st : List mm_V) a b, mm_E d 163 68 lv [] (.inl b :: .inl a :: st) n I L P = if a = b then mm_E d 163 71 lv [] st n I L P else mm_E d 163 78 lv [] st n I L P) ∧
  (∀ (st : List mm_V) z (l1 : mm_V), mm_E d 163 71 [(.inr (.inr z)), l1] [] st n I L P = mm_E d 163 72 [(.inr (.inr z)), l1] [] ((.inr (.inr z)) :: st) n I L P) ∧
  (∀ (lv : List mm_V) a, (mm_ok n a 12) → mm_E d 163 72 lv [] (.inr (.inr (some a)) :: []) n I L P = mm_kr d 163 75 lv [] [] n (mm_rn d 153 [.inr (.inr (some a))] n I L P)) ∧
  (∀ (lv : List mm_V) (st : List mm_V), mm_E d 163 75 lv [] st n I L P = mm_E d 163 79 lv [] st n I L P) ∧
  (∀ (lv : List mm_V) (st : List mm_V), mm_E d 163 78 lv [] st n I L P = mm_E d 163 79 lv [] (.inl (-1) :: st) n I L P) ∧
  (∀ (st : List mm_V) z (l0 : mm_V) (l1 : mm_V), mm_E d 163 79 [l0, l1] [] ((.inl z) :: st) n I L P = mm_E d 163 80 [l0, (.inl z)] [] st n I L P) ∧
  (∀ (lv : List mm_V) (st : List mm_V), mm_E d 163 80 lv [] st n I L P = mm_E d 163 21 lv [] st n I L P) ∧
  (∀ (lv : List mm_V), mm_E d 163 83 lv [] [] n I L P = some (none, n, I, L, P)) :=
  ⟨fun _ _ _ => mq_al (i := 0) rfl rfl,
   fun _ _ h0 => mq_cVv (na := 0) rfl rfl (Nat.le_of_ble_eq_true rfl) (Nat.le_of_ble_eq_true rfl) h0,
   fun _ _ _ => mq_al (i := 0) rfl rfl,
   fun _ _ _ h0 => mq_getI rfl h0,
   fun _ _ => mq_push rfl,
   fun _ _ _ _ => mq_ic_ne rfl,
   fun _ _ _ => mq_al (i := 0) rfl rfl,
   fun _ _ h0 => mq_cVr (na := 0) rfl rfl (Nat.le_of_ble_eq_true rfl) (Nat.le_of_ble_eq_true rfl) h0,
   fun _ _ => mq_go rfl,
   fun _ _ => mq_push rfl,
   fun _ _ _ _ => mq_is (i := 1) rfl rfl rfl,
   fun _ _ => mq_push rfl,
   fun _ _ _ _ => mq_ic_eq rfl,
   fun _ _ _ => mq_il (i := 1) rfl rfl,
   fun _ _ => mq_push rfl,
   fun _ _ _ _ => mq_ic_ne rfl,
   fun _ _ _ => mq_al (i := 0) rfl rfl,
   fun _ _ _ => mq_dup rfl rfl,
   fun _ _ _ h0 => mq_getI rfl h0,
   fun _ _ => mq_push rfl,
   fun _ _ _ _ => mq_bi rfl,
   fun _ _ _ _ h0 => mq_putI rfl h0,
   fun _ _ _ => mq_al (i := 0) rfl rfl,
   fun _ _ h0 => mq_cVv (na := 0) rfl rfl (Nat.le_of_ble_eq_true rfl) (Nat.le_of_ble_eq_true rfl) h0,
   fun _ _ _ => mq_al (i := 0) rfl rfl,
   fun _ _ _ => mq_il (i := 1) rfl rfl,
   fun _ _ => mq_push rfl,
   fun _ _ _ _ => mq_ic_ne rfl,
   fun _ _ => mq_push rfl,
   fun _ _ => mq_go rfl,
   fun _ _ => mq_push rfl,
   fun _ _ => mq_push rfl,
   fun _ _ _ _ h0 => mq_cVv (na := 2) rfl rfl (Nat.le_of_ble_eq_true rfl) (Nat.le_of_ble_eq_true rfl) h0,
   fun _ _ _ => mq_al (i := 0) rfl rfl,
   fun _ _ _ h0 => mq_getI rfl h0,
   fun _ _ => mq_push rfl,
   fun _ _ _ _ => mq_ic_ne rfl,
   fun _ _ _ => mq_al (i := 0) rfl rfl,
   fun _ _ h0 => mq_cVr (na := 0) rfl rfl (Nat.le_of_ble_eq_true rfl) (Nat.le_of_ble_eq_true rfl) h0,
   fun _ _ => mq_go rfl,
   fun _ _ => mq_push rfl,
   fun _ _ _ _ => mq_is (i := 1) rfl rfl rfl,
   fun _ _ => mq_go rfl,
   fun _ => mq_rv rfl⟩
theorem hX12_sum_21 (d n : Nat) (I L : mm_I) (P : mm_P) : ∀ (st : List mm_V) z (l0 : mm_V), mm_E d 163 21 [l0, (.inl z)] [] st n I L P = mm_E d 163 22 [l0, (.inl z)] [] ((.inl z) :: st) n I L P := fun _ _ _ => mq_il (i := 1) rfl rfl
theorem eX12_sum (d n : Nat) (I L : mm_I) (P : mm_P) (x0 : Option Nat) : mm_rn (d + 1) 163 [.inr (.inr x0)] n I L P = mm_E d 163 0 [.inr (.inr x0), mm_junk] [] [] n I L P := rfl

set_option maxRecDepth 20000 in
set_option maxHeartbeats 8000000 in
theorem kX12_isSign (d n : Nat) (I L : mm_I) (P : mm_P) :
  (∀ (st : List mm_V) z, mm_E d 164 0 [(.inl z)] [] st n I L P = mm_E d 164 1 [(.inl z)] [] ((.inl z) :: st) n I L P) ∧
  (∀ (lv : List mm_V) (st : List mm_V), mm_E d 164 1 lv [] st n I L P = mm_E d 164 3 lv [] (.inl 61 :: st) n I L P) ∧
  (∀ (lv : List mm_V) (st : List mm_V) a b, mm_E d 164 3 lv [] (.inl b :: .inl a :: st) n I L P = if a = b then mm_E d 164 18 lv [] st n I L P else mm_E d 164 6 lv [] st n I L P) ∧
  (∀ (st : List mm_V) z, mm_E d 164 6 [(.inl z)] [] st n I L P = mm_E d 164 7 [(.inl z)] [] ((.inl z) :: st) n I L P) ∧
  (∀ (lv : List mm_V) (st : List mm_V), mm_E d 164 7 lv [] st n I L P = mm_E d 164 9 lv [] (.inl 60 :: st) n I L P) ∧
  (∀ (lv : List mm_V) (st : List mm_V) a b, mm_E d 164 9 lv [] (.inl b :: .inl a :: st) n I L P = if a = b then mm_E d 164 18 lv [] st n I L P else mm_E d 164 12 lv [] st n I L P) ∧
  (∀ (st : List mm_V) z, mm_E d 164 12 [(.inl z)] [] st n I L P = mm_E d 164 13 [(.inl z)] [] ((.inl z) :: st) n I L P) ∧
  (∀ (lv : List mm_V) (st : List mm_V), mm_E d 164 13 lv [] st n I L P = mm_E d 164 15 lv [] (.inl 62 :: st) n I L P) ∧
  (∀ (lv : List mm_V) (st : List mm_V) a b, mm_E d 164 15 lv [] (.inl b :: .inl a :: st) n I L P = if a = b then mm_E d 164 18 lv [] st n I L P else mm_E d 164 22 lv [] st n I L P) ∧
  (∀ (lv : List mm_V) (st : List mm_V), mm_E d 164 18 lv [] st n I L P = mm_E d 164 19 lv [] (.inl 1 :: st) n I L P) ∧
  (∀ (lv : List mm_V) (st : List mm_V), mm_E d 164 19 lv [] st n I L P = mm_E d 164 23 lv [] st n I L P) ∧
  (∀ (lv : List mm_V) (st : List mm_V), mm_E d 164 22 lv [] st n I L P = mm_E d 164 23 lv [] (.inl 0 :: st) n I L P) ∧
  (∀ (lv : List mm_V) z, (0 ≤ z ∧ z < 2) → mm_E d 164 23 lv [] [.inl z] n I L P = some (some (.inl z), n, I, L, P)) :=
  ⟨fun _ _ => mq_il (i := 0) rfl rfl,
   fun _ _ => mq_push rfl,
   fun _ _ _ _ => mq_ic_eq rfl,
   fun _ _ => mq_il (i := 0) rfl rfl,
   fun _ _ => mq_push rfl,
   fun _ _ _ _ => mq_ic_eq rfl,
   fun _ _ => mq_il (i := 0) rfl rfl,
   fun _ _ => mq_push rfl,
   fun _ _ _ _ => mq_ic_ne rfl,
   fun _ _ => mq_push rfl,
   fun _ _ => mq_go rfl,
   fun _ _ => mq_push rfl,
   fun _ _ h0 => mq_rz rfl h0⟩
theorem eX12_isSign (d n : Nat) (I L : mm_I) (P : mm_P) (x0 : Int) : mm_rn (d + 1) 164 [.inl x0] n I L P = mm_E d 164 0 [.inl x0] [] [] n I L P := rfl

set_option maxRecDepth 20000 in
set_option maxHeartbeats 8000000 in
theorem kX12_compare (d n : Nat) (I L : mm_I) (P : mm_P) :
  (∀ (st : List mm_V) z (l1 : mm_V), mm_E d 165 0 [(.inr (.inr z)), l1] [] st n I L P = mm_E d 165 1 [(.inr (.inr z)), l1] [] ((.inr (.inr z)) :: st) n I L P) ∧
  (∀ (lv : List mm_V) (st : List mm_V) a, (mm_ok n a 12) → mm_E d 165 1 lv [] (.inr (.inr (some a)) :: st) n I L P = mm_E d 165 4 lv [] (.inl (I a 4) :: st) n I L P) ∧
  (∀ (lv : List mm_V) (st : List mm_V), mm_E d 165 4 lv [] st n I L P = mm_E d 165 5 lv [] (.inl (-1) :: st) n I L P) ∧
  (∀ (lv : List mm_V) (st : List mm_V) a b, mm_E d 165 5 lv [] (.inl b :: .inl a :: st) n I L P = if a = b then mm_E d 165 8 lv [] st n I L P else mm_E d 165 15 lv [] st n I L P) ∧
  (∀ (st : List mm_V) z (l1 : mm_V), mm_E d 165 8 [(.inr (.inr z)), l1] [] st n I L P = mm_E d 165 9 [(.inr (.inr z)), l1] [] ((.inr (.inr z)) :: st) n I L P) ∧
  (∀ (lv : List mm_V) a, (mm_ok n a 12) → mm_E d 165 9 lv [] (.inr (.inr (some a)) :: []) n I L P = mm_kr d 165 12 lv [] [] n (mm_rn d 153 [.inr (.inr (some a))] n I L P)) ∧
  (∀ (lv : List mm_V) (st : List mm_V), mm_E d 165 12 lv [] st n I L P = mm_E d 165 16 lv [] st n I L P) ∧
  (∀ (lv : List mm_V) (st : List mm_V), mm_E d 165 15 lv [] st n I L P = mm_E d 165 16 lv [] (.inl (-1) :: st) n I L P) ∧
  (∀ (st : List mm_V) z (l0 : mm_V) (l1 : mm_V), mm_E d 165 16 [l0, l1] [] ((.inl z) :: st) n I L P = mm_E d 165 17 [l0, (.inl z)] [] st n I L P) ∧
  (∀ (st : List mm_V) z (l0 : mm_V), mm_E d 165 17 [l0, (.inl z)] [] st n I L P = mm_E d 165 18 [l0, (.inl z)] [] ((.inl z) :: st) n I L P) ∧
  (∀ (lv : List mm_V) x0, mm_E d 165 18 lv [] (.inl x0 :: []) n I L P = mm_kr d 165 21 lv [] [] n (mm_rn d 164 [.inl x0] n I L P)) ∧
  (∀ (lv : List mm_V) (st : List mm_V) a, mm_E d 165 21 lv [] (.inl a :: st) n I L P = if a = 0 then mm_E d 165 24 lv [] st n I L P else mm_E d 165 29 lv [] st n I L P) ∧
  (∀ (st : List mm_V) z (l1 : mm_V), mm_E d 165 24 [(.inr (.inr z)), l1] [] st n I L P = mm_E d 165 25 [(.inr (.inr z)), l1] [] ((.inr (.inr z)) :: st) n I L P) ∧
  (∀ (lv : List mm_V) a, (mm_ok n a 12) → mm_E d 165 25 lv [] (.inr (.inr (some a)) :: []) n I L P = mm_kv d 165 28 lv [] [] n (mm_rn d 154 [.inr (.inr (some a))] n I L P)) ∧
  (∀ (lv : List mm_V), mm_E d 165 28 lv [] [] n I L P = some (none, n, I, L, P)) ∧
  (∀ (st : List mm_V) z (l1 : mm_V), mm_E d 165 29 [(.inr (.inr z)), l1] [] st n I L P = mm_E d 165 30 [(.inr (.inr z)), l1] [] ((.inr (.inr z)) :: st) n I L P) ∧
  (∀ (lv : List mm_V) (st : List mm_V) a, mm_E d 165 30 lv [] ((.inr (.inr a)) :: st) n I L P = mm_E d 165 31 lv [] ((.inr (.inr a)) :: (.inr (.inr a)) :: st) n I L P) ∧
  (∀ (lv : List mm_V) (st : List mm_V) a, (mm_ok n a 12) → mm_E d 165 31 lv [] (.inr (.inr (some a)) :: st) n I L P = mm_E d 165 34 lv [] (.inl (I a 3) :: st) n I L P) ∧
  (∀ (lv : List mm_V) (st : List mm_V), mm_E d 165 34 lv [] st n I L P = mm_E d 165 35 lv [] (.inl 1 :: st) n I L P) ∧
  (∀ (lv : List mm_V) (st : List mm_V) a b, mm_E d 165 35 lv [] (.inl b :: .inl a :: st) n I L P = mm_E d 165 36 lv [] (.inl (mm_add a b) :: st) n I L P) ∧
  (∀ (lv : List mm_V) (st : List mm_V) a z, (mm_ok n a 12) → mm_E d 165 36 lv [] (.inl z :: .inr (.inr (some a)) :: st) n I L P = mm_E d 165 39 lv [] st n (mm_ui I a 3 z) L P) ∧
  (∀ (st : List mm_V) z (l1 : mm_V), mm_E d 165 39 [(.inr (.inr z)), l1] [] st n I L P = mm_E d 165 40 [(.inr (.inr z)), l1] [] ((.inr (.inr z)) :: st) n I L P) ∧
  (∀ (lv : List mm_V) a, (mm_ok n a 12) → mm_E d 165 40 lv [] (.inr (.inr (some a)) :: []) n I L P = mm_kv d 165 43 lv [] [] n (mm_rn d 163 [.inr (.inr (some a))] n I L P)) ∧
  (∀ (st : List mm_V) z (l1 : mm_V), mm_E d 165 43 [(.inr (.inr z)), l1] [] st n I L P = mm_E d 165 44 [(.inr (.inr z)), l1] [] ((.inr (.inr z)) :: st) n I L P) ∧
  (∀ (st : List mm_V) z (l0 : mm_V), mm_E d 165 44 [l0, (.inl z)] [] st n I L P = mm_E d 165 45 [l0, (.inl z)] [] ((.inl z) :: st) n I L P) ∧
  (∀ (lv : List mm_V) (st : List mm_V), mm_E d 165 45 lv [] st n I L P = mm_E d 165 47 lv [] (.inl 61 :: st) n I L P) ∧
  (∀ (lv : List mm_V) (st : List mm_V) a b, mm_E d 165 47 lv [] (.inl b :: .inl a :: st) n I L P = if a = b then mm_E d 165 50 lv [] st n I L P else mm_E d 165 55 lv [] st n I L P) ∧
  (∀ (lv : List mm_V) (st : List mm_V), mm_E d 165 50 lv [] st n I L P = mm_E d 165 52 lv [] (.inl 6 :: st) n I L P) ∧
  (∀ (lv : List mm_V) (st : List mm_V), mm_E d 165 52 lv [] st n I L P = mm_E d 165 68 lv [] st n I L P) ∧
  (∀ (st : List mm_V) z (l0 : mm_V), mm_E d 165 55 [l0, (.inl z)] [] st n I L P = mm_E d 165 56 [l0, (.inl z)] [] ((.inl z) :: st) n I L P) ∧
  (∀ (lv : List mm_V) (st : List mm_V), mm_E d 165 56 lv [] st n I L P = mm_E d 165 58 lv [] (.inl 60 :: st) n I L P) ∧
  (∀ (lv : List mm_V) (st : List mm_V) a b, mm_E d 165 58 lv [] (.inl b :: .inl a :: st) n I L P = if a = b then mm_E d 165 61 lv [] st n I L P else mm_E d 165 66 lv [] st n I L P) ∧
  (∀ (lv : List mm_V) (st : List mm_V), mm_E d 165 61 lv [] st n I L P = mm_E d 165 63 lv [] (.inl 7 :: st) n I L P) ∧
  (∀ (lv : List mm_V) (st : List mm_V), mm_E d 165 63 lv [] st n I L P = mm_E d 165 68 lv [] st n I L P) ∧
  (∀ (lv : List mm_V) (st : List mm_V), mm_E d 165 66 lv [] st n I L P = mm_E d 165 68 lv [] (.inl 8 :: st) n I L P) ∧
  (∀ (lv : List mm_V) (st : List mm_V), mm_E d 165 68 lv [] st n I L P = mm_E d 165 69 lv [] (.inl 0 :: st) n I L P) ∧
  (∀ (lv : List mm_V) a x0 x1, (mm_ok n a 12) → mm_E d 165 69 lv [] (.inl x1 :: .inl x0 :: .inr (.inr (some a)) :: []) n I L P = mm_kv d 165 72 lv [] [] n (mm_rn d 156 [.inr (.inr (some a)), .inl x0, .inl x1] n I L P)) ∧
  (∀ (lv : List mm_V), mm_E d 165 72 lv [] [] n I L P = some (none, n, I, L, P)) :=
  ⟨fun _ _ _ => mq_al (i := 0) rfl rfl,
   fun _ _ _ h0 => mq_getI rfl h0,
   fun _ _ => mq_push rfl,
   fun _ _ _ _ => mq_ic_ne rfl,
   fun _ _ _ => mq_al (i := 0) rfl rfl,
   fun _ _ h0 => mq_cVr (na := 0) rfl rfl (Nat.le_of_ble_eq_true rfl) (Nat.le_of_ble_eq_true rfl) h0,
   fun _ _ => mq_go rfl,
   fun _ _ => mq_push rfl,
   fun _ _ _ _ => mq_is (i := 1) rfl rfl rfl,
   fun _ _ _ => mq_il (i := 1) rfl rfl,
   fun _ _ => mq_cSr (na := 1) rfl (Nat.le_of_ble_eq_true rfl) (Nat.le_of_ble_eq_true rfl),
   fun _ _ _ => mq_if_ne rfl,
   fun _ _ _ => mq_al (i := 0) rfl rfl,
   fun _ _ h0 => mq_cVv (na := 0) rfl rfl (Nat.le_of_ble_eq_true rfl) (Nat.le_of_ble_eq_true rfl) h0,
   fun _ => mq_rv rfl,
   fun _ _ _ => mq_al (i := 0) rfl rfl,
   fun _ _ _ => mq_dup rfl rfl,
   fun _ _ _ h0 => mq_getI rfl h0,
   fun _ _ => mq_push rfl,
   fun _ _ _ _ => mq_bi rfl,
   fun _ _ _ _ h0 => mq_putI rfl h0,
   fun _ _ _ => mq_al (i := 0) rfl rfl,
   fun _ _ h0 => mq_cVv (na := 0) rfl rfl (Nat.le_of_ble_eq_true rfl) (Nat.le_of_ble_eq_true rfl) h0,
   fun _ _ _ => mq_al (i := 0) rfl rfl,
   fun _ _ _ => mq_il (i := 1) rfl rfl,
   fun _ _ => mq_push rfl,
   fun _ _ _ _ => mq_ic_ne rfl,
   fun _ _ => mq_push rfl,
   fun _ _ => mq_go rfl,
   fun _ _ _ => mq_il (i := 1) rfl rfl,
   fun _ _ => mq_push rfl,
   fun _ _ _ _ => mq_ic_ne rfl,
   fun _ _ => mq_push rfl,
   fun _ _ => mq_go rfl,
   fun _ _ => mq_push rfl,
   fun _ _ => mq_push rfl,
   fun _ _ _ _ h0 => mq_cVv (na := 2) rfl rfl (Nat.le_of_ble_eq_true rfl) (Nat.le_of_ble_eq_true rfl) h0,
   fun _ => mq_rv rfl⟩
theorem eX12_compare (d n : Nat) (I L : mm_I) (P : mm_P) (x0 : Option Nat) : mm_rn (d + 1) 165 [.inr (.inr x0)] n I L P = mm_E d 165 0 [.inr (.inr x0), mm_junk] [] [] n I L P := rfl

set_option maxRecDepth 20000 in
set_option maxHeartbeats 8000000 in
theorem kX12_unit (d n : Nat) (I L : mm_I) (P : mm_P) :
  (∀ (st : List mm_V) z (l1 : mm_V), mm_E d 166 0 [(.inr (.inr z)), l1] [] st n I L P = mm_E d 166 1 [(.inr (.inr z)), l1] [] ((.inr (.inr z)) :: st) n I L P) ∧
  (∀ (lv : List mm_V) a, (mm_ok n a 12) → mm_E d 166 1 lv [] (.inr (.inr (some a)) :: []) n I L P = mm_kr d 166 4 lv [] [] n (mm_rn d 153 [.inr (.inr (some a))] n I L P)) ∧
  (∀ (st : List mm_V) z (l0 : mm_V) (l1 : mm_V), mm_E d 166 4 [l0, l1] [] ((.inl z) :: st) n I L P = mm_E d 166 5 [l0, (.inl z)] [] st n I L P) ∧
  (∀ (st : List mm_V) z (l0 : mm_V), mm_E d 166 5 [l0, (.inl z)] [] st n I L P = mm_E d 166 6 [l0, (.inl z)] [] ((.inl z) :: st) n I L P) ∧
  (∀ (lv : List mm_V) (st : List mm_V), mm_E d 166 6 lv [] st n I L P = mm_E d 166 8 lv [] (.inl 33 :: st) n I L P) ∧
  (∀ (lv : List mm_V) (st : List mm_V) a b, mm_E d 166 8 lv [] (.inl b :: .inl a :: st) n I L P = if a = b then mm_E d 166 11 lv [] st n I L P else mm_E d 166 47 lv [] st n I L P) ∧
  (∀ (st : List mm_V) z (l1 : mm_V), mm_E d 166 11 [(.inr (.inr z)), l1] [] st n I L P = mm_E d 166 12 [(.inr (.inr z)), l1] [] ((.inr (.inr z)) :: st) n I L P) ∧
  (∀ (lv : List mm_V) a, (mm_ok n a 12) → mm_E d 166 12 lv [] (.inr (.inr (some a)) :: []) n I L P = mm_kv d 166 15 lv [] [] n (mm_rn d 158 [.inr (.inr (some a))] n I L P)) ∧
  (∀ (st : List mm_V) z (l1 : mm_V), mm_E d 166 15 [(.inr (.inr z)), l1] [] st n I L P = mm_E d 166 16 [(.inr (.inr z)), l1] [] ((.inr (.inr z)) :: st) n I L P) ∧
  (∀ (lv : List mm_V) (st : List mm_V) a, (mm_ok n a 12) → mm_E d 166 16 lv [] (.inr (.inr (some a)) :: st) n I L P = mm_E d 166 19 lv [] (.inl (I a 4) :: st) n I L P) ∧
  (∀ (lv : List mm_V) (st : List mm_V), mm_E d 166 19 lv [] st n I L P = mm_E d 166 20 lv [] (.inl (-1) :: st) n I L P) ∧
  (∀ (lv : List mm_V) (st : List mm_V) a b, mm_E d 166 20 lv [] (.inl b :: .inl a :: st) n I L P = if a = b then mm_E d 166 23 lv [] st n I L P else mm_E d 166 94 lv [] st n I L P) ∧
  (∀ (st : List mm_V) z (l1 : mm_V), mm_E d 166 23 [(.inr (.inr z)), l1] [] st n I L P = mm_E d 166 24 [(.inr (.inr z)), l1] [] ((.inr (.inr z)) :: st) n I L P) ∧
  (∀ (lv : List mm_V) a, (mm_ok n a 12) → mm_E d 166 24 lv [] (.inr (.inr (some a)) :: []) n I L P = mm_kv d 166 27 lv [] [] n (mm_rn d 166 [.inr (.inr (some a))] n I L P)) ∧
  (∀ (st : List mm_V) z (l1 : mm_V), mm_E d 166 27 [(.inr (.inr z)), l1] [] st n I L P = mm_E d 166 28 [(.inr (.inr z)), l1] [] ((.inr (.inr z)) :: st) n I L P) ∧
  (∀ (lv : List mm_V) (st : List mm_V), mm_E d 166 28 lv [] st n I L P = mm_E d 166 30 lv [] (.inl 9 :: st) n I L P) ∧
  (∀ (lv : List mm_V) (st : List mm_V), mm_E d 166 30 lv [] st n I L P = mm_E d 166 31 lv [] (.inl 0 :: st) n I L P) ∧
  (∀ (lv : List mm_V) a x0 x1, (mm_ok n a 12) → mm_E d 166 31 lv [] (.inl x1 :: .inl x0 :: .inr (.inr (some a)) :: []) n I L P = mm_kv d 166 34 lv [] [] n (mm_rn d 156 [.inr (.inr (some a)), .inl x0, .inl x1] n I L P)) ∧
  (∀ (st : List mm_V) z (l1 : mm_V), mm_E d 166 34 [(.inr (.inr z)), l1] [] st n I L P = mm_E d 166 35 [(.inr (.inr z)), l1] [] ((.inr (.inr z)) :: st) n I L P) ∧
  (∀ (lv : List mm_V) (st : List mm_V) a, mm_E d 166 35 lv [] ((.inr (.inr a)) :: st) n I L P = mm_E d 166 36 lv [] ((.inr (.inr a)) :: (.inr (.inr a)) :: st) n I L P) ∧
  (∀ (lv : List mm_V) (st : List mm_V) a, (mm_ok n a 12) → mm_E d 166 36 lv [] (.inr (.inr (some a)) :: st) n I L P = mm_E d 166 39 lv [] (.inl (I a 5) :: st) n I L P) ∧
  (∀ (lv : List mm_V) (st : List mm_V), mm_E d 166 39 lv [] st n I L P = mm_E d 166 40 lv [] (.inl 1 :: st) n I L P) ∧
  (∀ (lv : List mm_V) (st : List mm_V) a b, mm_E d 166 40 lv [] (.inl b :: .inl a :: st) n I L P = mm_E d 166 41 lv [] (.inl (mm_sub a b) :: st) n I L P) ∧
  (∀ (lv : List mm_V) (st : List mm_V) a z, (mm_ok n a 12) → mm_E d 166 41 lv [] (.inl z :: .inr (.inr (some a)) :: st) n I L P = mm_E d 166 44 lv [] st n (mm_ui I a 5 z) L P) ∧
  (∀ (lv : List mm_V) (st : List mm_V), mm_E d 166 44 lv [] st n I L P = mm_E d 166 94 lv [] st n I L P) ∧
  (∀ (st : List mm_V) z (l0 : mm_V), mm_E d 166 47 [l0, (.inl z)] [] st n I L P = mm_E d 166 48 [l0, (.inl z)] [] ((.inl z) :: st) n I L P) ∧
  (∀ (lv : List mm_V) (st : List mm_V), mm_E d 166 48 lv [] st n I L P = mm_E d 166 50 lv [] (.inl 40 :: st) n I L P) ∧
  (∀ (lv : List mm_V) (st : List mm_V) a b, mm_E d 166 50 lv [] (.inl b :: .inl a :: st) n I L P = if a = b then mm_E d 166 53 lv [] st n I L P else mm_E d 166 78 lv [] st n I L P) ∧
  (∀ (st : List mm_V) z (l1 : mm_V), mm_E d 166 53 [(.inr (.inr z)), l1] [] st n I L P = mm_E d 166 54 [(.inr (.inr z)), l1] [] ((.inr (.inr z)) :: st) n I L P) ∧
  (∀ (lv : List mm_V) a, (mm_ok n a 12) → mm_E d 166 54 lv [] (.inr (.inr (some a)) :: []) n I L P = mm_kv d 166 57 lv [] [] n (mm_rn d 158 [.inr (.inr (some a))] n I L P)) ∧
  (∀ (st : List mm_V) z (l1 : mm_V), mm_E d 166 57 [(.inr (.inr z)), l1] [] st n I L P = mm_E d 166 58 [(.inr (.inr z)), l1] [] ((.inr (.inr z)) :: st) n I L P) ∧
  (∀ (lv : List mm_V) (st : List mm_V) a, (mm_ok n a 12) → mm_E d 166 58 lv [] (.inr (.inr (some a)) :: st) n I L P = mm_E d 166 61 lv [] (.inl (I a 4) :: st) n I L P) ∧
  (∀ (lv : List mm_V) (st : List mm_V), mm_E d 166 61 lv [] st n I L P = mm_E d 166 62 lv [] (.inl (-1) :: st) n I L P) ∧
  (∀ (lv : List mm_V) (st : List mm_V) a b, mm_E d 166 62 lv [] (.inl b :: .inl a :: st) n I L P = if a = b then mm_E d 166 65 lv [] st n I L P else mm_E d 166 94 lv [] st n I L P) ∧
  (∀ (st : List mm_V) z (l1 : mm_V), mm_E d 166 65 [(.inr (.inr z)), l1] [] st n I L P = mm_E d 166 66 [(.inr (.inr z)), l1] [] ((.inr (.inr z)) :: st) n I L P) ∧
  (∀ (lv : List mm_V) a, (mm_ok n a 12) → mm_E d 166 66 lv [] (.inr (.inr (some a)) :: []) n I L P = mm_kv d 166 69 lv [] [] n (mm_rn d 169 [.inr (.inr (some a))] n I L P)) ∧
  (∀ (st : List mm_V) z (l1 : mm_V), mm_E d 166 69 [(.inr (.inr z)), l1] [] st n I L P = mm_E d 166 70 [(.inr (.inr z)), l1] [] ((.inr (.inr z)) :: st) n I L P) ∧
  (∀ (lv : List mm_V) (st : List mm_V), mm_E d 166 70 lv [] st n I L P = mm_E d 166 72 lv [] (.inl 41 :: st) n I L P) ∧
  (∀ (lv : List mm_V) a x0, (mm_ok n a 12) → mm_E d 166 72 lv [] (.inl x0 :: .inr (.inr (some a)) :: []) n I L P = mm_kv d 166 75 lv [] [] n (mm_rn d 159 [.inr (.inr (some a)), .inl x0] n I L P)) ∧
  (∀ (lv : List mm_V) (st : List mm_V), mm_E d 166 75 lv [] st n I L P = mm_E d 166 94 lv [] st n I L P) ∧
  (∀ (st : List mm_V) z (l1 : mm_V), mm_E d 166 78 [(.inr (.inr z)), l1] [] st n I L P = mm_E d 166 79 [(.inr (.inr z)), l1] [] ((.inr (.inr z)) :: st) n I L P) ∧
  (∀ (lv : List mm_V) a, (mm_ok n a 12) → mm_E d 166 79 lv [] (.inr (.inr (some a)) :: []) n I L P = mm_kv d 166 82 lv [] [] n (mm_rn d 163 [.inr (.inr (some a))] n I L P)) ∧
  (∀ (st : List mm_V) z (l1 : mm_V), mm_E d 166 82 [(.inr (.inr z)), l1] [] st n I L P = mm_E d 166 83 [(.inr (.inr z)), l1] [] ((.inr (.inr z)) :: st) n I L P) ∧
  (∀ (lv : List mm_V) (st : List mm_V) a, (mm_ok n a 12) → mm_E d 166 83 lv [] (.inr (.inr (some a)) :: st) n I L P = mm_E d 166 86 lv [] (.inl (I a 4) :: st) n I L P) ∧
  (∀ (lv : List mm_V) (st : List mm_V), mm_E d 166 86 lv [] st n I L P = mm_E d 166 87 lv [] (.inl (-1) :: st) n I L P) ∧
  (∀ (lv : List mm_V) (st : List mm_V) a b, mm_E d 166 87 lv [] (.inl b :: .inl a :: st) n I L P = if a = b then mm_E d 166 90 lv [] st n I L P else mm_E d 166 94 lv [] st n I L P) ∧
  (∀ (st : List mm_V) z (l1 : mm_V), mm_E d 166 90 [(.inr (.inr z)), l1] [] st n I L P = mm_E d 166 91 [(.inr (.inr z)), l1] [] ((.inr (.inr z)) :: st) n I L P) ∧
  (∀ (lv : List mm_V) a, (mm_ok n a 12) → mm_E d 166 91 lv [] (.inr (.inr (some a)) :: []) n I L P = mm_kv d 166 94 lv [] [] n (mm_rn d 165 [.inr (.inr (some a))] n I L P)) ∧
  (∀ (lv : List mm_V), mm_E d 166 94 lv [] [] n I L P = some (none, n, I, L, P)) :=
  ⟨fun _ _ _ => mq_al (i := 0) rfl rfl,
   fun _ _ h0 => mq_cVr (na := 0) rfl rfl (Nat.le_of_ble_eq_true rfl) (Nat.le_of_ble_eq_true rfl) h0,
   fun _ _ _ _ => mq_is (i := 1) rfl rfl rfl,
   fun _ _ _ => mq_il (i := 1) rfl rfl,
   fun _ _ => mq_push rfl,
   fun _ _ _ _ => mq_ic_ne rfl,
   fun _ _ _ => mq_al (i := 0) rfl rfl,
   fun _ _ h0 => mq_cVv (na := 0) rfl rfl (Nat.le_of_ble_eq_true rfl) (Nat.le_of_ble_eq_true rfl) h0,
   fun _ _ _ => mq_al (i := 0) rfl rfl,
   fun _ _ _ h0 => mq_getI rfl h0,
   fun _ _ => mq_push rfl,
   fun _ _ _ _ => mq_ic_ne rfl,
   fun _ _ _ => mq_al (i := 0) rfl rfl,
   fun _ _ h0 => mq_cVv (na := 0) rfl rfl (Nat.le_of_ble_eq_true rfl) (Nat.le_of_ble_eq_true rfl) h0,
   fun _ _ _ => mq_al (i := 0) rfl rfl,
   fun _ _ => mq_push rfl,
   fun _ _ => mq_push rfl,
   fun _ _ _ _ h0 => mq_cVv (na := 2) rfl rfl (Nat.le_of_ble_eq_true rfl) (Nat.le_of_ble_eq_true rfl) h0,
   fun _ _ _ => mq_al (i := 0) rfl rfl,
   fun _ _ _ => mq_dup rfl rfl,
   fun _ _ _ h0 => mq_getI rfl h0,
   fun _ _ => mq_push rfl,
   fun _ _ _ _ => mq_bi rfl,
   fun _ _ _ _ h0 => mq_putI rfl h0,
   fun _ _ => mq_go rfl,
   fun _ _ _ => mq_il (i := 1) rfl rfl,
   fun _ _ => mq_push rfl,
   fun _ _ _ _ => mq_ic_ne rfl,
   fun _ _ _ => mq_al (i := 0) rfl rfl,
   fun _ _ h0 => mq_cVv (na := 0) rfl rfl (Nat.le_of_ble_eq_true rfl) (Nat.le_of_ble_eq_true rfl) h0,
   fun _ _ _ => mq_al (i := 0) rfl rfl,
   fun _ _ _ h0 => mq_getI rfl h0,
   fun _ _ => mq_push rfl,
   fun _ _ _ _ => mq_ic_ne rfl,
   fun _ _ _ => mq_al (i := 0) rfl rfl,
   fun _ _ h0 => mq_cVv (na := 0) rfl rfl (Nat.le_of_ble_eq_true rfl) (Nat.le_of_ble_eq_true rfl) h0,
   fun _ _ _ => mq_al (i := 0) rfl rfl,
   fun _ _ => mq_push rfl,
   fun _ _ _ h0 => mq_cVv (na := 1) rfl rfl (Nat.le_of_ble_eq_true rfl) (Nat.le_of_ble_eq_true rfl) h0,
   fun _ _ => mq_go rfl,
   fun _ _ _ => mq_al (i := 0) rfl rfl,
   fun _ _ h0 => mq_cVv (na := 0) rfl rfl (Nat.le_of_ble_eq_true rfl) (Nat.le_of_ble_eq_true rfl) h0,
   fun _ _ _ => mq_al (i := 0) rfl rfl,
   fun _ _ _ h0 => mq_getI rfl h0,
   fun _ _ => mq_push rfl,
   fun _ _ _ _ => mq_ic_ne rfl,
   fun _ _ _ => mq_al (i := 0) rfl rfl,
   fun _ _ h0 => mq_cVv (na := 0) rfl rfl (Nat.le_of_ble_eq_true rfl) (Nat.le_of_ble_eq_true rfl) h0,
   fun _ => mq_rv rfl⟩
theorem eX12_unit (d n : Nat) (I L : mm_I) (P : mm_P) (x0 : Option Nat) : mm_rn (d + 1) 166 [.inr (.inr x0)] n I L P = mm_E d 166 0 [.inr (.inr x0), mm_junk] [] [] n I L P := rfl

set_option maxRecDepth 20000 in
set_option maxHeartbeats 8000000 in
theorem kX12_goOnAnd (d n : Nat) (I L : mm_I) (P : mm_P) :
  (∀ (lv : List mm_V) (st : List mm_V) a, (mm_ok n a 12) → mm_E d 167 1 lv [] (.inr (.inr (some a)) :: st) n I L P = mm_E d 167 4 lv [] (.inl (I a 4) :: st) n I L P) ∧
  (∀ (lv : List mm_V) (st : List mm_V), mm_E d 167 4 lv [] st n I L P = mm_E d 167 5 lv [] (.inl (-1) :: st) n I L P) ∧
  (∀ (lv : List mm_V) (st : List mm_V) a b, mm_E d 167 5 lv [] (.inl b :: .inl a :: st) n I L P = if a = b then mm_E d 167 8 lv [] st n I L P else mm_E d 167 41 lv [] st n I L P) ∧
  (∀ (st : List mm_V) z, mm_E d 167 8 [(.inr (.inr z))] [] st n I L P = mm_E d 167 9 [(.inr (.inr z))] [] ((.inr (.inr z)) :: st) n I L P) ∧
  (∀ (lv : List mm_V) a, (mm_ok n a 12) → mm_E d 167 9 lv [] (.inr (.inr (some a)) :: []) n I L P = mm_kr d 167 12 lv [] [] n (mm_rn d 153 [.inr (.inr (some a))] n I L P)) ∧
  (∀ (lv : List mm_V) (st : List mm_V), mm_E d 167 12 lv [] st n I L P = mm_E d 167 14 lv [] (.inl 38 :: st) n I L P) ∧
  (∀ (lv : List mm_V) (st : List mm_V) a b, mm_E d 167 14 lv [] (.inl b :: .inl a :: st) n I L P = if a = b then mm_E d 167 17 lv [] st n I L P else mm_E d 167 41 lv [] st n I L P) ∧
  (∀ (st : List mm_V) z, mm_E d 167 17 [(.inr (.inr z))] [] st n I L P = mm_E d 167 18 [(.inr (.inr z))] [] ((.inr (.inr z)) :: st) n I L P) ∧
  (∀ (lv : List mm_V) (st : List mm_V) a, mm_E d 167 18 lv [] ((.inr (.inr a)) :: st) n I L P = mm_E d 167 19 lv [] ((.inr (.inr a)) :: (.inr (.inr a)) :: st) n I L P) ∧
  (∀ (lv : List mm_V) (st : List mm_V) a, (mm_ok n a 12) → mm_E d 167 19 lv [] (.inr (.inr (some a)) :: st) n I L P = mm_E d 167 22 lv [] (.inl (I a 3) :: st) n I L P) ∧
  (∀ (lv : List mm_V) (st : List mm_V), mm_E d 167 22 lv [] st n I L P = mm_E d 167 23 lv [] (.inl 1 :: st) n I L P) ∧
  (∀ (lv : List mm_V) (st : List mm_V) a b, mm_E d 167 23 lv [] (.inl b :: .inl a :: st) n I L P = mm_E d 167 24 lv [] (.inl (mm_add a b) :: st) n I L P) ∧
  (∀ (lv : List mm_V) (st : List mm_V) a z, (mm_ok n a 12) → mm_E d 167 24 lv [] (.inl z :: .inr (.inr (some a)) :: st) n I L P = mm_E d 167 27 lv [] st n (mm_ui I a 3 z) L P) ∧
  (∀ (st : List mm_V) z, mm_E d 167 27 [(.inr (.inr z))] [] st n I L P = mm_E d 167 28 [(.inr (.inr z))] [] ((.inr (.inr z)) :: st) n I L P) ∧
  (∀ (lv : List mm_V) a, (mm_ok n a 12) → mm_E d 167 28 lv [] (.inr (.inr (some a)) :: []) n I L P = mm_kv d 167 31 lv [] [] n (mm_rn d 166 [.inr (.inr (some a))] n I L P)) ∧
  (∀ (st : List mm_V) z, mm_E d 167 31 [(.inr (.inr z))] [] st n I L P = mm_E d 167 32 [(.inr (.inr z))] [] ((.inr (.inr z)) :: st) n I L P) ∧
  (∀ (lv : List mm_V) (st : List mm_V), mm_E d 167 32 lv [] st n I L P = mm_E d 167 34 lv [] (.inl 10 :: st) n I L P) ∧
  (∀ (lv : List mm_V) (st : List mm_V), mm_E d 167 34 lv [] st n I L P = mm_E d 167 35 lv [] (.inl 0 :: st) n I L P) ∧
  (∀ (lv : List mm_V) a x0 x1, (mm_ok n a 12) → mm_E d 167 35 lv [] (.inl x1 :: .inl x0 :: .inr (.inr (some a)) :: []) n I L P = mm_kv d 167 38 lv [] [] n (mm_rn d 156 [.inr (.inr (some a)), .inl x0, .inl x1] n I L P)) ∧
  (∀ (lv : List mm_V) (st : List mm_V), mm_E d 167 38 lv [] st n I L P = mm_E d 167 0 lv [] st n I L P) ∧
  (∀ (lv : List mm_V), mm_E d 167 41 lv [] [] n I L P = some (none, n, I, L, P)) :=
  ⟨fun _ _ _ h0 => mq_getI rfl h0,
   fun _ _ => mq_push rfl,
   fun _ _ _ _ => mq_ic_ne rfl,
   fun _ _ => mq_al (i := 0) rfl rfl,
   fun _ _ h0 => mq_cVr (na := 0) rfl rfl (Nat.le_of_ble_eq_true rfl) (Nat.le_of_ble_eq_true rfl) h0,
   fun _ _ => mq_push rfl,
   fun _ _ _ _ => mq_ic_ne rfl,
   fun _ _ => mq_al (i := 0) rfl rfl,
   fun _ _ _ => mq_dup rfl rfl,
   fun _ _ _ h0 => mq_getI rfl h0,
   fun _ _ => mq_push rfl,
   fun _ _ _ _ => mq_bi rfl,
   fun _ _ _ _ h0 => mq_putI rfl h0,
   fun _ _ => mq_al (i := 0) rfl rfl,
   fun _ _ h0 => mq_cVv (na := 0) rfl rfl (Nat.le_of_ble_eq_true rfl) (Nat.le_of_ble_eq_true rfl) h0,
   fun _ _ => mq_al (i := 0) rfl rfl,
   fun _ _ => mq_push rfl,
   fun _ _ => mq_push rfl,
   fun _ _ _ _ h0 => mq_cVv (na := 2) rfl rfl (Nat.le_of_ble_eq_true rfl) (Nat.le_of_ble_eq_true rfl) h0,
   fun _ _ => mq_go rfl,
   fun _ => mq_rv rfl⟩
theorem hX12_goOnAnd_0 (d n : Nat) (I L : mm_I) (P : mm_P) : ∀ (st : List mm_V) z, mm_E d 167 0 [(.inr (.inr z))] [] st n I L P = mm_E d 167 1 [(.inr (.inr z))] [] ((.inr (.inr z)) :: st) n I L P := fun _ _ => mq_al (i := 0) rfl rfl
theorem eX12_goOnAnd (d n : Nat) (I L : mm_I) (P : mm_P) (x0 : Option Nat) : mm_rn (d + 1) 167 [.inr (.inr x0)] n I L P = mm_E d 167 0 [.inr (.inr x0)] [] [] n I L P := rfl

set_option maxRecDepth 20000 in
set_option maxHeartbeats 8000000 in
theorem kX12_goOnOr (d n : Nat) (I L : mm_I) (P : mm_P) :
  (∀ (lv : List mm_V) (st : List mm_V) a, (mm_ok n a 12) → mm_E d 168 1 lv [] (.inr (.inr (some a)) :: st) n I L P = mm_E d 168 4 lv [] (.inl (I a 4) :: st) n I L P) ∧
  (∀ (lv : List mm_V) (st : List mm_V), mm_E d 168 4 lv [] st n I L P = mm_E d 168 5 lv [] (.inl (-1) :: st) n I L P) ∧
  (∀ (lv : List mm_V) (st : List mm_V) a b, mm_E d 168 5 lv [] (.inl b :: .inl a :: st) n I L P = if a = b then mm_E d 168 8 lv [] st n I L P else mm_E d 168 45 lv [] st n I L P) ∧
  (∀ (st : List mm_V) z, mm_E d 168 8 [(.inr (.inr z))] [] st n I L P = mm_E d 168 9 [(.inr (.inr z))] [] ((.inr (.inr z)) :: st) n I L P) ∧
  (∀ (lv : List mm_V) a, (mm_ok n a 12) → mm_E d 168 9 lv [] (.inr (.inr (some a)) :: []) n I L P = mm_kr d 168 12 lv [] [] n (mm_rn d 153 [.inr (.inr (some a))] n I L P)) ∧
  (∀ (lv : List mm_V) (st : List mm_V), mm_E d 168 12 lv [] st n I L P = mm_E d 168 14 lv [] (.inl 124 :: st) n I L P) ∧
  (∀ (lv : List mm_V) (st : List mm_V) a b, mm_E d 168 14 lv [] (.inl b :: .inl a :: st) n I L P = if a = b then mm_E d 168 17 lv [] st n I L P else mm_E d 168 45 lv [] st n I L P) ∧
  (∀ (st : List mm_V) z, mm_E d 168 17 [(.inr (.inr z))] [] st n I L P = mm_E d 168 18 [(.inr (.inr z))] [] ((.inr (.inr z)) :: st) n I L P) ∧
  (∀ (lv : List mm_V) (st : List mm_V) a, mm_E d 168 18 lv [] ((.inr (.inr a)) :: st) n I L P = mm_E d 168 19 lv [] ((.inr (.inr a)) :: (.inr (.inr a)) :: st) n I L P) ∧
  (∀ (lv : List mm_V) (st : List mm_V) a, (mm_ok n a 12) → mm_E d 168 19 lv [] (.inr (.inr (some a)) :: st) n I L P = mm_E d 168 22 lv [] (.inl (I a 3) :: st) n I L P) ∧
  (∀ (lv : List mm_V) (st : List mm_V), mm_E d 168 22 lv [] st n I L P = mm_E d 168 23 lv [] (.inl 1 :: st) n I L P) ∧
  (∀ (lv : List mm_V) (st : List mm_V) a b, mm_E d 168 23 lv [] (.inl b :: .inl a :: st) n I L P = mm_E d 168 24 lv [] (.inl (mm_add a b) :: st) n I L P) ∧
  (∀ (lv : List mm_V) (st : List mm_V) a z, (mm_ok n a 12) → mm_E d 168 24 lv [] (.inl z :: .inr (.inr (some a)) :: st) n I L P = mm_E d 168 27 lv [] st n (mm_ui I a 3 z) L P) ∧
  (∀ (st : List mm_V) z, mm_E d 168 27 [(.inr (.inr z))] [] st n I L P = mm_E d 168 28 [(.inr (.inr z))] [] ((.inr (.inr z)) :: st) n I L P) ∧
  (∀ (lv : List mm_V) a, (mm_ok n a 12) → mm_E d 168 28 lv [] (.inr (.inr (some a)) :: []) n I L P = mm_kv d 168 31 lv [] [] n (mm_rn d 166 [.inr (.inr (some a))] n I L P)) ∧
  (∀ (st : List mm_V) z, mm_E d 168 31 [(.inr (.inr z))] [] st n I L P = mm_E d 168 32 [(.inr (.inr z))] [] ((.inr (.inr z)) :: st) n I L P) ∧
  (∀ (lv : List mm_V) a, (mm_ok n a 12) → mm_E d 168 32 lv [] (.inr (.inr (some a)) :: []) n I L P = mm_kv d 168 35 lv [] [] n (mm_rn d 167 [.inr (.inr (some a))] n I L P)) ∧
  (∀ (st : List mm_V) z, mm_E d 168 35 [(.inr (.inr z))] [] st n I L P = mm_E d 168 36 [(.inr (.inr z))] [] ((.inr (.inr z)) :: st) n I L P) ∧
  (∀ (lv : List mm_V) (st : List mm_V), mm_E d 168 36 lv [] st n I L P = mm_E d 168 38 lv [] (.inl 11 :: st) n I L P) ∧
  (∀ (lv : List mm_V) (st : List mm_V), mm_E d 168 38 lv [] st n I L P = mm_E d 168 39 lv [] (.inl 0 :: st) n I L P) ∧
  (∀ (lv : List mm_V) a x0 x1, (mm_ok n a 12) → mm_E d 168 39 lv [] (.inl x1 :: .inl x0 :: .inr (.inr (some a)) :: []) n I L P = mm_kv d 168 42 lv [] [] n (mm_rn d 156 [.inr (.inr (some a)), .inl x0, .inl x1] n I L P)) ∧
  (∀ (lv : List mm_V) (st : List mm_V), mm_E d 168 42 lv [] st n I L P = mm_E d 168 0 lv [] st n I L P) ∧
  (∀ (lv : List mm_V), mm_E d 168 45 lv [] [] n I L P = some (none, n, I, L, P)) :=
  ⟨fun _ _ _ h0 => mq_getI rfl h0,
   fun _ _ => mq_push rfl,
   fun _ _ _ _ => mq_ic_ne rfl,
   fun _ _ => mq_al (i := 0) rfl rfl,
   fun _ _ h0 => mq_cVr (na := 0) rfl rfl (Nat.le_of_ble_eq_true rfl) (Nat.le_of_ble_eq_true rfl) h0,
   fun _ _ => mq_push rfl,
   fun _ _ _ _ => mq_ic_ne rfl,
   fun _ _ => mq_al (i := 0) rfl rfl,
   fun _ _ _ => mq_dup rfl rfl,
   fun _ _ _ h0 => mq_getI rfl h0,
   fun _ _ => mq_push rfl,
   fun _ _ _ _ => mq_bi rfl,
   fun _ _ _ _ h0 => mq_putI rfl h0,
   fun _ _ => mq_al (i := 0) rfl rfl,
   fun _ _ h0 => mq_cVv (na := 0) rfl rfl (Nat.le_of_ble_eq_true rfl) (Nat.le_of_ble_eq_true rfl) h0,
   fun _ _ => mq_al (i := 0) rfl rfl,
   fun _ _ h0 => mq_cVv (na := 0) rfl rfl (Nat.le_of_ble_eq_true rfl) (Nat.le_of_ble_eq_true rfl) h0,
   fun _ _ => mq_al (i := 0) rfl rfl,
   fun _ _ => mq_push rfl,
   fun _ _ => mq_push rfl,
   fun _ _ _ _ h0 => mq_cVv (na := 2) rfl rfl (Nat.le_of_ble_eq_true rfl) (Nat.le_of_ble_eq_true rfl) h0,
   fun _ _ => mq_go rfl,
   fun _ => mq_rv rfl⟩
theorem hX12_goOnOr_0 (d n : Nat) (I L : mm_I) (P : mm_P) : ∀ (st : List mm_V) z, mm_E d 168 0 [(.inr (.inr z))] [] st n I L P = mm_E d 168 1 [(.inr (.inr z))] [] ((.inr (.inr z)) :: st) n I L P := fun _ _ => mq_al (i := 0) rfl rfl
theorem eX12_goOnOr (d n : Nat) (I L : mm_I) (P : mm_P) (x0 : Option Nat) : mm_rn (d + 1) 168 [.inr (.inr x0)] n I L P = mm_E d 168 0 [.inr (.inr x0)] [] [] n I L P := rfl

set_option maxRecDepth 20000 in
set_option maxHeartbeats 8000000 in
theorem kX12_condition (d n : Nat) (I L : mm_I) (P : mm_P) :
  (∀ (st : List mm_V) z, mm_E d 169 0 [(.inr (.inr z))] [] st n I L P = mm_E d 169 1 [(.inr (.inr z))] [] ((.inr (.inr z)) :: st) n I L P) ∧
  (∀ (lv : List mm_V) a, (mm_ok n a 12) → mm_E d 169 1 lv [] (.inr (.inr (some a)) :: []) n I L P = mm_kv d 169 4 lv [] [] n (mm_rn d 166 [.inr (.inr (some a))] n I L P)) ∧
  (∀ (st : List mm_V) z, mm_E d 169 4 [(.inr (.inr z))] [] st n I L P = mm_E d 169 5 [(.inr (.inr z))] [] ((.inr (.inr z)) :: st) n I L P) ∧
  (∀ (lv : List mm_V) a, (mm_ok n a 12) → mm_E d 169 5 lv [] (.inr (.inr (some a)) :: []) n I L P = mm_kv d 169 8 lv [] [] n (mm_rn d 167 [.inr (.inr (some a))] n I L P)) ∧
  (∀ (st : List mm_V) z, mm_E d 169 8 [(.inr (.inr z))] [] st n I L P = mm_E d 169 9 [(.inr (.inr z))] [] ((.inr (.inr z)) :: st) n I L P) ∧
  (∀ (lv : List mm_V) a, (mm_ok n a 12) → mm_E d 169 9 lv [] (.inr (.inr (some a)) :: []) n I L P = mm_kv d 169 12 lv [] [] n (mm_rn d 168 [.inr (.inr (some a))] n I L P)) ∧
  (∀ (lv : List mm_V), mm_E d 169 12 lv [] [] n I L P = some (none, n, I, L, P)) :=
  ⟨fun _ _ => mq_al (i := 0) rfl rfl,
   fun _ _ h0 => mq_cVv (na := 0) rfl rfl (Nat.le_of_ble_eq_true rfl) (Nat.le_of_ble_eq_true rfl) h0,
   fun _ _ => mq_al (i := 0) rfl rfl,
   fun _ _ h0 => mq_cVv (na := 0) rfl rfl (Nat.le_of_ble_eq_true rfl) (Nat.le_of_ble_eq_true rfl) h0,
   fun _ _ => mq_al (i := 0) rfl rfl,
   fun _ _ h0 => mq_cVv (na := 0) rfl rfl (Nat.le_of_ble_eq_true rfl) (Nat.le_of_ble_eq_true rfl) h0,
   fun _ => mq_rv rfl⟩
theorem eX12_condition (d n : Nat) (I L : mm_I) (P : mm_P) (x0 : Option Nat) : mm_rn (d + 1) 169 [.inr (.inr x0)] n I L P = mm_E d 169 0 [.inr (.inr x0)] [] [] n I L P := rfl

set_option maxRecDepth 20000 in
set_option maxHeartbeats 8000000 in
theorem kX12_clause (d n : Nat) (I L : mm_I) (P : mm_P) :
  (∀ (lv : List mm_V) (st : List mm_V), mm_E d 170 0 lv [] st n I L P = mm_E d 170 3 lv [] (.inl 140 :: st) n I L P) ∧
  (∀ (st : List mm_V) z (l1 : mm_V) (l2 : mm_V), mm_E d 170 3 [(.inr (.inr z)), l1, l2] [] st n I L P = mm_E d 170 4 [(.inr (.inr z)), l1, l2] [] ((.inr (.inr z)) :: st) n I L P) ∧
  (∀ (lv : List mm_V) (st : List mm_V) a, (mm_ok n a 12) → mm_E d 170 4 lv [] (.inr (.inr (some a)) :: st) n I L P = mm_E d 170 7 lv [] (.inl (I a 14) :: st) n I L P) ∧
  (∀ (lv : List mm_V) (st : List mm_V) a b, mm_E d 170 7 lv [] (.inl b :: .inl a :: st) n I L P = mm_E d 170 8 lv [] (.inl (mm_mul a b) :: st) n I L P) ∧
  (∀ (st : List mm_V) z (l1 : mm_V) (l2 : mm_V), mm_E d 170 8 [(.inr (.inr z)), l1, l2] [] st n I L P = mm_E d 170 9 [(.inr (.inr z)), l1, l2] [] ((.inr (.inr z)) :: st) n I L P) ∧
  (∀ (lv : List mm_V) (st : List mm_V) a, (mm_ok n a 12) → mm_E d 170 9 lv [] (.inr (.inr (some a)) :: st) n I L P = mm_E d 170 12 lv [] (.inr (.inr (P a 9)) :: st) n I L P) ∧
  (∀ (st : List mm_V) z (l1 : mm_V) (l2 : mm_V), mm_E d 170 12 [(.inr (.inr z)), l1, l2] [] st n I L P = mm_E d 170 13 [(.inr (.inr z)), l1, l2] [] ((.inr (.inr z)) :: st) n I L P) ∧
  (∀ (lv : List mm_V) (st : List mm_V) a, (mm_ok n a 12) → mm_E d 170 13 lv [] (.inr (.inr (some a)) :: st) n I L P = mm_E d 170 16 lv [] (.inl (I a 14) :: st) n I L P) ∧
  (∀ (lv : List mm_V) (st : List mm_V) a i, (mm_ix n a 20 i) → mm_E d 170 16 lv [] (.inl i :: .inr (.inr (some a)) :: st) n I L P = mm_E d 170 17 lv [] (.inl (I a i.toNat) :: st) n I L P) ∧
  (∀ (lv : List mm_V) (st : List mm_V) a b, mm_E d 170 17 lv [] (.inl b :: .inl a :: st) n I L P = mm_E d 170 18 lv [] (.inl (mm_add a b) :: st) n I L P) ∧
  (∀ (st : List mm_V) z (l0 : mm_V) (l1 : mm_V) (l2 : mm_V), mm_E d 170 18 [l0, l1, l2] [] ((.inl z) :: st) n I L P = mm_E d 170 19 [l0, (.inl z), l2] [] st n I L P) ∧
  (∀ (st : List mm_V) z (l1 : mm_V) (l2 : mm_V), mm_E d 170 19 [(.inr (.inr z)), l1, l2] [] st n I L P = mm_E d 170 20 [(.inr (.inr z)), l1, l2] [] ((.inr (.inr z)) :: st) n I L P) ∧
  (∀ (lv : List mm_V) (st : List mm_V) a, (mm_ok n a 12) → mm_E d 170 20 lv [] (.inr (.inr (some a)) :: st) n I L P = mm_E d 170 23 lv [] (.inl (I a 4) :: st) n I L P) ∧
  (∀ (lv : List mm_V) (st : List mm_V), mm_E d 170 23 lv [] st n I L P = mm_E d 170 24 lv [] (.inl (-1) :: st) n I L P) ∧
  (∀ (lv : List mm_V) (st : List mm_V) a b, mm_E d 170 24 lv [] (.inl b :: .inl a :: st) n I L P = if a = b then mm_E d 170 27 lv [] st n I L P else mm_E d 170 40 lv [] st n I L P) ∧
  (∀ (st : List mm_V) z (l1 : mm_V) (l2 : mm_V), mm_E d 170 27 [(.inr (.inr z)), l1, l2] [] st n I L P = mm_E d 170 28 [(.inr (.inr z)), l1, l2] [] ((.inr (.inr z)) :: st) n I L P) ∧
  (∀ (lv : List mm_V) a, (mm_ok n a 12) → mm_E d 170 28 lv [] (.inr (.inr (some a)) :: []) n I L P = mm_kr d 170 31 lv [] [] n (mm_rn d 153 [.inr (.inr (some a))] n I L P)) ∧
  (∀ (lv : List mm_V) (st : List mm_V), mm_E d 170 31 lv [] st n I L P = mm_E d 170 33 lv [] (.inl 121 :: st) n I L P) ∧
  (∀ (lv : List mm_V) (st : List mm_V) a b, mm_E d 170 33 lv [] (.inl b :: .inl a :: st) n I L P = if a = b then mm_E d 170 40 lv [] st n I L P else mm_E d 170 36 lv [] st n I L P) ∧
  (∀ (st : List mm_V) z (l1 : mm_V) (l2 : mm_V), mm_E d 170 36 [(.inr (.inr z)), l1, l2] [] st n I L P = mm_E d 170 37 [(.inr (.inr z)), l1, l2] [] ((.inr (.inr z)) :: st) n I L P) ∧
  (∀ (lv : List mm_V) a, (mm_ok n a 12) → mm_E d 170 37 lv [] (.inr (.inr (some a)) :: []) n I L P = mm_kv d 170 40 lv [] [] n (mm_rn d 154 [.inr (.inr (some a))] n I L P)) ∧
  (∀ (st : List mm_V) z (l1 : mm_V) (l2 : mm_V), mm_E d 170 40 [(.inr (.inr z)), l1, l2] [] st n I L P = mm_E d 170 41 [(.inr (.inr z)), l1, l2] [] ((.inr (.inr z)) :: st) n I L P) ∧
  (∀ (lv : List mm_V) (st : List mm_V) a, mm_E d 170 41 lv [] ((.inr (.inr a)) :: st) n I L P = mm_E d 170 42 lv [] ((.inr (.inr a)) :: (.inr (.inr a)) :: st) n I L P) ∧
  (∀ (lv : List mm_V) (st : List mm_V) a, (mm_ok n a 12) → mm_E d 170 42 lv [] (.inr (.inr (some a)) :: st) n I L P = mm_E d 170 45 lv [] (.inl (I a 3) :: st) n I L P) ∧
  (∀ (lv : List mm_V) (st : List mm_V), mm_E d 170 45 lv [] st n I L P = mm_E d 170 46 lv [] (.inl 1 :: st) n I L P) ∧
  (∀ (lv : List mm_V) (st : List mm_V) a b, mm_E d 170 46 lv [] (.inl b :: .inl a :: st) n I L P = mm_E d 170 47 lv [] (.inl (mm_add a b) :: st) n I L P) ∧
  (∀ (lv : List mm_V) (st : List mm_V) a z, (mm_ok n a 12) → mm_E d 170 47 lv [] (.inl z :: .inr (.inr (some a)) :: st) n I L P = mm_E d 170 50 lv [] st n (mm_ui I a 3 z) L P) ∧
  (∀ (st : List mm_V) z (l1 : mm_V) (l2 : mm_V), mm_E d 170 50 [(.inr (.inr z)), l1, l2] [] st n I L P = mm_E d 170 51 [(.inr (.inr z)), l1, l2] [] ((.inr (.inr z)) :: st) n I L P) ∧
  (∀ (lv : List mm_V) (st : List mm_V) a, (mm_ok n a 12) → mm_E d 170 51 lv [] (.inr (.inr (some a)) :: st) n I L P = mm_E d 170 54 lv [] (.inl (I a 4) :: st) n I L P) ∧
  (∀ (lv : List mm_V) (st : List mm_V), mm_E d 170 54 lv [] st n I L P = mm_E d 170 55 lv [] (.inl (-1) :: st) n I L P) ∧
  (∀ (lv : List mm_V) (st : List mm_V) a b, mm_E d 170 55 lv [] (.inl b :: .inl a :: st) n I L P = if a = b then mm_E d 170 58 lv [] st n I L P else mm_E d 170 71 lv [] st n I L P) ∧
  (∀ (st : List mm_V) z (l1 : mm_V) (l2 : mm_V), mm_E d 170 58 [(.inr (.inr z)), l1, l2] [] st n I L P = mm_E d 170 59 [(.inr (.inr z)), l1, l2] [] ((.inr (.inr z)) :: st) n I L P) ∧
  (∀ (lv : List mm_V) a, (mm_ok n a 12) → mm_E d 170 59 lv [] (.inr (.inr (some a)) :: []) n I L P = mm_kr d 170 62 lv [] [] n (mm_rn d 153 [.inr (.inr (some a))] n I L P)) ∧
  (∀ (lv : List mm_V) (st : List mm_V), mm_E d 170 62 lv [] st n I L P = mm_E d 170 64 lv [] (.inl 58 :: st) n I L P) ∧
  (∀ (lv : List mm_V) (st : List mm_V) a b, mm_E d 170 64 lv [] (.inl b :: .inl a :: st) n I L P = if a = b then mm_E d 170 71 lv [] st n I L P else mm_E d 170 67 lv [] st n I L P) ∧
  (∀ (st : List mm_V) z (l1 : mm_V) (l2 : mm_V), mm_E d 170 67 [(.inr (.inr z)), l1, l2] [] st n I L P = mm_E d 170 68 [(.inr (.inr z)), l1, l2] [] ((.inr (.inr z)) :: st) n I L P) ∧
  (∀ (lv : List mm_V) a, (mm_ok n a 12) → mm_E d 170 68 lv [] (.inr (.inr (some a)) :: []) n I L P = mm_kv d 170 71 lv [] [] n (mm_rn d 154 [.inr (.inr (some a))] n I L P)) ∧
  (∀ (st : List mm_V) z (l1 : mm_V) (l2 : mm_V), mm_E d 170 71 [(.inr (.inr z)), l1, l2] [] st n I L P = mm_E d 170 72 [(.inr (.inr z)), l1, l2] [] ((.inr (.inr z)) :: st) n I L P) ∧
  (∀ (lv : List mm_V) (st : List mm_V) a, mm_E d 170 72 lv [] ((.inr (.inr a)) :: st) n I L P = mm_E d 170 73 lv [] ((.inr (.inr a)) :: (.inr (.inr a)) :: st) n I L P) ∧
  (∀ (lv : List mm_V) (st : List mm_V) a, (mm_ok n a 12) → mm_E d 170 73 lv [] (.inr (.inr (some a)) :: st) n I L P = mm_E d 170 76 lv [] (.inl (I a 3) :: st) n I L P) ∧
  (∀ (lv : List mm_V) (st : List mm_V), mm_E d 170 76 lv [] st n I L P = mm_E d 170 77 lv [] (.inl 1 :: st) n I L P) ∧
  (∀ (lv : List mm_V) (st : List mm_V) a b, mm_E d 170 77 lv [] (.inl b :: .inl a :: st) n I L P = mm_E d 170 78 lv [] (.inl (mm_add a b) :: st) n I L P) ∧
  (∀ (lv : List mm_V) (st : List mm_V) a z, (mm_ok n a 12) → mm_E d 170 78 lv [] (.inl z :: .inr (.inr (some a)) :: st) n I L P = mm_E d 170 81 lv [] st n (mm_ui I a 3 z) L P) ∧
  (∀ (st : List mm_V) z (l1 : mm_V) (l2 : mm_V), mm_E d 170 81 [(.inr (.inr z)), l1, l2] [] st n I L P = mm_E d 170 82 [(.inr (.inr z)), l1, l2] [] ((.inr (.inr z)) :: st) n I L P) ∧
  (∀ (lv : List mm_V) (st : List mm_V) a, (mm_ok n a 12) → mm_E d 170 82 lv [] (.inr (.inr (some a)) :: st) n I L P = mm_E d 170 85 lv [] (.inl (I a 4) :: st) n I L P) ∧
  (∀ (lv : List mm_V) (st : List mm_V), mm_E d 170 85 lv [] st n I L P = mm_E d 170 86 lv [] (.inl (-1) :: st) n I L P) ∧
  (∀ (lv : List mm_V) (st : List mm_V) a b, mm_E d 170 86 lv [] (.inl b :: .inl a :: st) n I L P = if a = b then mm_E d 170 90 lv [] st n I L P else mm_E d 170 89 lv [] st n I L P) ∧
  (∀ (lv : List mm_V), mm_E d 170 89 lv [] [] n I L P = some (none, n, I, L, P)) ∧
  (∀ (st : List mm_V) z (l1 : mm_V) (l2 : mm_V), mm_E d 170 90 [(.inr (.inr z)), l1, l2] [] st n I L P = mm_E d 170 91 [(.inr (.inr z)), l1, l2] [] ((.inr (.inr z)) :: st) n I L P) ∧
  (∀ (lv : List mm_V) (st : List mm_V) a, (mm_ok n a 12) → mm_E d 170 91 lv [] (.inr (.inr (some a)) :: st) n I L P = mm_E d 170 94 lv [] (.inr (.inr (P a 10)) :: st) n I L P) ∧
  (∀ (st : List mm_V) z (l0 : mm_V) (l2 : mm_V), mm_E d 170 94 [l0, (.inl z), l2] [] st n I L P = mm_E d 170 95 [l0, (.inl z), l2] [] ((.inl z) :: st) n I L P) ∧
  (∀ (st : List mm_V) z (l1 : mm_V) (l2 : mm_V), mm_E d 170 95 [(.inr (.inr z)), l1, l2] [] st n I L P = mm_E d 170 96 [(.inr (.inr z)), l1, l2] [] ((.inr (.inr z)) :: st) n I L P) ∧
  (∀ (lv : List mm_V) (st : List mm_V) a, (mm_ok n a 12) → mm_E d 170 96 lv [] (.inr (.inr (some a)) :: st) n I L P = mm_E d 170 99 lv [] (.inr (.inr (P a 8)) :: st) n I L P) ∧
  (∀ (st : List mm_V) z (l1 : mm_V) (l2 : mm_V), mm_E d 170 99 [(.inr (.inr z)), l1, l2] [] st n I L P = mm_E d 170 100 [(.inr (.inr z)), l1, l2] [] ((.inr (.inr z)) :: st) n I L P) ∧
  (∀ (lv : List mm_V) (st : List mm_V) a, (mm_ok n a 12) → mm_E d 170 100 lv [] (.inr (.inr (some a)) :: st) n I L P = mm_E d 170 103 lv [] (.inl (I a 14) :: st) n I L P) ∧
  (∀ (lv : List mm_V) (st : List mm_V) a i, (mm_ix n a 20 i) → mm_E d 170 103 lv [] (.inl i :: .inr (.inr (some a)) :: st) n I L P = mm_E d 170 104 lv [] (.inl (I a i.toNat) :: st) n I L P) ∧
  (∀ (lv : List mm_V) (st : List mm_V) a i z, (mm_ix n a 20 i) → mm_E d 170 104 lv [] (.inl z :: .inl i :: .inr (.inr (some a)) :: st) n I L P = mm_E d 170 105 lv [] st n (mm_ui I a i.toNat z) L P) ∧
  (∀ (st : List mm_V) z (l1 : mm_V) (l2 : mm_V), mm_E d 170 105 [(.inr (.inr z)), l1, l2] [] st n I L P = mm_E d 170 106 [(.inr (.inr z)), l1, l2] [] ((.inr (.inr z)) :: st) n I L P) ∧
  (∀ (lv : List mm_V) a, (mm_ok n a 12) → mm_E d 170 106 lv [] (.inr (.inr (some a)) :: []) n I L P = mm_kr d 170 109 lv [] [] n (mm_rn d 153 [.inr (.inr (some a))] n I L P)) ∧
  (∀ (lv : List mm_V) (st : List mm_V), mm_E d 170 109 lv [] st n I L P = mm_E d 170 111 lv [] (.inl 33 :: st) n I L P) ∧
  (∀ (lv : List mm_V) (st : List mm_V) a b, mm_E d 170 111 lv [] (.inl b :: .inl a :: st) n I L P = if a = b then mm_E d 170 123 lv [] st n I L P else mm_E d 170 114 lv [] st n I L P) ∧
  (∀ (st : List mm_V) z (l1 : mm_V) (l2 : mm_V), mm_E d 170 114 [(.inr (.inr z)), l1, l2] [] st n I L P = mm_E d 170 115 [(.inr (.inr z)), l1, l2] [] ((.inr (.inr z)) :: st) n I L P) ∧
  (∀ (lv : List mm_V) a, (mm_ok n a 12) → mm_E d 170 115 lv [] (.inr (.inr (some a)) :: []) n I L P = mm_kr d 170 118 lv [] [] n (mm_rn d 153 [.inr (.inr (some a))] n I L P)) ∧
  (∀ (lv : List mm_V) (st : List mm_V), mm_E d 170 118 lv [] st n I L P = mm_E d 170 120 lv [] (.inl 40 :: st) n I L P) ∧
  (∀ (lv : List mm_V) (st : List mm_V) a b, mm_E d 170 120 lv [] (.inl b :: .inl a :: st) n I L P = if a = b then mm_E d 170 123 lv [] st n I L P else mm_E d 170 127 lv [] st n I L P) ∧
  (∀ (lv : List mm_V) (st : List mm_V), mm_E d 170 123 lv [] st n I L P = mm_E d 170 124 lv [] (.inl 1 :: st) n I L P) ∧
  (∀ (lv : List mm_V) (st : List mm_V), mm_E d 170 124 lv [] st n I L P = mm_E d 170 128 lv [] st n I L P) ∧
  (∀ (lv : List mm_V) (st : List mm_V), mm_E d 170 127 lv [] st n I L P = mm_E d 170 128 lv [] (.inl 0 :: st) n I L P) ∧
  (∀ (st : List mm_V) z (l0 : mm_V) (l1 : mm_V) (l2 : mm_V), mm_E d 170 128 [l0, l1, l2] [] ((.inl z) :: st) n I L P = mm_E d 170 129 [l0, l1, (.inl z)] [] st n I L P) ∧
  (∀ (st : List mm_V) z (l0 : mm_V) (l1 : mm_V), mm_E d 170 129 [l0, l1, (.inl z)] [] st n I L P = mm_E d 170 130 [l0, l1, (.inl z)] [] ((.inl z) :: st) n I L P) ∧
  (∀ (lv : List mm_V) (st : List mm_V) a, mm_E d 170 130 lv [] (.inl a :: st) n I L P = if a = 0 then mm_E d 170 140 lv [] st n I L P else mm_E d 170 133 lv [] st n I L P) ∧
  (∀ (st : List mm_V) z (l1 : mm_V) (l2 : mm_V), mm_E d 170 133 [(.inr (.inr z)), l1, l2] [] st n I L P = mm_E d 170 134 [(.inr (.inr z)), l1, l2] [] ((.inr (.inr z)) :: st) n I L P) ∧
  (∀ (lv : List mm_V) a, (mm_ok n a 12) → mm_E d 170 134 lv [] (.inr (.inr (some a)) :: []) n I L P = mm_kv d 170 137 lv [] [] n (mm_rn d 169 [.inr (.inr (some a))] n I L P)) ∧
  (∀ (lv : List mm_V) (st : List mm_V), mm_E d 170 137 lv [] st n I L P = mm_E d 170 184 lv [] st n I L P) ∧
  (∀ (st : List mm_V) z (l1 : mm_V) (l2 : mm_V), mm_E d 170 140 [(.inr (.inr z)), l1, l2] [] st n I L P = mm_E d 170 141 [(.inr (.inr z)), l1, l2] [] ((.inr (.inr z)) :: st) n I L P) ∧
  (∀ (lv : List mm_V) a, (mm_ok n a 12) → mm_E d 170 141 lv [] (.inr (.inr (some a)) :: []) n I L P = mm_kv d 170 144 lv [] [] n (mm_rn d 163 [.inr (.inr (some a))] n I L P)) ∧
  (∀ (st : List mm_V) z (l1 : mm_V) (l2 : mm_V), mm_E d 170 144 [(.inr (.inr z)), l1, l2] [] st n I L P = mm_E d 170 145 [(.inr (.inr z)), l1, l2] [] ((.inr (.inr z)) :: st) n I L P) ∧
  (∀ (lv : List mm_V) (st : List mm_V) a, (mm_ok n a 12) → mm_E d 170 145 lv [] (.inr (.inr (some a)) :: st) n I L P = mm_E d 170 148 lv [] (.inl (I a 4) :: st) n I L P) ∧
  (∀ (lv : List mm_V) (st : List mm_V), mm_E d 170 148 lv [] st n I L P = mm_E d 170 149 lv [] (.inl (-1) :: st) n I L P) ∧
  (∀ (lv : List mm_V) (st : List mm_V) a b, mm_E d 170 149 lv [] (.inl b :: .inl a :: st) n I L P = if a = b then mm_E d 170 152 lv [] st n I L P else mm_E d 170 166 lv [] st n I L P) ∧
  (∀ (st : List mm_V) z (l1 : mm_V) (l2 : mm_V), mm_E d 170 152 [(.inr (.inr z)), l1, l2] [] st n I L P = mm_E d 170 153 [(.inr (.inr z)), l1, l2] [] ((.inr (.inr z)) :: st) n I L P) ∧
  (∀ (lv : List mm_V) a, (mm_ok n a 12) → mm_E d 170 153 lv [] (.inr (.inr (some a)) :: []) n I L P = mm_kr d 170 156 lv [] [] n (mm_rn d 153 [.inr (.inr (some a))] n I L P)) ∧
  (∀ (lv : List mm_V) x0, mm_E d 170 156 lv [] (.inl x0 :: []) n I L P = mm_kr d 170 159 lv [] [] n (mm_rn d 164 [.inl x0] n I L P)) ∧
  (∀ (lv : List mm_V) (st : List mm_V) a, mm_E d 170 159 lv [] (.inl a :: st) n I L P = if a = 0 then mm_E d 170 166 lv [] st n I L P else mm_E d 170 162 lv [] st n I L P) ∧
  (∀ (lv : List mm_V) (st : List mm_V), mm_E d 170 162 lv [] st n I L P = mm_E d 170 163 lv [] (.inl 1 :: st) n I L P) ∧
  (∀ (lv : List mm_V) (st : List mm_V), mm_E d 170 163 lv [] st n I L P = mm_E d 170 167 lv [] st n I L P) ∧
  (∀ (lv : List mm_V) (st : List mm_V), mm_E d 170 166 lv [] st n I L P = mm_E d 170 167 lv [] (.inl 0 :: st) n I L P) ∧
  (∀ (st : List mm_V) z (l0 : mm_V) (l1 : mm_V) (l2 : mm_V), mm_E d 170 167 [l0, l1, l2] [] ((.inl z) :: st) n I L P = mm_E d 170 168 [l0, l1, (.inl z)] [] st n I L P) ∧
  (∀ (st : List mm_V) z (l0 : mm_V) (l1 : mm_V), mm_E d 170 168 [l0, l1, (.inl z)] [] st n I L P = mm_E d 170 169 [l0, l1, (.inl z)] [] ((.inl z) :: st) n I L P) ∧
  (∀ (lv : List mm_V) (st : List mm_V) a, mm_E d 170 169 lv [] (.inl a :: st) n I L P = if a = 0 then mm_E d 170 184 lv [] st n I L P else mm_E d 170 172 lv [] st n I L P) ∧
  (∀ (st : List mm_V) z (l1 : mm_V) (l2 : mm_V), mm_E d 170 172 [(.inr (.inr z)), l1, l2] [] st n I L P = mm_E d 170 173 [(.inr (.inr z)), l1, l2] [] ((.inr (.inr z)) :: st) n I L P) ∧
  (∀ (lv : List mm_V) a, (mm_ok n a 12) → mm_E d 170 173 lv [] (.inr (.inr (some a)) :: []) n I L P = mm_kv d 170 176 lv [] [] n (mm_rn d 165 [.inr (.inr (some a))] n I L P)) ∧
  (∀ (st : List mm_V) z (l1 : mm_V) (l2 : mm_V), mm_E d 170 176 [(.inr (.inr z)), l1, l2] [] st n I L P = mm_E d 170 177 [(.inr (.inr z)), l1, l2] [] ((.inr (.inr z)) :: st) n I L P) ∧
  (∀ (lv : List mm_V) a, (mm_ok n a 12) → mm_E d 170 177 lv [] (.inr (.inr (some a)) :: []) n I L P = mm_kv d 170 180 lv [] [] n (mm_rn d 167 [.inr (.inr (some a))] n I L P)) ∧
  (∀ (st : List mm_V) z (l1 : mm_V) (l2 : mm_V), mm_E d 170 180 [(.inr (.inr z)), l1, l2] [] st n I L P = mm_E d 170 181 [(.inr (.inr z)), l1, l2] [] ((.inr (.inr z)) :: st) n I L P) ∧
  (∀ (lv : List mm_V) a, (mm_ok n a 12) → mm_E d 170 181 lv [] (.inr (.inr (some a)) :: []) n I L P = mm_kv d 170 184 lv [] [] n (mm_rn d 168 [.inr (.inr (some a))] n I L P)) ∧
  (∀ (st : List mm_V) z (l1 : mm_V) (l2 : mm_V), mm_E d 170 184 [(.inr (.inr z)), l1, l2] [] st n I L P = mm_E d 170 185 [(.inr (.inr z)), l1, l2] [] ((.inr (.inr z)) :: st) n I L P) ∧
  (∀ (lv : List mm_V) (st : List mm_V) a, (mm_ok n a 12) → mm_E d 170 185 lv [] (.inr (.inr (some a)) :: st) n I L P = mm_E d 170 188 lv [] (.inr (.inr (P a 11)) :: st) n I L P) ∧
  (∀ (st : List mm_V) z (l0 : mm_V) (l2 : mm_V), mm_E d 170 188 [l0, (.inl z), l2] [] st n I L P = mm_E d 170 189 [l0, (.inl z), l2] [] ((.inl z) :: st) n I L P) ∧
  (∀ (st : List mm_V) z (l1 : mm_V) (l2 : mm_V), mm_E d 170 189 [(.inr (.inr z)), l1, l2] [] st n I L P = mm_E d 170 190 [(.inr (.inr z)), l1, l2] [] ((.inr (.inr z)) :: st) n I L P) ∧
  (∀ (lv : List mm_V) (st : List mm_V) a, (mm_ok n a 12) → mm_E d 170 190 lv [] (.inr (.inr (some a)) :: st) n I L P = mm_E d 170 193 lv [] (.inr (.inr (P a 10)) :: st) n I L P) ∧
  (∀ (st : List mm_V) z (l0 : mm_V) (l2 : mm_V), mm_E d 170 193 [l0, (.inl z), l2] [] st n I L P = mm_E d 170 194 [l0, (.inl z), l2] [] ((.inl z) :: st) n I L P) ∧
  (∀ (lv : List mm_V) (st : List mm_V) a i, (mm_ix n a 20 i) → mm_E d 170 194 lv [] (.inl i :: .inr (.inr (some a)) :: st) n I L P = mm_E d 170 195 lv [] (.inl (I a i.toNat) :: st) n I L P) ∧
  (∀ (lv : List mm_V) (st : List mm_V) a i z, (mm_ix n a 20 i) → mm_E d 170 195 lv [] (.inl z :: .inl i :: .inr (.inr (some a)) :: st) n I L P = mm_E d 170 196 lv [] st n (mm_ui I a i.toNat z) L P) ∧
  (∀ (st : List mm_V) z (l0 : mm_V) (l1 : mm_V), mm_E d 170 196 [l0, l1, (.inl z)] [] st n I L P = mm_E d 170 197 [l0, l1, (.inl z)] [] ((.inl z) :: st) n I L P) ∧
  (∀ (lv : List mm_V) (st : List mm_V) a, mm_E d 170 197 lv [] (.inl a :: st) n I L P = if a = 0 then mm_E d 170 251 lv [] st n I L P else mm_E d 170 200 lv [] st n I L P) ∧
  (∀ (st : List mm_V) z (l1 : mm_V) (l2 : mm_V), mm_E d 170 200 [(.inr (.inr z)), l1, l2] [] st n I L P = mm_E d 170 201 [(.inr (.inr z)), l1, l2] [] ((.inr (.inr z)) :: st) n I L P) ∧
  (∀ (lv : List mm_V) (st : List mm_V) a, (mm_ok n a 12) → mm_E d 170 201 lv [] (.inr (.inr (some a)) :: st) n I L P = mm_E d 170 204 lv [] (.inl (I a 4) :: st) n I L P) ∧
  (∀ (lv : List mm_V) (st : List mm_V), mm_E d 170 204 lv [] st n I L P = mm_E d 170 205 lv [] (.inl (-1) :: st) n I L P) ∧
  (∀ (lv : List mm_V) (st : List mm_V) a b, mm_E d 170 205 lv [] (.inl b :: .inl a :: st) n I L P = if a = b then mm_E d 170 208 lv [] st n I L P else mm_E d 170 251 lv [] st n I L P) ∧
  (∀ (st : List mm_V) z (l1 : mm_V) (l2 : mm_V), mm_E d 170 208 [(.inr (.inr z)), l1, l2] [] st n I L P = mm_E d 170 209 [(.inr (.inr z)), l1, l2] [] ((.inr (.inr z)) :: st) n I L P) ∧
  (∀ (lv : List mm_V) a, (mm_ok n a 12) → mm_E d 170 209 lv [] (.inr (.inr (some a)) :: []) n I L P = mm_kr d 170 212 lv [] [] n (mm_rn d 153 [.inr (.inr (some a))] n I L P)) ∧
  (∀ (lv : List mm_V) (st : List mm_V), mm_E d 170 212 lv [] st n I L P = mm_E d 170 214 lv [] (.inl 63 :: st) n I L P) ∧
  (∀ (lv : List mm_V) (st : List mm_V) a b, mm_E d 170 214 lv [] (.inl b :: .inl a :: st) n I L P = if a = b then mm_E d 170 222 lv [] st n I L P else mm_E d 170 217 lv [] st n I L P) ∧
  (∀ (st : List mm_V) z (l1 : mm_V) (l2 : mm_V), mm_E d 170 217 [(.inr (.inr z)), l1, l2] [] st n I L P = mm_E d 170 218 [(.inr (.inr z)), l1, l2] [] ((.inr (.inr z)) :: st) n I L P) ∧
  (∀ (lv : List mm_V) a, (mm_ok n a 12) → mm_E d 170 218 lv [] (.inr (.inr (some a)) :: []) n I L P = mm_kv d 170 221 lv [] [] n (mm_rn d 154 [.inr (.inr (some a))] n I L P)) ∧
  (∀ (lv : List mm_V), mm_E d 170 221 lv [] [] n I L P = some (none, n, I, L, P)) ∧
  (∀ (st : List mm_V) z (l1 : mm_V) (l2 : mm_V), mm_E d 170 222 [(.inr (.inr z)), l1, l2] [] st n I L P = mm_E d 170 223 [(.inr (.inr z)), l1, l2] [] ((.inr (.inr z)) :: st) n I L P) ∧
  (∀ (lv : List mm_V) (st : List mm_V) a, mm_E d 170 223 lv [] ((.inr (.inr a)) :: st) n I L P = mm_E d 170 224 lv [] ((.inr (.inr a)) :: (.inr (.inr a)) :: st) n I L P) ∧
  (∀ (lv : List mm_V) (st : List mm_V) a, (mm_ok n a 12) → mm_E d 170 224 lv [] (.inr (.inr (some a)) :: st) n I L P = mm_E d 170 227 lv [] (.inl (I a 3) :: st) n I L P) ∧
  (∀ (lv : List mm_V) (st : List mm_V), mm_E d 170 227 lv [] st n I L P = mm_E d 170 228 lv [] (.inl 1 :: st) n I L P) ∧
  (∀ (lv : List mm_V) (st : List mm_V) a b, mm_E d 170 228 lv [] (.inl b :: .inl a :: st) n I L P = mm_E d 170 229 lv [] (.inl (mm_add a b) :: st) n I L P) ∧
  (∀ (lv : List mm_V) (st : List mm_V) a z, (mm_ok n a 12) → mm_E d 170 229 lv [] (.inl z :: .inr (.inr (some a)) :: st) n I L P = mm_E d 170 232 lv [] st n (mm_ui I a 3 z) L P) ∧
  (∀ (st : List mm_V) z (l1 : mm_V) (l2 : mm_V), mm_E d 170 232 [(.inr (.inr z)), l1, l2] [] st n I L P = mm_E d 170 233 [(.inr (.inr z)), l1, l2] [] ((.inr (.inr z)) :: st) n I L P) ∧
  (∀ (lv : List mm_V) (st : List mm_V) a, (mm_ok n a 12) → mm_E d 170 233 lv [] (.inr (.inr (some a)) :: st) n I L P = mm_E d 170 236 lv [] (.inr (.inr (P a 11)) :: st) n I L P) ∧
  (∀ (st : List mm_V) z (l0 : mm_V) (l2 : mm_V), mm_E d 170 236 [l0, (.inl z), l2] [] st n I L P = mm_E d 170 237 [l0, (.inl z), l2] [] ((.inl z) :: st) n I L P) ∧
  (∀ (st : List mm_V) z (l1 : mm_V) (l2 : mm_V), mm_E d 170 237 [(.inr (.inr z)), l1, l2] [] st n I L P = mm_E d 170 238 [(.inr (.inr z)), l1, l2] [] ((.inr (.inr z)) :: st) n I L P) ∧
  (∀ (lv : List mm_V) (st : List mm_V) a, (mm_ok n a 12) → mm_E d 170 238 lv [] (.inr (.inr (some a)) :: st) n I L P = mm_E d 170 241 lv [] (.inr (.inr (P a 8)) :: st) n I L P) ∧
  (∀ (st : List mm_V) z (l1 : mm_V) (l2 : mm_V), mm_E d 170 241 [(.inr (.inr z)), l1, l2] [] st n I L P = mm_E d 170 242 [(.inr (.inr z)), l1, l2] [] ((.inr (.inr z)) :: st) n I L P) ∧
  (∀ (lv : List mm_V) (st : List mm_V) a, (mm_ok n a 12) → mm_E d 170 242 lv [] (.inr (.inr (some a)) :: st) n I L P = mm_E d 170 245 lv [] (.inl (I a 14) :: st) n I L P) ∧
  (∀ (lv : List mm_V) (st : List mm_V) a i, (mm_ix n a 20 i) → mm_E d 170 245 lv [] (.inl i :: .inr (.inr (some a)) :: st) n I L P = mm_E d 170 246 lv [] (.inl (I a i.toNat) :: st) n I L P) ∧
  (∀ (lv : List mm_V) (st : List mm_V) a i z, (mm_ix n a 20 i) → mm_E d 170 246 lv [] (.inl z :: .inl i :: .inr (.inr (some a)) :: st) n I L P = mm_E d 170 247 lv [] st n (mm_ui I a i.toNat z) L P) ∧
  (∀ (st : List mm_V) z (l1 : mm_V) (l2 : mm_V), mm_E d 170 247 [(.inr (.inr z)), l1, l2] [] st n I L P = mm_E d 170 248 [(.inr (.inr z)), l1, l2] [] ((.inr (.inr z)) :: st) n I L P) ∧
  (∀ (lv : List mm_V) a, (mm_ok n a 12) → mm_E d 170 248 lv [] (.inr (.inr (some a)) :: []) n I L P = mm_kv d 170 251 lv [] [] n (mm_rn d 163 [.inr (.inr (some a))] n I L P)) ∧
  (∀ (st : List mm_V) z (l1 : mm_V) (l2 : mm_V), mm_E d 170 251 [(.inr (.inr z)), l1, l2] [] st n I L P = mm_E d 170 252 [(.inr (.inr z)), l1, l2] [] ((.inr (.inr z)) :: st) n I L P) ∧
  (∀ (lv : List mm_V) (st : List mm_V) a, (mm_ok n a 12) → mm_E d 170 252 lv [] (.inr (.inr (some a)) :: st) n I L P = mm_E d 170 255 lv [] (.inr (.inr (P a 12)) :: st) n I L P) ∧
  (∀ (st : List mm_V) z (l0 : mm_V) (l2 : mm_V), mm_E d 170 255 [l0, (.inl z), l2] [] st n I L P = mm_E d 170 256 [l0, (.inl z), l2] [] ((.inl z) :: st) n I L P) ∧
  (∀ (st : List mm_V) z (l1 : mm_V) (l2 : mm_V), mm_E d 170 256 [(.inr (.inr z)), l1, l2] [] st n I L P = mm_E d 170 257 [(.inr (.inr z)), l1, l2] [] ((.inr (.inr z)) :: st) n I L P) ∧
  (∀ (lv : List mm_V) (st : List mm_V) a, (mm_ok n a 12) → mm_E d 170 257 lv [] (.inr (.inr (some a)) :: st) n I L P = mm_E d 170 260 lv [] (.inr (.inr (P a 8)) :: st) n I L P) ∧
  (∀ (st : List mm_V) z (l1 : mm_V) (l2 : mm_V), mm_E d 170 260 [(.inr (.inr z)), l1, l2] [] st n I L P = mm_E d 170 261 [(.inr (.inr z)), l1, l2] [] ((.inr (.inr z)) :: st) n I L P) ∧
  (∀ (lv : List mm_V) (st : List mm_V) a, (mm_ok n a 12) → mm_E d 170 261 lv [] (.inr (.inr (some a)) :: st) n I L P = mm_E d 170 264 lv [] (.inl (I a 14) :: st) n I L P) ∧
  (∀ (lv : List mm_V) (st : List mm_V) a i, (mm_ix n a 20 i) → mm_E d 170 264 lv [] (.inl i :: .inr (.inr (some a)) :: st) n I L P = mm_E d 170 265 lv [] (.inl (I a i.toNat) :: st) n I L P) ∧
  (∀ (lv : List mm_V) (st : List mm_V) a i z, (mm_ix n a 20 i) → mm_E d 170 265 lv [] (.inl z :: .inl i :: .inr (.inr (some a)) :: st) n I L P = mm_E d 170 266 lv [] st n (mm_ui I a i.toNat z) L P) ∧
  (∀ (st : List mm_V) z (l1 : mm_V) (l2 : mm_V), mm_E d 170 266 [(.inr (.inr z)), l1, l2] [] st n I L P = mm_E d 170 267 [(.inr (.inr z)), l1, l2] [] ((.inr (.inr z)) :: st) n I L P) ∧
  (∀ (lv : List mm_V) (st : List mm_V) a, (mm_ok n a 12) → mm_E d 170 267 lv [] (.inr (.inr (some a)) :: st) n I L P = mm_E d 170 270 lv [] (.inr (.inr (P a 9)) :: st) n I L P) ∧
  (∀ (st : List mm_V) z (l1 : mm_V) (l2 : mm_V), mm_E d 170 270 [(.inr (.inr z)), l1, l2] [] st n I L P = mm_E d 170 271 [(.inr (.inr z)), l1, l2] [] ((.inr (.inr z)) :: st) n I L P) ∧
  (∀ (lv : List mm_V) (st : List mm_V) a, (mm_ok n a 12) → mm_E d 170 271 lv [] (.inr (.inr (some a)) :: st) n I L P = mm_E d 170 274 lv [] (.inl (I a 14) :: st) n I L P) ∧
  (∀ (lv : List mm_V) (st : List mm_V) a b, mm_E d 170 274 lv [] ((.inl a) :: (.inr (.inr b)) :: st) n I L P = mm_E d 170 275 lv [] ((.inl a) :: (.inr (.inr b)) :: (.inl a) :: (.inr (.inr b)) :: st) n I L P) ∧
  (∀ (lv : List mm_V) (st : List mm_V) a i, (mm_ix n a 20 i) → mm_E d 170 275 lv [] (.inl i :: .inr (.inr (some a)) :: st) n I L P = mm_E d 170 276 lv [] (.inl (I a i.toNat) :: st) n I L P) ∧
  (∀ (lv : List mm_V) (st : List mm_V), mm_E d 170 276 lv [] st n I L P = mm_E d 170 277 lv [] (.inl 1 :: st) n I L P) ∧
  (∀ (lv : List mm_V) (st : List mm_V) a b, mm_E d 170 277 lv [] (.inl b :: .inl a :: st) n I L P = mm_E d 170 278 lv [] (.inl (mm_add a b) :: st) n I L P) ∧
  (∀ (lv : List mm_V) (st : List mm_V) a i z, (mm_ix n a 20 i) → mm_E d 170 278 lv [] (.inl z :: .inl i :: .inr (.inr (some a)) :: st) n I L P = mm_E d 170 279 lv [] st n (mm_ui I a i.toNat z) L P) ∧
  (∀ (lv : List mm_V), mm_E d 170 279 lv [] [] n I L P = some (none, n, I, L, P)) :=
  ⟨fun _ _ => mq_push rfl,
   fun _ _ _ _ => mq_al (i := 0) rfl rfl,
   fun _ _ _ h0 => mq_getI rfl h0,
   fun _ _ _ _ => mq_bi rfl,
   fun _ _ _ _ => mq_al (i := 0) rfl rfl,
   fun _ _ _ h0 => mq_getR rfl h0,
   fun _ _ _ _ => mq_al (i := 0) rfl rfl,
   fun _ _ _ h0 => mq_getI rfl h0,
   fun _ _ _ _ h0 => mq_iald rfl h0,
   fun _ _ _ _ => mq_bi rfl,
   fun _ _ _ _ _ => mq_is (i := 1) rfl rfl rfl,
   fun _ _ _ _ => mq_al (i := 0) rfl rfl,
   fun _ _ _ h0 => mq_getI rfl h0,
   fun _ _ => mq_push rfl,
   fun _ _ _ _ => mq_ic_ne rfl,
   fun _ _ _ _ => mq_al (i := 0) rfl rfl,
   fun _ _ h0 => mq_cVr (na := 0) rfl rfl (Nat.le_of_ble_eq_true rfl) (Nat.le_of_ble_eq_true rfl) h0,
   fun _ _ => mq_push rfl,
   fun _ _ _ _ => mq_ic_eq rfl,
   fun _ _ _ _ => mq_al (i := 0) rfl rfl,
   fun _ _ h0 => mq_cVv (na := 0) rfl rfl (Nat.le_of_ble_eq_true rfl) (Nat.le_of_ble_eq_true rfl) h0,
   fun _ _ _ _ => mq_al (i := 0) rfl rfl,
   fun _ _ _ => mq_dup rfl rfl,
   fun _ _ _ h0 => mq_getI rfl h0,
   fun _ _ => mq_push rfl,
   fun _ _ _ _ => mq_bi rfl,
   fun _ _ _ _ h0 => mq_putI rfl h0,
   fun _ _ _ _ => mq_al (i := 0) rfl rfl,
   fun _ _ _ h0 => mq_getI rfl h0,
   fun _ _ => mq_push rfl,
   fun _ _ _ _ => mq_ic_ne rfl,
   fun _ _ _ _ => mq_al (i := 0) rfl rfl,
   fun _ _ h0 => mq_cVr (na := 0) rfl rfl (Nat.le_of_ble_eq_true rfl) (Nat.le_of_ble_eq_true rfl) h0,
   fun _ _ => mq_push rfl,
   fun _ _ _ _ => mq_ic_eq rfl,
   fun _ _ _ _ => mq_al (i := 0) rfl rfl,
   fun _ _ h0 => mq_cVv (na := 0) rfl rfl (Nat.le_of_ble_eq_true rfl) (Nat.le_of_ble_eq_true rfl) h0,
   fun _ _ _ _ => mq_al (i := 0) rfl rfl,
   fun _ _ _ => mq_dup rfl rfl,
   fun _ _ _ h0 => mq_getI rfl h0,
   fun _ _ => mq_push rfl,
   fun _ _ _ _ => mq_bi rfl,
   fun _ _ _ _ h0 => mq_putI rfl h0,
   fun _ _ _ _ => mq_al (i := 0) rfl rfl,
   fun _ _ _ h0 => mq_getI rfl h0,
   fun _ _ => mq_push rfl,
   fun _ _ _ _ => mq_ic_eq rfl,
   fun _ => mq_rv rfl,
   fun _ _ _ _ => mq_al (i := 0) rfl rfl,
   fun _ _ _ h0 => mq_getR rfl h0,
   fun _ _ _ _ => mq_il (i := 1) rfl rfl,
   fun _ _ _ _ => mq_al (i := 0) rfl rfl,
   fun _ _ _ h0 => mq_getR rfl h0,
   fun _ _ _ _ => mq_al (i := 0) rfl rfl,
   fun _ _ _ h0 => mq_getI rfl h0,
   fun _ _ _ _ h0 => mq_iald rfl h0,
   fun _ _ _ _ _ h0 => mq_iast rfl h0,
   fun _ _ _ _ => mq_al (i := 0) rfl rfl,
   fun _ _ h0 => mq_cVr (na := 0) rfl rfl (Nat.le_of_ble_eq_true rfl) (Nat.le_of_ble_eq_true rfl) h0,
   fun _ _ => mq_push rfl,
   fun _ _ _ _ => mq_ic_eq rfl,
   fun _ _ _ _ => mq_al (i := 0) rfl rfl,
   fun _ _ h0 => mq_cVr (na := 0) rfl rfl (Nat.le_of_ble_eq_true rfl) (Nat.le_of_ble_eq_true rfl) h0,
   fun _ _ => mq_push rfl,
   fun _ _ _ _ => mq_ic_ne rfl,
   fun _ _ => mq_push rfl,
   fun _ _ => mq_go rfl,
   fun _ _ => mq_push rfl,
   fun _ _ _ _ _ => mq_is (i := 2) rfl rfl rfl,
   fun _ _ _ _ => mq_il (i := 2) rfl rfl,
   fun _ _ _ => mq_if_eq rfl,
   fun _ _ _ _ => mq_al (i := 0) rfl rfl,
   fun _ _ h0 => mq_cVv (na := 0) rfl rfl (Nat.le_of_ble_eq_true rfl) (Nat.le_of_ble_eq_true rfl) h0,
   fun _ _ => mq_go rfl,
   fun _ _ _ _ => mq_al (i := 0) rfl rfl,
   fun _ _ h0 => mq_cVv (na := 0) rfl rfl (Nat.le_of_ble_eq_true rfl) (Nat.le_of_ble_eq_true rfl) h0,
   fun _ _ _ _ => mq_al (i := 0) rfl rfl,
   fun _ _ _ h0 => mq_getI rfl h0,
   fun _ _ => mq_push rfl,
   fun _ _ _ _ => mq_ic_ne rfl,
   fun _ _ _ _ => mq_al (i := 0) rfl rfl,
   fun _ _ h0 => mq_cVr (na := 0) rfl rfl (Nat.le_of_ble_eq_true rfl) (Nat.le_of_ble_eq_true rfl) h0,
   fun _ _ => mq_cSr (na := 1) rfl (Nat.le_of_ble_eq_true rfl) (Nat.le_of_ble_eq_true rfl),
   fun _ _ _ => mq_if_eq rfl,
   fun _ _ => mq_push rfl,
   fun _ _ => mq_go rfl,
   fun _ _ => mq_push rfl,
   fun _ _ _ _ _ => mq_is (i := 2) rfl rfl rfl,
   fun _ _ _ _ => mq_il (i := 2) rfl rfl,
   fun _ _ _ => mq_if_eq rfl,
   fun _ _ _ _ => mq_al (i := 0) rfl rfl,
   fun _ _ h0 => mq_cVv (na := 0) rfl rfl (Nat.le_of_ble_eq_true rfl) (Nat.le_of_ble_eq_true rfl) h0,
   fun _ _ _ _ => mq_al (i := 0) rfl rfl,
   fun _ _ h0 => mq_cVv (na := 0) rfl rfl (Nat.le_of_ble_eq_true rfl) (Nat.le_of_ble_eq_true rfl) h0,
   fun _ _ _ _ => mq_al (i := 0) rfl rfl,
   fun _ _ h0 => mq_cVv (na := 0) rfl rfl (Nat.le_of_ble_eq_true rfl) (Nat.le_of_ble_eq_true rfl) h0,
   fun _ _ _ _ => mq_al (i := 0) rfl rfl,
   fun _ _ _ h0 => mq_getR rfl h0,
   fun _ _ _ _ => mq_il (i := 1) rfl rfl,
   fun _ _ _ _ => mq_al (i := 0) rfl rfl,
   fun _ _ _ h0 => mq_getR rfl h0,
   fun _ _ _ _ => mq_il (i := 1) rfl rfl,
   fun _ _ _ _ h0 => mq_iald rfl h0,
   fun _ _ _ _ _ h0 => mq_iast rfl h0,
   fun _ _ _ _ => mq_il (i := 2) rfl rfl,
   fun _ _ _ => mq_if_eq rfl,
   fun _ _ _ _ => mq_al (i := 0) rfl rfl,
   fun _ _ _ h0 => mq_getI rfl h0,
   fun _ _ => mq_push rfl,
   fun _ _ _ _ => mq_ic_ne rfl,
   fun _ _ _ _ => mq_al (i := 0) rfl rfl,
   fun _ _ h0 => mq_cVr (na := 0) rfl rfl (Nat.le_of_ble_eq_true rfl) (Nat.le_of_ble_eq_true rfl) h0,
   fun _ _ => mq_push rfl,
   fun _ _ _ _ => mq_ic_eq rfl,
   fun _ _ _ _ => mq_al (i := 0) rfl rfl,
   fun _ _ h0 => mq_cVv (na := 0) rfl rfl (Nat.le_of_ble_eq_true rfl) (Nat.le_of_ble_eq_true rfl) h0,
   fun _ => mq_rv rfl,
   fun _ _ _ _ => mq_al (i := 0) rfl rfl,
   fun _ _ _ => mq_dup rfl rfl,
   fun _ _ _ h0 => mq_getI rfl h0,
   fun _ _ => mq_push rfl,
   fun _ _ _ _ => mq_bi rfl,
   fun _ _ _ _ h0 => mq_putI rfl h0,
   fun _ _ _ _ => mq_al (i := 0) rfl rfl,
   fun _ _ _ h0 => mq_getR rfl h0,
   fun _ _ _ _ => mq_il (i := 1) rfl rfl,
   fun _ _ _ _ => mq_al (i := 0) rfl rfl,
   fun _ _ _ h0 => mq_getR rfl h0,
   fun _ _ _ _ => mq_al (i := 0) rfl rfl,
   fun _ _ _ h0 => mq_getI rfl h0,
   fun _ _ _ _ h0 => mq_iald rfl h0,
   fun _ _ _ _ _ h0 => mq_iast rfl h0,
   fun _ _ _ _ => mq_al (i := 0) rfl rfl,
   fun _ _ h0 => mq_cVv (na := 0) rfl rfl (Nat.le_of_ble_eq_true rfl) (Nat.le_of_ble_eq_true rfl) h0,
   fun _ _ _ _ => mq_al (i := 0) rfl rfl,
   fun _ _ _ h0 => mq_getR rfl h0,
   fun _ _ _ _ => mq_il (i := 1) rfl rfl,
   fun _ _ _ _ => mq_al (i := 0) rfl rfl,
   fun _ _ _ h0 => mq_getR rfl h0,
   fun _ _ _ _ => mq_al (i := 0) rfl rfl,
   fun _ _ _ h0 => mq_getI rfl h0,
   fun _ _ _ _ h0 => mq_iald rfl h0,
   fun _ _ _ _ _ h0 => mq_iast rfl h0,
   fun _ _ _ _ => mq_al (i := 0) rfl rfl,
   fun _ _ _ h0 => mq_getR rfl h0,
   fun _ _ _ _ => mq_al (i := 0) rfl rfl,
   fun _ _ _ h0 => mq_getI rfl h0,
   fun _ _ _ _ => mq_dup2 rfl rfl rfl,
   fun _ _ _ _ h0 => mq_iald rfl h0,
   fun _ _ => mq_push rfl,
   fun _ _ _ _ => mq_bi rfl,
   fun _ _ _ _ _ h0 => mq_iast rfl h0,
   fun _ => mq_rv rfl⟩
theorem eX12_clause (d n : Nat) (I L : mm_I) (P : mm_P) (x0 : Option Nat) : mm_rn (d + 1) 170 [.inr (.inr x0)] n I L P = mm_E d 170 0 [.inr (.inr x0), mm_junk, mm_junk] [] [] n I L P := rfl

set_option maxRecDepth 20000 in
set_option maxHeartbeats 8000000 in
theorem kX12_open (d n : Nat) (I L : mm_I) (P : mm_P) :
  (∀ (st : List mm_V) z (l1 : mm_V), mm_E d 171 0 [(.inr (.inr z)), l1] [] st n I L P = mm_E d 171 1 [(.inr (.inr z)), l1] [] ((.inr (.inr z)) :: st) n I L P) ∧
  (∀ (st : List mm_V) z (l0 : mm_V), mm_E d 171 1 [l0, (.inl z)] [] st n I L P = mm_E d 171 2 [l0, (.inl z)] [] ((.inl z) :: st) n I L P) ∧
  (∀ (lv : List mm_V) (st : List mm_V) a z, (mm_ok n a 12) → mm_E d 171 2 lv [] (.inl z :: .inr (.inr (some a)) :: st) n I L P = mm_E d 171 5 lv [] st n (mm_ui I a 14 z) L P) ∧
  (∀ (st : List mm_V) z (l1 : mm_V), mm_E d 171 5 [(.inr (.inr z)), l1] [] st n I L P = mm_E d 171 6 [(.inr (.inr z)), l1] [] ((.inr (.inr z)) :: st) n I L P) ∧
  (∀ (lv : List mm_V) (st : List mm_V), mm_E d 171 6 lv [] st n I L P = mm_E d 171 7 lv [] (.inl 0 :: st) n I L P) ∧
  (∀ (lv : List mm_V) (st : List mm_V) a z, (mm_ok n a 12) → mm_E d 171 7 lv [] (.inl z :: .inr (.inr (some a)) :: st) n I L P = mm_E d 171 10 lv [] st n (mm_ui I a 3 z) L P) ∧
  (∀ (st : List mm_V) z (l1 : mm_V), mm_E d 171 10 [(.inr (.inr z)), l1] [] st n I L P = mm_E d 171 11 [(.inr (.inr z)), l1] [] ((.inr (.inr z)) :: st) n I L P) ∧
  (∀ (lv : List mm_V) (st : List mm_V), mm_E d 171 11 lv [] st n I L P = mm_E d 171 12 lv [] (.inl (-1) :: st) n I L P) ∧
  (∀ (lv : List mm_V) (st : List mm_V) a z, (mm_ok n a 12) → mm_E d 171 12 lv [] (.inl z :: .inr (.inr (some a)) :: st) n I L P = mm_E d 171 15 lv [] st n (mm_ui I a 4 z) L P) ∧
  (∀ (st : List mm_V) z (l1 : mm_V), mm_E d 171 15 [(.inr (.inr z)), l1] [] st n I L P = mm_E d 171 16 [(.inr (.inr z)), l1] [] ((.inr (.inr z)) :: st) n I L P) ∧
  (∀ (lv : List mm_V) (st : List mm_V), mm_E d 171 16 lv [] st n I L P = mm_E d 171 17 lv [] (.inl 0 :: st) n I L P) ∧
  (∀ (lv : List mm_V) (st : List mm_V) a z, (mm_ok n a 12) → mm_E d 171 17 lv [] (.inl z :: .inr (.inr (some a)) :: st) n I L P = mm_E d 171 20 lv [] st n (mm_ui I a 5 z) L P) ∧
  (∀ (st : List mm_V) z (l1 : mm_V), mm_E d 171 20 [(.inr (.inr z)), l1] [] st n I L P = mm_E d 171 21 [(.inr (.inr z)), l1] [] ((.inr (.inr z)) :: st) n I L P) ∧
  (∀ (lv : List mm_V) (st : List mm_V) a, (mm_ok n a 12) → mm_E d 171 21 lv [] (.inr (.inr (some a)) :: st) n I L P = mm_E d 171 24 lv [] (.inr (.inr (P a 8)) :: st) n I L P) ∧
  (∀ (st : List mm_V) z (l0 : mm_V), mm_E d 171 24 [l0, (.inl z)] [] st n I L P = mm_E d 171 25 [l0, (.inl z)] [] ((.inl z) :: st) n I L P) ∧
  (∀ (lv : List mm_V) (st : List mm_V), mm_E d 171 25 lv [] st n I L P = mm_E d 171 26 lv [] (.inl 0 :: st) n I L P) ∧
  (∀ (lv : List mm_V) (st : List mm_V) a i z, (mm_ix n a 20 i) → mm_E d 171 26 lv [] (.inl z :: .inl i :: .inr (.inr (some a)) :: st) n I L P = mm_E d 171 27 lv [] st n (mm_ui I a i.toNat z) L P) ∧
  (∀ (st : List mm_V) z (l1 : mm_V), mm_E d 171 27 [(.inr (.inr z)), l1] [] st n I L P = mm_E d 171 28 [(.inr (.inr z)), l1] [] ((.inr (.inr z)) :: st) n I L P) ∧
  (∀ (lv : List mm_V) (st : List mm_V) a, (mm_ok n a 12) → mm_E d 171 28 lv [] (.inr (.inr (some a)) :: st) n I L P = mm_E d 171 31 lv [] (.inr (.inr (P a 9)) :: st) n I L P) ∧
  (∀ (st : List mm_V) z (l0 : mm_V), mm_E d 171 31 [l0, (.inl z)] [] st n I L P = mm_E d 171 32 [l0, (.inl z)] [] ((.inl z) :: st) n I L P) ∧
  (∀ (lv : List mm_V) (st : List mm_V), mm_E d 171 32 lv [] st n I L P = mm_E d 171 33 lv [] (.inl 0 :: st) n I L P) ∧
  (∀ (lv : List mm_V) (st : List mm_V) a i z, (mm_ix n a 20 i) → mm_E d 171 33 lv [] (.inl z :: .inl i :: .inr (.inr (some a)) :: st) n I L P = mm_E d 171 34 lv [] st n (mm_ui I a i.toNat z) L P) ∧
  (∀ (lv : List mm_V), mm_E d 171 34 lv [] [] n I L P = some (none, n, I, L, P)) :=
  ⟨fun _ _ _ => mq_al (i := 0) rfl rfl,
   fun _ _ _ => mq_il (i := 1) rfl rfl,
   fun _ _ _ _ h0 => mq_putI rfl h0,
   fun _ _ _ => mq_al (i := 0) rfl rfl,
   fun _ _ => mq_push rfl,
   fun _ _ _ _ h0 => mq_putI rfl h0,
   fun _ _ _ => mq_al (i := 0) rfl rfl,
   fun _ _ => mq_push rfl,
   fun _ _ _ _ h0 => mq_putI rfl h0,
   fun _ _ _ => mq_al (i := 0) rfl rfl,
   fun _ _ => mq_push rfl,
   fun _ _ _ _ h0 => mq_putI rfl h0,
   fun _ _ _ => mq_al (i := 0) rfl rfl,
   fun _ _ _ h0 => mq_getR rfl h0,
   fun _ _ _ => mq_il (i := 1) rfl rfl,
   fun _ _ => mq_push rfl,
   fun _ _ _ _ _ h0 => mq_iast rfl h0,
   fun _ _ _ => mq_al (i := 0) rfl rfl,
   fun _ _ _ h0 => mq_getR rfl h0,
   fun _ _ _ => mq_il (i := 1) rfl rfl,
   fun _ _ => mq_push rfl,
   fun _ _ _ _ _ h0 => mq_iast rfl h0,
   fun _ => mq_rv rfl⟩
theorem eX12_open (d n : Nat) (I L : mm_I) (P : mm_P) (x0 : Option Nat) (x1 : Int) : mm_rn (d + 1) 171 [.inr (.inr x0), .inl x1] n I L P = mm_E d 171 0 [.inr (.inr x0), .inl x1] [] [] n I L P := rfl

set_option maxRecDepth 20000 in
set_option maxHeartbeats 8000000 in
theorem kX12_atEnd (d n : Nat) (I L : mm_I) (P : mm_P) :
  (∀ (st : List mm_V) z, mm_E d 172 0 [(.inr (.inr z))] [] st n I L P = mm_E d 172 1 [(.inr (.inr z))] [] ((.inr (.inr z)) :: st) n I L P) ∧
  (∀ (lv : List mm_V) (st : List mm_V) a, (mm_ok n a 12) → mm_E d 172 1 lv [] (.inr (.inr (some a)) :: st) n I L P = mm_E d 172 4 lv [] (.inl (I a 4) :: st) n I L P) ∧
  (∀ (lv : List mm_V) (st : List mm_V), mm_E d 172 4 lv [] st n I L P = mm_E d 172 5 lv [] (.inl (-1) :: st) n I L P) ∧
  (∀ (lv : List mm_V) (st : List mm_V) a b, mm_E d 172 5 lv [] (.inl b :: .inl a :: st) n I L P = if a = b then mm_E d 172 8 lv [] st n I L P else mm_E d 172 20 lv [] st n I L P) ∧
  (∀ (st : List mm_V) z, mm_E d 172 8 [(.inr (.inr z))] [] st n I L P = mm_E d 172 9 [(.inr (.inr z))] [] ((.inr (.inr z)) :: st) n I L P) ∧
  (∀ (lv : List mm_V) a, (mm_ok n a 12) → mm_E d 172 9 lv [] (.inr (.inr (some a)) :: []) n I L P = mm_kr d 172 12 lv [] [] n (mm_rn d 153 [.inr (.inr (some a))] n I L P)) ∧
  (∀ (lv : List mm_V) (st : List mm_V), mm_E d 172 12 lv [] st n I L P = mm_E d 172 13 lv [] (.inl (-1) :: st) n I L P) ∧
  (∀ (lv : List mm_V) (st : List mm_V) a b, mm_E d 172 13 lv [] (.inl b :: .inl a :: st) n I L P = if a = b then mm_E d 172 20 lv [] st n I L P else mm_E d 172 16 lv [] st n I L P) ∧
  (∀ (st : List mm_V) z, mm_E d 172 16 [(.inr (.inr z))] [] st n I L P = mm_E d 172 17 [(.inr (.inr z))] [] ((.inr (.inr z)) :: st) n I L P) ∧
  (∀ (lv : List mm_V) a, (mm_ok n a 12) → mm_E d 172 17 lv [] (.inr (.inr (some a)) :: []) n I L P = mm_kv d 172 20 lv [] [] n (mm_rn d 154 [.inr (.inr (some a))] n I L P)) ∧
  (∀ (st : List mm_V) z, mm_E d 172 20 [(.inr (.inr z))] [] st n I L P = mm_E d 172 21 [(.inr (.inr z))] [] ((.inr (.inr z)) :: st) n I L P) ∧
  (∀ (lv : List mm_V) (st : List mm_V) a, (mm_ok n a 12) → mm_E d 172 21 lv [] (.inr (.inr (some a)) :: st) n I L P = mm_E d 172 24 lv [] (.inl (I a 4) :: st) n I L P) ∧
  (∀ (lv : List mm_V) z, mm_E d 172 24 lv [] [.inl z] n I L P = some (some (.inl z), n, I, L, P)) :=
  ⟨fun _ _ => mq_al (i := 0) rfl rfl,
   fun _ _ _ h0 => mq_getI rfl h0,
   fun _ _ => mq_push rfl,
   fun _ _ _ _ => mq_ic_ne rfl,
   fun _ _ => mq_al (i := 0) rfl rfl,
   fun _ _ h0 => mq_cVr (na := 0) rfl rfl (Nat.le_of_ble_eq_true rfl) (Nat.le_of_ble_eq_true rfl) h0,
   fun _ _ => mq_push rfl,
   fun _ _ _ _ => mq_ic_eq rfl,
   fun _ _ => mq_al (i := 0) rfl rfl,
   fun _ _ h0 => mq_cVv (na := 0) rfl rfl (Nat.le_of_ble_eq_true rfl) (Nat.le_of_ble_eq_true rfl) h0,
   fun _ _ => mq_al (i := 0) rfl rfl,
   fun _ _ _ h0 => mq_getI rfl h0,
   fun _ _ => mq_ri rfl⟩
theorem eX12_atEnd (d n : Nat) (I L : mm_I) (P : mm_P) (x0 : Option Nat) : mm_rn (d + 1) 172 [.inr (.inr x0)] n I L P = mm_E d 172 0 [.inr (.inr x0)] [] [] n I L P := rfl

set_option maxRecDepth 20000 in
set_option maxHeartbeats 8000000 in
theorem kX12_readLaw (d n : Nat) (I L : mm_I) (P : mm_P) :
  (∀ (st : List mm_V) z (l1 : mm_V), mm_E d 173 0 [(.inr (.inr z)), l1] [] st n I L P = mm_E d 173 1 [(.inr (.inr z)), l1] [] ((.inr (.inr z)) :: st) n I L P) ∧
  (∀ (st : List mm_V) z (l0 : mm_V), mm_E d 173 1 [l0, (.inl z)] [] st n I L P = mm_E d 173 2 [l0, (.inl z)] [] ((.inl z) :: st) n I L P) ∧
  (∀ (lv : List mm_V) a x0, (mm_ok n a 12) → mm_E d 173 2 lv [] (.inl x0 :: .inr (.inr (some a)) :: []) n I L P = mm_kv d 173 5 lv [] [] n (mm_rn d 171 [.inr (.inr (some a)), .inl x0] n I L P)) ∧
  (∀ (st : List mm_V) z (l1 : mm_V), mm_E d 173 5 [(.inr (.inr z)), l1] [] st n I L P = mm_E d 173 6 [(.inr (.inr z)), l1] [] ((.inr (.inr z)) :: st) n I L P) ∧
  (∀ (lv : List mm_V) a, (mm_ok n a 12) → mm_E d 173 6 lv [] (.inr (.inr (some a)) :: []) n I L P = mm_kv d 173 9 lv [] [] n (mm_rn d 170 [.inr (.inr (some a))] n I L P)) ∧
  (∀ (lv : List mm_V) (st : List mm_V) a, (mm_ok n a 12) → mm_E d 173 10 lv [] (.inr (.inr (some a)) :: st) n I L P = mm_E d 173 13 lv [] (.inl (I a 4) :: st) n I L P) ∧
  (∀ (lv : List mm_V) (st : List mm_V), mm_E d 173 13 lv [] st n I L P = mm_E d 173 14 lv [] (.inl (-1) :: st) n I L P) ∧
  (∀ (lv : List mm_V) (st : List mm_V) a b, mm_E d 173 14 lv [] (.inl b :: .inl a :: st) n I L P = if a = b then mm_E d 173 17 lv [] st n I L P else mm_E d 173 43 lv [] st n I L P) ∧
  (∀ (st : List mm_V) z (l1 : mm_V), mm_E d 173 17 [(.inr (.inr z)), l1] [] st n I L P = mm_E d 173 18 [(.inr (.inr z)), l1] [] ((.inr (.inr z)) :: st) n I L P) ∧
  (∀ (lv : List mm_V) a, (mm_ok n a 12) → mm_E d 173 18 lv [] (.inr (.inr (some a)) :: []) n I L P = mm_kr d 173 21 lv [] [] n (mm_rn d 153 [.inr (.inr (some a))] n I L P)) ∧
  (∀ (lv : List mm_V) (st : List mm_V), mm_E d 173 21 lv [] st n I L P = mm_E d 173 23 lv [] (.inl 59 :: st) n I L P) ∧
  (∀ (lv : List mm_V) (st : List mm_V) a b, mm_E d 173 23 lv [] (.inl b :: .inl a :: st) n I L P = if a = b then mm_E d 173 26 lv [] st n I L P else mm_E d 173 43 lv [] st n I L P) ∧
  (∀ (st : List mm_V) z (l1 : mm_V), mm_E d 173 26 [(.inr (.inr z)), l1] [] st n I L P = mm_E d 173 27 [(.inr (.inr z)), l1] [] ((.inr (.inr z)) :: st) n I L P) ∧
  (∀ (lv : List mm_V) (st : List mm_V) a, mm_E d 173 27 lv [] ((.inr (.inr a)) :: st) n I L P = mm_E d 173 28 lv [] ((.inr (.inr a)) :: (.inr (.inr a)) :: st) n I L P) ∧
  (∀ (lv : List mm_V) (st : List mm_V) a, (mm_ok n a 12) → mm_E d 173 28 lv [] (.inr (.inr (some a)) :: st) n I L P = mm_E d 173 31 lv [] (.inl (I a 3) :: st) n I L P) ∧
  (∀ (lv : List mm_V) (st : List mm_V), mm_E d 173 31 lv [] st n I L P = mm_E d 173 32 lv [] (.inl 1 :: st) n I L P) ∧
  (∀ (lv : List mm_V) (st : List mm_V) a b, mm_E d 173 32 lv [] (.inl b :: .inl a :: st) n I L P = mm_E d 173 33 lv [] (.inl (mm_add a b) :: st) n I L P) ∧
  (∀ (lv : List mm_V) (st : List mm_V) a z, (mm_ok n a 12) → mm_E d 173 33 lv [] (.inl z :: .inr (.inr (some a)) :: st) n I L P = mm_E d 173 36 lv [] st n (mm_ui I a 3 z) L P) ∧
  (∀ (st : List mm_V) z (l1 : mm_V), mm_E d 173 36 [(.inr (.inr z)), l1] [] st n I L P = mm_E d 173 37 [(.inr (.inr z)), l1] [] ((.inr (.inr z)) :: st) n I L P) ∧
  (∀ (lv : List mm_V) a, (mm_ok n a 12) → mm_E d 173 37 lv [] (.inr (.inr (some a)) :: []) n I L P = mm_kv d 173 40 lv [] [] n (mm_rn d 170 [.inr (.inr (some a))] n I L P)) ∧
  (∀ (lv : List mm_V) (st : List mm_V), mm_E d 173 40 lv [] st n I L P = mm_E d 173 9 lv [] st n I L P) ∧
  (∀ (st : List mm_V) z (l1 : mm_V), mm_E d 173 43 [(.inr (.inr z)), l1] [] st n I L P = mm_E d 173 44 [(.inr (.inr z)), l1] [] ((.inr (.inr z)) :: st) n I L P) ∧
  (∀ (lv : List mm_V) a, (mm_ok n a 12) → mm_E d 173 44 lv [] (.inr (.inr (some a)) :: []) n I L P = mm_kr d 173 47 lv [] [] n (mm_rn d 172 [.inr (.inr (some a))] n I L P)) ∧
  (∀ (lv : List mm_V) z, mm_E d 173 47 lv [] [.inl z] n I L P = some (some (.inl z), n, I, L, P)) :=
  ⟨fun _ _ _ => mq_al (i := 0) rfl rfl,
   fun _ _ _ => mq_il (i := 1) rfl rfl,
   fun _ _ _ h0 => mq_cVv (na := 1) rfl rfl (Nat.le_of_ble_eq_true rfl) (Nat.le_of_ble_eq_true rfl) h0,
   fun _ _ _ => mq_al (i := 0) rfl rfl,
   fun _ _ h0 => mq_cVv (na := 0) rfl rfl (Nat.le_of_ble_eq_true rfl) (Nat.le_of_ble_eq_true rfl) h0,
   fun _ _ _ h0 => mq_getI rfl h0,
   fun _ _ => mq_push rfl,
   fun _ _ _ _ => mq_ic_ne rfl,
   fun _ _ _ => mq_al (i := 0) rfl rfl,
   fun _ _ h0 => mq_cVr (na := 0) rfl rfl (Nat.le_of_ble_eq_true rfl) (Nat.le_of_ble_eq_true rfl) h0,
   fun _ _ => mq_push rfl,
   fun _ _ _ _ => mq_ic_ne rfl,
   fun _ _ _ => mq_al (i := 0) rfl rfl,
   fun _ _ _ => mq_dup rfl rfl,
   fun _ _ _ h0 => mq_getI rfl h0,
   fun _ _ => mq_push rfl,
   fun _ _ _ _ => mq_bi rfl,
   fun _ _ _ _ h0 => mq_putI rfl h0,
   fun _ _ _ => mq_al (i := 0) rfl rfl,
   fun _ _ h0 => mq_cVv (na := 0) rfl rfl (Nat.le_of_ble_eq_true rfl) (Nat.le_of_ble_eq_true rfl) h0,
   fun _ _ => mq_go rfl,
   fun _ _ _ => mq_al (i := 0) rfl rfl,
   fun _ _ h0 => mq_cVr (na := 0) rfl rfl (Nat.le_of_ble_eq_true rfl) (Nat.le_of_ble_eq_true rfl) h0,
   fun _ _ => mq_ri rfl⟩
theorem hX12_readLaw_9 (d n : Nat) (I L : mm_I) (P : mm_P) : ∀ (st : List mm_V) z (l1 : mm_V), mm_E d 173 9 [(.inr (.inr z)), l1] [] st n I L P = mm_E d 173 10 [(.inr (.inr z)), l1] [] ((.inr (.inr z)) :: st) n I L P := fun _ _ _ => mq_al (i := 0) rfl rfl
theorem eX12_readLaw (d n : Nat) (I L : mm_I) (P : mm_P) (x0 : Option Nat) (x1 : Int) : mm_rn (d + 1) 173 [.inr (.inr x0), .inl x1] n I L P = mm_E d 173 0 [.inr (.inr x0), .inl x1] [] [] n I L P := rfl

set_option maxRecDepth 20000 in
set_option maxHeartbeats 8000000 in
theorem kX12_bounded (d n : Nat) (I L : mm_I) (P : mm_P) :
  (∀ (ll : List (Option Int)) (lv : List mm_V) (st : List mm_V), mm_E d 174 0 lv ll st n I L P = mm_E d 174 3 lv ll (.inr (.inl (-1000000)) :: st) n I L P) ∧
  (∀ (ll : List (Option Int)) (lv : List mm_V) (st : List mm_V), mm_E d 174 3 lv ll st n I L P = mm_E d 174 6 lv ll (.inr (.inl 1000000) :: st) n I L P) ∧
  (∀ (lv : List mm_V) (st : List mm_V) z (g1 : Option Int), mm_E d 174 6 lv [(some z), g1] st n I L P = mm_E d 174 7 lv [(some z), g1] (.inr (.inl z) :: st) n I L P) ∧
  (∀ (lv : List mm_V) (ll : List (Option Int)) x0 x1 w0, mm_E d 174 7 lv ll (.inr (.inl x1) :: .inr (.inl x0) :: [.inr (.inl w0)]) n I L P = mm_kr d 174 10 lv ll [.inr (.inl w0)] n (mm_rn d 268 [.inr (.inl x0), .inr (.inl x1)] n I L P)) ∧
  (∀ (lv : List mm_V) (ll : List (Option Int)) x0 x1, mm_E d 174 10 lv ll (.inr (.inl x1) :: .inr (.inl x0) :: []) n I L P = mm_kr d 174 13 lv ll [] n (mm_rn d 266 [.inr (.inl x0), .inr (.inl x1)] n I L P)) ∧
  (∀ (lv : List mm_V) (ll : List (Option Int)) (st : List mm_V) a, mm_E d 174 13 lv ll (.inr (.inl a) :: st) n I L P = mm_E d 174 14 lv ll (.inl (mm_w a) :: st) n I L P) ∧
  (∀ (lv : List mm_V) (ll : List (Option Int)) z, mm_E d 174 14 lv ll [.inl z] n I L P = some (some (.inl z), n, I, L, P)) :=
  ⟨fun _ _ _ => mq_push rfl,
   fun _ _ _ => mq_push rfl,
   fun _ _ _ _ => mq_ll (i := 0) rfl rfl,
   fun _ _ _ _ _ => mq_cSr (na := 2) rfl (Nat.le_of_ble_eq_true rfl) (Nat.le_of_ble_eq_true rfl),
   fun _ _ _ _ => mq_cSr (na := 2) rfl (Nat.le_of_ble_eq_true rfl) (Nat.le_of_ble_eq_true rfl),
   fun _ _ _ _ => mq_l2i rfl,
   fun _ _ _ => mq_ri rfl⟩
theorem eX12_bounded (d n : Nat) (I L : mm_I) (P : mm_P) (x0 : Int) : mm_rn (d + 1) 174 [.inr (.inl x0)] n I L P = mm_E d 174 0 [mm_junk, mm_junk] [some x0, none] [] n I L P := rfl

set_option maxRecDepth 20000 in
set_option maxHeartbeats 8000000 in
theorem kX12_worked (d n : Nat) (I L : mm_I) (P : mm_P) :
  (∀ (ll : List (Option Int)) (st : List mm_V) z (l1 : mm_V) (l2 : mm_V) (l3 : mm_V) (l4 : mm_V), mm_E d 175 0 [(.inl z), l1, l2, l3, l4] ll st n I L P = mm_E d 175 1 [(.inl z), l1, l2, l3, l4] ll ((.inl z) :: st) n I L P) ∧
  (∀ (lv : List mm_V) (ll : List (Option Int)) (st : List mm_V) a, mm_E d 175 1 lv ll (.inl a :: st) n I L P = if a = 2 then mm_E d 175 52 lv ll st n I L P else if a = 3 then mm_E d 175 59 lv ll st n I L P else if a = 4 then mm_E d 175 66 lv ll st n I L P else if a = 5 then mm_E d 175 73 lv ll st n I L P else if a = 6 then mm_E d 175 90 lv ll st n I L P else if a = 7 then mm_E d 175 102 lv ll st n I L P else if a = 8 then mm_E d 175 114 lv ll st n I L P else if a = 9 then mm_E d 175 144 lv ll st n I L P else if a = 10 then mm_E d 175 126 lv ll st n I L P else mm_E d 175 144 lv ll st n I L P) ∧
  (∀ (lv : List mm_V) (st : List mm_V) z (g0 : Option Int) (g2 : Option Int) (g3 : Option Int) (g4 : Option Int), mm_E d 175 52 lv [g0, (some z), g2, g3, g4] st n I L P = mm_E d 175 53 lv [g0, (some z), g2, g3, g4] (.inr (.inl z) :: st) n I L P) ∧
  (∀ (lv : List mm_V) (st : List mm_V) z (g0 : Option Int) (g1 : Option Int) (g2 : Option Int) (g4 : Option Int), mm_E d 175 53 lv [g0, g1, g2, (some z), g4] st n I L P = mm_E d 175 54 lv [g0, g1, g2, (some z), g4] (.inr (.inl z) :: st) n I L P) ∧
  (∀ (lv : List mm_V) (ll : List (Option Int)) (st : List mm_V) a b, mm_E d 175 54 lv ll (.inr (.inl b) :: .inr (.inl a) :: st) n I L P = mm_E d 175 55 lv ll (.inr (.inl (mm_laddl a b)) :: st) n I L P) ∧
  (∀ (lv : List mm_V) (ll : List (Option Int)) x0, mm_E d 175 55 lv ll (.inr (.inl x0) :: []) n I L P = mm_kr d 175 58 lv ll [] n (mm_rn d 174 [.inr (.inl x0)] n I L P)) ∧
  (∀ (lv : List mm_V) (ll : List (Option Int)) z, mm_E d 175 58 lv ll [.inl z] n I L P = some (some (.inl z), n, I, L, P)) ∧
  (∀ (lv : List mm_V) (st : List mm_V) z (g0 : Option Int) (g2 : Option Int) (g3 : Option Int) (g4 : Option Int), mm_E d 175 59 lv [g0, (some z), g2, g3, g4] st n I L P = mm_E d 175 60 lv [g0, (some z), g2, g3, g4] (.inr (.inl z) :: st) n I L P) ∧
  (∀ (lv : List mm_V) (st : List mm_V) z (g0 : Option Int) (g1 : Option Int) (g2 : Option Int) (g4 : Option Int), mm_E d 175 60 lv [g0, g1, g2, (some z), g4] st n I L P = mm_E d 175 61 lv [g0, g1, g2, (some z), g4] (.inr (.inl z) :: st) n I L P) ∧
  (∀ (lv : List mm_V) (ll : List (Option Int)) (st : List mm_V) a b, mm_E d 175 61 lv ll (.inr (.inl b) :: .inr (.inl a) :: st) n I L P = mm_E d 175 62 lv ll (.inr (.inl (mm_lsubl a b)) :: st) n I L P) ∧
  (∀ (lv : List mm_V) (ll : List (Option Int)) x0, mm_E d 175 62 lv ll (.inr (.inl x0) :: []) n I L P = mm_kr d 175 65 lv ll [] n (mm_rn d 174 [.inr (.inl x0)] n I L P)) ∧
  (∀ (lv : List mm_V) (ll : List (Option Int)) z, mm_E d 175 65 lv ll [.inl z] n I L P = some (some (.inl z), n, I, L, P)) ∧
  (∀ (lv : List mm_V) (st : List mm_V) z (g0 : Option Int) (g2 : Option Int) (g3 : Option Int) (g4 : Option Int), mm_E d 175 66 lv [g0, (some z), g2, g3, g4] st n I L P = mm_E d 175 67 lv [g0, (some z), g2, g3, g4] (.inr (.inl z) :: st) n I L P) ∧
  (∀ (lv : List mm_V) (st : List mm_V) z (g0 : Option Int) (g1 : Option Int) (g2 : Option Int) (g4 : Option Int), mm_E d 175 67 lv [g0, g1, g2, (some z), g4] st n I L P = mm_E d 175 68 lv [g0, g1, g2, (some z), g4] (.inr (.inl z) :: st) n I L P) ∧
  (∀ (lv : List mm_V) (ll : List (Option Int)) (st : List mm_V) a b, mm_E d 175 68 lv ll (.inr (.inl b) :: .inr (.inl a) :: st) n I L P = mm_E d 175 69 lv ll (.inr (.inl (mm_lmull a b)) :: st) n I L P) ∧
  (∀ (lv : List mm_V) (ll : List (Option Int)) x0, mm_E d 175 69 lv ll (.inr (.inl x0) :: []) n I L P = mm_kr d 175 72 lv ll [] n (mm_rn d 174 [.inr (.inl x0)] n I L P)) ∧
  (∀ (lv : List mm_V) (ll : List (Option Int)) z, mm_E d 175 72 lv ll [.inl z] n I L P = some (some (.inl z), n, I, L, P)) ∧
  (∀ (lv : List mm_V) (st : List mm_V) z (g0 : Option Int) (g1 : Option Int) (g2 : Option Int) (g4 : Option Int), mm_E d 175 73 lv [g0, g1, g2, (some z), g4] st n I L P = mm_E d 175 74 lv [g0, g1, g2, (some z), g4] (.inr (.inl z) :: st) n I L P) ∧
  (∀ (ll : List (Option Int)) (lv : List mm_V) (st : List mm_V), mm_E d 175 74 lv ll st n I L P = mm_E d 175 75 lv ll (.inr (.inl 0) :: st) n I L P) ∧
  (∀ (lv : List mm_V) (ll : List (Option Int)) (st : List mm_V) a b, mm_E d 175 75 lv ll (.inr (.inl b) :: .inr (.inl a) :: st) n I L P = mm_E d 175 76 lv ll (.inl (if a < b then -1 else if a = b then 0 else 1) :: st) n I L P) ∧
  (∀ (lv : List mm_V) (ll : List (Option Int)) (st : List mm_V) a, mm_E d 175 76 lv ll (.inl a :: st) n I L P = if a = 0 then mm_E d 175 79 lv ll st n I L P else mm_E d 175 83 lv ll st n I L P) ∧
  (∀ (ll : List (Option Int)) (lv : List mm_V) (st : List mm_V), mm_E d 175 79 lv ll st n I L P = mm_E d 175 80 lv ll (.inl 0 :: st) n I L P) ∧
  (∀ (lv : List mm_V) (ll : List (Option Int)) (st : List mm_V), mm_E d 175 80 lv ll st n I L P = mm_E d 175 89 lv ll st n I L P) ∧
  (∀ (lv : List mm_V) (st : List mm_V) z (g0 : Option Int) (g2 : Option Int) (g3 : Option Int) (g4 : Option Int), mm_E d 175 83 lv [g0, (some z), g2, g3, g4] st n I L P = mm_E d 175 84 lv [g0, (some z), g2, g3, g4] (.inr (.inl z) :: st) n I L P) ∧
  (∀ (lv : List mm_V) (st : List mm_V) z (g0 : Option Int) (g1 : Option Int) (g2 : Option Int) (g4 : Option Int), mm_E d 175 84 lv [g0, g1, g2, (some z), g4] st n I L P = mm_E d 175 85 lv [g0, g1, g2, (some z), g4] (.inr (.inl z) :: st) n I L P) ∧
  (∀ (lv : List mm_V) (ll : List (Option Int)) (st : List mm_V) a b, (¬ b = 0) → mm_E d 175 85 lv ll (.inr (.inl b) :: .inr (.inl a) :: st) n I L P = mm_E d 175 86 lv ll (.inr (.inl (mm_wl (Int.tdiv a b))) :: st) n I L P) ∧
  (∀ (lv : List mm_V) (ll : List (Option Int)) x0, mm_E d 175 86 lv ll (.inr (.inl x0) :: []) n I L P = mm_kr d 175 89 lv ll [] n (mm_rn d 174 [.inr (.inl x0)] n I L P)) ∧
  (∀ (lv : List mm_V) (ll : List (Option Int)) z, mm_E d 175 89 lv ll [.inl z] n I L P = some (some (.inl z), n, I, L, P)) ∧
  (∀ (lv : List mm_V) (st : List mm_V) z (g0 : Option Int) (g2 : Option Int) (g3 : Option Int) (g4 : Option Int), mm_E d 175 90 lv [g0, (some z), g2, g3, g4] st n I L P = mm_E d 175 91 lv [g0, (some z), g2, g3, g4] (.inr (.inl z) :: st) n I L P) ∧
  (∀ (lv : List mm_V) (st : List mm_V) z (g0 : Option Int) (g1 : Option Int) (g2 : Option Int) (g4 : Option Int), mm_E d 175 91 lv [g0, g1, g2, (some z), g4] st n I L P = mm_E d 175 92 lv [g0, g1, g2, (some z), g4] (.inr (.inl z) :: st) n I L P) ∧
  (∀ (lv : List mm_V) (ll : List (Option Int)) (st : List mm_V) a b, mm_E d 175 92 lv ll (.inr (.inl b) :: .inr (.inl a) :: st) n I L P = mm_E d 175 93 lv ll (.inl (if a < b then -1 else if a = b then 0 else 1) :: st) n I L P) ∧
  (∀ (lv : List mm_V) (ll : List (Option Int)) (st : List mm_V) a, mm_E d 175 93 lv ll (.inl a :: st) n I L P = if a = 0 then mm_E d 175 96 lv ll st n I L P else mm_E d 175 100 lv ll st n I L P) ∧
  (∀ (ll : List (Option Int)) (lv : List mm_V) (st : List mm_V), mm_E d 175 96 lv ll st n I L P = mm_E d 175 97 lv ll (.inl 1 :: st) n I L P) ∧
  (∀ (lv : List mm_V) (ll : List (Option Int)) (st : List mm_V), mm_E d 175 97 lv ll st n I L P = mm_E d 175 101 lv ll st n I L P) ∧
  (∀ (ll : List (Option Int)) (lv : List mm_V) (st : List mm_V), mm_E d 175 100 lv ll st n I L P = mm_E d 175 101 lv ll (.inl 0 :: st) n I L P) ∧
  (∀ (lv : List mm_V) (ll : List (Option Int)) z, mm_E d 175 101 lv ll [.inl z] n I L P = some (some (.inl z), n, I, L, P)) ∧
  (∀ (lv : List mm_V) (st : List mm_V) z (g0 : Option Int) (g2 : Option Int) (g3 : Option Int) (g4 : Option Int), mm_E d 175 102 lv [g0, (some z), g2, g3, g4] st n I L P = mm_E d 175 103 lv [g0, (some z), g2, g3, g4] (.inr (.inl z) :: st) n I L P) ∧
  (∀ (lv : List mm_V) (st : List mm_V) z (g0 : Option Int) (g1 : Option Int) (g2 : Option Int) (g4 : Option Int), mm_E d 175 103 lv [g0, g1, g2, (some z), g4] st n I L P = mm_E d 175 104 lv [g0, g1, g2, (some z), g4] (.inr (.inl z) :: st) n I L P) ∧
  (∀ (lv : List mm_V) (ll : List (Option Int)) (st : List mm_V) a b, mm_E d 175 104 lv ll (.inr (.inl b) :: .inr (.inl a) :: st) n I L P = mm_E d 175 105 lv ll (.inl (if a < b then -1 else if a = b then 0 else 1) :: st) n I L P) ∧
  (∀ (lv : List mm_V) (ll : List (Option Int)) (st : List mm_V) a, mm_E d 175 105 lv ll (.inl a :: st) n I L P = if 0 ≤ a then mm_E d 175 112 lv ll st n I L P else mm_E d 175 108 lv ll st n I L P) ∧
  (∀ (ll : List (Option Int)) (lv : List mm_V) (st : List mm_V), mm_E d 175 108 lv ll st n I L P = mm_E d 175 109 lv ll (.inl 1 :: st) n I L P) ∧
  (∀ (lv : List mm_V) (ll : List (Option Int)) (st : List mm_V), mm_E d 175 109 lv ll st n I L P = mm_E d 175 113 lv ll st n I L P) ∧
  (∀ (ll : List (Option Int)) (lv : List mm_V) (st : List mm_V), mm_E d 175 112 lv ll st n I L P = mm_E d 175 113 lv ll (.inl 0 :: st) n I L P) ∧
  (∀ (lv : List mm_V) (ll : List (Option Int)) z, mm_E d 175 113 lv ll [.inl z] n I L P = some (some (.inl z), n, I, L, P)) ∧
  (∀ (lv : List mm_V) (st : List mm_V) z (g0 : Option Int) (g2 : Option Int) (g3 : Option Int) (g4 : Option Int), mm_E d 175 114 lv [g0, (some z), g2, g3, g4] st n I L P = mm_E d 175 115 lv [g0, (some z), g2, g3, g4] (.inr (.inl z) :: st) n I L P) ∧
  (∀ (lv : List mm_V) (st : List mm_V) z (g0 : Option Int) (g1 : Option Int) (g2 : Option Int) (g4 : Option Int), mm_E d 175 115 lv [g0, g1, g2, (some z), g4] st n I L P = mm_E d 175 116 lv [g0, g1, g2, (some z), g4] (.inr (.inl z) :: st) n I L P) ∧
  (∀ (lv : List mm_V) (ll : List (Option Int)) (st : List mm_V) a b, mm_E d 175 116 lv ll (.inr (.inl b) :: .inr (.inl a) :: st) n I L P = mm_E d 175 117 lv ll (.inl (if a < b then -1 else if a = b then 0 else 1) :: st) n I L P) ∧
  (∀ (lv : List mm_V) (ll : List (Option Int)) (st : List mm_V) a, mm_E d 175 117 lv ll (.inl a :: st) n I L P = if a ≤ 0 then mm_E d 175 124 lv ll st n I L P else mm_E d 175 120 lv ll st n I L P) ∧
  (∀ (ll : List (Option Int)) (lv : List mm_V) (st : List mm_V), mm_E d 175 120 lv ll st n I L P = mm_E d 175 121 lv ll (.inl 1 :: st) n I L P) ∧
  (∀ (lv : List mm_V) (ll : List (Option Int)) (st : List mm_V), mm_E d 175 121 lv ll st n I L P = mm_E d 175 125 lv ll st n I L P) ∧
  (∀ (ll : List (Option Int)) (lv : List mm_V) (st : List mm_V), mm_E d 175 124 lv ll st n I L P = mm_E d 175 125 lv ll (.inl 0 :: st) n I L P) ∧
  (∀ (lv : List mm_V) (ll : List (Option Int)) z, mm_E d 175 125 lv ll [.inl z] n I L P = some (some (.inl z), n, I, L, P)) ∧
  (∀ (lv : List mm_V) (st : List mm_V) z (g0 : Option Int) (g2 : Option Int) (g3 : Option Int) (g4 : Option Int), mm_E d 175 126 lv [g0, (some z), g2, g3, g4] st n I L P = mm_E d 175 127 lv [g0, (some z), g2, g3, g4] (.inr (.inl z) :: st) n I L P) ∧
  (∀ (ll : List (Option Int)) (lv : List mm_V) (st : List mm_V), mm_E d 175 127 lv ll st n I L P = mm_E d 175 128 lv ll (.inr (.inl 0) :: st) n I L P) ∧
  (∀ (lv : List mm_V) (ll : List (Option Int)) (st : List mm_V) a b, mm_E d 175 128 lv ll (.inr (.inl b) :: .inr (.inl a) :: st) n I L P = mm_E d 175 129 lv ll (.inl (if a < b then -1 else if a = b then 0 else 1) :: st) n I L P) ∧
  (∀ (lv : List mm_V) (ll : List (Option Int)) (st : List mm_V) a, mm_E d 175 129 lv ll (.inl a :: st) n I L P = if a = 0 then mm_E d 175 142 lv ll st n I L P else mm_E d 175 132 lv ll st n I L P) ∧
  (∀ (lv : List mm_V) (st : List mm_V) z (g0 : Option Int) (g1 : Option Int) (g2 : Option Int) (g4 : Option Int), mm_E d 175 132 lv [g0, g1, g2, (some z), g4] st n I L P = mm_E d 175 133 lv [g0, g1, g2, (some z), g4] (.inr (.inl z) :: st) n I L P) ∧
  (∀ (ll : List (Option Int)) (lv : List mm_V) (st : List mm_V), mm_E d 175 133 lv ll st n I L P = mm_E d 175 134 lv ll (.inr (.inl 0) :: st) n I L P) ∧
  (∀ (lv : List mm_V) (ll : List (Option Int)) (st : List mm_V) a b, mm_E d 175 134 lv ll (.inr (.inl b) :: .inr (.inl a) :: st) n I L P = mm_E d 175 135 lv ll (.inl (if a < b then -1 else if a = b then 0 else 1) :: st) n I L P) ∧
  (∀ (lv : List mm_V) (ll : List (Option Int)) (st : List mm_V) a, mm_E d 175 135 lv ll (.inl a :: st) n I L P = if a = 0 then mm_E d 175 142 lv ll st n I L P else mm_E d 175 138 lv ll st n I L P) ∧
  (∀ (ll : List (Option Int)) (lv : List mm_V) (st : List mm_V), mm_E d 175 138 lv ll st n I L P = mm_E d 175 139 lv ll (.inl 1 :: st) n I L P) ∧
  (∀ (lv : List mm_V) (ll : List (Option Int)) (st : List mm_V), mm_E d 175 139 lv ll st n I L P = mm_E d 175 143 lv ll st n I L P) ∧
  (∀ (ll : List (Option Int)) (lv : List mm_V) (st : List mm_V), mm_E d 175 142 lv ll st n I L P = mm_E d 175 143 lv ll (.inl 0 :: st) n I L P) ∧
  (∀ (lv : List mm_V) (ll : List (Option Int)) z, mm_E d 175 143 lv ll [.inl z] n I L P = some (some (.inl z), n, I, L, P)) ∧
  (∀ (lv : List mm_V) (st : List mm_V) z (g0 : Option Int) (g2 : Option Int) (g3 : Option Int) (g4 : Option Int), mm_E d 175 144 lv [g0, (some z), g2, g3, g4] st n I L P = mm_E d 175 145 lv [g0, (some z), g2, g3, g4] (.inr (.inl z) :: st) n I L P) ∧
  (∀ (ll : List (Option Int)) (lv : List mm_V) (st : List mm_V), mm_E d 175 145 lv ll st n I L P = mm_E d 175 146 lv ll (.inr (.inl 0) :: st) n I L P) ∧
  (∀ (lv : List mm_V) (ll : List (Option Int)) (st : List mm_V) a b, mm_E d 175 146 lv ll (.inr (.inl b) :: .inr (.inl a) :: st) n I L P = mm_E d 175 147 lv ll (.inl (if a < b then -1 else if a = b then 0 else 1) :: st) n I L P) ∧
  (∀ (lv : List mm_V) (ll : List (Option Int)) (st : List mm_V) a, mm_E d 175 147 lv ll (.inl a :: st) n I L P = if a = 0 then mm_E d 175 150 lv ll st n I L P else mm_E d 175 156 lv ll st n I L P) ∧
  (∀ (lv : List mm_V) (st : List mm_V) z (g0 : Option Int) (g1 : Option Int) (g2 : Option Int) (g4 : Option Int), mm_E d 175 150 lv [g0, g1, g2, (some z), g4] st n I L P = mm_E d 175 151 lv [g0, g1, g2, (some z), g4] (.inr (.inl z) :: st) n I L P) ∧
  (∀ (ll : List (Option Int)) (lv : List mm_V) (st : List mm_V), mm_E d 175 151 lv ll st n I L P = mm_E d 175 152 lv ll (.inr (.inl 0) :: st) n I L P) ∧
  (∀ (lv : List mm_V) (ll : List (Option Int)) (st : List mm_V) a b, mm_E d 175 152 lv ll (.inr (.inl b) :: .inr (.inl a) :: st) n I L P = mm_E d 175 153 lv ll (.inl (if a < b then -1 else if a = b then 0 else 1) :: st) n I L P) ∧
  (∀ (lv : List mm_V) (ll : List (Option Int)) (st : List mm_V) a, mm_E d 175 153 lv ll (.inl a :: st) n I L P = if a = 0 then mm_E d 175 160 lv ll st n I L P else mm_E d 175 156 lv ll st n I L P) ∧
  (∀ (ll : List (Option Int)) (lv : List mm_V) (st : List mm_V), mm_E d 175 156 lv ll st n I L P = mm_E d 175 157 lv ll (.inl 1 :: st) n I L P) ∧
  (∀ (lv : List mm_V) (ll : List (Option Int)) (st : List mm_V), mm_E d 175 157 lv ll st n I L P = mm_E d 175 161 lv ll st n I L P) ∧
  (∀ (ll : List (Option Int)) (lv : List mm_V) (st : List mm_V), mm_E d 175 160 lv ll st n I L P = mm_E d 175 161 lv ll (.inl 0 :: st) n I L P) ∧
  (∀ (lv : List mm_V) (ll : List (Option Int)) z, mm_E d 175 161 lv ll [.inl z] n I L P = some (some (.inl z), n, I, L, P)) :=
  ⟨fun _ _ _ _ _ _ _ => mq_il (i := 0) rfl rfl,
   fun _ _ _ _ => mq_sw (l := [(2, 52), (3, 59), (4, 66), (5, 73), (6, 90), (7, 102), (8, 114), (9, 144), (10, 126)]) (df := 144) rfl,
   fun _ _ _ _ _ _ _ => mq_ll (i := 1) rfl rfl,
   fun _ _ _ _ _ _ _ => mq_ll (i := 3) rfl rfl,
   fun _ _ _ _ _ => mq_bl rfl,
   fun _ _ _ => mq_cSr (na := 1) rfl (Nat.le_of_ble_eq_true rfl) (Nat.le_of_ble_eq_true rfl),
   fun _ _ _ => mq_ri rfl,
   fun _ _ _ _ _ _ _ => mq_ll (i := 1) rfl rfl,
   fun _ _ _ _ _ _ _ => mq_ll (i := 3) rfl rfl,
   fun _ _ _ _ _ => mq_bl rfl,
   fun _ _ _ => mq_cSr (na := 1) rfl (Nat.le_of_ble_eq_true rfl) (Nat.le_of_ble_eq_true rfl),
   fun _ _ _ => mq_ri rfl,
   fun _ _ _ _ _ _ _ => mq_ll (i := 1) rfl rfl,
   fun _ _ _ _ _ _ _ => mq_ll (i := 3) rfl rfl,
   fun _ _ _ _ _ => mq_bl rfl,
   fun _ _ _ => mq_cSr (na := 1) rfl (Nat.le_of_ble_eq_true rfl) (Nat.le_of_ble_eq_true rfl),
   fun _ _ _ => mq_ri rfl,
   fun _ _ _ _ _ _ _ => mq_ll (i := 3) rfl rfl,
   fun _ _ _ => mq_push rfl,
   fun _ _ _ _ _ => mq_lcmp rfl,
   fun _ _ _ _ => mq_if_ne rfl,
   fun _ _ _ => mq_push rfl,
   fun _ _ _ => mq_go rfl,
   fun _ _ _ _ _ _ _ => mq_ll (i := 1) rfl rfl,
   fun _ _ _ _ _ _ _ => mq_ll (i := 3) rfl rfl,
   fun _ _ _ _ _ h0 => mq_dl rfl h0,
   fun _ _ _ => mq_cSr (na := 1) rfl (Nat.le_of_ble_eq_true rfl) (Nat.le_of_ble_eq_true rfl),
   fun _ _ _ => mq_ri rfl,
   fun _ _ _ _ _ _ _ => mq_ll (i := 1) rfl rfl,
   fun _ _ _ _ _ _ _ => mq_ll (i := 3) rfl rfl,
   fun _ _ _ _ _ => mq_lcmp rfl,
   fun _ _ _ _ => mq_if_ne rfl,
   fun _ _ _ => mq_push rfl,
   fun _ _ _ => mq_go rfl,
   fun _ _ _ => mq_push rfl,
   fun _ _ _ => mq_ri rfl,
   fun _ _ _ _ _ _ _ => mq_ll (i := 1) rfl rfl,
   fun _ _ _ _ _ _ _ => mq_ll (i := 3) rfl rfl,
   fun _ _ _ _ _ => mq_lcmp rfl,
   fun _ _ _ _ => mq_if_ge rfl,
   fun _ _ _ => mq_push rfl,
   fun _ _ _ => mq_go rfl,
   fun _ _ _ => mq_push rfl,
   fun _ _ _ => mq_ri rfl,
   fun _ _ _ _ _ _ _ => mq_ll (i := 1) rfl rfl,
   fun _ _ _ _ _ _ _ => mq_ll (i := 3) rfl rfl,
   fun _ _ _ _ _ => mq_lcmp rfl,
   fun _ _ _ _ => mq_if_le rfl,
   fun _ _ _ => mq_push rfl,
   fun _ _ _ => mq_go rfl,
   fun _ _ _ => mq_push rfl,
   fun _ _ _ => mq_ri rfl,
   fun _ _ _ _ _ _ _ => mq_ll (i := 1) rfl rfl,
   fun _ _ _ => mq_push rfl,
   fun _ _ _ _ _ => mq_lcmp rfl,
   fun _ _ _ _ => mq_if_eq rfl,
   fun _ _ _ _ _ _ _ => mq_ll (i := 3) rfl rfl,
   fun _ _ _ => mq_push rfl,
   fun _ _ _ _ _ => mq_lcmp rfl,
   fun _ _ _ _ => mq_if_eq rfl,
   fun _ _ _ => mq_push rfl,
   fun _ _ _ => mq_go rfl,
   fun _ _ _ => mq_push rfl,
   fun _ _ _ => mq_ri rfl,
   fun _ _ _ _ _ _ _ => mq_ll (i := 1) rfl rfl,
   fun _ _ _ => mq_push rfl,
   fun _ _ _ _ _ => mq_lcmp rfl,
   fun _ _ _ _ => mq_if_ne rfl,
   fun _ _ _ _ _ _ _ => mq_ll (i := 3) rfl rfl,
   fun _ _ _ => mq_push rfl,
   fun _ _ _ _ _ => mq_lcmp rfl,
   fun _ _ _ _ => mq_if_eq rfl,
   fun _ _ _ => mq_push rfl,
   fun _ _ _ => mq_go rfl,
   fun _ _ _ => mq_push rfl,
   fun _ _ _ => mq_ri rfl⟩
theorem eX12_worked (d n : Nat) (I L : mm_I) (P : mm_P) (x0 : Int) (x1 : Int) (x2 : Int) : mm_rn (d + 1) 175 [.inl x0, .inr (.inl x1), .inr (.inl x2)] n I L P = mm_E d 175 0 [.inl x0, mm_junk, mm_junk, mm_junk, mm_junk] [none, some x1, none, some x2, none] [] n I L P := rfl

set_option maxRecDepth 20000 in
set_option maxHeartbeats 8000000 in
theorem kX12_workOut (d n : Nat) (I L : mm_I) (P : mm_P) :
  (∀ (lv : List mm_V) (st : List mm_V), mm_E d 176 0 lv [] st n I L P = mm_E d 176 1 lv [] (.inl 0 :: st) n I L P) ∧
  (∀ (st : List mm_V) z (l0 : mm_V) (l1 : mm_V) (l2 : mm_V) (l3 : mm_V) (l4 : mm_V) (l5 : mm_V), mm_E d 176 1 [l0, l1, l2, l3, l4, l5] [] ((.inl z) :: st) n I L P = mm_E d 176 3 [l0, l1, l2, l3, (.inl z), l5] [] st n I L P) ∧
  (∀ (lv : List mm_V) (st : List mm_V), mm_E d 176 3 lv [] st n I L P = mm_E d 176 6 lv [] (.inl 520 :: st) n I L P) ∧
  (∀ (st : List mm_V) z (l0 : mm_V) (l2 : mm_V) (l3 : mm_V) (l4 : mm_V) (l5 : mm_V), mm_E d 176 6 [l0, (.inl z), l2, l3, l4, l5] [] st n I L P = mm_E d 176 7 [l0, (.inl z), l2, l3, l4, l5] [] ((.inl z) :: st) n I L P) ∧
  (∀ (lv : List mm_V) (st : List mm_V) a b, mm_E d 176 7 lv [] (.inl b :: .inl a :: st) n I L P = mm_E d 176 8 lv [] (.inl (mm_mul a b) :: st) n I L P) ∧
  (∀ (st : List mm_V) z (l0 : mm_V) (l1 : mm_V) (l3 : mm_V) (l4 : mm_V) (l5 : mm_V), mm_E d 176 8 [l0, l1, (.inl z), l3, l4, l5] [] st n I L P = mm_E d 176 9 [l0, l1, (.inl z), l3, l4, l5] [] ((.inl z) :: st) n I L P) ∧
  (∀ (lv : List mm_V) (st : List mm_V) a b, mm_E d 176 9 lv [] (.inl b :: .inl a :: st) n I L P = mm_E d 176 10 lv [] (.inl (mm_add a b) :: st) n I L P) ∧
  (∀ (st : List mm_V) z (l0 : mm_V) (l1 : mm_V) (l2 : mm_V) (l3 : mm_V) (l4 : mm_V) (l5 : mm_V), mm_E d 176 10 [l0, l1, l2, l3, l4, l5] [] ((.inl z) :: st) n I L P = mm_E d 176 12 [l0, l1, l2, l3, l4, (.inl z)] [] st n I L P) ∧
  (∀ (lv : List mm_V) (st : List mm_V), mm_E d 176 14 lv [] st n I L P = mm_E d 176 17 lv [] (.inl 520 :: st) n I L P) ∧
  (∀ (st : List mm_V) z (l0 : mm_V) (l2 : mm_V) (l3 : mm_V) (l4 : mm_V) (l5 : mm_V), mm_E d 176 17 [l0, (.inl z), l2, l3, l4, l5] [] st n I L P = mm_E d 176 18 [l0, (.inl z), l2, l3, l4, l5] [] ((.inl z) :: st) n I L P) ∧
  (∀ (lv : List mm_V) (st : List mm_V) a b, mm_E d 176 18 lv [] (.inl b :: .inl a :: st) n I L P = mm_E d 176 19 lv [] (.inl (mm_mul a b) :: st) n I L P) ∧
  (∀ (st : List mm_V) z (l0 : mm_V) (l1 : mm_V) (l2 : mm_V) (l4 : mm_V) (l5 : mm_V), mm_E d 176 19 [l0, l1, l2, (.inl z), l4, l5] [] st n I L P = mm_E d 176 20 [l0, l1, l2, (.inl z), l4, l5] [] ((.inl z) :: st) n I L P) ∧
  (∀ (lv : List mm_V) (st : List mm_V) a b, mm_E d 176 20 lv [] (.inl b :: .inl a :: st) n I L P = mm_E d 176 21 lv [] (.inl (mm_add a b) :: st) n I L P) ∧
  (∀ (lv : List mm_V) (st : List mm_V) a b, mm_E d 176 21 lv [] (.inl b :: .inl a :: st) n I L P = if b ≤ a then mm_E d 176 171 lv [] st n I L P else mm_E d 176 24 lv [] st n I L P) ∧
  (∀ (st : List mm_V) z (l1 : mm_V) (l2 : mm_V) (l3 : mm_V) (l4 : mm_V) (l5 : mm_V), mm_E d 176 24 [(.inr (.inr z)), l1, l2, l3, l4, l5] [] st n I L P = mm_E d 176 25 [(.inr (.inr z)), l1, l2, l3, l4, l5] [] ((.inr (.inr z)) :: st) n I L P) ∧
  (∀ (lv : List mm_V) (st : List mm_V) a, (mm_ok n a 12) → mm_E d 176 25 lv [] (.inr (.inr (some a)) :: st) n I L P = mm_E d 176 28 lv [] (.inr (.inr (P a 6)) :: st) n I L P) ∧
  (∀ (st : List mm_V) z (l0 : mm_V) (l1 : mm_V) (l2 : mm_V) (l3 : mm_V) (l4 : mm_V), mm_E d 176 28 [l0, l1, l2, l3, l4, (.inl z)] [] st n I L P = mm_E d 176 30 [l0, l1, l2, l3, l4, (.inl z)] [] ((.inl z) :: st) n I L P) ∧
  (∀ (lv : List mm_V) (st : List mm_V) a i, (mm_ix n a 20 i) → mm_E d 176 30 lv [] (.inl i :: .inr (.inr (some a)) :: st) n I L P = mm_E d 176 31 lv [] (.inl (I a i.toNat) :: st) n I L P) ∧
  (∀ (lv : List mm_V) (st : List mm_V) a, mm_E d 176 31 lv [] (.inl a :: st) n I L P = if a = 0 then mm_E d 176 45 lv [] st n I L P else mm_E d 176 34 lv [] st n I L P) ∧
  (∀ (st : List mm_V) z (l1 : mm_V) (l2 : mm_V) (l3 : mm_V) (l4 : mm_V) (l5 : mm_V), mm_E d 176 34 [(.inr (.inr z)), l1, l2, l3, l4, l5] [] st n I L P = mm_E d 176 35 [(.inr (.inr z)), l1, l2, l3, l4, l5] [] ((.inr (.inr z)) :: st) n I L P) ∧
  (∀ (lv : List mm_V) (st : List mm_V) a, (mm_ok n a 12) → mm_E d 176 35 lv [] (.inr (.inr (some a)) :: st) n I L P = mm_E d 176 38 lv [] (.inr (.inr (P a 6)) :: st) n I L P) ∧
  (∀ (st : List mm_V) z (l0 : mm_V) (l1 : mm_V) (l2 : mm_V) (l3 : mm_V) (l4 : mm_V), mm_E d 176 38 [l0, l1, l2, l3, l4, (.inl z)] [] st n I L P = mm_E d 176 40 [l0, l1, l2, l3, l4, (.inl z)] [] ((.inl z) :: st) n I L P) ∧
  (∀ (lv : List mm_V) (st : List mm_V) a i, (mm_ix n a 20 i) → mm_E d 176 40 lv [] (.inl i :: .inr (.inr (some a)) :: st) n I L P = mm_E d 176 41 lv [] (.inl (I a i.toNat) :: st) n I L P) ∧
  (∀ (lv : List mm_V) (st : List mm_V), mm_E d 176 41 lv [] st n I L P = mm_E d 176 42 lv [] (.inl 1 :: st) n I L P) ∧
  (∀ (lv : List mm_V) (st : List mm_V) a b, mm_E d 176 42 lv [] (.inl b :: .inl a :: st) n I L P = if a = b then mm_E d 176 45 lv [] st n I L P else mm_E d 176 90 lv [] st n I L P) ∧
  (∀ (st : List mm_V) z (l1 : mm_V) (l2 : mm_V) (l3 : mm_V) (l4 : mm_V) (l5 : mm_V), mm_E d 176 45 [(.inr (.inr z)), l1, l2, l3, l4, l5] [] st n I L P = mm_E d 176 46 [(.inr (.inr z)), l1, l2, l3, l4, l5] [] ((.inr (.inr z)) :: st) n I L P) ∧
  (∀ (lv : List mm_V) (st : List mm_V) a, (mm_ok n a 12) → mm_E d 176 46 lv [] (.inr (.inr (some a)) :: st) n I L P = mm_E d 176 49 lv [] (.inr (.inr (P a 16)) :: st) n I L P) ∧
  (∀ (st : List mm_V) z (l0 : mm_V) (l1 : mm_V) (l2 : mm_V) (l3 : mm_V) (l5 : mm_V), mm_E d 176 49 [l0, l1, l2, l3, (.inl z), l5] [] st n I L P = mm_E d 176 51 [l0, l1, l2, l3, (.inl z), l5] [] ((.inl z) :: st) n I L P) ∧
  (∀ (st : List mm_V) z (l1 : mm_V) (l2 : mm_V) (l3 : mm_V) (l4 : mm_V) (l5 : mm_V), mm_E d 176 51 [(.inr (.inr z)), l1, l2, l3, l4, l5] [] st n I L P = mm_E d 176 52 [(.inr (.inr z)), l1, l2, l3, l4, l5] [] ((.inr (.inr z)) :: st) n I L P) ∧
  (∀ (lv : List mm_V) (st : List mm_V) a, (mm_ok n a 12) → mm_E d 176 52 lv [] (.inr (.inr (some a)) :: st) n I L P = mm_E d 176 55 lv [] (.inr (.inr (P a 6)) :: st) n I L P) ∧
  (∀ (st : List mm_V) z (l0 : mm_V) (l1 : mm_V) (l2 : mm_V) (l3 : mm_V) (l4 : mm_V), mm_E d 176 55 [l0, l1, l2, l3, l4, (.inl z)] [] st n I L P = mm_E d 176 57 [l0, l1, l2, l3, l4, (.inl z)] [] ((.inl z) :: st) n I L P) ∧
  (∀ (lv : List mm_V) (st : List mm_V) a i, (mm_ix n a 20 i) → mm_E d 176 57 lv [] (.inl i :: .inr (.inr (some a)) :: st) n I L P = mm_E d 176 58 lv [] (.inl (I a i.toNat) :: st) n I L P) ∧
  (∀ (lv : List mm_V) (st : List mm_V) a, mm_E d 176 58 lv [] (.inl a :: st) n I L P = if a = 0 then mm_E d 176 61 lv [] st n I L P else mm_E d 176 71 lv [] st n I L P) ∧
  (∀ (st : List mm_V) z (l1 : mm_V) (l2 : mm_V) (l3 : mm_V) (l4 : mm_V) (l5 : mm_V), mm_E d 176 61 [(.inr (.inr z)), l1, l2, l3, l4, l5] [] st n I L P = mm_E d 176 62 [(.inr (.inr z)), l1, l2, l3, l4, l5] [] ((.inr (.inr z)) :: st) n I L P) ∧
  (∀ (lv : List mm_V) (st : List mm_V) a, (mm_ok n a 12) → mm_E d 176 62 lv [] (.inr (.inr (some a)) :: st) n I L P = mm_E d 176 65 lv [] (.inr (.inr (P a 7)) :: st) n I L P) ∧
  (∀ (st : List mm_V) z (l0 : mm_V) (l1 : mm_V) (l2 : mm_V) (l3 : mm_V) (l4 : mm_V), mm_E d 176 65 [l0, l1, l2, l3, l4, (.inl z)] [] st n I L P = mm_E d 176 67 [l0, l1, l2, l3, l4, (.inl z)] [] ((.inl z) :: st) n I L P) ∧
  (∀ (lv : List mm_V) (st : List mm_V) a i, (mm_ix n a 20 i) → mm_E d 176 67 lv [] (.inl i :: .inr (.inr (some a)) :: st) n I L P = mm_E d 176 68 lv [] (.inl (I a i.toNat) :: st) n I L P) ∧
  (∀ (lv : List mm_V) (st : List mm_V), mm_E d 176 68 lv [] st n I L P = mm_E d 176 83 lv [] st n I L P) ∧
  (∀ (st : List mm_V) z (l1 : mm_V) (l2 : mm_V) (l3 : mm_V) (l4 : mm_V) (l5 : mm_V), mm_E d 176 71 [(.inr (.inr z)), l1, l2, l3, l4, l5] [] st n I L P = mm_E d 176 72 [(.inr (.inr z)), l1, l2, l3, l4, l5] [] ((.inr (.inr z)) :: st) n I L P) ∧
  (∀ (lv : List mm_V) (st : List mm_V) a, (mm_ok n a 12) → mm_E d 176 72 lv [] (.inr (.inr (some a)) :: st) n I L P = mm_E d 176 75 lv [] (.inr (.inr (P a 15)) :: st) n I L P) ∧
  (∀ (st : List mm_V) z (l1 : mm_V) (l2 : mm_V) (l3 : mm_V) (l4 : mm_V) (l5 : mm_V), mm_E d 176 75 [(.inr (.inr z)), l1, l2, l3, l4, l5] [] st n I L P = mm_E d 176 76 [(.inr (.inr z)), l1, l2, l3, l4, l5] [] ((.inr (.inr z)) :: st) n I L P) ∧
  (∀ (lv : List mm_V) (st : List mm_V) a, (mm_ok n a 12) → mm_E d 176 76 lv [] (.inr (.inr (some a)) :: st) n I L P = mm_E d 176 79 lv [] (.inr (.inr (P a 7)) :: st) n I L P) ∧
  (∀ (st : List mm_V) z (l0 : mm_V) (l1 : mm_V) (l2 : mm_V) (l3 : mm_V) (l4 : mm_V), mm_E d 176 79 [l0, l1, l2, l3, l4, (.inl z)] [] st n I L P = mm_E d 176 81 [l0, l1, l2, l3, l4, (.inl z)] [] ((.inl z) :: st) n I L P) ∧
  (∀ (lv : List mm_V) (st : List mm_V) a i, (mm_ix n a 20 i) → mm_E d 176 81 lv [] (.inl i :: .inr (.inr (some a)) :: st) n I L P = mm_E d 176 82 lv [] (.inl (I a i.toNat) :: st) n I L P) ∧
  (∀ (lv : List mm_V) (st : List mm_V) a i, (mm_ix n a 20 i) → mm_E d 176 82 lv [] (.inl i :: .inr (.inr (some a)) :: st) n I L P = mm_E d 176 83 lv [] (.inl (I a i.toNat) :: st) n I L P) ∧
  (∀ (lv : List mm_V) (st : List mm_V) a i z, (mm_ix n a 20 i) → mm_E d 176 83 lv [] (.inl z :: .inl i :: .inr (.inr (some a)) :: st) n I L P = mm_E d 176 84 lv [] st n (mm_ui I a i.toNat z) L P) ∧
  (∀ (st : List mm_V) z (l0 : mm_V) (l1 : mm_V) (l2 : mm_V) (l3 : mm_V) (l5 : mm_V), mm_E d 176 84 [l0, l1, l2, l3, (.inl z), l5] [] st n I L P = mm_E d 176 87 [l0, l1, l2, l3, (.inl (mm_add z 1)), l5] [] st n I L P) ∧
  (∀ (lv : List mm_V) (st : List mm_V), mm_E d 176 87 lv [] st n I L P = mm_E d 176 165 lv [] st n I L P) ∧
  (∀ (st : List mm_V) z (l1 : mm_V) (l2 : mm_V) (l3 : mm_V) (l4 : mm_V) (l5 : mm_V), mm_E d 176 90 [(.inr (.inr z)), l1, l2, l3, l4, l5] [] st n I L P = mm_E d 176 91 [(.inr (.inr z)), l1, l2, l3, l4, l5] [] ((.inr (.inr z)) :: st) n I L P) ∧
  (∀ (lv : List mm_V) (st : List mm_V) a, (mm_ok n a 12) → mm_E d 176 91 lv [] (.inr (.inr (some a)) :: st) n I L P = mm_E d 176 94 lv [] (.inr (.inr (P a 6)) :: st) n I L P) ∧
  (∀ (st : List mm_V) z (l0 : mm_V) (l1 : mm_V) (l2 : mm_V) (l3 : mm_V) (l4 : mm_V), mm_E d 176 94 [l0, l1, l2, l3, l4, (.inl z)] [] st n I L P = mm_E d 176 96 [l0, l1, l2, l3, l4, (.inl z)] [] ((.inl z) :: st) n I L P) ∧
  (∀ (lv : List mm_V) (st : List mm_V) a i, (mm_ix n a 20 i) → mm_E d 176 96 lv [] (.inl i :: .inr (.inr (some a)) :: st) n I L P = mm_E d 176 97 lv [] (.inl (I a i.toNat) :: st) n I L P) ∧
  (∀ (lv : List mm_V) (st : List mm_V), mm_E d 176 97 lv [] st n I L P = mm_E d 176 99 lv [] (.inl 9 :: st) n I L P) ∧
  (∀ (lv : List mm_V) (st : List mm_V) a b, mm_E d 176 99 lv [] (.inl b :: .inl a :: st) n I L P = if a = b then mm_E d 176 102 lv [] st n I L P else mm_E d 176 125 lv [] st n I L P) ∧
  (∀ (st : List mm_V) z (l1 : mm_V) (l2 : mm_V) (l3 : mm_V) (l4 : mm_V) (l5 : mm_V), mm_E d 176 102 [(.inr (.inr z)), l1, l2, l3, l4, l5] [] st n I L P = mm_E d 176 103 [(.inr (.inr z)), l1, l2, l3, l4, l5] [] ((.inr (.inr z)) :: st) n I L P) ∧
  (∀ (lv : List mm_V) (st : List mm_V) a, (mm_ok n a 12) → mm_E d 176 103 lv [] (.inr (.inr (some a)) :: st) n I L P = mm_E d 176 106 lv [] (.inr (.inr (P a 16)) :: st) n I L P) ∧
  (∀ (st : List mm_V) z (l0 : mm_V) (l1 : mm_V) (l2 : mm_V) (l3 : mm_V) (l5 : mm_V), mm_E d 176 106 [l0, l1, l2, l3, (.inl z), l5] [] st n I L P = mm_E d 176 108 [l0, l1, l2, l3, (.inl z), l5] [] ((.inl z) :: st) n I L P) ∧
  (∀ (lv : List mm_V) (st : List mm_V), mm_E d 176 108 lv [] st n I L P = mm_E d 176 109 lv [] (.inl 1 :: st) n I L P) ∧
  (∀ (lv : List mm_V) (st : List mm_V) a b, mm_E d 176 109 lv [] (.inl b :: .inl a :: st) n I L P = mm_E d 176 110 lv [] (.inl (mm_sub a b) :: st) n I L P) ∧
  (∀ (lv : List mm_V) (st : List mm_V), mm_E d 176 110 lv [] st n I L P = mm_E d 176 111 lv [] (.inl 1 :: st) n I L P) ∧
  (∀ (st : List mm_V) z (l1 : mm_V) (l2 : mm_V) (l3 : mm_V) (l4 : mm_V) (l5 : mm_V), mm_E d 176 111 [(.inr (.inr z)), l1, l2, l3, l4, l5] [] st n I L P = mm_E d 176 112 [(.inr (.inr z)), l1, l2, l3, l4, l5] [] ((.inr (.inr z)) :: st) n I L P) ∧
  (∀ (lv : List mm_V) (st : List mm_V) a, (mm_ok n a 12) → mm_E d 176 112 lv [] (.inr (.inr (some a)) :: st) n I L P = mm_E d 176 115 lv [] (.inr (.inr (P a 16)) :: st) n I L P) ∧
  (∀ (st : List mm_V) z (l0 : mm_V) (l1 : mm_V) (l2 : mm_V) (l3 : mm_V) (l5 : mm_V), mm_E d 176 115 [l0, l1, l2, l3, (.inl z), l5] [] st n I L P = mm_E d 176 117 [l0, l1, l2, l3, (.inl z), l5] [] ((.inl z) :: st) n I L P) ∧
  (∀ (lv : List mm_V) (st : List mm_V), mm_E d 176 117 lv [] st n I L P = mm_E d 176 118 lv [] (.inl 1 :: st) n I L P) ∧
  (∀ (lv : List mm_V) (st : List mm_V) a b, mm_E d 176 118 lv [] (.inl b :: .inl a :: st) n I L P = mm_E d 176 119 lv [] (.inl (mm_sub a b) :: st) n I L P) ∧
  (∀ (lv : List mm_V) (st : List mm_V) a i, (mm_ix n a 20 i) → mm_E d 176 119 lv [] (.inl i :: .inr (.inr (some a)) :: st) n I L P = mm_E d 176 120 lv [] (.inl (I a i.toNat) :: st) n I L P) ∧
  (∀ (lv : List mm_V) (st : List mm_V) a b, mm_E d 176 120 lv [] (.inl b :: .inl a :: st) n I L P = mm_E d 176 121 lv [] (.inl (mm_sub a b) :: st) n I L P) ∧
  (∀ (lv : List mm_V) (st : List mm_V) a i z, (mm_ix n a 20 i) → mm_E d 176 121 lv [] (.inl z :: .inl i :: .inr (.inr (some a)) :: st) n I L P = mm_E d 176 122 lv [] st n (mm_ui I a i.toNat z) L P) ∧
  (∀ (lv : List mm_V) (st : List mm_V), mm_E d 176 122 lv [] st n I L P = mm_E d 176 165 lv [] st n I L P) ∧
  (∀ (st : List mm_V) z (l0 : mm_V) (l1 : mm_V) (l2 : mm_V) (l3 : mm_V) (l5 : mm_V), mm_E d 176 125 [l0, l1, l2, l3, (.inl z), l5] [] st n I L P = mm_E d 176 128 [l0, l1, l2, l3, (.inl (mm_add z (-1))), l5] [] st n I L P) ∧
  (∀ (st : List mm_V) z (l1 : mm_V) (l2 : mm_V) (l3 : mm_V) (l4 : mm_V) (l5 : mm_V), mm_E d 176 128 [(.inr (.inr z)), l1, l2, l3, l4, l5] [] st n I L P = mm_E d 176 129 [(.inr (.inr z)), l1, l2, l3, l4, l5] [] ((.inr (.inr z)) :: st) n I L P) ∧
  (∀ (lv : List mm_V) (st : List mm_V) a, (mm_ok n a 12) → mm_E d 176 129 lv [] (.inr (.inr (some a)) :: st) n I L P = mm_E d 176 132 lv [] (.inr (.inr (P a 16)) :: st) n I L P) ∧
  (∀ (st : List mm_V) z (l0 : mm_V) (l1 : mm_V) (l2 : mm_V) (l3 : mm_V) (l5 : mm_V), mm_E d 176 132 [l0, l1, l2, l3, (.inl z), l5] [] st n I L P = mm_E d 176 134 [l0, l1, l2, l3, (.inl z), l5] [] ((.inl z) :: st) n I L P) ∧
  (∀ (lv : List mm_V) (st : List mm_V), mm_E d 176 134 lv [] st n I L P = mm_E d 176 135 lv [] (.inl 1 :: st) n I L P) ∧
  (∀ (lv : List mm_V) (st : List mm_V) a b, mm_E d 176 135 lv [] (.inl b :: .inl a :: st) n I L P = mm_E d 176 136 lv [] (.inl (mm_sub a b) :: st) n I L P) ∧
  (∀ (st : List mm_V) z (l1 : mm_V) (l2 : mm_V) (l3 : mm_V) (l4 : mm_V) (l5 : mm_V), mm_E d 176 136 [(.inr (.inr z)), l1, l2, l3, l4, l5] [] st n I L P = mm_E d 176 137 [(.inr (.inr z)), l1, l2, l3, l4, l5] [] ((.inr (.inr z)) :: st) n I L P) ∧
  (∀ (lv : List mm_V) (st : List mm_V) a, (mm_ok n a 12) → mm_E d 176 137 lv [] (.inr (.inr (some a)) :: st) n I L P = mm_E d 176 140 lv [] (.inr (.inr (P a 6)) :: st) n I L P) ∧
  (∀ (st : List mm_V) z (l0 : mm_V) (l1 : mm_V) (l2 : mm_V) (l3 : mm_V) (l4 : mm_V), mm_E d 176 140 [l0, l1, l2, l3, l4, (.inl z)] [] st n I L P = mm_E d 176 142 [l0, l1, l2, l3, l4, (.inl z)] [] ((.inl z) :: st) n I L P) ∧
  (∀ (lv : List mm_V) (st : List mm_V) a i, (mm_ix n a 20 i) → mm_E d 176 142 lv [] (.inl i :: .inr (.inr (some a)) :: st) n I L P = mm_E d 176 143 lv [] (.inl (I a i.toNat) :: st) n I L P) ∧
  (∀ (st : List mm_V) z (l1 : mm_V) (l2 : mm_V) (l3 : mm_V) (l4 : mm_V) (l5 : mm_V), mm_E d 176 143 [(.inr (.inr z)), l1, l2, l3, l4, l5] [] st n I L P = mm_E d 176 144 [(.inr (.inr z)), l1, l2, l3, l4, l5] [] ((.inr (.inr z)) :: st) n I L P) ∧
  (∀ (lv : List mm_V) (st : List mm_V) a, (mm_ok n a 12) → mm_E d 176 144 lv [] (.inr (.inr (some a)) :: st) n I L P = mm_E d 176 147 lv [] (.inr (.inr (P a 16)) :: st) n I L P) ∧
  (∀ (st : List mm_V) z (l0 : mm_V) (l1 : mm_V) (l2 : mm_V) (l3 : mm_V) (l5 : mm_V), mm_E d 176 147 [l0, l1, l2, l3, (.inl z), l5] [] st n I L P = mm_E d 176 149 [l0, l1, l2, l3, (.inl z), l5] [] ((.inl z) :: st) n I L P) ∧
  (∀ (lv : List mm_V) (st : List mm_V), mm_E d 176 149 lv [] st n I L P = mm_E d 176 150 lv [] (.inl 1 :: st) n I L P) ∧
  (∀ (lv : List mm_V) (st : List mm_V) a b, mm_E d 176 150 lv [] (.inl b :: .inl a :: st) n I L P = mm_E d 176 151 lv [] (.inl (mm_sub a b) :: st) n I L P) ∧
  (∀ (lv : List mm_V) (st : List mm_V) a i, (mm_ix n a 20 i) → mm_E d 176 151 lv [] (.inl i :: .inr (.inr (some a)) :: st) n I L P = mm_E d 176 152 lv [] (.inl (I a i.toNat) :: st) n I L P) ∧
  (∀ (lv : List mm_V) (st : List mm_V) a, mm_E d 176 152 lv [] (.inl a :: st) n I L P = mm_E d 176 153 lv [] (.inr (.inl a) :: st) n I L P) ∧
  (∀ (st : List mm_V) z (l1 : mm_V) (l2 : mm_V) (l3 : mm_V) (l4 : mm_V) (l5 : mm_V), mm_E d 176 153 [(.inr (.inr z)), l1, l2, l3, l4, l5] [] st n I L P = mm_E d 176 154 [(.inr (.inr z)), l1, l2, l3, l4, l5] [] ((.inr (.inr z)) :: st) n I L P) ∧
  (∀ (lv : List mm_V) (st : List mm_V) a, (mm_ok n a 12) → mm_E d 176 154 lv [] (.inr (.inr (some a)) :: st) n I L P = mm_E d 176 157 lv [] (.inr (.inr (P a 16)) :: st) n I L P) ∧
  (∀ (st : List mm_V) z (l0 : mm_V) (l1 : mm_V) (l2 : mm_V) (l3 : mm_V) (l5 : mm_V), mm_E d 176 157 [l0, l1, l2, l3, (.inl z), l5] [] st n I L P = mm_E d 176 159 [l0, l1, l2, l3, (.inl z), l5] [] ((.inl z) :: st) n I L P) ∧
  (∀ (lv : List mm_V) (st : List mm_V) a i, (mm_ix n a 20 i) → mm_E d 176 159 lv [] (.inl i :: .inr (.inr (some a)) :: st) n I L P = mm_E d 176 160 lv [] (.inl (I a i.toNat) :: st) n I L P) ∧
  (∀ (lv : List mm_V) (st : List mm_V) a, mm_E d 176 160 lv [] (.inl a :: st) n I L P = mm_E d 176 161 lv [] (.inr (.inl a) :: st) n I L P) ∧
  (∀ (lv : List mm_V) x0 x1 x2 w0 w1, mm_E d 176 161 lv [] (.inr (.inl x2) :: .inr (.inl x1) :: .inl x0 :: [.inl w0, .inr (.inr w1)]) n I L P = mm_kr d 176 164 lv [] [.inl w0, .inr (.inr w1)] n (mm_rn d 175 [.inl x0, .inr (.inl x1), .inr (.inl x2)] n I L P)) ∧
  (∀ (lv : List mm_V) (st : List mm_V) a i z, (mm_ix n a 20 i) → mm_E d 176 164 lv [] (.inl z :: .inl i :: .inr (.inr (some a)) :: st) n I L P = mm_E d 176 165 lv [] st n (mm_ui I a i.toNat z) L P) ∧
  (∀ (st : List mm_V) z (l0 : mm_V) (l1 : mm_V) (l2 : mm_V) (l3 : mm_V) (l4 : mm_V), mm_E d 176 165 [l0, l1, l2, l3, l4, (.inl z)] [] st n I L P = mm_E d 176 168 [l0, l1, l2, l3, l4, (.inl (mm_add z 1))] [] st n I L P) ∧
  (∀ (lv : List mm_V) (st : List mm_V), mm_E d 176 168 lv [] st n I L P = mm_E d 176 12 lv [] st n I L P) ∧
  (∀ (st : List mm_V) z (l1 : mm_V) (l2 : mm_V) (l3 : mm_V) (l4 : mm_V) (l5 : mm_V), mm_E d 176 171 [(.inr (.inr z)), l1, l2, l3, l4, l5] [] st n I L P = mm_E d 176 172 [(.inr (.inr z)), l1, l2, l3, l4, l5] [] ((.inr (.inr z)) :: st) n I L P) ∧
  (∀ (lv : List mm_V) (st : List mm_V) a, (mm_ok n a 12) → mm_E d 176 172 lv [] (.inr (.inr (some a)) :: st) n I L P = mm_E d 176 175 lv [] (.inr (.inr (P a 16)) :: st) n I L P) ∧
  (∀ (lv : List mm_V) (st : List mm_V), mm_E d 176 175 lv [] st n I L P = mm_E d 176 176 lv [] (.inl 0 :: st) n I L P) ∧
  (∀ (lv : List mm_V) (st : List mm_V) a i, (mm_ix n a 20 i) → mm_E d 176 176 lv [] (.inl i :: .inr (.inr (some a)) :: st) n I L P = mm_E d 176 177 lv [] (.inl (I a i.toNat) :: st) n I L P) ∧
  (∀ (lv : List mm_V) z, mm_E d 176 177 lv [] [.inl z] n I L P = some (some (.inl z), n, I, L, P)) :=
  ⟨fun _ _ => mq_push rfl,
   fun _ _ _ _ _ _ _ _ => mq_is (i := 4) rfl rfl rfl,
   fun _ _ => mq_push rfl,
   fun _ _ _ _ _ _ _ => mq_il (i := 1) rfl rfl,
   fun _ _ _ _ => mq_bi rfl,
   fun _ _ _ _ _ _ _ => mq_il (i := 2) rfl rfl,
   fun _ _ _ _ => mq_bi rfl,
   fun _ _ _ _ _ _ _ _ => mq_is (i := 5) rfl rfl rfl,
   fun _ _ => mq_push rfl,
   fun _ _ _ _ _ _ _ => mq_il (i := 1) rfl rfl,
   fun _ _ _ _ => mq_bi rfl,
   fun _ _ _ _ _ _ _ => mq_il (i := 3) rfl rfl,
   fun _ _ _ _ => mq_bi rfl,
   fun _ _ _ _ => mq_ic_ge rfl,
   fun _ _ _ _ _ _ _ => mq_al (i := 0) rfl rfl,
   fun _ _ _ h0 => mq_getR rfl h0,
   fun _ _ _ _ _ _ _ => mq_il (i := 5) rfl rfl,
   fun _ _ _ _ h0 => mq_iald rfl h0,
   fun _ _ _ => mq_if_eq rfl,
   fun _ _ _ _ _ _ _ => mq_al (i := 0) rfl rfl,
   fun _ _ _ h0 => mq_getR rfl h0,
   fun _ _ _ _ _ _ _ => mq_il (i := 5) rfl rfl,
   fun _ _ _ _ h0 => mq_iald rfl h0,
   fun _ _ => mq_push rfl,
   fun _ _ _ _ => mq_ic_ne rfl,
   fun _ _ _ _ _ _ _ => mq_al (i := 0) rfl rfl,
   fun _ _ _ h0 => mq_getR rfl h0,
   fun _ _ _ _ _ _ _ => mq_il (i := 4) rfl rfl,
   fun _ _ _ _ _ _ _ => mq_al (i := 0) rfl rfl,
   fun _ _ _ h0 => mq_getR rfl h0,
   fun _ _ _ _ _ _ _ => mq_il (i := 5) rfl rfl,
   fun _ _ _ _ h0 => mq_iald rfl h0,
   fun _ _ _ => mq_if_ne rfl,
   fun _ _ _ _ _ _ _ => mq_al (i := 0) rfl rfl,
   fun _ _ _ h0 => mq_getR rfl h0,
   fun _ _ _ _ _ _ _ => mq_il (i := 5) rfl rfl,
   fun _ _ _ _ h0 => mq_iald rfl h0,
   fun _ _ => mq_go rfl,
   fun _ _ _ _ _ _ _ => mq_al (i := 0) rfl rfl,
   fun _ _ _ h0 => mq_getR rfl h0,
   fun _ _ _ _ _ _ _ => mq_al (i := 0) rfl rfl,
   fun _ _ _ h0 => mq_getR rfl h0,
   fun _ _ _ _ _ _ _ => mq_il (i := 5) rfl rfl,
   fun _ _ _ _ h0 => mq_iald rfl h0,
   fun _ _ _ _ h0 => mq_iald rfl h0,
   fun _ _ _ _ _ h0 => mq_iast rfl h0,
   fun _ _ _ _ _ _ _ => mq_iinc (i := 4) rfl rfl rfl rfl,
   fun _ _ => mq_go rfl,
   fun _ _ _ _ _ _ _ => mq_al (i := 0) rfl rfl,
   fun _ _ _ h0 => mq_getR rfl h0,
   fun _ _ _ _ _ _ _ => mq_il (i := 5) rfl rfl,
   fun _ _ _ _ h0 => mq_iald rfl h0,
   fun _ _ => mq_push rfl,
   fun _ _ _ _ => mq_ic_ne rfl,
   fun _ _ _ _ _ _ _ => mq_al (i := 0) rfl rfl,
   fun _ _ _ h0 => mq_getR rfl h0,
   fun _ _ _ _ _ _ _ => mq_il (i := 4) rfl rfl,
   fun _ _ => mq_push rfl,
   fun _ _ _ _ => mq_bi rfl,
   fun _ _ => mq_push rfl,
   fun _ _ _ _ _ _ _ => mq_al (i := 0) rfl rfl,
   fun _ _ _ h0 => mq_getR rfl h0,
   fun _ _ _ _ _ _ _ => mq_il (i := 4) rfl rfl,
   fun _ _ => mq_push rfl,
   fun _ _ _ _ => mq_bi rfl,
   fun _ _ _ _ h0 => mq_iald rfl h0,
   fun _ _ _ _ => mq_bi rfl,
   fun _ _ _ _ _ h0 => mq_iast rfl h0,
   fun _ _ => mq_go rfl,
   fun _ _ _ _ _ _ _ => mq_iinc (i := 4) rfl rfl rfl rfl,
   fun _ _ _ _ _ _ _ => mq_al (i := 0) rfl rfl,
   fun _ _ _ h0 => mq_getR rfl h0,
   fun _ _ _ _ _ _ _ => mq_il (i := 4) rfl rfl,
   fun _ _ => mq_push rfl,
   fun _ _ _ _ => mq_bi rfl,
   fun _ _ _ _ _ _ _ => mq_al (i := 0) rfl rfl,
   fun _ _ _ h0 => mq_getR rfl h0,
   fun _ _ _ _ _ _ _ => mq_il (i := 5) rfl rfl,
   fun _ _ _ _ h0 => mq_iald rfl h0,
   fun _ _ _ _ _ _ _ => mq_al (i := 0) rfl rfl,
   fun _ _ _ h0 => mq_getR rfl h0,
   fun _ _ _ _ _ _ _ => mq_il (i := 4) rfl rfl,
   fun _ _ => mq_push rfl,
   fun _ _ _ _ => mq_bi rfl,
   fun _ _ _ _ h0 => mq_iald rfl h0,
   fun _ _ _ => mq_i2l rfl,
   fun _ _ _ _ _ _ _ => mq_al (i := 0) rfl rfl,
   fun _ _ _ h0 => mq_getR rfl h0,
   fun _ _ _ _ _ _ _ => mq_il (i := 4) rfl rfl,
   fun _ _ _ _ h0 => mq_iald rfl h0,
   fun _ _ _ => mq_i2l rfl,
   fun _ _ _ _ _ _ => mq_cSr (na := 3) rfl (Nat.le_of_ble_eq_true rfl) (Nat.le_of_ble_eq_true rfl),
   fun _ _ _ _ _ h0 => mq_iast rfl h0,
   fun _ _ _ _ _ _ _ => mq_iinc (i := 5) rfl rfl rfl rfl,
   fun _ _ => mq_go rfl,
   fun _ _ _ _ _ _ _ => mq_al (i := 0) rfl rfl,
   fun _ _ _ h0 => mq_getR rfl h0,
   fun _ _ => mq_push rfl,
   fun _ _ _ _ h0 => mq_iald rfl h0,
   fun _ _ => mq_ri rfl⟩
theorem hX12_workOut_12 (d n : Nat) (I L : mm_I) (P : mm_P) : ∀ (st : List mm_V) z (l0 : mm_V) (l1 : mm_V) (l2 : mm_V) (l3 : mm_V) (l4 : mm_V), mm_E d 176 12 [l0, l1, l2, l3, l4, (.inl z)] [] st n I L P = mm_E d 176 14 [l0, l1, l2, l3, l4, (.inl z)] [] ((.inl z) :: st) n I L P := fun _ _ _ _ _ _ _ => mq_il (i := 5) rfl rfl
theorem eX12_workOut (d n : Nat) (I L : mm_I) (P : mm_P) (x0 : Option Nat) (x1 : Int) (x2 : Int) (x3 : Int) : mm_rn (d + 1) 176 [.inr (.inr x0), .inl x1, .inl x2, .inl x3] n I L P = mm_E d 176 0 [.inr (.inr x0), .inl x1, .inl x2, .inl x3, mm_junk, mm_junk] [] [] n I L P := rfl

set_option maxRecDepth 20000 in
set_option maxHeartbeats 8000000 in
theorem kX12_worthOf (d n : Nat) (I L : mm_I) (P : mm_P) :
  (∀ (lv : List mm_V) (st : List mm_V), mm_E d 177 0 lv [] st n I L P = mm_E d 177 3 lv [] (.inl 140 :: st) n I L P) ∧
  (∀ (st : List mm_V) z (l0 : mm_V) (l2 : mm_V), mm_E d 177 3 [l0, (.inl z), l2] [] st n I L P = mm_E d 177 4 [l0, (.inl z), l2] [] ((.inl z) :: st) n I L P) ∧
  (∀ (lv : List mm_V) (st : List mm_V) a b, mm_E d 177 4 lv [] (.inl b :: .inl a :: st) n I L P = mm_E d 177 5 lv [] (.inl (mm_mul a b) :: st) n I L P) ∧
  (∀ (st : List mm_V) z (l0 : mm_V) (l1 : mm_V) (l2 : mm_V), mm_E d 177 5 [l0, l1, l2] [] ((.inl z) :: st) n I L P = mm_E d 177 6 [l0, l1, (.inl z)] [] st n I L P) ∧
  (∀ (lv : List mm_V) (st : List mm_V), mm_E d 177 7 lv [] st n I L P = mm_E d 177 10 lv [] (.inl 140 :: st) n I L P) ∧
  (∀ (st : List mm_V) z (l0 : mm_V) (l2 : mm_V), mm_E d 177 10 [l0, (.inl z), l2] [] st n I L P = mm_E d 177 11 [l0, (.inl z), l2] [] ((.inl z) :: st) n I L P) ∧
  (∀ (lv : List mm_V) (st : List mm_V) a b, mm_E d 177 11 lv [] (.inl b :: .inl a :: st) n I L P = mm_E d 177 12 lv [] (.inl (mm_mul a b) :: st) n I L P) ∧
  (∀ (st : List mm_V) z (l1 : mm_V) (l2 : mm_V), mm_E d 177 12 [(.inr (.inr z)), l1, l2] [] st n I L P = mm_E d 177 13 [(.inr (.inr z)), l1, l2] [] ((.inr (.inr z)) :: st) n I L P) ∧
  (∀ (lv : List mm_V) (st : List mm_V) a, (mm_ok n a 12) → mm_E d 177 13 lv [] (.inr (.inr (some a)) :: st) n I L P = mm_E d 177 16 lv [] (.inr (.inr (P a 9)) :: st) n I L P) ∧
  (∀ (st : List mm_V) z (l0 : mm_V) (l2 : mm_V), mm_E d 177 16 [l0, (.inl z), l2] [] st n I L P = mm_E d 177 17 [l0, (.inl z), l2] [] ((.inl z) :: st) n I L P) ∧
  (∀ (lv : List mm_V) (st : List mm_V) a i, (mm_ix n a 20 i) → mm_E d 177 17 lv [] (.inl i :: .inr (.inr (some a)) :: st) n I L P = mm_E d 177 18 lv [] (.inl (I a i.toNat) :: st) n I L P) ∧
  (∀ (lv : List mm_V) (st : List mm_V) a b, mm_E d 177 18 lv [] (.inl b :: .inl a :: st) n I L P = mm_E d 177 19 lv [] (.inl (mm_add a b) :: st) n I L P) ∧
  (∀ (lv : List mm_V) (st : List mm_V) a b, mm_E d 177 19 lv [] (.inl b :: .inl a :: st) n I L P = if b ≤ a then mm_E d 177 81 lv [] st n I L P else mm_E d 177 22 lv [] st n I L P) ∧
  (∀ (st : List mm_V) z (l1 : mm_V) (l2 : mm_V), mm_E d 177 22 [(.inr (.inr z)), l1, l2] [] st n I L P = mm_E d 177 23 [(.inr (.inr z)), l1, l2] [] ((.inr (.inr z)) :: st) n I L P) ∧
  (∀ (lv : List mm_V) (st : List mm_V) a, (mm_ok n a 12) → mm_E d 177 23 lv [] (.inr (.inr (some a)) :: st) n I L P = mm_E d 177 26 lv [] (.inr (.inr (P a 10)) :: st) n I L P) ∧
  (∀ (st : List mm_V) z (l0 : mm_V) (l1 : mm_V), mm_E d 177 26 [l0, l1, (.inl z)] [] st n I L P = mm_E d 177 27 [l0, l1, (.inl z)] [] ((.inl z) :: st) n I L P) ∧
  (∀ (lv : List mm_V) (st : List mm_V) a i, (mm_ix n a 20 i) → mm_E d 177 27 lv [] (.inl i :: .inr (.inr (some a)) :: st) n I L P = mm_E d 177 28 lv [] (.inl (I a i.toNat) :: st) n I L P) ∧
  (∀ (st : List mm_V) z (l1 : mm_V) (l2 : mm_V), mm_E d 177 28 [(.inr (.inr z)), l1, l2] [] st n I L P = mm_E d 177 29 [(.inr (.inr z)), l1, l2] [] ((.inr (.inr z)) :: st) n I L P) ∧
  (∀ (lv : List mm_V) (st : List mm_V) a, (mm_ok n a 12) → mm_E d 177 29 lv [] (.inr (.inr (some a)) :: st) n I L P = mm_E d 177 32 lv [] (.inr (.inr (P a 11)) :: st) n I L P) ∧
  (∀ (st : List mm_V) z (l0 : mm_V) (l1 : mm_V), mm_E d 177 32 [l0, l1, (.inl z)] [] st n I L P = mm_E d 177 33 [l0, l1, (.inl z)] [] ((.inl z) :: st) n I L P) ∧
  (∀ (lv : List mm_V) (st : List mm_V) a i, (mm_ix n a 20 i) → mm_E d 177 33 lv [] (.inl i :: .inr (.inr (some a)) :: st) n I L P = mm_E d 177 34 lv [] (.inl (I a i.toNat) :: st) n I L P) ∧
  (∀ (lv : List mm_V) (st : List mm_V) a b, mm_E d 177 34 lv [] (.inl b :: .inl a :: st) n I L P = if a = b then mm_E d 177 57 lv [] st n I L P else mm_E d 177 37 lv [] st n I L P) ∧
  (∀ (st : List mm_V) z (l1 : mm_V) (l2 : mm_V), mm_E d 177 37 [(.inr (.inr z)), l1, l2] [] st n I L P = mm_E d 177 38 [(.inr (.inr z)), l1, l2] [] ((.inr (.inr z)) :: st) n I L P) ∧
  (∀ (st : List mm_V) z (l0 : mm_V) (l2 : mm_V), mm_E d 177 38 [l0, (.inl z), l2] [] st n I L P = mm_E d 177 39 [l0, (.inl z), l2] [] ((.inl z) :: st) n I L P) ∧
  (∀ (st : List mm_V) z (l1 : mm_V) (l2 : mm_V), mm_E d 177 39 [(.inr (.inr z)), l1, l2] [] st n I L P = mm_E d 177 40 [(.inr (.inr z)), l1, l2] [] ((.inr (.inr z)) :: st) n I L P) ∧
  (∀ (lv : List mm_V) (st : List mm_V) a, (mm_ok n a 12) → mm_E d 177 40 lv [] (.inr (.inr (some a)) :: st) n I L P = mm_E d 177 43 lv [] (.inr (.inr (P a 10)) :: st) n I L P) ∧
  (∀ (st : List mm_V) z (l0 : mm_V) (l1 : mm_V), mm_E d 177 43 [l0, l1, (.inl z)] [] st n I L P = mm_E d 177 44 [l0, l1, (.inl z)] [] ((.inl z) :: st) n I L P) ∧
  (∀ (lv : List mm_V) (st : List mm_V) a i, (mm_ix n a 20 i) → mm_E d 177 44 lv [] (.inl i :: .inr (.inr (some a)) :: st) n I L P = mm_E d 177 45 lv [] (.inl (I a i.toNat) :: st) n I L P) ∧
  (∀ (st : List mm_V) z (l1 : mm_V) (l2 : mm_V), mm_E d 177 45 [(.inr (.inr z)), l1, l2] [] st n I L P = mm_E d 177 46 [(.inr (.inr z)), l1, l2] [] ((.inr (.inr z)) :: st) n I L P) ∧
  (∀ (lv : List mm_V) (st : List mm_V) a, (mm_ok n a 12) → mm_E d 177 46 lv [] (.inr (.inr (some a)) :: st) n I L P = mm_E d 177 49 lv [] (.inr (.inr (P a 11)) :: st) n I L P) ∧
  (∀ (st : List mm_V) z (l0 : mm_V) (l1 : mm_V), mm_E d 177 49 [l0, l1, (.inl z)] [] st n I L P = mm_E d 177 50 [l0, l1, (.inl z)] [] ((.inl z) :: st) n I L P) ∧
  (∀ (lv : List mm_V) (st : List mm_V) a i, (mm_ix n a 20 i) → mm_E d 177 50 lv [] (.inl i :: .inr (.inr (some a)) :: st) n I L P = mm_E d 177 51 lv [] (.inl (I a i.toNat) :: st) n I L P) ∧
  (∀ (lv : List mm_V) a x0 x1 x2, (mm_ok n a 12) → mm_E d 177 51 lv [] (.inl x2 :: .inl x1 :: .inl x0 :: .inr (.inr (some a)) :: []) n I L P = mm_kr d 177 54 lv [] [] n (mm_rn d 176 [.inr (.inr (some a)), .inl x0, .inl x1, .inl x2] n I L P)) ∧
  (∀ (lv : List mm_V) (st : List mm_V) a, mm_E d 177 54 lv [] (.inl a :: st) n I L P = if a = 0 then mm_E d 177 75 lv [] st n I L P else mm_E d 177 57 lv [] st n I L P) ∧
  (∀ (st : List mm_V) z (l1 : mm_V) (l2 : mm_V), mm_E d 177 57 [(.inr (.inr z)), l1, l2] [] st n I L P = mm_E d 177 58 [(.inr (.inr z)), l1, l2] [] ((.inr (.inr z)) :: st) n I L P) ∧
  (∀ (st : List mm_V) z (l0 : mm_V) (l2 : mm_V), mm_E d 177 58 [l0, (.inl z), l2] [] st n I L P = mm_E d 177 59 [l0, (.inl z), l2] [] ((.inl z) :: st) n I L P) ∧
  (∀ (st : List mm_V) z (l1 : mm_V) (l2 : mm_V), mm_E d 177 59 [(.inr (.inr z)), l1, l2] [] st n I L P = mm_E d 177 60 [(.inr (.inr z)), l1, l2] [] ((.inr (.inr z)) :: st) n I L P) ∧
  (∀ (lv : List mm_V) (st : List mm_V) a, (mm_ok n a 12) → mm_E d 177 60 lv [] (.inr (.inr (some a)) :: st) n I L P = mm_E d 177 63 lv [] (.inr (.inr (P a 11)) :: st) n I L P) ∧
  (∀ (st : List mm_V) z (l0 : mm_V) (l1 : mm_V), mm_E d 177 63 [l0, l1, (.inl z)] [] st n I L P = mm_E d 177 64 [l0, l1, (.inl z)] [] ((.inl z) :: st) n I L P) ∧
  (∀ (lv : List mm_V) (st : List mm_V) a i, (mm_ix n a 20 i) → mm_E d 177 64 lv [] (.inl i :: .inr (.inr (some a)) :: st) n I L P = mm_E d 177 65 lv [] (.inl (I a i.toNat) :: st) n I L P) ∧
  (∀ (st : List mm_V) z (l1 : mm_V) (l2 : mm_V), mm_E d 177 65 [(.inr (.inr z)), l1, l2] [] st n I L P = mm_E d 177 66 [(.inr (.inr z)), l1, l2] [] ((.inr (.inr z)) :: st) n I L P) ∧
  (∀ (lv : List mm_V) (st : List mm_V) a, (mm_ok n a 12) → mm_E d 177 66 lv [] (.inr (.inr (some a)) :: st) n I L P = mm_E d 177 69 lv [] (.inr (.inr (P a 12)) :: st) n I L P) ∧
  (∀ (st : List mm_V) z (l0 : mm_V) (l1 : mm_V), mm_E d 177 69 [l0, l1, (.inl z)] [] st n I L P = mm_E d 177 70 [l0, l1, (.inl z)] [] ((.inl z) :: st) n I L P) ∧
  (∀ (lv : List mm_V) (st : List mm_V) a i, (mm_ix n a 20 i) → mm_E d 177 70 lv [] (.inl i :: .inr (.inr (some a)) :: st) n I L P = mm_E d 177 71 lv [] (.inl (I a i.toNat) :: st) n I L P) ∧
  (∀ (lv : List mm_V) a x0 x1 x2, (mm_ok n a 12) → mm_E d 177 71 lv [] (.inl x2 :: .inl x1 :: .inl x0 :: .inr (.inr (some a)) :: []) n I L P = mm_kr d 177 74 lv [] [] n (mm_rn d 176 [.inr (.inr (some a)), .inl x0, .inl x1, .inl x2] n I L P)) ∧
  (∀ (lv : List mm_V) z, mm_E d 177 74 lv [] [.inl z] n I L P = some (some (.inl z), n, I, L, P)) ∧
  (∀ (st : List mm_V) z (l0 : mm_V) (l1 : mm_V), mm_E d 177 75 [l0, l1, (.inl z)] [] st n I L P = mm_E d 177 78 [l0, l1, (.inl (mm_add z 1))] [] st n I L P) ∧
  (∀ (lv : List mm_V) (st : List mm_V), mm_E d 177 78 lv [] st n I L P = mm_E d 177 6 lv [] st n I L P) ∧
  (∀ (lv : List mm_V) (st : List mm_V), mm_E d 177 81 lv [] st n I L P = mm_E d 177 82 lv [] (.inl 0 :: st) n I L P) ∧
  (∀ (lv : List mm_V) z, mm_E d 177 82 lv [] [.inl z] n I L P = some (some (.inl z), n, I, L, P)) :=
  ⟨fun _ _ => mq_push rfl,
   fun _ _ _ _ => mq_il (i := 1) rfl rfl,
   fun _ _ _ _ => mq_bi rfl,
   fun _ _ _ _ _ => mq_is (i := 2) rfl rfl rfl,
   fun _ _ => mq_push rfl,
   fun _ _ _ _ => mq_il (i := 1) rfl rfl,
   fun _ _ _ _ => mq_bi rfl,
   fun _ _ _ _ => mq_al (i := 0) rfl rfl,
   fun _ _ _ h0 => mq_getR rfl h0,
   fun _ _ _ _ => mq_il (i := 1) rfl rfl,
   fun _ _ _ _ h0 => mq_iald rfl h0,
   fun _ _ _ _ => mq_bi rfl,
   fun _ _ _ _ => mq_ic_ge rfl,
   fun _ _ _ _ => mq_al (i := 0) rfl rfl,
   fun _ _ _ h0 => mq_getR rfl h0,
   fun _ _ _ _ => mq_il (i := 2) rfl rfl,
   fun _ _ _ _ h0 => mq_iald rfl h0,
   fun _ _ _ _ => mq_al (i := 0) rfl rfl,
   fun _ _ _ h0 => mq_getR rfl h0,
   fun _ _ _ _ => mq_il (i := 2) rfl rfl,
   fun _ _ _ _ h0 => mq_iald rfl h0,
   fun _ _ _ _ => mq_ic_eq rfl,
   fun _ _ _ _ => mq_al (i := 0) rfl rfl,
   fun _ _ _ _ => mq_il (i := 1) rfl rfl,
   fun _ _ _ _ => mq_al (i := 0) rfl rfl,
   fun _ _ _ h0 => mq_getR rfl h0,
   fun _ _ _ _ => mq_il (i := 2) rfl rfl,
   fun _ _ _ _ h0 => mq_iald rfl h0,
   fun _ _ _ _ => mq_al (i := 0) rfl rfl,
   fun _ _ _ h0 => mq_getR rfl h0,
   fun _ _ _ _ => mq_il (i := 2) rfl rfl,
   fun _ _ _ _ h0 => mq_iald rfl h0,
   fun _ _ _ _ _ h0 => mq_cVr (na := 3) rfl rfl (Nat.le_of_ble_eq_true rfl) (Nat.le_of_ble_eq_true rfl) h0,
   fun _ _ _ => mq_if_eq rfl,
   fun _ _ _ _ => mq_al (i := 0) rfl rfl,
   fun _ _ _ _ => mq_il (i := 1) rfl rfl,
   fun _ _ _ _ => mq_al (i := 0) rfl rfl,
   fun _ _ _ h0 => mq_getR rfl h0,
   fun _ _ _ _ => mq_il (i := 2) rfl rfl,
   fun _ _ _ _ h0 => mq_iald rfl h0,
   fun _ _ _ _ => mq_al (i := 0) rfl rfl,
   fun _ _ _ h0 => mq_getR rfl h0,
   fun _ _ _ _ => mq_il (i := 2) rfl rfl,
   fun _ _ _ _ h0 => mq_iald rfl h0,
   fun _ _ _ _ _ h0 => mq_cVr (na := 3) rfl rfl (Nat.le_of_ble_eq_true rfl) (Nat.le_of_ble_eq_true rfl) h0,
   fun _ _ => mq_ri rfl,
   fun _ _ _ _ => mq_iinc (i := 2) rfl rfl rfl rfl,
   fun _ _ => mq_go rfl,
   fun _ _ => mq_push rfl,
   fun _ _ => mq_ri rfl⟩
theorem hX12_worthOf_6 (d n : Nat) (I L : mm_I) (P : mm_P) : ∀ (st : List mm_V) z (l0 : mm_V) (l1 : mm_V), mm_E d 177 6 [l0, l1, (.inl z)] [] st n I L P = mm_E d 177 7 [l0, l1, (.inl z)] [] ((.inl z) :: st) n I L P := fun _ _ _ _ => mq_il (i := 2) rfl rfl
theorem eX12_worthOf (d n : Nat) (I L : mm_I) (P : mm_P) (x0 : Option Nat) (x1 : Int) : mm_rn (d + 1) 177 [.inr (.inr x0), .inl x1] n I L P = mm_E d 177 0 [.inr (.inr x0), .inl x1, mm_junk] [] [] n I L P := rfl

set_option maxRecDepth 20000 in
set_option maxHeartbeats 8000000 in
theorem kX12_number (d n : Nat) (I L : mm_I) (P : mm_P) :
  (∀ (st : List mm_V) z (l1 : mm_V) (l2 : mm_V) (l3 : mm_V), mm_E d 178 0 [(.inr (.inr z)), l1, l2, l3] [] st n I L P = mm_E d 178 1 [(.inr (.inr z)), l1, l2, l3] [] ((.inr (.inr z)) :: st) n I L P) ∧
  (∀ (lv : List mm_V) a, (mm_ok n a 12) → mm_E d 178 1 lv [] (.inr (.inr (some a)) :: []) n I L P = mm_kr d 178 4 lv [] [] n (mm_rn d 153 [.inr (.inr (some a))] n I L P)) ∧
  (∀ (lv : List mm_V) x0, mm_E d 178 4 lv [] (.inl x0 :: []) n I L P = mm_kr d 178 7 lv [] [] n (mm_rn d 155 [.inl x0] n I L P)) ∧
  (∀ (lv : List mm_V) (st : List mm_V) a, mm_E d 178 7 lv [] (.inl a :: st) n I L P = if a = 0 then mm_E d 178 10 lv [] st n I L P else mm_E d 178 16 lv [] st n I L P) ∧
  (∀ (st : List mm_V) z (l1 : mm_V) (l2 : mm_V) (l3 : mm_V), mm_E d 178 10 [(.inr (.inr z)), l1, l2, l3] [] st n I L P = mm_E d 178 11 [(.inr (.inr z)), l1, l2, l3] [] ((.inr (.inr z)) :: st) n I L P) ∧
  (∀ (lv : List mm_V) a, (mm_ok n a 12) → mm_E d 178 11 lv [] (.inr (.inr (some a)) :: []) n I L P = mm_kv d 178 14 lv [] [] n (mm_rn d 154 [.inr (.inr (some a))] n I L P)) ∧
  (∀ (st : List mm_V) z (l0 : mm_V) (l2 : mm_V) (l3 : mm_V), mm_E d 178 14 [l0, (.inl z), l2, l3] [] st n I L P = mm_E d 178 15 [l0, (.inl z), l2, l3] [] ((.inl z) :: st) n I L P) ∧
  (∀ (lv : List mm_V) z, mm_E d 178 15 lv [] [.inl z] n I L P = some (some (.inl z), n, I, L, P)) ∧
  (∀ (st : List mm_V) z (l1 : mm_V) (l2 : mm_V) (l3 : mm_V), mm_E d 178 16 [(.inr (.inr z)), l1, l2, l3] [] st n I L P = mm_E d 178 17 [(.inr (.inr z)), l1, l2, l3] [] ((.inr (.inr z)) :: st) n I L P) ∧
  (∀ (lv : List mm_V) a, (mm_ok n a 12) → mm_E d 178 17 lv [] (.inr (.inr (some a)) :: []) n I L P = mm_kr d 178 20 lv [] [] n (mm_rn d 152 [.inr (.inr (some a))] n I L P)) ∧
  (∀ (lv : List mm_V) (st : List mm_V), mm_E d 178 20 lv [] st n I L P = mm_E d 178 22 lv [] (.inl 48 :: st) n I L P) ∧
  (∀ (lv : List mm_V) (st : List mm_V) a b, mm_E d 178 22 lv [] (.inl b :: .inl a :: st) n I L P = mm_E d 178 23 lv [] (.inl (mm_sub a b) :: st) n I L P) ∧
  (∀ (st : List mm_V) z (l0 : mm_V) (l1 : mm_V) (l2 : mm_V) (l3 : mm_V), mm_E d 178 23 [l0, l1, l2, l3] [] ((.inl z) :: st) n I L P = mm_E d 178 24 [l0, l1, l2, (.inl z)] [] st n I L P) ∧
  (∀ (st : List mm_V) z (l1 : mm_V) (l2 : mm_V) (l3 : mm_V), mm_E d 178 24 [(.inr (.inr z)), l1, l2, l3] [] st n I L P = mm_E d 178 25 [(.inr (.inr z)), l1, l2, l3] [] ((.inr (.inr z)) :: st) n I L P) ∧
  (∀ (lv : List mm_V) (st : List mm_V) a, mm_E d 178 25 lv [] ((.inr (.inr a)) :: st) n I L P = mm_E d 178 26 lv [] ((.inr (.inr a)) :: (.inr (.inr a)) :: st) n I L P) ∧
  (∀ (lv : List mm_V) (st : List mm_V) a, (mm_ok n a 12) → mm_E d 178 26 lv [] (.inr (.inr (some a)) :: st) n I L P = mm_E d 178 29 lv [] (.inl (I a 3) :: st) n I L P) ∧
  (∀ (lv : List mm_V) (st : List mm_V), mm_E d 178 29 lv [] st n I L P = mm_E d 178 30 lv [] (.inl 1 :: st) n I L P) ∧
  (∀ (lv : List mm_V) (st : List mm_V) a b, mm_E d 178 30 lv [] (.inl b :: .inl a :: st) n I L P = mm_E d 178 31 lv [] (.inl (mm_add a b) :: st) n I L P) ∧
  (∀ (lv : List mm_V) (st : List mm_V) a z, (mm_ok n a 12) → mm_E d 178 31 lv [] (.inl z :: .inr (.inr (some a)) :: st) n I L P = mm_E d 178 34 lv [] st n (mm_ui I a 3 z) L P) ∧
  (∀ (st : List mm_V) z (l1 : mm_V) (l2 : mm_V) (l3 : mm_V), mm_E d 178 34 [(.inr (.inr z)), l1, l2, l3] [] st n I L P = mm_E d 178 35 [(.inr (.inr z)), l1, l2, l3] [] ((.inr (.inr z)) :: st) n I L P) ∧
  (∀ (lv : List mm_V) a, (mm_ok n a 12) → mm_E d 178 35 lv [] (.inr (.inr (some a)) :: []) n I L P = mm_kr d 178 38 lv [] [] n (mm_rn d 152 [.inr (.inr (some a))] n I L P)) ∧
  (∀ (lv : List mm_V) x0, mm_E d 178 38 lv [] (.inl x0 :: []) n I L P = mm_kr d 178 41 lv [] [] n (mm_rn d 155 [.inl x0] n I L P)) ∧
  (∀ (lv : List mm_V) (st : List mm_V) a, mm_E d 178 41 lv [] (.inl a :: st) n I L P = if a = 0 then mm_E d 178 67 lv [] st n I L P else mm_E d 178 44 lv [] st n I L P) ∧
  (∀ (lv : List mm_V) (st : List mm_V), mm_E d 178 44 lv [] st n I L P = mm_E d 178 46 lv [] (.inl 10 :: st) n I L P) ∧
  (∀ (st : List mm_V) z (l0 : mm_V) (l1 : mm_V) (l2 : mm_V), mm_E d 178 46 [l0, l1, l2, (.inl z)] [] st n I L P = mm_E d 178 47 [l0, l1, l2, (.inl z)] [] ((.inl z) :: st) n I L P) ∧
  (∀ (lv : List mm_V) (st : List mm_V) a b, mm_E d 178 47 lv [] (.inl b :: .inl a :: st) n I L P = mm_E d 178 48 lv [] (.inl (mm_mul a b) :: st) n I L P) ∧
  (∀ (st : List mm_V) z (l1 : mm_V) (l2 : mm_V) (l3 : mm_V), mm_E d 178 48 [(.inr (.inr z)), l1, l2, l3] [] st n I L P = mm_E d 178 49 [(.inr (.inr z)), l1, l2, l3] [] ((.inr (.inr z)) :: st) n I L P) ∧
  (∀ (lv : List mm_V) a w0, (mm_ok n a 12) → mm_E d 178 49 lv [] (.inr (.inr (some a)) :: [.inl w0]) n I L P = mm_kr d 178 52 lv [] [.inl w0] n (mm_rn d 152 [.inr (.inr (some a))] n I L P)) ∧
  (∀ (lv : List mm_V) (st : List mm_V) a b, mm_E d 178 52 lv [] (.inl b :: .inl a :: st) n I L P = mm_E d 178 53 lv [] (.inl (mm_add a b) :: st) n I L P) ∧
  (∀ (lv : List mm_V) (st : List mm_V), mm_E d 178 53 lv [] st n I L P = mm_E d 178 55 lv [] (.inl 48 :: st) n I L P) ∧
  (∀ (lv : List mm_V) (st : List mm_V) a b, mm_E d 178 55 lv [] (.inl b :: .inl a :: st) n I L P = mm_E d 178 56 lv [] (.inl (mm_sub a b) :: st) n I L P) ∧
  (∀ (st : List mm_V) z (l0 : mm_V) (l1 : mm_V) (l2 : mm_V) (l3 : mm_V), mm_E d 178 56 [l0, l1, l2, l3] [] ((.inl z) :: st) n I L P = mm_E d 178 57 [l0, l1, l2, (.inl z)] [] st n I L P) ∧
  (∀ (st : List mm_V) z (l1 : mm_V) (l2 : mm_V) (l3 : mm_V), mm_E d 178 57 [(.inr (.inr z)), l1, l2, l3] [] st n I L P = mm_E d 178 58 [(.inr (.inr z)), l1, l2, l3] [] ((.inr (.inr z)) :: st) n I L P) ∧
  (∀ (lv : List mm_V) (st : List mm_V) a, mm_E d 178 58 lv [] ((.inr (.inr a)) :: st) n I L P = mm_E d 178 59 lv [] ((.inr (.inr a)) :: (.inr (.inr a)) :: st) n I L P) ∧
  (∀ (lv : List mm_V) (st : List mm_V) a, (mm_ok n a 12) → mm_E d 178 59 lv [] (.inr (.inr (some a)) :: st) n I L P = mm_E d 178 62 lv [] (.inl (I a 3) :: st) n I L P) ∧
  (∀ (lv : List mm_V) (st : List mm_V), mm_E d 178 62 lv [] st n I L P = mm_E d 178 63 lv [] (.inl 1 :: st) n I L P) ∧
  (∀ (lv : List mm_V) (st : List mm_V) a b, mm_E d 178 63 lv [] (.inl b :: .inl a :: st) n I L P = mm_E d 178 64 lv [] (.inl (mm_add a b) :: st) n I L P) ∧
  (∀ (lv : List mm_V) (st : List mm_V) a z, (mm_ok n a 12) → mm_E d 178 64 lv [] (.inl z :: .inr (.inr (some a)) :: st) n I L P = mm_E d 178 67 lv [] st n (mm_ui I a 3 z) L P) ∧
  (∀ (st : List mm_V) z (l1 : mm_V) (l2 : mm_V) (l3 : mm_V), mm_E d 178 67 [(.inr (.inr z)), l1, l2, l3] [] st n I L P = mm_E d 178 68 [(.inr (.inr z)), l1, l2, l3] [] ((.inr (.inr z)) :: st) n I L P) ∧
  (∀ (lv : List mm_V) a, (mm_ok n a 12) → mm_E d 178 68 lv [] (.inr (.inr (some a)) :: []) n I L P = mm_kr d 178 71 lv [] [] n (mm_rn d 152 [.inr (.inr (some a))] n I L P)) ∧
  (∀ (lv : List mm_V) x0, mm_E d 178 71 lv [] (.inl x0 :: []) n I L P = mm_kr d 178 74 lv [] [] n (mm_rn d 155 [.inl x0] n I L P)) ∧
  (∀ (lv : List mm_V) (st : List mm_V) a, mm_E d 178 74 lv [] (.inl a :: st) n I L P = if a = 0 then mm_E d 178 84 lv [] st n I L P else mm_E d 178 77 lv [] st n I L P) ∧
  (∀ (st : List mm_V) z (l1 : mm_V) (l2 : mm_V) (l3 : mm_V), mm_E d 178 77 [(.inr (.inr z)), l1, l2, l3] [] st n I L P = mm_E d 178 78 [(.inr (.inr z)), l1, l2, l3] [] ((.inr (.inr z)) :: st) n I L P) ∧
  (∀ (lv : List mm_V) a, (mm_ok n a 12) → mm_E d 178 78 lv [] (.inr (.inr (some a)) :: []) n I L P = mm_kv d 178 81 lv [] [] n (mm_rn d 154 [.inr (.inr (some a))] n I L P)) ∧
  (∀ (lv : List mm_V) (st : List mm_V), mm_E d 178 81 lv [] st n I L P = mm_E d 178 107 lv [] st n I L P) ∧
  (∀ (st : List mm_V) z (l0 : mm_V) (l1 : mm_V) (l2 : mm_V), mm_E d 178 84 [l0, l1, l2, (.inl z)] [] st n I L P = mm_E d 178 85 [l0, l1, l2, (.inl z)] [] ((.inl z) :: st) n I L P) ∧
  (∀ (st : List mm_V) z (l0 : mm_V) (l2 : mm_V) (l3 : mm_V), mm_E d 178 85 [l0, (.inl z), l2, l3] [] st n I L P = mm_E d 178 86 [l0, (.inl z), l2, l3] [] ((.inl z) :: st) n I L P) ∧
  (∀ (st : List mm_V) z (l0 : mm_V) (l1 : mm_V) (l3 : mm_V), mm_E d 178 86 [l0, l1, (.inl z), l3] [] st n I L P = mm_E d 178 87 [l0, l1, (.inl z), l3] [] ((.inl z) :: st) n I L P) ∧
  (∀ (lv : List mm_V) x0 x1 x2, mm_E d 178 87 lv [] (.inl x2 :: .inl x1 :: .inl x0 :: []) n I L P = mm_kr d 178 90 lv [] [] n (mm_rn d 145 [.inl x0, .inl x1, .inl x2] n I L P)) ∧
  (∀ (lv : List mm_V) (st : List mm_V) a, mm_E d 178 90 lv [] (.inl a :: st) n I L P = if a = 0 then mm_E d 178 93 lv [] st n I L P else mm_E d 178 107 lv [] st n I L P) ∧
  (∀ (st : List mm_V) z (l1 : mm_V) (l2 : mm_V) (l3 : mm_V), mm_E d 178 93 [(.inr (.inr z)), l1, l2, l3] [] st n I L P = mm_E d 178 94 [(.inr (.inr z)), l1, l2, l3] [] ((.inr (.inr z)) :: st) n I L P) ∧
  (∀ (lv : List mm_V) (st : List mm_V) a, mm_E d 178 94 lv [] ((.inr (.inr a)) :: st) n I L P = mm_E d 178 95 lv [] ((.inr (.inr a)) :: (.inr (.inr a)) :: st) n I L P) ∧
  (∀ (lv : List mm_V) (st : List mm_V) a, (mm_ok n a 12) → mm_E d 178 95 lv [] (.inr (.inr (some a)) :: st) n I L P = mm_E d 178 98 lv [] (.inl (I a 3) :: st) n I L P) ∧
  (∀ (lv : List mm_V) (st : List mm_V), mm_E d 178 98 lv [] st n I L P = mm_E d 178 99 lv [] (.inl 1 :: st) n I L P) ∧
  (∀ (lv : List mm_V) (st : List mm_V) a b, mm_E d 178 99 lv [] (.inl b :: .inl a :: st) n I L P = mm_E d 178 100 lv [] (.inl (mm_sub a b) :: st) n I L P) ∧
  (∀ (lv : List mm_V) (st : List mm_V) a z, (mm_ok n a 12) → mm_E d 178 100 lv [] (.inl z :: .inr (.inr (some a)) :: st) n I L P = mm_E d 178 103 lv [] st n (mm_ui I a 3 z) L P) ∧
  (∀ (st : List mm_V) z (l1 : mm_V) (l2 : mm_V) (l3 : mm_V), mm_E d 178 103 [(.inr (.inr z)), l1, l2, l3] [] st n I L P = mm_E d 178 104 [(.inr (.inr z)), l1, l2, l3] [] ((.inr (.inr z)) :: st) n I L P) ∧
  (∀ (lv : List mm_V) a, (mm_ok n a 12) → mm_E d 178 104 lv [] (.inr (.inr (some a)) :: []) n I L P = mm_kv d 178 107 lv [] [] n (mm_rn d 154 [.inr (.inr (some a))] n I L P)) ∧
  (∀ (st : List mm_V) z (l0 : mm_V) (l1 : mm_V) (l2 : mm_V), mm_E d 178 107 [l0, l1, l2, (.inl z)] [] st n I L P = mm_E d 178 108 [l0, l1, l2, (.inl z)] [] ((.inl z) :: st) n I L P) ∧
  (∀ (lv : List mm_V) z, mm_E d 178 108 lv [] [.inl z] n I L P = some (some (.inl z), n, I, L, P)) :=
  ⟨fun _ _ _ _ _ => mq_al (i := 0) rfl rfl,
   fun _ _ h0 => mq_cVr (na := 0) rfl rfl (Nat.le_of_ble_eq_true rfl) (Nat.le_of_ble_eq_true rfl) h0,
   fun _ _ => mq_cSr (na := 1) rfl (Nat.le_of_ble_eq_true rfl) (Nat.le_of_ble_eq_true rfl),
   fun _ _ _ => mq_if_ne rfl,
   fun _ _ _ _ _ => mq_al (i := 0) rfl rfl,
   fun _ _ h0 => mq_cVv (na := 0) rfl rfl (Nat.le_of_ble_eq_true rfl) (Nat.le_of_ble_eq_true rfl) h0,
   fun _ _ _ _ _ => mq_il (i := 1) rfl rfl,
   fun _ _ => mq_ri rfl,
   fun _ _ _ _ _ => mq_al (i := 0) rfl rfl,
   fun _ _ h0 => mq_cVr (na := 0) rfl rfl (Nat.le_of_ble_eq_true rfl) (Nat.le_of_ble_eq_true rfl) h0,
   fun _ _ => mq_push rfl,
   fun _ _ _ _ => mq_bi rfl,
   fun _ _ _ _ _ _ => mq_is (i := 3) rfl rfl rfl,
   fun _ _ _ _ _ => mq_al (i := 0) rfl rfl,
   fun _ _ _ => mq_dup rfl rfl,
   fun _ _ _ h0 => mq_getI rfl h0,
   fun _ _ => mq_push rfl,
   fun _ _ _ _ => mq_bi rfl,
   fun _ _ _ _ h0 => mq_putI rfl h0,
   fun _ _ _ _ _ => mq_al (i := 0) rfl rfl,
   fun _ _ h0 => mq_cVr (na := 0) rfl rfl (Nat.le_of_ble_eq_true rfl) (Nat.le_of_ble_eq_true rfl) h0,
   fun _ _ => mq_cSr (na := 1) rfl (Nat.le_of_ble_eq_true rfl) (Nat.le_of_ble_eq_true rfl),
   fun _ _ _ => mq_if_eq rfl,
   fun _ _ => mq_push rfl,
   fun _ _ _ _ _ => mq_il (i := 3) rfl rfl,
   fun _ _ _ _ => mq_bi rfl,
   fun _ _ _ _ _ => mq_al (i := 0) rfl rfl,
   fun _ _ _ h0 => mq_cVr (na := 0) rfl rfl (Nat.le_of_ble_eq_true rfl) (Nat.le_of_ble_eq_true rfl) h0,
   fun _ _ _ _ => mq_bi rfl,
   fun _ _ => mq_push rfl,
   fun _ _ _ _ => mq_bi rfl,
   fun _ _ _ _ _ _ => mq_is (i := 3) rfl rfl rfl,
   fun _ _ _ _ _ => mq_al (i := 0) rfl rfl,
   fun _ _ _ => mq_dup rfl rfl,
   fun _ _ _ h0 => mq_getI rfl h0,
   fun _ _ => mq_push rfl,
   fun _ _ _ _ => mq_bi rfl,
   fun _ _ _ _ h0 => mq_putI rfl h0,
   fun _ _ _ _ _ => mq_al (i := 0) rfl rfl,
   fun _ _ h0 => mq_cVr (na := 0) rfl rfl (Nat.le_of_ble_eq_true rfl) (Nat.le_of_ble_eq_true rfl) h0,
   fun _ _ => mq_cSr (na := 1) rfl (Nat.le_of_ble_eq_true rfl) (Nat.le_of_ble_eq_true rfl),
   fun _ _ _ => mq_if_eq rfl,
   fun _ _ _ _ _ => mq_al (i := 0) rfl rfl,
   fun _ _ h0 => mq_cVv (na := 0) rfl rfl (Nat.le_of_ble_eq_true rfl) (Nat.le_of_ble_eq_true rfl) h0,
   fun _ _ => mq_go rfl,
   fun _ _ _ _ _ => mq_il (i := 3) rfl rfl,
   fun _ _ _ _ _ => mq_il (i := 1) rfl rfl,
   fun _ _ _ _ _ => mq_il (i := 2) rfl rfl,
   fun _ _ _ _ => mq_cSr (na := 3) rfl (Nat.le_of_ble_eq_true rfl) (Nat.le_of_ble_eq_true rfl),
   fun _ _ _ => mq_if_ne rfl,
   fun _ _ _ _ _ => mq_al (i := 0) rfl rfl,
   fun _ _ _ => mq_dup rfl rfl,
   fun _ _ _ h0 => mq_getI rfl h0,
   fun _ _ => mq_push rfl,
   fun _ _ _ _ => mq_bi rfl,
   fun _ _ _ _ h0 => mq_putI rfl h0,
   fun _ _ _ _ _ => mq_al (i := 0) rfl rfl,
   fun _ _ h0 => mq_cVv (na := 0) rfl rfl (Nat.le_of_ble_eq_true rfl) (Nat.le_of_ble_eq_true rfl) h0,
   fun _ _ _ _ _ => mq_il (i := 3) rfl rfl,
   fun _ _ => mq_ri rfl⟩
theorem eX12_number (d n : Nat) (I L : mm_I) (P : mm_P) (x0 : Option Nat) (x1 : Int) (x2 : Int) : mm_rn (d + 1) 178 [.inr (.inr x0), .inl x1, .inl x2] n I L P = mm_E d 178 0 [.inr (.inr x0), .inl x1, .inl x2, mm_junk] [] [] n I L P := rfl

set_option maxRecDepth 20000 in
set_option maxHeartbeats 8000000 in
theorem kX12_itemOf (d n : Nat) (I L : mm_I) (P : mm_P) :
  (∀ (st : List mm_V) z (l1 : mm_V), mm_E d 179 0 [(.inl z), l1] [] st n I L P = mm_E d 179 1 [(.inl z), l1] [] ((.inl z) :: st) n I L P) ∧
  (∀ (lv : List mm_V) (st : List mm_V) a, mm_E d 179 1 lv [] (.inl a :: st) n I L P = if a = 112 then mm_E d 179 60 lv [] st n I L P else if a = 115 then mm_E d 179 28 lv [] st n I L P else mm_E d 179 82 lv [] st n I L P) ∧
  (∀ (st : List mm_V) z (l0 : mm_V), mm_E d 179 28 [l0, (.inl z)] [] st n I L P = mm_E d 179 29 [l0, (.inl z)] [] ((.inl z) :: st) n I L P) ∧
  (∀ (lv : List mm_V) (st : List mm_V), mm_E d 179 29 lv [] st n I L P = mm_E d 179 31 lv [] (.inl 103 :: st) n I L P) ∧
  (∀ (lv : List mm_V) (st : List mm_V) a b, mm_E d 179 31 lv [] (.inl b :: .inl a :: st) n I L P = if a = b then mm_E d 179 34 lv [] st n I L P else mm_E d 179 38 lv [] st n I L P) ∧
  (∀ (lv : List mm_V) (st : List mm_V), mm_E d 179 34 lv [] st n I L P = mm_E d 179 35 lv [] (.inl 0 :: st) n I L P) ∧
  (∀ (lv : List mm_V) (st : List mm_V), mm_E d 179 35 lv [] st n I L P = mm_E d 179 59 lv [] st n I L P) ∧
  (∀ (st : List mm_V) z (l0 : mm_V), mm_E d 179 38 [l0, (.inl z)] [] st n I L P = mm_E d 179 39 [l0, (.inl z)] [] ((.inl z) :: st) n I L P) ∧
  (∀ (lv : List mm_V) (st : List mm_V), mm_E d 179 39 lv [] st n I L P = mm_E d 179 41 lv [] (.inl 101 :: st) n I L P) ∧
  (∀ (lv : List mm_V) (st : List mm_V) a b, mm_E d 179 41 lv [] (.inl b :: .inl a :: st) n I L P = if a = b then mm_E d 179 44 lv [] st n I L P else mm_E d 179 48 lv [] st n I L P) ∧
  (∀ (lv : List mm_V) (st : List mm_V), mm_E d 179 44 lv [] st n I L P = mm_E d 179 45 lv [] (.inl 1 :: st) n I L P) ∧
  (∀ (lv : List mm_V) (st : List mm_V), mm_E d 179 45 lv [] st n I L P = mm_E d 179 59 lv [] st n I L P) ∧
  (∀ (st : List mm_V) z (l0 : mm_V), mm_E d 179 48 [l0, (.inl z)] [] st n I L P = mm_E d 179 49 [l0, (.inl z)] [] ((.inl z) :: st) n I L P) ∧
  (∀ (lv : List mm_V) (st : List mm_V), mm_E d 179 49 lv [] st n I L P = mm_E d 179 51 lv [] (.inl 107 :: st) n I L P) ∧
  (∀ (lv : List mm_V) (st : List mm_V) a b, mm_E d 179 51 lv [] (.inl b :: .inl a :: st) n I L P = if a = b then mm_E d 179 54 lv [] st n I L P else mm_E d 179 58 lv [] st n I L P) ∧
  (∀ (lv : List mm_V) (st : List mm_V), mm_E d 179 54 lv [] st n I L P = mm_E d 179 55 lv [] (.inl 2 :: st) n I L P) ∧
  (∀ (lv : List mm_V) (st : List mm_V), mm_E d 179 55 lv [] st n I L P = mm_E d 179 59 lv [] st n I L P) ∧
  (∀ (lv : List mm_V) (st : List mm_V), mm_E d 179 58 lv [] st n I L P = mm_E d 179 59 lv [] (.inl (-1) :: st) n I L P) ∧
  (∀ (lv : List mm_V) z, mm_E d 179 59 lv [] [.inl z] n I L P = some (some (.inl z), n, I, L, P)) ∧
  (∀ (st : List mm_V) z (l0 : mm_V), mm_E d 179 60 [l0, (.inl z)] [] st n I L P = mm_E d 179 61 [l0, (.inl z)] [] ((.inl z) :: st) n I L P) ∧
  (∀ (lv : List mm_V) (st : List mm_V), mm_E d 179 61 lv [] st n I L P = mm_E d 179 63 lv [] (.inl 119 :: st) n I L P) ∧
  (∀ (lv : List mm_V) (st : List mm_V) a b, mm_E d 179 63 lv [] (.inl b :: .inl a :: st) n I L P = if a = b then mm_E d 179 66 lv [] st n I L P else mm_E d 179 70 lv [] st n I L P) ∧
  (∀ (lv : List mm_V) (st : List mm_V), mm_E d 179 66 lv [] st n I L P = mm_E d 179 67 lv [] (.inl 0 :: st) n I L P) ∧
  (∀ (lv : List mm_V) (st : List mm_V), mm_E d 179 67 lv [] st n I L P = mm_E d 179 81 lv [] st n I L P) ∧
  (∀ (st : List mm_V) z (l0 : mm_V), mm_E d 179 70 [l0, (.inl z)] [] st n I L P = mm_E d 179 71 [l0, (.inl z)] [] ((.inl z) :: st) n I L P) ∧
  (∀ (lv : List mm_V) (st : List mm_V), mm_E d 179 71 lv [] st n I L P = mm_E d 179 73 lv [] (.inl 111 :: st) n I L P) ∧
  (∀ (lv : List mm_V) (st : List mm_V) a b, mm_E d 179 73 lv [] (.inl b :: .inl a :: st) n I L P = if a = b then mm_E d 179 76 lv [] st n I L P else mm_E d 179 80 lv [] st n I L P) ∧
  (∀ (lv : List mm_V) (st : List mm_V), mm_E d 179 76 lv [] st n I L P = mm_E d 179 77 lv [] (.inl 1 :: st) n I L P) ∧
  (∀ (lv : List mm_V) (st : List mm_V), mm_E d 179 77 lv [] st n I L P = mm_E d 179 81 lv [] st n I L P) ∧
  (∀ (lv : List mm_V) (st : List mm_V), mm_E d 179 80 lv [] st n I L P = mm_E d 179 81 lv [] (.inl (-1) :: st) n I L P) ∧
  (∀ (lv : List mm_V) z, mm_E d 179 81 lv [] [.inl z] n I L P = some (some (.inl z), n, I, L, P)) ∧
  (∀ (st : List mm_V) z (l0 : mm_V), mm_E d 179 82 [l0, (.inl z)] [] st n I L P = mm_E d 179 83 [l0, (.inl z)] [] ((.inl z) :: st) n I L P) ∧
  (∀ (lv : List mm_V) (st : List mm_V), mm_E d 179 83 lv [] st n I L P = mm_E d 179 85 lv [] (.inl 97 :: st) n I L P) ∧
  (∀ (lv : List mm_V) (st : List mm_V) a b, mm_E d 179 85 lv [] (.inl b :: .inl a :: st) n I L P = if a = b then mm_E d 179 88 lv [] st n I L P else mm_E d 179 92 lv [] st n I L P) ∧
  (∀ (lv : List mm_V) (st : List mm_V), mm_E d 179 88 lv [] st n I L P = mm_E d 179 89 lv [] (.inl 0 :: st) n I L P) ∧
  (∀ (lv : List mm_V) (st : List mm_V), mm_E d 179 89 lv [] st n I L P = mm_E d 179 103 lv [] st n I L P) ∧
  (∀ (st : List mm_V) z (l0 : mm_V), mm_E d 179 92 [l0, (.inl z)] [] st n I L P = mm_E d 179 93 [l0, (.inl z)] [] ((.inl z) :: st) n I L P) ∧
  (∀ (lv : List mm_V) (st : List mm_V), mm_E d 179 93 lv [] st n I L P = mm_E d 179 95 lv [] (.inl 98 :: st) n I L P) ∧
  (∀ (lv : List mm_V) (st : List mm_V) a b, mm_E d 179 95 lv [] (.inl b :: .inl a :: st) n I L P = if a = b then mm_E d 179 98 lv [] st n I L P else mm_E d 179 102 lv [] st n I L P) ∧
  (∀ (lv : List mm_V) (st : List mm_V), mm_E d 179 98 lv [] st n I L P = mm_E d 179 99 lv [] (.inl 1 :: st) n I L P) ∧
  (∀ (lv : List mm_V) (st : List mm_V), mm_E d 179 99 lv [] st n I L P = mm_E d 179 103 lv [] st n I L P) ∧
  (∀ (lv : List mm_V) (st : List mm_V), mm_E d 179 102 lv [] st n I L P = mm_E d 179 103 lv [] (.inl (-1) :: st) n I L P) ∧
  (∀ (lv : List mm_V) z, mm_E d 179 103 lv [] [.inl z] n I L P = some (some (.inl z), n, I, L, P)) :=
  ⟨fun _ _ _ => mq_il (i := 0) rfl rfl,
   fun _ _ _ => mq_sw (l := [(112, 60), (115, 28)]) (df := 82) rfl,
   fun _ _ _ => mq_il (i := 1) rfl rfl,
   fun _ _ => mq_push rfl,
   fun _ _ _ _ => mq_ic_ne rfl,
   fun _ _ => mq_push rfl,
   fun _ _ => mq_go rfl,
   fun _ _ _ => mq_il (i := 1) rfl rfl,
   fun _ _ => mq_push rfl,
   fun _ _ _ _ => mq_ic_ne rfl,
   fun _ _ => mq_push rfl,
   fun _ _ => mq_go rfl,
   fun _ _ _ => mq_il (i := 1) rfl rfl,
   fun _ _ => mq_push rfl,
   fun _ _ _ _ => mq_ic_ne rfl,
   fun _ _ => mq_push rfl,
   fun _ _ => mq_go rfl,
   fun _ _ => mq_push rfl,
   fun _ _ => mq_ri rfl,
   fun _ _ _ => mq_il (i := 1) rfl rfl,
   fun _ _ => mq_push rfl,
   fun _ _ _ _ => mq_ic_ne rfl,
   fun _ _ => mq_push rfl,
   fun _ _ => mq_go rfl,
   fun _ _ _ => mq_il (i := 1) rfl rfl,
   fun _ _ => mq_push rfl,
   fun _ _ _ _ => mq_ic_ne rfl,
   fun _ _ => mq_push rfl,
   fun _ _ => mq_go rfl,
   fun _ _ => mq_push rfl,
   fun _ _ => mq_ri rfl,
   fun _ _ _ => mq_il (i := 1) rfl rfl,
   fun _ _ => mq_push rfl,
   fun _ _ _ _ => mq_ic_ne rfl,
   fun _ _ => mq_push rfl,
   fun _ _ => mq_go rfl,
   fun _ _ _ => mq_il (i := 1) rfl rfl,
   fun _ _ => mq_push rfl,
   fun _ _ _ _ => mq_ic_ne rfl,
   fun _ _ => mq_push rfl,
   fun _ _ => mq_go rfl,
   fun _ _ => mq_push rfl,
   fun _ _ => mq_ri rfl⟩
theorem eX12_itemOf (d n : Nat) (I L : mm_I) (P : mm_P) (x0 : Int) (x1 : Int) : mm_rn (d + 1) 179 [.inl x0, .inl x1] n I L P = mm_E d 179 0 [.inl x0, .inl x1] [] [] n I L P := rfl

set_option maxRecDepth 20000 in
set_option maxHeartbeats 8000000 in
theorem kX12_lowest (d n : Nat) (I L : mm_I) (P : mm_P) :
  (∀ (st : List mm_V) z (l1 : mm_V), mm_E d 180 0 [(.inl z), l1] [] st n I L P = mm_E d 180 1 [(.inl z), l1] [] ((.inl z) :: st) n I L P) ∧
  (∀ (lv : List mm_V) (st : List mm_V), mm_E d 180 1 lv [] st n I L P = mm_E d 180 3 lv [] (.inl 115 :: st) n I L P) ∧
  (∀ (lv : List mm_V) (st : List mm_V) a b, mm_E d 180 3 lv [] (.inl b :: .inl a :: st) n I L P = if a = b then mm_E d 180 6 lv [] st n I L P else mm_E d 180 10 lv [] st n I L P) ∧
  (∀ (st : List mm_V) z (l0 : mm_V), mm_E d 180 6 [l0, (.inl z)] [] st n I L P = mm_E d 180 7 [l0, (.inl z)] [] ((.inl z) :: st) n I L P) ∧
  (∀ (lv : List mm_V) (st : List mm_V) a, mm_E d 180 7 lv [] (.inl a :: st) n I L P = if a = 0 then mm_E d 180 20 lv [] st n I L P else mm_E d 180 10 lv [] st n I L P) ∧
  (∀ (st : List mm_V) z (l1 : mm_V), mm_E d 180 10 [(.inl z), l1] [] st n I L P = mm_E d 180 11 [(.inl z), l1] [] ((.inl z) :: st) n I L P) ∧
  (∀ (lv : List mm_V) (st : List mm_V), mm_E d 180 11 lv [] st n I L P = mm_E d 180 13 lv [] (.inl 112 :: st) n I L P) ∧
  (∀ (lv : List mm_V) (st : List mm_V) a b, mm_E d 180 13 lv [] (.inl b :: .inl a :: st) n I L P = if a = b then mm_E d 180 16 lv [] st n I L P else mm_E d 180 24 lv [] st n I L P) ∧
  (∀ (st : List mm_V) z (l0 : mm_V), mm_E d 180 16 [l0, (.inl z)] [] st n I L P = mm_E d 180 17 [l0, (.inl z)] [] ((.inl z) :: st) n I L P) ∧
  (∀ (lv : List mm_V) (st : List mm_V) a, mm_E d 180 17 lv [] (.inl a :: st) n I L P = if a = 0 then mm_E d 180 20 lv [] st n I L P else mm_E d 180 24 lv [] st n I L P) ∧
  (∀ (lv : List mm_V) (st : List mm_V), mm_E d 180 20 lv [] st n I L P = mm_E d 180 21 lv [] (.inl 1 :: st) n I L P) ∧
  (∀ (lv : List mm_V) (st : List mm_V), mm_E d 180 21 lv [] st n I L P = mm_E d 180 25 lv [] st n I L P) ∧
  (∀ (lv : List mm_V) (st : List mm_V), mm_E d 180 24 lv [] st n I L P = mm_E d 180 25 lv [] (.inl 0 :: st) n I L P) ∧
  (∀ (lv : List mm_V) z, mm_E d 180 25 lv [] [.inl z] n I L P = some (some (.inl z), n, I, L, P)) :=
  ⟨fun _ _ _ => mq_il (i := 0) rfl rfl,
   fun _ _ => mq_push rfl,
   fun _ _ _ _ => mq_ic_ne rfl,
   fun _ _ _ => mq_il (i := 1) rfl rfl,
   fun _ _ _ => mq_if_eq rfl,
   fun _ _ _ => mq_il (i := 0) rfl rfl,
   fun _ _ => mq_push rfl,
   fun _ _ _ _ => mq_ic_ne rfl,
   fun _ _ _ => mq_il (i := 1) rfl rfl,
   fun _ _ _ => mq_if_ne rfl,
   fun _ _ => mq_push rfl,
   fun _ _ => mq_go rfl,
   fun _ _ => mq_push rfl,
   fun _ _ => mq_ri rfl⟩
theorem eX12_lowest (d n : Nat) (I L : mm_I) (P : mm_P) (x0 : Int) (x1 : Int) : mm_rn (d + 1) 180 [.inl x0, .inl x1] n I L P = mm_E d 180 0 [.inl x0, .inl x1] [] [] n I L P := rfl

set_option maxRecDepth 20000 in
set_option maxHeartbeats 8000000 in
theorem kX12_highest (d n : Nat) (I L : mm_I) (P : mm_P) :
  (∀ (st : List mm_V) z (l1 : mm_V), mm_E d 181 0 [(.inl z), l1] [] st n I L P = mm_E d 181 1 [(.inl z), l1] [] ((.inl z) :: st) n I L P) ∧
  (∀ (lv : List mm_V) (st : List mm_V) a, mm_E d 181 1 lv [] (.inl a :: st) n I L P = if a = 112 then mm_E d 181 48 lv [] st n I L P else if a = 115 then mm_E d 181 28 lv [] st n I L P else mm_E d 181 60 lv [] st n I L P) ∧
  (∀ (st : List mm_V) z (l0 : mm_V), mm_E d 181 28 [l0, (.inl z)] [] st n I L P = mm_E d 181 29 [l0, (.inl z)] [] ((.inl z) :: st) n I L P) ∧
  (∀ (lv : List mm_V) (st : List mm_V) a, mm_E d 181 29 lv [] (.inl a :: st) n I L P = if a = 0 then mm_E d 181 32 lv [] st n I L P else mm_E d 181 36 lv [] st n I L P) ∧
  (∀ (lv : List mm_V) (st : List mm_V), mm_E d 181 32 lv [] st n I L P = mm_E d 181 33 lv [] (.inl 5 :: st) n I L P) ∧
  (∀ (lv : List mm_V) (st : List mm_V), mm_E d 181 33 lv [] st n I L P = mm_E d 181 47 lv [] st n I L P) ∧
  (∀ (st : List mm_V) z (l0 : mm_V), mm_E d 181 36 [l0, (.inl z)] [] st n I L P = mm_E d 181 37 [l0, (.inl z)] [] ((.inl z) :: st) n I L P) ∧
  (∀ (lv : List mm_V) (st : List mm_V), mm_E d 181 37 lv [] st n I L P = mm_E d 181 38 lv [] (.inl 1 :: st) n I L P) ∧
  (∀ (lv : List mm_V) (st : List mm_V) a b, mm_E d 181 38 lv [] (.inl b :: .inl a :: st) n I L P = if a = b then mm_E d 181 41 lv [] st n I L P else mm_E d 181 45 lv [] st n I L P) ∧
  (∀ (lv : List mm_V) (st : List mm_V), mm_E d 181 41 lv [] st n I L P = mm_E d 181 42 lv [] (.inl 4 :: st) n I L P) ∧
  (∀ (lv : List mm_V) (st : List mm_V), mm_E d 181 42 lv [] st n I L P = mm_E d 181 47 lv [] st n I L P) ∧
  (∀ (lv : List mm_V) (st : List mm_V), mm_E d 181 45 lv [] st n I L P = mm_E d 181 47 lv [] (.inl 99 :: st) n I L P) ∧
  (∀ (lv : List mm_V) z, mm_E d 181 47 lv [] [.inl z] n I L P = some (some (.inl z), n, I, L, P)) ∧
  (∀ (st : List mm_V) z (l0 : mm_V), mm_E d 181 48 [l0, (.inl z)] [] st n I L P = mm_E d 181 49 [l0, (.inl z)] [] ((.inl z) :: st) n I L P) ∧
  (∀ (lv : List mm_V) (st : List mm_V) a, mm_E d 181 49 lv [] (.inl a :: st) n I L P = if a = 0 then mm_E d 181 52 lv [] st n I L P else mm_E d 181 57 lv [] st n I L P) ∧
  (∀ (lv : List mm_V) (st : List mm_V), mm_E d 181 52 lv [] st n I L P = mm_E d 181 54 lv [] (.inl 99 :: st) n I L P) ∧
  (∀ (lv : List mm_V) (st : List mm_V), mm_E d 181 54 lv [] st n I L P = mm_E d 181 59 lv [] st n I L P) ∧
  (∀ (lv : List mm_V) (st : List mm_V), mm_E d 181 57 lv [] st n I L P = mm_E d 181 59 lv [] (.inl 9 :: st) n I L P) ∧
  (∀ (lv : List mm_V) z, mm_E d 181 59 lv [] [.inl z] n I L P = some (some (.inl z), n, I, L, P)) ∧
  (∀ (lv : List mm_V) (st : List mm_V), mm_E d 181 60 lv [] st n I L P = mm_E d 181 62 lv [] (.inl 7 :: st) n I L P) ∧
  (∀ (lv : List mm_V) z, mm_E d 181 62 lv [] [.inl z] n I L P = some (some (.inl z), n, I, L, P)) :=
  ⟨fun _ _ _ => mq_il (i := 0) rfl rfl,
   fun _ _ _ => mq_sw (l := [(112, 48), (115, 28)]) (df := 60) rfl,
   fun _ _ _ => mq_il (i := 1) rfl rfl,
   fun _ _ _ => mq_if_ne rfl,
   fun _ _ => mq_push rfl,
   fun _ _ => mq_go rfl,
   fun _ _ _ => mq_il (i := 1) rfl rfl,
   fun _ _ => mq_push rfl,
   fun _ _ _ _ => mq_ic_ne rfl,
   fun _ _ => mq_push rfl,
   fun _ _ => mq_go rfl,
   fun _ _ => mq_push rfl,
   fun _ _ => mq_ri rfl,
   fun _ _ _ => mq_il (i := 1) rfl rfl,
   fun _ _ _ => mq_if_ne rfl,
   fun _ _ => mq_push rfl,
   fun _ _ => mq_go rfl,
   fun _ _ => mq_push rfl,
   fun _ _ => mq_ri rfl,
   fun _ _ => mq_push rfl,
   fun _ _ => mq_ri rfl⟩
theorem eX12_highest (d n : Nat) (I L : mm_I) (P : mm_P) (x0 : Int) (x1 : Int) : mm_rn (d + 1) 181 [.inl x0, .inl x1] n I L P = mm_E d 181 0 [.inl x0, .inl x1] [] [] n I L P := rfl

set_option maxRecDepth 20000 in
set_option maxHeartbeats 8000000 in
theorem kX12_usual (d n : Nat) (I L : mm_I) (P : mm_P) :
  (∀ (st : List mm_V) z (l1 : mm_V), mm_E d 182 0 [(.inl z), l1] [] st n I L P = mm_E d 182 1 [(.inl z), l1] [] ((.inl z) :: st) n I L P) ∧
  (∀ (lv : List mm_V) (st : List mm_V) a, mm_E d 182 1 lv [] (.inl a :: st) n I L P = if a = 112 then mm_E d 182 48 lv [] st n I L P else if a = 115 then mm_E d 182 28 lv [] st n I L P else mm_E d 182 59 lv [] st n I L P) ∧
  (∀ (st : List mm_V) z (l0 : mm_V), mm_E d 182 28 [l0, (.inl z)] [] st n I L P = mm_E d 182 29 [l0, (.inl z)] [] ((.inl z) :: st) n I L P) ∧
  (∀ (lv : List mm_V) (st : List mm_V) a, mm_E d 182 29 lv [] (.inl a :: st) n I L P = if a = 0 then mm_E d 182 32 lv [] st n I L P else mm_E d 182 36 lv [] st n I L P) ∧
  (∀ (lv : List mm_V) (st : List mm_V), mm_E d 182 32 lv [] st n I L P = mm_E d 182 33 lv [] (.inl 2 :: st) n I L P) ∧
  (∀ (lv : List mm_V) (st : List mm_V), mm_E d 182 33 lv [] st n I L P = mm_E d 182 47 lv [] st n I L P) ∧
  (∀ (st : List mm_V) z (l0 : mm_V), mm_E d 182 36 [l0, (.inl z)] [] st n I L P = mm_E d 182 37 [l0, (.inl z)] [] ((.inl z) :: st) n I L P) ∧
  (∀ (lv : List mm_V) (st : List mm_V), mm_E d 182 37 lv [] st n I L P = mm_E d 182 38 lv [] (.inl 1 :: st) n I L P) ∧
  (∀ (lv : List mm_V) (st : List mm_V) a b, mm_E d 182 38 lv [] (.inl b :: .inl a :: st) n I L P = if a = b then mm_E d 182 41 lv [] st n I L P else mm_E d 182 45 lv [] st n I L P) ∧
  (∀ (lv : List mm_V) (st : List mm_V), mm_E d 182 41 lv [] st n I L P = mm_E d 182 42 lv [] (.inl 1 :: st) n I L P) ∧
  (∀ (lv : List mm_V) (st : List mm_V), mm_E d 182 42 lv [] st n I L P = mm_E d 182 47 lv [] st n I L P) ∧
  (∀ (lv : List mm_V) (st : List mm_V), mm_E d 182 45 lv [] st n I L P = mm_E d 182 47 lv [] (.inl 20 :: st) n I L P) ∧
  (∀ (lv : List mm_V) z, mm_E d 182 47 lv [] [.inl z] n I L P = some (some (.inl z), n, I, L, P)) ∧
  (∀ (st : List mm_V) z (l0 : mm_V), mm_E d 182 48 [l0, (.inl z)] [] st n I L P = mm_E d 182 49 [l0, (.inl z)] [] ((.inl z) :: st) n I L P) ∧
  (∀ (lv : List mm_V) (st : List mm_V) a, mm_E d 182 49 lv [] (.inl a :: st) n I L P = if a = 0 then mm_E d 182 52 lv [] st n I L P else mm_E d 182 57 lv [] st n I L P) ∧
  (∀ (lv : List mm_V) (st : List mm_V), mm_E d 182 52 lv [] st n I L P = mm_E d 182 54 lv [] (.inl 20 :: st) n I L P) ∧
  (∀ (lv : List mm_V) (st : List mm_V), mm_E d 182 54 lv [] st n I L P = mm_E d 182 58 lv [] st n I L P) ∧
  (∀ (lv : List mm_V) (st : List mm_V), mm_E d 182 57 lv [] st n I L P = mm_E d 182 58 lv [] (.inl 1 :: st) n I L P) ∧
  (∀ (lv : List mm_V) z, mm_E d 182 58 lv [] [.inl z] n I L P = some (some (.inl z), n, I, L, P)) ∧
  (∀ (st : List mm_V) z (l0 : mm_V), mm_E d 182 59 [l0, (.inl z)] [] st n I L P = mm_E d 182 60 [l0, (.inl z)] [] ((.inl z) :: st) n I L P) ∧
  (∀ (lv : List mm_V) z, mm_E d 182 60 lv [] [.inl z] n I L P = some (some (.inl z), n, I, L, P)) :=
  ⟨fun _ _ _ => mq_il (i := 0) rfl rfl,
   fun _ _ _ => mq_sw (l := [(112, 48), (115, 28)]) (df := 59) rfl,
   fun _ _ _ => mq_il (i := 1) rfl rfl,
   fun _ _ _ => mq_if_ne rfl,
   fun _ _ => mq_push rfl,
   fun _ _ => mq_go rfl,
   fun _ _ _ => mq_il (i := 1) rfl rfl,
   fun _ _ => mq_push rfl,
   fun _ _ _ _ => mq_ic_ne rfl,
   fun _ _ => mq_push rfl,
   fun _ _ => mq_go rfl,
   fun _ _ => mq_push rfl,
   fun _ _ => mq_ri rfl,
   fun _ _ _ => mq_il (i := 1) rfl rfl,
   fun _ _ _ => mq_if_ne rfl,
   fun _ _ => mq_push rfl,
   fun _ _ => mq_go rfl,
   fun _ _ => mq_push rfl,
   fun _ _ => mq_ri rfl,
   fun _ _ _ => mq_il (i := 1) rfl rfl,
   fun _ _ => mq_ri rfl⟩
theorem eX12_usual (d n : Nat) (I L : mm_I) (P : mm_P) (x0 : Int) (x1 : Int) : mm_rn (d + 1) 182 [.inl x0, .inl x1] n I L P = mm_E d 182 0 [.inl x0, .inl x1] [] [] n I L P := rfl

set_option maxRecDepth 20000 in
set_option maxHeartbeats 8000000 in
theorem kX12_items (d n : Nat) (I L : mm_I) (P : mm_P) :
  (∀ (lv : List mm_V) (st : List mm_V), mm_E d 183 0 lv [] st n I L P = mm_E d 183 1 lv [] (.inl 0 :: st) n I L P) ∧
  (∀ (st : List mm_V) z (l0 : mm_V) (l1 : mm_V) (l2 : mm_V) (l3 : mm_V) (l4 : mm_V) (l5 : mm_V) (l6 : mm_V), mm_E d 183 1 [l0, l1, l2, l3, l4, l5, l6] [] ((.inl z) :: st) n I L P = mm_E d 183 3 [l0, l1, l2, l3, l4, (.inl z), l6] [] st n I L P) ∧
  (∀ (st : List mm_V) z (l0 : mm_V) (l1 : mm_V) (l2 : mm_V) (l3 : mm_V) (l5 : mm_V) (l6 : mm_V), mm_E d 183 5 [l0, l1, l2, l3, (.inl z), l5, l6] [] st n I L P = mm_E d 183 7 [l0, l1, l2, l3, (.inl z), l5, l6] [] ((.inl z) :: st) n I L P) ∧
  (∀ (lv : List mm_V) (st : List mm_V) a b, mm_E d 183 7 lv [] (.inl b :: .inl a :: st) n I L P = if b ≤ a then mm_E d 183 28 lv [] st n I L P else mm_E d 183 10 lv [] st n I L P) ∧
  (∀ (st : List mm_V) z (l0 : mm_V) (l1 : mm_V) (l3 : mm_V) (l4 : mm_V) (l5 : mm_V) (l6 : mm_V), mm_E d 183 10 [l0, l1, (.inr (.inr z)), l3, l4, l5, l6] [] st n I L P = mm_E d 183 11 [l0, l1, (.inr (.inr z)), l3, l4, l5, l6] [] ((.inr (.inr z)) :: st) n I L P) ∧
  (∀ (st : List mm_V) z (l0 : mm_V) (l1 : mm_V) (l2 : mm_V) (l4 : mm_V) (l5 : mm_V) (l6 : mm_V), mm_E d 183 11 [l0, l1, l2, (.inl z), l4, l5, l6] [] st n I L P = mm_E d 183 12 [l0, l1, l2, (.inl z), l4, l5, l6] [] ((.inl z) :: st) n I L P) ∧
  (∀ (st : List mm_V) z (l0 : mm_V) (l1 : mm_V) (l2 : mm_V) (l3 : mm_V) (l4 : mm_V) (l6 : mm_V), mm_E d 183 12 [l0, l1, l2, l3, l4, (.inl z), l6] [] st n I L P = mm_E d 183 14 [l0, l1, l2, l3, l4, (.inl z), l6] [] ((.inl z) :: st) n I L P) ∧
  (∀ (lv : List mm_V) (st : List mm_V) a b, mm_E d 183 14 lv [] (.inl b :: .inl a :: st) n I L P = mm_E d 183 15 lv [] (.inl (mm_add a b) :: st) n I L P) ∧
  (∀ (st : List mm_V) z (l0 : mm_V) (l2 : mm_V) (l3 : mm_V) (l4 : mm_V) (l5 : mm_V) (l6 : mm_V), mm_E d 183 15 [l0, (.inl z), l2, l3, l4, l5, l6] [] st n I L P = mm_E d 183 16 [l0, (.inl z), l2, l3, l4, l5, l6] [] ((.inl z) :: st) n I L P) ∧
  (∀ (st : List mm_V) z (l0 : mm_V) (l1 : mm_V) (l2 : mm_V) (l3 : mm_V) (l4 : mm_V) (l6 : mm_V), mm_E d 183 16 [l0, l1, l2, l3, l4, (.inl z), l6] [] st n I L P = mm_E d 183 18 [l0, l1, l2, l3, l4, (.inl z), l6] [] ((.inl z) :: st) n I L P) ∧
  (∀ (lv : List mm_V) x0 x1 w0 w1, mm_E d 183 18 lv [] (.inl x1 :: .inl x0 :: [.inl w0, .inr (.inr w1)]) n I L P = mm_kr d 183 21 lv [] [.inl w0, .inr (.inr w1)] n (mm_rn d 182 [.inl x0, .inl x1] n I L P)) ∧
  (∀ (lv : List mm_V) (st : List mm_V) a i z, (mm_ix n a 20 i) → mm_E d 183 21 lv [] (.inl z :: .inl i :: .inr (.inr (some a)) :: st) n I L P = mm_E d 183 22 lv [] st n (mm_ui I a i.toNat z) L P) ∧
  (∀ (st : List mm_V) z (l0 : mm_V) (l1 : mm_V) (l2 : mm_V) (l3 : mm_V) (l4 : mm_V) (l6 : mm_V), mm_E d 183 22 [l0, l1, l2, l3, l4, (.inl z), l6] [] st n I L P = mm_E d 183 25 [l0, l1, l2, l3, l4, (.inl (mm_add z 1)), l6] [] st n I L P) ∧
  (∀ (lv : List mm_V) (st : List mm_V), mm_E d 183 25 lv [] st n I L P = mm_E d 183 3 lv [] st n I L P) ∧
  (∀ (lv : List mm_V) (st : List mm_V), mm_E d 183 28 lv [] st n I L P = mm_E d 183 29 lv [] (.inl 0 :: st) n I L P) ∧
  (∀ (st : List mm_V) z (l0 : mm_V) (l1 : mm_V) (l2 : mm_V) (l3 : mm_V) (l4 : mm_V) (l5 : mm_V) (l6 : mm_V), mm_E d 183 29 [l0, l1, l2, l3, l4, l5, l6] [] ((.inl z) :: st) n I L P = mm_E d 183 31 [l0, l1, l2, l3, l4, (.inl z), l6] [] st n I L P) ∧
  (∀ (st : List mm_V) z (l0 : mm_V) (l2 : mm_V) (l3 : mm_V) (l4 : mm_V) (l5 : mm_V) (l6 : mm_V), mm_E d 183 31 [l0, (.inl z), l2, l3, l4, l5, l6] [] st n I L P = mm_E d 183 32 [l0, (.inl z), l2, l3, l4, l5, l6] [] ((.inl z) :: st) n I L P) ∧
  (∀ (st : List mm_V) z (l1 : mm_V) (l2 : mm_V) (l3 : mm_V) (l4 : mm_V) (l5 : mm_V) (l6 : mm_V), mm_E d 183 32 [(.inr (.inr z)), l1, l2, l3, l4, l5, l6] [] st n I L P = mm_E d 183 33 [(.inr (.inr z)), l1, l2, l3, l4, l5, l6] [] ((.inr (.inr z)) :: st) n I L P) ∧
  (∀ (lv : List mm_V) a w0, (mm_ok n a 12) → mm_E d 183 33 lv [] (.inr (.inr (some a)) :: [.inl w0]) n I L P = mm_kr d 183 36 lv [] [.inl w0] n (mm_rn d 153 [.inr (.inr (some a))] n I L P)) ∧
  (∀ (lv : List mm_V) x0 x1, mm_E d 183 36 lv [] (.inl x1 :: .inl x0 :: []) n I L P = mm_kr d 183 39 lv [] [] n (mm_rn d 179 [.inl x0, .inl x1] n I L P)) ∧
  (∀ (st : List mm_V) z (l0 : mm_V) (l1 : mm_V) (l2 : mm_V) (l3 : mm_V) (l4 : mm_V) (l5 : mm_V) (l6 : mm_V), mm_E d 183 39 [l0, l1, l2, l3, l4, l5, l6] [] ((.inl z) :: st) n I L P = mm_E d 183 41 [l0, l1, l2, l3, l4, l5, (.inl z)] [] st n I L P) ∧
  (∀ (lv : List mm_V) (st : List mm_V) a, (mm_ok n a 12) → mm_E d 183 42 lv [] (.inr (.inr (some a)) :: st) n I L P = mm_E d 183 45 lv [] (.inl (I a 4) :: st) n I L P) ∧
  (∀ (lv : List mm_V) (st : List mm_V), mm_E d 183 45 lv [] st n I L P = mm_E d 183 46 lv [] (.inl (-1) :: st) n I L P) ∧
  (∀ (lv : List mm_V) (st : List mm_V) a b, mm_E d 183 46 lv [] (.inl b :: .inl a :: st) n I L P = if a = b then mm_E d 183 49 lv [] st n I L P else mm_E d 183 131 lv [] st n I L P) ∧
  (∀ (st : List mm_V) z (l0 : mm_V) (l1 : mm_V) (l2 : mm_V) (l3 : mm_V) (l4 : mm_V) (l5 : mm_V), mm_E d 183 49 [l0, l1, l2, l3, l4, l5, (.inl z)] [] st n I L P = mm_E d 183 51 [l0, l1, l2, l3, l4, l5, (.inl z)] [] ((.inl z) :: st) n I L P) ∧
  (∀ (lv : List mm_V) (st : List mm_V), mm_E d 183 51 lv [] st n I L P = mm_E d 183 52 lv [] (.inl (-1) :: st) n I L P) ∧
  (∀ (lv : List mm_V) (st : List mm_V) a b, mm_E d 183 52 lv [] (.inl b :: .inl a :: st) n I L P = if a = b then mm_E d 183 131 lv [] st n I L P else mm_E d 183 55 lv [] st n I L P) ∧
  (∀ (st : List mm_V) z (l0 : mm_V) (l1 : mm_V) (l2 : mm_V) (l3 : mm_V) (l4 : mm_V) (l6 : mm_V), mm_E d 183 55 [l0, l1, l2, l3, l4, (.inl z), l6] [] st n I L P = mm_E d 183 57 [l0, l1, l2, l3, l4, (.inl z), l6] [] ((.inl z) :: st) n I L P) ∧
  (∀ (st : List mm_V) z (l0 : mm_V) (l1 : mm_V) (l2 : mm_V) (l3 : mm_V) (l4 : mm_V) (l5 : mm_V), mm_E d 183 57 [l0, l1, l2, l3, l4, l5, (.inl z)] [] st n I L P = mm_E d 183 59 [l0, l1, l2, l3, l4, l5, (.inl z)] [] ((.inl z) :: st) n I L P) ∧
  (∀ (lv : List mm_V) x0 x1, mm_E d 183 59 lv [] (.inl x1 :: .inl x0 :: []) n I L P = mm_kr d 183 62 lv [] [] n (mm_rn d 146 [.inl x0, .inl x1] n I L P)) ∧
  (∀ (lv : List mm_V) (st : List mm_V) a, mm_E d 183 62 lv [] (.inl a :: st) n I L P = if a = 0 then mm_E d 183 65 lv [] st n I L P else mm_E d 183 131 lv [] st n I L P) ∧
  (∀ (st : List mm_V) z (l0 : mm_V) (l1 : mm_V) (l2 : mm_V) (l3 : mm_V) (l4 : mm_V) (l6 : mm_V), mm_E d 183 65 [l0, l1, l2, l3, l4, (.inl z), l6] [] st n I L P = mm_E d 183 67 [l0, l1, l2, l3, l4, (.inl z), l6] [] ((.inl z) :: st) n I L P) ∧
  (∀ (lv : List mm_V) (st : List mm_V), mm_E d 183 67 lv [] st n I L P = mm_E d 183 68 lv [] (.inl 1 :: st) n I L P) ∧
  (∀ (st : List mm_V) z (l0 : mm_V) (l1 : mm_V) (l2 : mm_V) (l3 : mm_V) (l4 : mm_V) (l5 : mm_V), mm_E d 183 68 [l0, l1, l2, l3, l4, l5, (.inl z)] [] st n I L P = mm_E d 183 70 [l0, l1, l2, l3, l4, l5, (.inl z)] [] ((.inl z) :: st) n I L P) ∧
  (∀ (lv : List mm_V) (st : List mm_V) a b, mm_E d 183 70 lv [] (.inl b :: .inl a :: st) n I L P = mm_E d 183 71 lv [] (.inl (mm_shl a b) :: st) n I L P) ∧
  (∀ (lv : List mm_V) (st : List mm_V) a b, mm_E d 183 71 lv [] (.inl b :: .inl a :: st) n I L P = mm_E d 183 72 lv [] (.inl (mm_or a b) :: st) n I L P) ∧
  (∀ (st : List mm_V) z (l0 : mm_V) (l1 : mm_V) (l2 : mm_V) (l3 : mm_V) (l4 : mm_V) (l5 : mm_V) (l6 : mm_V), mm_E d 183 72 [l0, l1, l2, l3, l4, l5, l6] [] ((.inl z) :: st) n I L P = mm_E d 183 74 [l0, l1, l2, l3, l4, (.inl z), l6] [] st n I L P) ∧
  (∀ (st : List mm_V) z (l1 : mm_V) (l2 : mm_V) (l3 : mm_V) (l4 : mm_V) (l5 : mm_V) (l6 : mm_V), mm_E d 183 74 [(.inr (.inr z)), l1, l2, l3, l4, l5, l6] [] st n I L P = mm_E d 183 75 [(.inr (.inr z)), l1, l2, l3, l4, l5, l6] [] ((.inr (.inr z)) :: st) n I L P) ∧
  (∀ (lv : List mm_V) (st : List mm_V) a, mm_E d 183 75 lv [] ((.inr (.inr a)) :: st) n I L P = mm_E d 183 76 lv [] ((.inr (.inr a)) :: (.inr (.inr a)) :: st) n I L P) ∧
  (∀ (lv : List mm_V) (st : List mm_V) a, (mm_ok n a 12) → mm_E d 183 76 lv [] (.inr (.inr (some a)) :: st) n I L P = mm_E d 183 79 lv [] (.inl (I a 3) :: st) n I L P) ∧
  (∀ (lv : List mm_V) (st : List mm_V), mm_E d 183 79 lv [] st n I L P = mm_E d 183 80 lv [] (.inl 1 :: st) n I L P) ∧
  (∀ (lv : List mm_V) (st : List mm_V) a b, mm_E d 183 80 lv [] (.inl b :: .inl a :: st) n I L P = mm_E d 183 81 lv [] (.inl (mm_add a b) :: st) n I L P) ∧
  (∀ (lv : List mm_V) (st : List mm_V) a z, (mm_ok n a 12) → mm_E d 183 81 lv [] (.inl z :: .inr (.inr (some a)) :: st) n I L P = mm_E d 183 84 lv [] st n (mm_ui I a 3 z) L P) ∧
  (∀ (st : List mm_V) z (l0 : mm_V) (l1 : mm_V) (l3 : mm_V) (l4 : mm_V) (l5 : mm_V) (l6 : mm_V), mm_E d 183 84 [l0, l1, (.inr (.inr z)), l3, l4, l5, l6] [] st n I L P = mm_E d 183 85 [l0, l1, (.inr (.inr z)), l3, l4, l5, l6] [] ((.inr (.inr z)) :: st) n I L P) ∧
  (∀ (st : List mm_V) z (l0 : mm_V) (l1 : mm_V) (l2 : mm_V) (l4 : mm_V) (l5 : mm_V) (l6 : mm_V), mm_E d 183 85 [l0, l1, l2, (.inl z), l4, l5, l6] [] st n I L P = mm_E d 183 86 [l0, l1, l2, (.inl z), l4, l5, l6] [] ((.inl z) :: st) n I L P) ∧
  (∀ (st : List mm_V) z (l0 : mm_V) (l1 : mm_V) (l2 : mm_V) (l3 : mm_V) (l4 : mm_V) (l5 : mm_V), mm_E d 183 86 [l0, l1, l2, l3, l4, l5, (.inl z)] [] st n I L P = mm_E d 183 88 [l0, l1, l2, l3, l4, l5, (.inl z)] [] ((.inl z) :: st) n I L P) ∧
  (∀ (lv : List mm_V) (st : List mm_V) a b, mm_E d 183 88 lv [] (.inl b :: .inl a :: st) n I L P = mm_E d 183 89 lv [] (.inl (mm_add a b) :: st) n I L P) ∧
  (∀ (st : List mm_V) z (l1 : mm_V) (l2 : mm_V) (l3 : mm_V) (l4 : mm_V) (l5 : mm_V) (l6 : mm_V), mm_E d 183 89 [(.inr (.inr z)), l1, l2, l3, l4, l5, l6] [] st n I L P = mm_E d 183 90 [(.inr (.inr z)), l1, l2, l3, l4, l5, l6] [] ((.inr (.inr z)) :: st) n I L P) ∧
  (∀ (st : List mm_V) z (l0 : mm_V) (l2 : mm_V) (l3 : mm_V) (l4 : mm_V) (l5 : mm_V) (l6 : mm_V), mm_E d 183 90 [l0, (.inl z), l2, l3, l4, l5, l6] [] st n I L P = mm_E d 183 91 [l0, (.inl z), l2, l3, l4, l5, l6] [] ((.inl z) :: st) n I L P) ∧
  (∀ (st : List mm_V) z (l0 : mm_V) (l1 : mm_V) (l2 : mm_V) (l3 : mm_V) (l4 : mm_V) (l5 : mm_V), mm_E d 183 91 [l0, l1, l2, l3, l4, l5, (.inl z)] [] st n I L P = mm_E d 183 93 [l0, l1, l2, l3, l4, l5, (.inl z)] [] ((.inl z) :: st) n I L P) ∧
  (∀ (lv : List mm_V) x0 x1 w0 w1 w2, mm_E d 183 93 lv [] (.inl x1 :: .inl x0 :: [.inr (.inr w0), .inl w1, .inr (.inr w2)]) n I L P = mm_kr d 183 96 lv [] [.inr (.inr w0), .inl w1, .inr (.inr w2)] n (mm_rn d 180 [.inl x0, .inl x1] n I L P)) ∧
  (∀ (st : List mm_V) z (l0 : mm_V) (l2 : mm_V) (l3 : mm_V) (l4 : mm_V) (l5 : mm_V) (l6 : mm_V), mm_E d 183 96 [l0, (.inl z), l2, l3, l4, l5, l6] [] st n I L P = mm_E d 183 97 [l0, (.inl z), l2, l3, l4, l5, l6] [] ((.inl z) :: st) n I L P) ∧
  (∀ (st : List mm_V) z (l0 : mm_V) (l1 : mm_V) (l2 : mm_V) (l3 : mm_V) (l4 : mm_V) (l5 : mm_V), mm_E d 183 97 [l0, l1, l2, l3, l4, l5, (.inl z)] [] st n I L P = mm_E d 183 99 [l0, l1, l2, l3, l4, l5, (.inl z)] [] ((.inl z) :: st) n I L P) ∧
  (∀ (lv : List mm_V) x0 x1 w0 w1 w2 w3, mm_E d 183 99 lv [] (.inl x1 :: .inl x0 :: [.inl w0, .inr (.inr w1), .inl w2, .inr (.inr w3)]) n I L P = mm_kr d 183 102 lv [] [.inl w0, .inr (.inr w1), .inl w2, .inr (.inr w3)] n (mm_rn d 181 [.inl x0, .inl x1] n I L P)) ∧
  (∀ (lv : List mm_V) a x0 x1 w0 w1, (mm_ok n a 12) → mm_E d 183 102 lv [] (.inl x1 :: .inl x0 :: .inr (.inr (some a)) :: [.inl w0, .inr (.inr w1)]) n I L P = mm_kr d 183 105 lv [] [.inl w0, .inr (.inr w1)] n (mm_rn d 178 [.inr (.inr (some a)), .inl x0, .inl x1] n I L P)) ∧
  (∀ (lv : List mm_V) (st : List mm_V) a i z, (mm_ix n a 20 i) → mm_E d 183 105 lv [] (.inl z :: .inl i :: .inr (.inr (some a)) :: st) n I L P = mm_E d 183 106 lv [] st n (mm_ui I a i.toNat z) L P) ∧
  (∀ (st : List mm_V) z (l1 : mm_V) (l2 : mm_V) (l3 : mm_V) (l4 : mm_V) (l5 : mm_V) (l6 : mm_V), mm_E d 183 106 [(.inr (.inr z)), l1, l2, l3, l4, l5, l6] [] st n I L P = mm_E d 183 107 [(.inr (.inr z)), l1, l2, l3, l4, l5, l6] [] ((.inr (.inr z)) :: st) n I L P) ∧
  (∀ (lv : List mm_V) (st : List mm_V) a, (mm_ok n a 12) → mm_E d 183 107 lv [] (.inr (.inr (some a)) :: st) n I L P = mm_E d 183 110 lv [] (.inl (I a 4) :: st) n I L P) ∧
  (∀ (lv : List mm_V) (st : List mm_V), mm_E d 183 110 lv [] st n I L P = mm_E d 183 111 lv [] (.inl (-1) :: st) n I L P) ∧
  (∀ (lv : List mm_V) (st : List mm_V) a b, mm_E d 183 111 lv [] (.inl b :: .inl a :: st) n I L P = if a = b then mm_E d 183 114 lv [] st n I L P else mm_E d 183 125 lv [] st n I L P) ∧
  (∀ (st : List mm_V) z (l0 : mm_V) (l2 : mm_V) (l3 : mm_V) (l4 : mm_V) (l5 : mm_V) (l6 : mm_V), mm_E d 183 114 [l0, (.inl z), l2, l3, l4, l5, l6] [] st n I L P = mm_E d 183 115 [l0, (.inl z), l2, l3, l4, l5, l6] [] ((.inl z) :: st) n I L P) ∧
  (∀ (st : List mm_V) z (l1 : mm_V) (l2 : mm_V) (l3 : mm_V) (l4 : mm_V) (l5 : mm_V) (l6 : mm_V), mm_E d 183 115 [(.inr (.inr z)), l1, l2, l3, l4, l5, l6] [] st n I L P = mm_E d 183 116 [(.inr (.inr z)), l1, l2, l3, l4, l5, l6] [] ((.inr (.inr z)) :: st) n I L P) ∧
  (∀ (lv : List mm_V) a w0, (mm_ok n a 12) → mm_E d 183 116 lv [] (.inr (.inr (some a)) :: [.inl w0]) n I L P = mm_kr d 183 119 lv [] [.inl w0] n (mm_rn d 153 [.inr (.inr (some a))] n I L P)) ∧
  (∀ (lv : List mm_V) x0 x1, mm_E d 183 119 lv [] (.inl x1 :: .inl x0 :: []) n I L P = mm_kr d 183 122 lv [] [] n (mm_rn d 179 [.inl x0, .inl x1] n I L P)) ∧
  (∀ (lv : List mm_V) (st : List mm_V), mm_E d 183 122 lv [] st n I L P = mm_E d 183 126 lv [] st n I L P) ∧
  (∀ (lv : List mm_V) (st : List mm_V), mm_E d 183 125 lv [] st n I L P = mm_E d 183 126 lv [] (.inl (-1) :: st) n I L P) ∧
  (∀ (st : List mm_V) z (l0 : mm_V) (l1 : mm_V) (l2 : mm_V) (l3 : mm_V) (l4 : mm_V) (l5 : mm_V) (l6 : mm_V), mm_E d 183 126 [l0, l1, l2, l3, l4, l5, l6] [] ((.inl z) :: st) n I L P = mm_E d 183 128 [l0, l1, l2, l3, l4, l5, (.inl z)] [] st n I L P) ∧
  (∀ (lv : List mm_V) (st : List mm_V), mm_E d 183 128 lv [] st n I L P = mm_E d 183 41 lv [] st n I L P) ∧
  (∀ (lv : List mm_V), mm_E d 183 131 lv [] [] n I L P = some (none, n, I, L, P)) :=
  ⟨fun _ _ => mq_push rfl,
   fun _ _ _ _ _ _ _ _ _ => mq_is (i := 5) rfl rfl rfl,
   fun _ _ _ _ _ _ _ _ => mq_il (i := 4) rfl rfl,
   fun _ _ _ _ => mq_ic_ge rfl,
   fun _ _ _ _ _ _ _ _ => mq_al (i := 2) rfl rfl,
   fun _ _ _ _ _ _ _ _ => mq_il (i := 3) rfl rfl,
   fun _ _ _ _ _ _ _ _ => mq_il (i := 5) rfl rfl,
   fun _ _ _ _ => mq_bi rfl,
   fun _ _ _ _ _ _ _ _ => mq_il (i := 1) rfl rfl,
   fun _ _ _ _ _ _ _ _ => mq_il (i := 5) rfl rfl,
   fun _ _ _ _ _ => mq_cSr (na := 2) rfl (Nat.le_of_ble_eq_true rfl) (Nat.le_of_ble_eq_true rfl),
   fun _ _ _ _ _ h0 => mq_iast rfl h0,
   fun _ _ _ _ _ _ _ _ => mq_iinc (i := 5) rfl rfl rfl rfl,
   fun _ _ => mq_go rfl,
   fun _ _ => mq_push rfl,
   fun _ _ _ _ _ _ _ _ _ => mq_is (i := 5) rfl rfl rfl,
   fun _ _ _ _ _ _ _ _ => mq_il (i := 1) rfl rfl,
   fun _ _ _ _ _ _ _ _ => mq_al (i := 0) rfl rfl,
   fun _ _ _ h0 => mq_cVr (na := 0) rfl rfl (Nat.le_of_ble_eq_true rfl) (Nat.le_of_ble_eq_true rfl) h0,
   fun _ _ _ => mq_cSr (na := 2) rfl (Nat.le_of_ble_eq_true rfl) (Nat.le_of_ble_eq_true rfl),
   fun _ _ _ _ _ _ _ _ _ => mq_is (i := 6) rfl rfl rfl,
   fun _ _ _ h0 => mq_getI rfl h0,
   fun _ _ => mq_push rfl,
   fun _ _ _ _ => mq_ic_ne rfl,
   fun _ _ _ _ _ _ _ _ => mq_il (i := 6) rfl rfl,
   fun _ _ => mq_push rfl,
   fun _ _ _ _ => mq_ic_eq rfl,
   fun _ _ _ _ _ _ _ _ => mq_il (i := 5) rfl rfl,
   fun _ _ _ _ _ _ _ _ => mq_il (i := 6) rfl rfl,
   fun _ _ _ => mq_cSr (na := 2) rfl (Nat.le_of_ble_eq_true rfl) (Nat.le_of_ble_eq_true rfl),
   fun _ _ _ => mq_if_ne rfl,
   fun _ _ _ _ _ _ _ _ => mq_il (i := 5) rfl rfl,
   fun _ _ => mq_push rfl,
   fun _ _ _ _ _ _ _ _ => mq_il (i := 6) rfl rfl,
   fun _ _ _ _ => mq_bi rfl,
   fun _ _ _ _ => mq_bi rfl,
   fun _ _ _ _ _ _ _ _ _ => mq_is (i := 5) rfl rfl rfl,
   fun _ _ _ _ _ _ _ _ => mq_al (i := 0) rfl rfl,
   fun _ _ _ => mq_dup rfl rfl,
   fun _ _ _ h0 => mq_getI rfl h0,
   fun _ _ => mq_push rfl,
   fun _ _ _ _ => mq_bi rfl,
   fun _ _ _ _ h0 => mq_putI rfl h0,
   fun _ _ _ _ _ _ _ _ => mq_al (i := 2) rfl rfl,
   fun _ _ _ _ _ _ _ _ => mq_il (i := 3) rfl rfl,
   fun _ _ _ _ _ _ _ _ => mq_il (i := 6) rfl rfl,
   fun _ _ _ _ => mq_bi rfl,
   fun _ _ _ _ _ _ _ _ => mq_al (i := 0) rfl rfl,
   fun _ _ _ _ _ _ _ _ => mq_il (i := 1) rfl rfl,
   fun _ _ _ _ _ _ _ _ => mq_il (i := 6) rfl rfl,
   fun _ _ _ _ _ _ => mq_cSr (na := 2) rfl (Nat.le_of_ble_eq_true rfl) (Nat.le_of_ble_eq_true rfl),
   fun _ _ _ _ _ _ _ _ => mq_il (i := 1) rfl rfl,
   fun _ _ _ _ _ _ _ _ => mq_il (i := 6) rfl rfl,
   fun _ _ _ _ _ _ _ => mq_cSr (na := 2) rfl (Nat.le_of_ble_eq_true rfl) (Nat.le_of_ble_eq_true rfl),
   fun _ _ _ _ _ _ h0 => mq_cVr (na := 2) rfl rfl (Nat.le_of_ble_eq_true rfl) (Nat.le_of_ble_eq_true rfl) h0,
   fun _ _ _ _ _ h0 => mq_iast rfl h0,
   fun _ _ _ _ _ _ _ _ => mq_al (i := 0) rfl rfl,
   fun _ _ _ h0 => mq_getI rfl h0,
   fun _ _ => mq_push rfl,
   fun _ _ _ _ => mq_ic_ne rfl,
   fun _ _ _ _ _ _ _ _ => mq_il (i := 1) rfl rfl,
   fun _ _ _ _ _ _ _ _ => mq_al (i := 0) rfl rfl,
   fun _ _ _ h0 => mq_cVr (na := 0) rfl rfl (Nat.le_of_ble_eq_true rfl) (Nat.le_of_ble_eq_true rfl) h0,
   fun _ _ _ => mq_cSr (na := 2) rfl (Nat.le_of_ble_eq_true rfl) (Nat.le_of_ble_eq_true rfl),
   fun _ _ => mq_go rfl,
   fun _ _ => mq_push rfl,
   fun _ _ _ _ _ _ _ _ _ => mq_is (i := 6) rfl rfl rfl,
   fun _ _ => mq_go rfl,
   fun _ => mq_rv rfl⟩
theorem hX12_items_3 (d n : Nat) (I L : mm_I) (P : mm_P) : ∀ (st : List mm_V) z (l0 : mm_V) (l1 : mm_V) (l2 : mm_V) (l3 : mm_V) (l4 : mm_V) (l6 : mm_V), mm_E d 183 3 [l0, l1, l2, l3, l4, (.inl z), l6] [] st n I L P = mm_E d 183 5 [l0, l1, l2, l3, l4, (.inl z), l6] [] ((.inl z) :: st) n I L P := fun _ _ _ _ _ _ _ _ => mq_il (i := 5) rfl rfl
theorem hX12_items_41 (d n : Nat) (I L : mm_I) (P : mm_P) : ∀ (st : List mm_V) z (l1 : mm_V) (l2 : mm_V) (l3 : mm_V) (l4 : mm_V) (l5 : mm_V) (l6 : mm_V), mm_E d 183 41 [(.inr (.inr z)), l1, l2, l3, l4, l5, l6] [] st n I L P = mm_E d 183 42 [(.inr (.inr z)), l1, l2, l3, l4, l5, l6] [] ((.inr (.inr z)) :: st) n I L P := fun _ _ _ _ _ _ _ _ => mq_al (i := 0) rfl rfl
theorem eX12_items (d n : Nat) (I L : mm_I) (P : mm_P) (x0 : Option Nat) (x1 : Int) (x2 : Option Nat) (x3 : Int) (x4 : Int) : mm_rn (d + 1) 183 [.inr (.inr x0), .inl x1, .inr (.inr x2), .inl x3, .inl x4] n I L P = mm_E d 183 0 [.inr (.inr x0), .inl x1, .inr (.inr x2), .inl x3, .inl x4, mm_junk, mm_junk] [] [] n I L P := rfl

set_option maxRecDepth 20000 in
set_option maxHeartbeats 8000000 in
theorem kX12_isWhole (d n : Nat) (I L : mm_I) (P : mm_P) :
  (∀ (st : List mm_V) z (l1 : mm_V) (l2 : mm_V), mm_E d 184 0 [(.inr (.inr z)), l1, l2] [] st n I L P = mm_E d 184 1 [(.inr (.inr z)), l1, l2] [] ((.inr (.inr z)) :: st) n I L P) ∧
  (∀ (lv : List mm_V) (st : List mm_V) a, (mm_ok n a 12) → mm_E d 184 1 lv [] (.inr (.inr (some a)) :: st) n I L P = mm_E d 184 4 lv [] (.inl (I a 20) :: st) n I L P) ∧
  (∀ (lv : List mm_V) (st : List mm_V), mm_E d 184 4 lv [] st n I L P = mm_E d 184 5 lv [] (.inl 1 :: st) n I L P) ∧
  (∀ (lv : List mm_V) (st : List mm_V) a b, mm_E d 184 5 lv [] (.inl b :: .inl a :: st) n I L P = if a ≤ b then mm_E d 184 12 lv [] st n I L P else mm_E d 184 8 lv [] st n I L P) ∧
  (∀ (lv : List mm_V) (st : List mm_V), mm_E d 184 8 lv [] st n I L P = mm_E d 184 9 lv [] (.inl 1 :: st) n I L P) ∧
  (∀ (lv : List mm_V) (st : List mm_V), mm_E d 184 9 lv [] st n I L P = mm_E d 184 13 lv [] st n I L P) ∧
  (∀ (lv : List mm_V) (st : List mm_V), mm_E d 184 12 lv [] st n I L P = mm_E d 184 13 lv [] (.inl 0 :: st) n I L P) ∧
  (∀ (st : List mm_V) z (l0 : mm_V) (l1 : mm_V) (l2 : mm_V), mm_E d 184 13 [l0, l1, l2] [] ((.inl z) :: st) n I L P = mm_E d 184 14 [l0, (.inl z), l2] [] st n I L P) ∧
  (∀ (lv : List mm_V) (st : List mm_V), mm_E d 184 14 lv [] st n I L P = mm_E d 184 15 lv [] (.inl 0 :: st) n I L P) ∧
  (∀ (st : List mm_V) z (l0 : mm_V) (l1 : mm_V) (l2 : mm_V), mm_E d 184 15 [l0, l1, l2] [] ((.inl z) :: st) n I L P = mm_E d 184 16 [l0, l1, (.inl z)] [] st n I L P) ∧
  (∀ (st : List mm_V) z (l1 : mm_V) (l2 : mm_V), mm_E d 184 17 [(.inr (.inr z)), l1, l2] [] st n I L P = mm_E d 184 18 [(.inr (.inr z)), l1, l2] [] ((.inr (.inr z)) :: st) n I L P) ∧
  (∀ (lv : List mm_V) (st : List mm_V) a, (mm_ok n a 12) → mm_E d 184 18 lv [] (.inr (.inr (some a)) :: st) n I L P = mm_E d 184 21 lv [] (.inl (I a 21) :: st) n I L P) ∧
  (∀ (lv : List mm_V) (st : List mm_V) a b, mm_E d 184 21 lv [] (.inl b :: .inl a :: st) n I L P = if b ≤ a then mm_E d 184 93 lv [] st n I L P else mm_E d 184 24 lv [] st n I L P) ∧
  (∀ (st : List mm_V) z (l0 : mm_V) (l2 : mm_V), mm_E d 184 24 [l0, (.inl z), l2] [] st n I L P = mm_E d 184 25 [l0, (.inl z), l2] [] ((.inl z) :: st) n I L P) ∧
  (∀ (lv : List mm_V) (st : List mm_V) a, mm_E d 184 25 lv [] (.inl a :: st) n I L P = if a = 0 then mm_E d 184 85 lv [] st n I L P else mm_E d 184 28 lv [] st n I L P) ∧
  (∀ (st : List mm_V) z (l1 : mm_V) (l2 : mm_V), mm_E d 184 28 [(.inr (.inr z)), l1, l2] [] st n I L P = mm_E d 184 29 [(.inr (.inr z)), l1, l2] [] ((.inr (.inr z)) :: st) n I L P) ∧
  (∀ (lv : List mm_V) (st : List mm_V) a, (mm_ok n a 12) → mm_E d 184 29 lv [] (.inr (.inr (some a)) :: st) n I L P = mm_E d 184 32 lv [] (.inr (.inr (P a 19)) :: st) n I L P) ∧
  (∀ (lv : List mm_V) (st : List mm_V), mm_E d 184 32 lv [] st n I L P = mm_E d 184 33 lv [] (.inl 2 :: st) n I L P) ∧
  (∀ (st : List mm_V) z (l0 : mm_V) (l1 : mm_V), mm_E d 184 33 [l0, l1, (.inl z)] [] st n I L P = mm_E d 184 34 [l0, l1, (.inl z)] [] ((.inl z) :: st) n I L P) ∧
  (∀ (lv : List mm_V) (st : List mm_V) a b, mm_E d 184 34 lv [] (.inl b :: .inl a :: st) n I L P = mm_E d 184 35 lv [] (.inl (mm_mul a b) :: st) n I L P) ∧
  (∀ (lv : List mm_V) (st : List mm_V) a i, (mm_ix n a 20 i) → mm_E d 184 35 lv [] (.inl i :: .inr (.inr (some a)) :: st) n I L P = mm_E d 184 36 lv [] (.inl (I a i.toNat) :: st) n I L P) ∧
  (∀ (st : List mm_V) z (l1 : mm_V) (l2 : mm_V), mm_E d 184 36 [(.inr (.inr z)), l1, l2] [] st n I L P = mm_E d 184 37 [(.inr (.inr z)), l1, l2] [] ((.inr (.inr z)) :: st) n I L P) ∧
  (∀ (lv : List mm_V) (st : List mm_V) a, (mm_ok n a 12) → mm_E d 184 37 lv [] (.inr (.inr (some a)) :: st) n I L P = mm_E d 184 40 lv [] (.inl (I a 20) :: st) n I L P) ∧
  (∀ (lv : List mm_V) (st : List mm_V) a b, mm_E d 184 40 lv [] (.inl b :: .inl a :: st) n I L P = if b ≤ a then mm_E d 184 85 lv [] st n I L P else mm_E d 184 43 lv [] st n I L P) ∧
  (∀ (st : List mm_V) z (l1 : mm_V) (l2 : mm_V), mm_E d 184 43 [(.inr (.inr z)), l1, l2] [] st n I L P = mm_E d 184 44 [(.inr (.inr z)), l1, l2] [] ((.inr (.inr z)) :: st) n I L P) ∧
  (∀ (lv : List mm_V) (st : List mm_V) a, (mm_ok n a 12) → mm_E d 184 44 lv [] (.inr (.inr (some a)) :: st) n I L P = mm_E d 184 47 lv [] (.inr (.inr (P a 19)) :: st) n I L P) ∧
  (∀ (lv : List mm_V) (st : List mm_V), mm_E d 184 47 lv [] st n I L P = mm_E d 184 48 lv [] (.inl 2 :: st) n I L P) ∧
  (∀ (st : List mm_V) z (l0 : mm_V) (l1 : mm_V), mm_E d 184 48 [l0, l1, (.inl z)] [] st n I L P = mm_E d 184 49 [l0, l1, (.inl z)] [] ((.inl z) :: st) n I L P) ∧
  (∀ (lv : List mm_V) (st : List mm_V) a b, mm_E d 184 49 lv [] (.inl b :: .inl a :: st) n I L P = mm_E d 184 50 lv [] (.inl (mm_mul a b) :: st) n I L P) ∧
  (∀ (lv : List mm_V) (st : List mm_V), mm_E d 184 50 lv [] st n I L P = mm_E d 184 51 lv [] (.inl 1 :: st) n I L P) ∧
  (∀ (lv : List mm_V) (st : List mm_V) a b, mm_E d 184 51 lv [] (.inl b :: .inl a :: st) n I L P = mm_E d 184 52 lv [] (.inl (mm_add a b) :: st) n I L P) ∧
  (∀ (lv : List mm_V) (st : List mm_V) a i, (mm_ix n a 20 i) → mm_E d 184 52 lv [] (.inl i :: .inr (.inr (some a)) :: st) n I L P = mm_E d 184 53 lv [] (.inl (I a i.toNat) :: st) n I L P) ∧
  (∀ (st : List mm_V) z (l1 : mm_V) (l2 : mm_V), mm_E d 184 53 [(.inr (.inr z)), l1, l2] [] st n I L P = mm_E d 184 54 [(.inr (.inr z)), l1, l2] [] ((.inr (.inr z)) :: st) n I L P) ∧
  (∀ (lv : List mm_V) (st : List mm_V) a, (mm_ok n a 12) → mm_E d 184 54 lv [] (.inr (.inr (some a)) :: st) n I L P = mm_E d 184 57 lv [] (.inl (I a 20) :: st) n I L P) ∧
  (∀ (lv : List mm_V) (st : List mm_V) a b, mm_E d 184 57 lv [] (.inl b :: .inl a :: st) n I L P = if b ≤ a then mm_E d 184 85 lv [] st n I L P else mm_E d 184 60 lv [] st n I L P) ∧
  (∀ (st : List mm_V) z (l1 : mm_V) (l2 : mm_V), mm_E d 184 60 [(.inr (.inr z)), l1, l2] [] st n I L P = mm_E d 184 61 [(.inr (.inr z)), l1, l2] [] ((.inr (.inr z)) :: st) n I L P) ∧
  (∀ (lv : List mm_V) (st : List mm_V) a, (mm_ok n a 12) → mm_E d 184 61 lv [] (.inr (.inr (some a)) :: st) n I L P = mm_E d 184 64 lv [] (.inr (.inr (P a 19)) :: st) n I L P) ∧
  (∀ (lv : List mm_V) (st : List mm_V), mm_E d 184 64 lv [] st n I L P = mm_E d 184 65 lv [] (.inl 2 :: st) n I L P) ∧
  (∀ (st : List mm_V) z (l0 : mm_V) (l1 : mm_V), mm_E d 184 65 [l0, l1, (.inl z)] [] st n I L P = mm_E d 184 66 [l0, l1, (.inl z)] [] ((.inl z) :: st) n I L P) ∧
  (∀ (lv : List mm_V) (st : List mm_V) a b, mm_E d 184 66 lv [] (.inl b :: .inl a :: st) n I L P = mm_E d 184 67 lv [] (.inl (mm_mul a b) :: st) n I L P) ∧
  (∀ (lv : List mm_V) (st : List mm_V) a i, (mm_ix n a 20 i) → mm_E d 184 67 lv [] (.inl i :: .inr (.inr (some a)) :: st) n I L P = mm_E d 184 68 lv [] (.inl (I a i.toNat) :: st) n I L P) ∧
  (∀ (st : List mm_V) z (l1 : mm_V) (l2 : mm_V), mm_E d 184 68 [(.inr (.inr z)), l1, l2] [] st n I L P = mm_E d 184 69 [(.inr (.inr z)), l1, l2] [] ((.inr (.inr z)) :: st) n I L P) ∧
  (∀ (lv : List mm_V) (st : List mm_V) a, (mm_ok n a 12) → mm_E d 184 69 lv [] (.inr (.inr (some a)) :: st) n I L P = mm_E d 184 72 lv [] (.inr (.inr (P a 19)) :: st) n I L P) ∧
  (∀ (lv : List mm_V) (st : List mm_V), mm_E d 184 72 lv [] st n I L P = mm_E d 184 73 lv [] (.inl 2 :: st) n I L P) ∧
  (∀ (st : List mm_V) z (l0 : mm_V) (l1 : mm_V), mm_E d 184 73 [l0, l1, (.inl z)] [] st n I L P = mm_E d 184 74 [l0, l1, (.inl z)] [] ((.inl z) :: st) n I L P) ∧
  (∀ (lv : List mm_V) (st : List mm_V) a b, mm_E d 184 74 lv [] (.inl b :: .inl a :: st) n I L P = mm_E d 184 75 lv [] (.inl (mm_mul a b) :: st) n I L P) ∧
  (∀ (lv : List mm_V) (st : List mm_V), mm_E d 184 75 lv [] st n I L P = mm_E d 184 76 lv [] (.inl 1 :: st) n I L P) ∧
  (∀ (lv : List mm_V) (st : List mm_V) a b, mm_E d 184 76 lv [] (.inl b :: .inl a :: st) n I L P = mm_E d 184 77 lv [] (.inl (mm_add a b) :: st) n I L P) ∧
  (∀ (lv : List mm_V) (st : List mm_V) a i, (mm_ix n a 20 i) → mm_E d 184 77 lv [] (.inl i :: .inr (.inr (some a)) :: st) n I L P = mm_E d 184 78 lv [] (.inl (I a i.toNat) :: st) n I L P) ∧
  (∀ (lv : List mm_V) (st : List mm_V) a b, mm_E d 184 78 lv [] (.inl b :: .inl a :: st) n I L P = if a = b then mm_E d 184 85 lv [] st n I L P else mm_E d 184 81 lv [] st n I L P) ∧
  (∀ (lv : List mm_V) (st : List mm_V), mm_E d 184 81 lv [] st n I L P = mm_E d 184 82 lv [] (.inl 1 :: st) n I L P) ∧
  (∀ (lv : List mm_V) (st : List mm_V), mm_E d 184 82 lv [] st n I L P = mm_E d 184 86 lv [] st n I L P) ∧
  (∀ (lv : List mm_V) (st : List mm_V), mm_E d 184 85 lv [] st n I L P = mm_E d 184 86 lv [] (.inl 0 :: st) n I L P) ∧
  (∀ (st : List mm_V) z (l0 : mm_V) (l1 : mm_V) (l2 : mm_V), mm_E d 184 86 [l0, l1, l2] [] ((.inl z) :: st) n I L P = mm_E d 184 87 [l0, (.inl z), l2] [] st n I L P) ∧
  (∀ (st : List mm_V) z (l0 : mm_V) (l1 : mm_V), mm_E d 184 87 [l0, l1, (.inl z)] [] st n I L P = mm_E d 184 90 [l0, l1, (.inl (mm_add z 1))] [] st n I L P) ∧
  (∀ (lv : List mm_V) (st : List mm_V), mm_E d 184 90 lv [] st n I L P = mm_E d 184 16 lv [] st n I L P) ∧
  (∀ (st : List mm_V) z (l0 : mm_V) (l2 : mm_V), mm_E d 184 93 [l0, (.inl z), l2] [] st n I L P = mm_E d 184 94 [l0, (.inl z), l2] [] ((.inl z) :: st) n I L P) ∧
  (∀ (lv : List mm_V) z, (0 ≤ z ∧ z < 2) → mm_E d 184 94 lv [] [.inl z] n I L P = some (some (.inl z), n, I, L, P)) :=
  ⟨fun _ _ _ _ => mq_al (i := 0) rfl rfl,
   fun _ _ _ h0 => mq_getI rfl h0,
   fun _ _ => mq_push rfl,
   fun _ _ _ _ => mq_ic_le rfl,
   fun _ _ => mq_push rfl,
   fun _ _ => mq_go rfl,
   fun _ _ => mq_push rfl,
   fun _ _ _ _ _ => mq_is (i := 1) rfl rfl rfl,
   fun _ _ => mq_push rfl,
   fun _ _ _ _ _ => mq_is (i := 2) rfl rfl rfl,
   fun _ _ _ _ => mq_al (i := 0) rfl rfl,
   fun _ _ _ h0 => mq_getI rfl h0,
   fun _ _ _ _ => mq_ic_ge rfl,
   fun _ _ _ _ => mq_il (i := 1) rfl rfl,
   fun _ _ _ => mq_if_eq rfl,
   fun _ _ _ _ => mq_al (i := 0) rfl rfl,
   fun _ _ _ h0 => mq_getR rfl h0,
   fun _ _ => mq_push rfl,
   fun _ _ _ _ => mq_il (i := 2) rfl rfl,
   fun _ _ _ _ => mq_bi rfl,
   fun _ _ _ _ h0 => mq_iald rfl h0,
   fun _ _ _ _ => mq_al (i := 0) rfl rfl,
   fun _ _ _ h0 => mq_getI rfl h0,
   fun _ _ _ _ => mq_ic_ge rfl,
   fun _ _ _ _ => mq_al (i := 0) rfl rfl,
   fun _ _ _ h0 => mq_getR rfl h0,
   fun _ _ => mq_push rfl,
   fun _ _ _ _ => mq_il (i := 2) rfl rfl,
   fun _ _ _ _ => mq_bi rfl,
   fun _ _ => mq_push rfl,
   fun _ _ _ _ => mq_bi rfl,
   fun _ _ _ _ h0 => mq_iald rfl h0,
   fun _ _ _ _ => mq_al (i := 0) rfl rfl,
   fun _ _ _ h0 => mq_getI rfl h0,
   fun _ _ _ _ => mq_ic_ge rfl,
   fun _ _ _ _ => mq_al (i := 0) rfl rfl,
   fun _ _ _ h0 => mq_getR rfl h0,
   fun _ _ => mq_push rfl,
   fun _ _ _ _ => mq_il (i := 2) rfl rfl,
   fun _ _ _ _ => mq_bi rfl,
   fun _ _ _ _ h0 => mq_iald rfl h0,
   fun _ _ _ _ => mq_al (i := 0) rfl rfl,
   fun _ _ _ h0 => mq_getR rfl h0,
   fun _ _ => mq_push rfl,
   fun _ _ _ _ => mq_il (i := 2) rfl rfl,
   fun _ _ _ _ => mq_bi rfl,
   fun _ _ => mq_push rfl,
   fun _ _ _ _ => mq_bi rfl,
   fun _ _ _ _ h0 => mq_iald rfl h0,
   fun _ _ _ _ => mq_ic_eq rfl,
   fun _ _ => mq_push rfl,
   fun _ _ => mq_go rfl,
   fun _ _ => mq_push rfl,
   fun _ _ _ _ _ => mq_is (i := 1) rfl rfl rfl,
   fun _ _ _ _ => mq_iinc (i := 2) rfl rfl rfl rfl,
   fun _ _ => mq_go rfl,
   fun _ _ _ _ => mq_il (i := 1) rfl rfl,
   fun _ _ h0 => mq_rz rfl h0⟩
theorem hX12_isWhole_16 (d n : Nat) (I L : mm_I) (P : mm_P) : ∀ (st : List mm_V) z (l0 : mm_V) (l1 : mm_V), mm_E d 184 16 [l0, l1, (.inl z)] [] st n I L P = mm_E d 184 17 [l0, l1, (.inl z)] [] ((.inl z) :: st) n I L P := fun _ _ _ _ => mq_il (i := 2) rfl rfl
theorem eX12_isWhole (d n : Nat) (I L : mm_I) (P : mm_P) (x0 : Option Nat) : mm_rn (d + 1) 184 [.inr (.inr x0)] n I L P = mm_E d 184 0 [.inr (.inr x0), mm_junk, mm_junk] [] [] n I L P := rfl

set_option maxRecDepth 20000 in
set_option maxHeartbeats 8000000 in
theorem kX12_readTown (d n : Nat) (I L : mm_I) (P : mm_P) :
  (∀ (st : List mm_V) z (l1 : mm_V) (l2 : mm_V) (l3 : mm_V), mm_E d 185 0 [(.inr (.inr z)), l1, l2, l3] [] st n I L P = mm_E d 185 1 [(.inr (.inr z)), l1, l2, l3] [] ((.inr (.inr z)) :: st) n I L P) ∧
  (∀ (lv : List mm_V) (st : List mm_V), mm_E d 185 1 lv [] st n I L P = mm_E d 185 2 lv [] (.inl 0 :: st) n I L P) ∧
  (∀ (lv : List mm_V) (st : List mm_V) a z, (mm_ok n a 12) → mm_E d 185 2 lv [] (.inl z :: .inr (.inr (some a)) :: st) n I L P = mm_E d 185 5 lv [] st n (mm_ui I a 3 z) L P) ∧
  (∀ (st : List mm_V) z (l1 : mm_V) (l2 : mm_V) (l3 : mm_V), mm_E d 185 5 [(.inr (.inr z)), l1, l2, l3] [] st n I L P = mm_E d 185 6 [(.inr (.inr z)), l1, l2, l3] [] ((.inr (.inr z)) :: st) n I L P) ∧
  (∀ (lv : List mm_V) (st : List mm_V), mm_E d 185 6 lv [] st n I L P = mm_E d 185 7 lv [] (.inl (-1) :: st) n I L P) ∧
  (∀ (lv : List mm_V) (st : List mm_V) a z, (mm_ok n a 12) → mm_E d 185 7 lv [] (.inl z :: .inr (.inr (some a)) :: st) n I L P = mm_E d 185 10 lv [] st n (mm_ui I a 4 z) L P) ∧
  (∀ (st : List mm_V) z (l1 : mm_V) (l2 : mm_V) (l3 : mm_V), mm_E d 185 10 [(.inr (.inr z)), l1, l2, l3] [] st n I L P = mm_E d 185 11 [(.inr (.inr z)), l1, l2, l3] [] ((.inr (.inr z)) :: st) n I L P) ∧
  (∀ (lv : List mm_V) (st : List mm_V), mm_E d 185 11 lv [] st n I L P = mm_E d 185 12 lv [] (.inl 0 :: st) n I L P) ∧
  (∀ (lv : List mm_V) (st : List mm_V) a z, (mm_ok n a 12) → mm_E d 185 12 lv [] (.inl z :: .inr (.inr (some a)) :: st) n I L P = mm_E d 185 15 lv [] st n (mm_ui I a 20 z) L P) ∧
  (∀ (st : List mm_V) z (l1 : mm_V) (l2 : mm_V) (l3 : mm_V), mm_E d 185 15 [(.inr (.inr z)), l1, l2, l3] [] st n I L P = mm_E d 185 16 [(.inr (.inr z)), l1, l2, l3] [] ((.inr (.inr z)) :: st) n I L P) ∧
  (∀ (lv : List mm_V) (st : List mm_V), mm_E d 185 16 lv [] st n I L P = mm_E d 185 17 lv [] (.inl 0 :: st) n I L P) ∧
  (∀ (lv : List mm_V) (st : List mm_V) a z, (mm_ok n a 12) → mm_E d 185 17 lv [] (.inl z :: .inr (.inr (some a)) :: st) n I L P = mm_E d 185 20 lv [] st n (mm_ui I a 21 z) L P) ∧
  (∀ (lv : List mm_V) (st : List mm_V), mm_E d 185 20 lv [] st n I L P = mm_E d 185 21 lv [] (.inl 0 :: st) n I L P) ∧
  (∀ (st : List mm_V) z (l0 : mm_V) (l1 : mm_V) (l2 : mm_V) (l3 : mm_V), mm_E d 185 21 [l0, l1, l2, l3] [] ((.inl z) :: st) n I L P = mm_E d 185 22 [l0, (.inl z), l2, l3] [] st n I L P) ∧
  (∀ (lv : List mm_V) (st : List mm_V), mm_E d 185 22 lv [] st n I L P = mm_E d 185 23 lv [] (.inl 0 :: st) n I L P) ∧
  (∀ (st : List mm_V) z (l0 : mm_V) (l1 : mm_V) (l2 : mm_V) (l3 : mm_V), mm_E d 185 23 [l0, l1, l2, l3] [] ((.inl z) :: st) n I L P = mm_E d 185 24 [l0, l1, (.inl z), l3] [] st n I L P) ∧
  (∀ (lv : List mm_V) (st : List mm_V), mm_E d 185 25 lv [] st n I L P = mm_E d 185 26 lv [] (.inl 3 :: st) n I L P) ∧
  (∀ (lv : List mm_V) (st : List mm_V) a b, mm_E d 185 26 lv [] (.inl b :: .inl a :: st) n I L P = if b ≤ a then mm_E d 185 47 lv [] st n I L P else mm_E d 185 29 lv [] st n I L P) ∧
  (∀ (st : List mm_V) z (l1 : mm_V) (l2 : mm_V) (l3 : mm_V), mm_E d 185 29 [(.inr (.inr z)), l1, l2, l3] [] st n I L P = mm_E d 185 30 [(.inr (.inr z)), l1, l2, l3] [] ((.inr (.inr z)) :: st) n I L P) ∧
  (∀ (lv : List mm_V) (st : List mm_V) a, (mm_ok n a 12) → mm_E d 185 30 lv [] (.inr (.inr (some a)) :: st) n I L P = mm_E d 185 33 lv [] (.inr (.inr (P a 17)) :: st) n I L P) ∧
  (∀ (st : List mm_V) z (l0 : mm_V) (l1 : mm_V) (l3 : mm_V), mm_E d 185 33 [l0, l1, (.inl z), l3] [] st n I L P = mm_E d 185 34 [l0, l1, (.inl z), l3] [] ((.inl z) :: st) n I L P) ∧
  (∀ (lv : List mm_V) (st : List mm_V), mm_E d 185 34 lv [] st n I L P = mm_E d 185 36 lv [] (.inl 115 :: st) n I L P) ∧
  (∀ (st : List mm_V) z (l0 : mm_V) (l1 : mm_V) (l3 : mm_V), mm_E d 185 36 [l0, l1, (.inl z), l3] [] st n I L P = mm_E d 185 37 [l0, l1, (.inl z), l3] [] ((.inl z) :: st) n I L P) ∧
  (∀ (lv : List mm_V) x0 x1 w0 w1, mm_E d 185 37 lv [] (.inl x1 :: .inl x0 :: [.inl w0, .inr (.inr w1)]) n I L P = mm_kr d 185 40 lv [] [.inl w0, .inr (.inr w1)] n (mm_rn d 182 [.inl x0, .inl x1] n I L P)) ∧
  (∀ (lv : List mm_V) (st : List mm_V) a i z, (mm_ix n a 20 i) → mm_E d 185 40 lv [] (.inl z :: .inl i :: .inr (.inr (some a)) :: st) n I L P = mm_E d 185 41 lv [] st n (mm_ui I a i.toNat z) L P) ∧
  (∀ (st : List mm_V) z (l0 : mm_V) (l1 : mm_V) (l3 : mm_V), mm_E d 185 41 [l0, l1, (.inl z), l3] [] st n I L P = mm_E d 185 44 [l0, l1, (.inl (mm_add z 1)), l3] [] st n I L P) ∧
  (∀ (lv : List mm_V) (st : List mm_V), mm_E d 185 44 lv [] st n I L P = mm_E d 185 24 lv [] st n I L P) ∧
  (∀ (lv : List mm_V) (st : List mm_V), mm_E d 185 47 lv [] st n I L P = mm_E d 185 48 lv [] (.inl 1 :: st) n I L P) ∧
  (∀ (st : List mm_V) z (l0 : mm_V) (l1 : mm_V) (l2 : mm_V) (l3 : mm_V), mm_E d 185 48 [l0, l1, l2, l3] [] ((.inl z) :: st) n I L P = mm_E d 185 49 [l0, l1, (.inl z), l3] [] st n I L P) ∧
  (∀ (lv : List mm_V) (st : List mm_V) a, mm_E d 185 50 lv [] (.inl a :: st) n I L P = if a = 0 then mm_E d 185 258 lv [] st n I L P else mm_E d 185 53 lv [] st n I L P) ∧
  (∀ (st : List mm_V) z (l1 : mm_V) (l2 : mm_V) (l3 : mm_V), mm_E d 185 53 [(.inr (.inr z)), l1, l2, l3] [] st n I L P = mm_E d 185 54 [(.inr (.inr z)), l1, l2, l3] [] ((.inr (.inr z)) :: st) n I L P) ∧
  (∀ (lv : List mm_V) (st : List mm_V) a, (mm_ok n a 12) → mm_E d 185 54 lv [] (.inr (.inr (some a)) :: st) n I L P = mm_E d 185 57 lv [] (.inl (I a 4) :: st) n I L P) ∧
  (∀ (lv : List mm_V) (st : List mm_V), mm_E d 185 57 lv [] st n I L P = mm_E d 185 58 lv [] (.inl (-1) :: st) n I L P) ∧
  (∀ (lv : List mm_V) (st : List mm_V) a b, mm_E d 185 58 lv [] (.inl b :: .inl a :: st) n I L P = if a = b then mm_E d 185 61 lv [] st n I L P else mm_E d 185 258 lv [] st n I L P) ∧
  (∀ (st : List mm_V) z (l1 : mm_V) (l2 : mm_V) (l3 : mm_V), mm_E d 185 61 [(.inr (.inr z)), l1, l2, l3] [] st n I L P = mm_E d 185 62 [(.inr (.inr z)), l1, l2, l3] [] ((.inr (.inr z)) :: st) n I L P) ∧
  (∀ (lv : List mm_V) a, (mm_ok n a 12) → mm_E d 185 62 lv [] (.inr (.inr (some a)) :: []) n I L P = mm_kr d 185 65 lv [] [] n (mm_rn d 153 [.inr (.inr (some a))] n I L P)) ∧
  (∀ (st : List mm_V) z (l0 : mm_V) (l1 : mm_V) (l2 : mm_V) (l3 : mm_V), mm_E d 185 65 [l0, l1, l2, l3] [] ((.inl z) :: st) n I L P = mm_E d 185 66 [l0, l1, l2, (.inl z)] [] st n I L P) ∧
  (∀ (st : List mm_V) z (l0 : mm_V) (l1 : mm_V) (l2 : mm_V), mm_E d 185 66 [l0, l1, l2, (.inl z)] [] st n I L P = mm_E d 185 67 [l0, l1, l2, (.inl z)] [] ((.inl z) :: st) n I L P) ∧
  (∀ (lv : List mm_V) (st : List mm_V), mm_E d 185 67 lv [] st n I L P = mm_E d 185 69 lv [] (.inl 115 :: st) n I L P) ∧
  (∀ (lv : List mm_V) (st : List mm_V) a b, mm_E d 185 69 lv [] (.inl b :: .inl a :: st) n I L P = if a = b then mm_E d 185 72 lv [] st n I L P else mm_E d 185 102 lv [] st n I L P) ∧
  (∀ (st : List mm_V) z (l0 : mm_V) (l2 : mm_V) (l3 : mm_V), mm_E d 185 72 [l0, (.inl z), l2, l3] [] st n I L P = mm_E d 185 73 [l0, (.inl z), l2, l3] [] ((.inl z) :: st) n I L P) ∧
  (∀ (lv : List mm_V) (st : List mm_V) a, mm_E d 185 73 lv [] (.inl a :: st) n I L P = if a = 0 then mm_E d 185 76 lv [] st n I L P else mm_E d 185 102 lv [] st n I L P) ∧
  (∀ (lv : List mm_V) (st : List mm_V), mm_E d 185 76 lv [] st n I L P = mm_E d 185 77 lv [] (.inl 1 :: st) n I L P) ∧
  (∀ (st : List mm_V) z (l0 : mm_V) (l1 : mm_V) (l2 : mm_V) (l3 : mm_V), mm_E d 185 77 [l0, l1, l2, l3] [] ((.inl z) :: st) n I L P = mm_E d 185 78 [l0, (.inl z), l2, l3] [] st n I L P) ∧
  (∀ (st : List mm_V) z (l1 : mm_V) (l2 : mm_V) (l3 : mm_V), mm_E d 185 78 [(.inr (.inr z)), l1, l2, l3] [] st n I L P = mm_E d 185 79 [(.inr (.inr z)), l1, l2, l3] [] ((.inr (.inr z)) :: st) n I L P) ∧
  (∀ (lv : List mm_V) (st : List mm_V) a, mm_E d 185 79 lv [] ((.inr (.inr a)) :: st) n I L P = mm_E d 185 80 lv [] ((.inr (.inr a)) :: (.inr (.inr a)) :: st) n I L P) ∧
  (∀ (lv : List mm_V) (st : List mm_V) a, (mm_ok n a 12) → mm_E d 185 80 lv [] (.inr (.inr (some a)) :: st) n I L P = mm_E d 185 83 lv [] (.inl (I a 3) :: st) n I L P) ∧
  (∀ (lv : List mm_V) (st : List mm_V), mm_E d 185 83 lv [] st n I L P = mm_E d 185 84 lv [] (.inl 1 :: st) n I L P) ∧
  (∀ (lv : List mm_V) (st : List mm_V) a b, mm_E d 185 84 lv [] (.inl b :: .inl a :: st) n I L P = mm_E d 185 85 lv [] (.inl (mm_add a b) :: st) n I L P) ∧
  (∀ (lv : List mm_V) (st : List mm_V) a z, (mm_ok n a 12) → mm_E d 185 85 lv [] (.inl z :: .inr (.inr (some a)) :: st) n I L P = mm_E d 185 88 lv [] st n (mm_ui I a 3 z) L P) ∧
  (∀ (st : List mm_V) z (l1 : mm_V) (l2 : mm_V) (l3 : mm_V), mm_E d 185 88 [(.inr (.inr z)), l1, l2, l3] [] st n I L P = mm_E d 185 89 [(.inr (.inr z)), l1, l2, l3] [] ((.inr (.inr z)) :: st) n I L P) ∧
  (∀ (st : List mm_V) z (l0 : mm_V) (l1 : mm_V) (l2 : mm_V), mm_E d 185 89 [l0, l1, l2, (.inl z)] [] st n I L P = mm_E d 185 90 [l0, l1, l2, (.inl z)] [] ((.inl z) :: st) n I L P) ∧
  (∀ (st : List mm_V) z (l1 : mm_V) (l2 : mm_V) (l3 : mm_V), mm_E d 185 90 [(.inr (.inr z)), l1, l2, l3] [] st n I L P = mm_E d 185 91 [(.inr (.inr z)), l1, l2, l3] [] ((.inr (.inr z)) :: st) n I L P) ∧
  (∀ (lv : List mm_V) (st : List mm_V) a, (mm_ok n a 12) → mm_E d 185 91 lv [] (.inr (.inr (some a)) :: st) n I L P = mm_E d 185 94 lv [] (.inr (.inr (P a 17)) :: st) n I L P) ∧
  (∀ (lv : List mm_V) (st : List mm_V), mm_E d 185 94 lv [] st n I L P = mm_E d 185 95 lv [] (.inl 0 :: st) n I L P) ∧
  (∀ (lv : List mm_V) (st : List mm_V), mm_E d 185 95 lv [] st n I L P = mm_E d 185 96 lv [] (.inl 3 :: st) n I L P) ∧
  (∀ (lv : List mm_V) a x0 x1 x2 x3, (mm_ok n a 12) → mm_E d 185 96 lv [] (.inl x3 :: .inl x2 :: .inr (.inr x1) :: .inl x0 :: .inr (.inr (some a)) :: []) n I L P = mm_kv d 185 99 lv [] [] n (mm_rn d 183 [.inr (.inr (some a)), .inl x0, .inr (.inr x1), .inl x2, .inl x3] n I L P)) ∧
  (∀ (lv : List mm_V) (st : List mm_V), mm_E d 185 99 lv [] st n I L P = mm_E d 185 214 lv [] st n I L P) ∧
  (∀ (st : List mm_V) z (l0 : mm_V) (l1 : mm_V) (l2 : mm_V), mm_E d 185 102 [l0, l1, l2, (.inl z)] [] st n I L P = mm_E d 185 103 [l0, l1, l2, (.inl z)] [] ((.inl z) :: st) n I L P) ∧
  (∀ (lv : List mm_V) (st : List mm_V), mm_E d 185 103 lv [] st n I L P = mm_E d 185 105 lv [] (.inl 112 :: st) n I L P) ∧
  (∀ (lv : List mm_V) (st : List mm_V) a b, mm_E d 185 105 lv [] (.inl b :: .inl a :: st) n I L P = if a = b then mm_E d 185 108 lv [] st n I L P else mm_E d 185 156 lv [] st n I L P) ∧
  (∀ (st : List mm_V) z (l1 : mm_V) (l2 : mm_V) (l3 : mm_V), mm_E d 185 108 [(.inr (.inr z)), l1, l2, l3] [] st n I L P = mm_E d 185 109 [(.inr (.inr z)), l1, l2, l3] [] ((.inr (.inr z)) :: st) n I L P) ∧
  (∀ (lv : List mm_V) (st : List mm_V) a, (mm_ok n a 12) → mm_E d 185 109 lv [] (.inr (.inr (some a)) :: st) n I L P = mm_E d 185 112 lv [] (.inl (I a 20) :: st) n I L P) ∧
  (∀ (lv : List mm_V) (st : List mm_V), mm_E d 185 112 lv [] st n I L P = mm_E d 185 114 lv [] (.inl 8 :: st) n I L P) ∧
  (∀ (lv : List mm_V) (st : List mm_V) a b, mm_E d 185 114 lv [] (.inl b :: .inl a :: st) n I L P = if b ≤ a then mm_E d 185 156 lv [] st n I L P else mm_E d 185 117 lv [] st n I L P) ∧
  (∀ (st : List mm_V) z (l1 : mm_V) (l2 : mm_V) (l3 : mm_V), mm_E d 185 117 [(.inr (.inr z)), l1, l2, l3] [] st n I L P = mm_E d 185 118 [(.inr (.inr z)), l1, l2, l3] [] ((.inr (.inr z)) :: st) n I L P) ∧
  (∀ (lv : List mm_V) (st : List mm_V) a, mm_E d 185 118 lv [] ((.inr (.inr a)) :: st) n I L P = mm_E d 185 119 lv [] ((.inr (.inr a)) :: (.inr (.inr a)) :: st) n I L P) ∧
  (∀ (lv : List mm_V) (st : List mm_V) a, (mm_ok n a 12) → mm_E d 185 119 lv [] (.inr (.inr (some a)) :: st) n I L P = mm_E d 185 122 lv [] (.inl (I a 3) :: st) n I L P) ∧
  (∀ (lv : List mm_V) (st : List mm_V), mm_E d 185 122 lv [] st n I L P = mm_E d 185 123 lv [] (.inl 1 :: st) n I L P) ∧
  (∀ (lv : List mm_V) (st : List mm_V) a b, mm_E d 185 123 lv [] (.inl b :: .inl a :: st) n I L P = mm_E d 185 124 lv [] (.inl (mm_add a b) :: st) n I L P) ∧
  (∀ (lv : List mm_V) (st : List mm_V) a z, (mm_ok n a 12) → mm_E d 185 124 lv [] (.inl z :: .inr (.inr (some a)) :: st) n I L P = mm_E d 185 127 lv [] st n (mm_ui I a 3 z) L P) ∧
  (∀ (st : List mm_V) z (l1 : mm_V) (l2 : mm_V) (l3 : mm_V), mm_E d 185 127 [(.inr (.inr z)), l1, l2, l3] [] st n I L P = mm_E d 185 128 [(.inr (.inr z)), l1, l2, l3] [] ((.inr (.inr z)) :: st) n I L P) ∧
  (∀ (st : List mm_V) z (l0 : mm_V) (l1 : mm_V) (l2 : mm_V), mm_E d 185 128 [l0, l1, l2, (.inl z)] [] st n I L P = mm_E d 185 129 [l0, l1, l2, (.inl z)] [] ((.inl z) :: st) n I L P) ∧
  (∀ (st : List mm_V) z (l1 : mm_V) (l2 : mm_V) (l3 : mm_V), mm_E d 185 129 [(.inr (.inr z)), l1, l2, l3] [] st n I L P = mm_E d 185 130 [(.inr (.inr z)), l1, l2, l3] [] ((.inr (.inr z)) :: st) n I L P) ∧
  (∀ (lv : List mm_V) (st : List mm_V) a, (mm_ok n a 12) → mm_E d 185 130 lv [] (.inr (.inr (some a)) :: st) n I L P = mm_E d 185 133 lv [] (.inr (.inr (P a 18)) :: st) n I L P) ∧
  (∀ (lv : List mm_V) (st : List mm_V), mm_E d 185 133 lv [] st n I L P = mm_E d 185 134 lv [] (.inl 2 :: st) n I L P) ∧
  (∀ (st : List mm_V) z (l1 : mm_V) (l2 : mm_V) (l3 : mm_V), mm_E d 185 134 [(.inr (.inr z)), l1, l2, l3] [] st n I L P = mm_E d 185 135 [(.inr (.inr z)), l1, l2, l3] [] ((.inr (.inr z)) :: st) n I L P) ∧
  (∀ (lv : List mm_V) (st : List mm_V) a, (mm_ok n a 12) → mm_E d 185 135 lv [] (.inr (.inr (some a)) :: st) n I L P = mm_E d 185 138 lv [] (.inl (I a 20) :: st) n I L P) ∧
  (∀ (lv : List mm_V) (st : List mm_V) a b, mm_E d 185 138 lv [] (.inl b :: .inl a :: st) n I L P = mm_E d 185 139 lv [] (.inl (mm_mul a b) :: st) n I L P) ∧
  (∀ (lv : List mm_V) (st : List mm_V), mm_E d 185 139 lv [] st n I L P = mm_E d 185 140 lv [] (.inl 2 :: st) n I L P) ∧
  (∀ (lv : List mm_V) a x0 x1 x2 x3, (mm_ok n a 12) → mm_E d 185 140 lv [] (.inl x3 :: .inl x2 :: .inr (.inr x1) :: .inl x0 :: .inr (.inr (some a)) :: []) n I L P = mm_kv d 185 143 lv [] [] n (mm_rn d 183 [.inr (.inr (some a)), .inl x0, .inr (.inr x1), .inl x2, .inl x3] n I L P)) ∧
  (∀ (st : List mm_V) z (l1 : mm_V) (l2 : mm_V) (l3 : mm_V), mm_E d 185 143 [(.inr (.inr z)), l1, l2, l3] [] st n I L P = mm_E d 185 144 [(.inr (.inr z)), l1, l2, l3] [] ((.inr (.inr z)) :: st) n I L P) ∧
  (∀ (lv : List mm_V) (st : List mm_V) a, mm_E d 185 144 lv [] ((.inr (.inr a)) :: st) n I L P = mm_E d 185 145 lv [] ((.inr (.inr a)) :: (.inr (.inr a)) :: st) n I L P) ∧
  (∀ (lv : List mm_V) (st : List mm_V) a, (mm_ok n a 12) → mm_E d 185 145 lv [] (.inr (.inr (some a)) :: st) n I L P = mm_E d 185 148 lv [] (.inl (I a 20) :: st) n I L P) ∧
  (∀ (lv : List mm_V) (st : List mm_V), mm_E d 185 148 lv [] st n I L P = mm_E d 185 149 lv [] (.inl 1 :: st) n I L P) ∧
  (∀ (lv : List mm_V) (st : List mm_V) a b, mm_E d 185 149 lv [] (.inl b :: .inl a :: st) n I L P = mm_E d 185 150 lv [] (.inl (mm_add a b) :: st) n I L P) ∧
  (∀ (lv : List mm_V) (st : List mm_V) a z, (mm_ok n a 12) → mm_E d 185 150 lv [] (.inl z :: .inr (.inr (some a)) :: st) n I L P = mm_E d 185 153 lv [] st n (mm_ui I a 20 z) L P) ∧
  (∀ (lv : List mm_V) (st : List mm_V), mm_E d 185 153 lv [] st n I L P = mm_E d 185 214 lv [] st n I L P) ∧
  (∀ (st : List mm_V) z (l0 : mm_V) (l1 : mm_V) (l2 : mm_V), mm_E d 185 156 [l0, l1, l2, (.inl z)] [] st n I L P = mm_E d 185 157 [l0, l1, l2, (.inl z)] [] ((.inl z) :: st) n I L P) ∧
  (∀ (lv : List mm_V) (st : List mm_V), mm_E d 185 157 lv [] st n I L P = mm_E d 185 159 lv [] (.inl 108 :: st) n I L P) ∧
  (∀ (lv : List mm_V) (st : List mm_V) a b, mm_E d 185 159 lv [] (.inl b :: .inl a :: st) n I L P = if a = b then mm_E d 185 162 lv [] st n I L P else mm_E d 185 210 lv [] st n I L P) ∧
  (∀ (st : List mm_V) z (l1 : mm_V) (l2 : mm_V) (l3 : mm_V), mm_E d 185 162 [(.inr (.inr z)), l1, l2, l3] [] st n I L P = mm_E d 185 163 [(.inr (.inr z)), l1, l2, l3] [] ((.inr (.inr z)) :: st) n I L P) ∧
  (∀ (lv : List mm_V) (st : List mm_V) a, (mm_ok n a 12) → mm_E d 185 163 lv [] (.inr (.inr (some a)) :: st) n I L P = mm_E d 185 166 lv [] (.inl (I a 21) :: st) n I L P) ∧
  (∀ (lv : List mm_V) (st : List mm_V), mm_E d 185 166 lv [] st n I L P = mm_E d 185 168 lv [] (.inl 12 :: st) n I L P) ∧
  (∀ (lv : List mm_V) (st : List mm_V) a b, mm_E d 185 168 lv [] (.inl b :: .inl a :: st) n I L P = if b ≤ a then mm_E d 185 210 lv [] st n I L P else mm_E d 185 171 lv [] st n I L P) ∧
  (∀ (st : List mm_V) z (l1 : mm_V) (l2 : mm_V) (l3 : mm_V), mm_E d 185 171 [(.inr (.inr z)), l1, l2, l3] [] st n I L P = mm_E d 185 172 [(.inr (.inr z)), l1, l2, l3] [] ((.inr (.inr z)) :: st) n I L P) ∧
  (∀ (lv : List mm_V) (st : List mm_V) a, mm_E d 185 172 lv [] ((.inr (.inr a)) :: st) n I L P = mm_E d 185 173 lv [] ((.inr (.inr a)) :: (.inr (.inr a)) :: st) n I L P) ∧
  (∀ (lv : List mm_V) (st : List mm_V) a, (mm_ok n a 12) → mm_E d 185 173 lv [] (.inr (.inr (some a)) :: st) n I L P = mm_E d 185 176 lv [] (.inl (I a 3) :: st) n I L P) ∧
  (∀ (lv : List mm_V) (st : List mm_V), mm_E d 185 176 lv [] st n I L P = mm_E d 185 177 lv [] (.inl 1 :: st) n I L P) ∧
  (∀ (lv : List mm_V) (st : List mm_V) a b, mm_E d 185 177 lv [] (.inl b :: .inl a :: st) n I L P = mm_E d 185 178 lv [] (.inl (mm_add a b) :: st) n I L P) ∧
  (∀ (lv : List mm_V) (st : List mm_V) a z, (mm_ok n a 12) → mm_E d 185 178 lv [] (.inl z :: .inr (.inr (some a)) :: st) n I L P = mm_E d 185 181 lv [] st n (mm_ui I a 3 z) L P) ∧
  (∀ (st : List mm_V) z (l1 : mm_V) (l2 : mm_V) (l3 : mm_V), mm_E d 185 181 [(.inr (.inr z)), l1, l2, l3] [] st n I L P = mm_E d 185 182 [(.inr (.inr z)), l1, l2, l3] [] ((.inr (.inr z)) :: st) n I L P) ∧
  (∀ (st : List mm_V) z (l0 : mm_V) (l1 : mm_V) (l2 : mm_V), mm_E d 185 182 [l0, l1, l2, (.inl z)] [] st n I L P = mm_E d 185 183 [l0, l1, l2, (.inl z)] [] ((.inl z) :: st) n I L P) ∧
  (∀ (st : List mm_V) z (l1 : mm_V) (l2 : mm_V) (l3 : mm_V), mm_E d 185 183 [(.inr (.inr z)), l1, l2, l3] [] st n I L P = mm_E d 185 184 [(.inr (.inr z)), l1, l2, l3] [] ((.inr (.inr z)) :: st) n I L P) ∧
  (∀ (lv : List mm_V) (st : List mm_V) a, (mm_ok n a 12) → mm_E d 185 184 lv [] (.inr (.inr (some a)) :: st) n I L P = mm_E d 185 187 lv [] (.inr (.inr (P a 19)) :: st) n I L P) ∧
  (∀ (lv : List mm_V) (st : List mm_V), mm_E d 185 187 lv [] st n I L P = mm_E d 185 188 lv [] (.inl 2 :: st) n I L P) ∧
  (∀ (st : List mm_V) z (l1 : mm_V) (l2 : mm_V) (l3 : mm_V), mm_E d 185 188 [(.inr (.inr z)), l1, l2, l3] [] st n I L P = mm_E d 185 189 [(.inr (.inr z)), l1, l2, l3] [] ((.inr (.inr z)) :: st) n I L P) ∧
  (∀ (lv : List mm_V) (st : List mm_V) a, (mm_ok n a 12) → mm_E d 185 189 lv [] (.inr (.inr (some a)) :: st) n I L P = mm_E d 185 192 lv [] (.inl (I a 21) :: st) n I L P) ∧
  (∀ (lv : List mm_V) (st : List mm_V) a b, mm_E d 185 192 lv [] (.inl b :: .inl a :: st) n I L P = mm_E d 185 193 lv [] (.inl (mm_mul a b) :: st) n I L P) ∧
  (∀ (lv : List mm_V) (st : List mm_V), mm_E d 185 193 lv [] st n I L P = mm_E d 185 194 lv [] (.inl 2 :: st) n I L P) ∧
  (∀ (lv : List mm_V) a x0 x1 x2 x3, (mm_ok n a 12) → mm_E d 185 194 lv [] (.inl x3 :: .inl x2 :: .inr (.inr x1) :: .inl x0 :: .inr (.inr (some a)) :: []) n I L P = mm_kv d 185 197 lv [] [] n (mm_rn d 183 [.inr (.inr (some a)), .inl x0, .inr (.inr x1), .inl x2, .inl x3] n I L P)) ∧
  (∀ (st : List mm_V) z (l1 : mm_V) (l2 : mm_V) (l3 : mm_V), mm_E d 185 197 [(.inr (.inr z)), l1, l2, l3] [] st n I L P = mm_E d 185 198 [(.inr (.inr z)), l1, l2, l3] [] ((.inr (.inr z)) :: st) n I L P) ∧
  (∀ (lv : List mm_V) (st : List mm_V) a, mm_E d 185 198 lv [] ((.inr (.inr a)) :: st) n I L P = mm_E d 185 199 lv [] ((.inr (.inr a)) :: (.inr (.inr a)) :: st) n I L P) ∧
  (∀ (lv : List mm_V) (st : List mm_V) a, (mm_ok n a 12) → mm_E d 185 199 lv [] (.inr (.inr (some a)) :: st) n I L P = mm_E d 185 202 lv [] (.inl (I a 21) :: st) n I L P) ∧
  (∀ (lv : List mm_V) (st : List mm_V), mm_E d 185 202 lv [] st n I L P = mm_E d 185 203 lv [] (.inl 1 :: st) n I L P) ∧
  (∀ (lv : List mm_V) (st : List mm_V) a b, mm_E d 185 203 lv [] (.inl b :: .inl a :: st) n I L P = mm_E d 185 204 lv [] (.inl (mm_add a b) :: st) n I L P) ∧
  (∀ (lv : List mm_V) (st : List mm_V) a z, (mm_ok n a 12) → mm_E d 185 204 lv [] (.inl z :: .inr (.inr (some a)) :: st) n I L P = mm_E d 185 207 lv [] st n (mm_ui I a 21 z) L P) ∧
  (∀ (lv : List mm_V) (st : List mm_V), mm_E d 185 207 lv [] st n I L P = mm_E d 185 214 lv [] st n I L P) ∧
  (∀ (st : List mm_V) z (l1 : mm_V) (l2 : mm_V) (l3 : mm_V), mm_E d 185 210 [(.inr (.inr z)), l1, l2, l3] [] st n I L P = mm_E d 185 211 [(.inr (.inr z)), l1, l2, l3] [] ((.inr (.inr z)) :: st) n I L P) ∧
  (∀ (lv : List mm_V) a, (mm_ok n a 12) → mm_E d 185 211 lv [] (.inr (.inr (some a)) :: []) n I L P = mm_kv d 185 214 lv [] [] n (mm_rn d 154 [.inr (.inr (some a))] n I L P)) ∧
  (∀ (st : List mm_V) z (l1 : mm_V) (l2 : mm_V) (l3 : mm_V), mm_E d 185 214 [(.inr (.inr z)), l1, l2, l3] [] st n I L P = mm_E d 185 215 [(.inr (.inr z)), l1, l2, l3] [] ((.inr (.inr z)) :: st) n I L P) ∧
  (∀ (lv : List mm_V) (st : List mm_V) a, (mm_ok n a 12) → mm_E d 185 215 lv [] (.inr (.inr (some a)) :: st) n I L P = mm_E d 185 218 lv [] (.inl (I a 4) :: st) n I L P) ∧
  (∀ (lv : List mm_V) (st : List mm_V), mm_E d 185 218 lv [] st n I L P = mm_E d 185 219 lv [] (.inl (-1) :: st) n I L P) ∧
  (∀ (lv : List mm_V) (st : List mm_V) a b, mm_E d 185 219 lv [] (.inl b :: .inl a :: st) n I L P = if a = b then mm_E d 185 222 lv [] st n I L P else mm_E d 185 235 lv [] st n I L P) ∧
  (∀ (st : List mm_V) z (l1 : mm_V) (l2 : mm_V) (l3 : mm_V), mm_E d 185 222 [(.inr (.inr z)), l1, l2, l3] [] st n I L P = mm_E d 185 223 [(.inr (.inr z)), l1, l2, l3] [] ((.inr (.inr z)) :: st) n I L P) ∧
  (∀ (lv : List mm_V) a, (mm_ok n a 12) → mm_E d 185 223 lv [] (.inr (.inr (some a)) :: []) n I L P = mm_kr d 185 226 lv [] [] n (mm_rn d 153 [.inr (.inr (some a))] n I L P)) ∧
  (∀ (lv : List mm_V) (st : List mm_V), mm_E d 185 226 lv [] st n I L P = mm_E d 185 228 lv [] (.inl 59 :: st) n I L P) ∧
  (∀ (lv : List mm_V) (st : List mm_V) a b, mm_E d 185 228 lv [] (.inl b :: .inl a :: st) n I L P = if a = b then mm_E d 185 231 lv [] st n I L P else mm_E d 185 235 lv [] st n I L P) ∧
  (∀ (lv : List mm_V) (st : List mm_V), mm_E d 185 231 lv [] st n I L P = mm_E d 185 232 lv [] (.inl 1 :: st) n I L P) ∧
  (∀ (lv : List mm_V) (st : List mm_V), mm_E d 185 232 lv [] st n I L P = mm_E d 185 236 lv [] st n I L P) ∧
  (∀ (lv : List mm_V) (st : List mm_V), mm_E d 185 235 lv [] st n I L P = mm_E d 185 236 lv [] (.inl 0 :: st) n I L P) ∧
  (∀ (st : List mm_V) z (l0 : mm_V) (l1 : mm_V) (l2 : mm_V) (l3 : mm_V), mm_E d 185 236 [l0, l1, l2, l3] [] ((.inl z) :: st) n I L P = mm_E d 185 237 [l0, l1, (.inl z), l3] [] st n I L P) ∧
  (∀ (st : List mm_V) z (l1 : mm_V) (l2 : mm_V) (l3 : mm_V), mm_E d 185 237 [(.inr (.inr z)), l1, l2, l3] [] st n I L P = mm_E d 185 238 [(.inr (.inr z)), l1, l2, l3] [] ((.inr (.inr z)) :: st) n I L P) ∧
  (∀ (lv : List mm_V) (st : List mm_V) a, mm_E d 185 238 lv [] ((.inr (.inr a)) :: st) n I L P = mm_E d 185 239 lv [] ((.inr (.inr a)) :: (.inr (.inr a)) :: st) n I L P) ∧
  (∀ (lv : List mm_V) (st : List mm_V) a, (mm_ok n a 12) → mm_E d 185 239 lv [] (.inr (.inr (some a)) :: st) n I L P = mm_E d 185 242 lv [] (.inl (I a 3) :: st) n I L P) ∧
  (∀ (st : List mm_V) z (l0 : mm_V) (l1 : mm_V) (l3 : mm_V), mm_E d 185 242 [l0, l1, (.inl z), l3] [] st n I L P = mm_E d 185 243 [l0, l1, (.inl z), l3] [] ((.inl z) :: st) n I L P) ∧
  (∀ (lv : List mm_V) (st : List mm_V) a, mm_E d 185 243 lv [] (.inl a :: st) n I L P = if a = 0 then mm_E d 185 250 lv [] st n I L P else mm_E d 185 246 lv [] st n I L P) ∧
  (∀ (lv : List mm_V) (st : List mm_V), mm_E d 185 246 lv [] st n I L P = mm_E d 185 247 lv [] (.inl 1 :: st) n I L P) ∧
  (∀ (lv : List mm_V) (st : List mm_V), mm_E d 185 247 lv [] st n I L P = mm_E d 185 251 lv [] st n I L P) ∧
  (∀ (lv : List mm_V) (st : List mm_V), mm_E d 185 250 lv [] st n I L P = mm_E d 185 251 lv [] (.inl 0 :: st) n I L P) ∧
  (∀ (lv : List mm_V) (st : List mm_V) a b, mm_E d 185 251 lv [] (.inl b :: .inl a :: st) n I L P = mm_E d 185 252 lv [] (.inl (mm_add a b) :: st) n I L P) ∧
  (∀ (lv : List mm_V) (st : List mm_V) a z, (mm_ok n a 12) → mm_E d 185 252 lv [] (.inl z :: .inr (.inr (some a)) :: st) n I L P = mm_E d 185 255 lv [] st n (mm_ui I a 3 z) L P) ∧
  (∀ (lv : List mm_V) (st : List mm_V), mm_E d 185 255 lv [] st n I L P = mm_E d 185 49 lv [] st n I L P) ∧
  (∀ (st : List mm_V) z (l1 : mm_V) (l2 : mm_V) (l3 : mm_V), mm_E d 185 258 [(.inr (.inr z)), l1, l2, l3] [] st n I L P = mm_E d 185 259 [(.inr (.inr z)), l1, l2, l3] [] ((.inr (.inr z)) :: st) n I L P) ∧
  (∀ (lv : List mm_V) (st : List mm_V) a, (mm_ok n a 12) → mm_E d 185 259 lv [] (.inr (.inr (some a)) :: st) n I L P = mm_E d 185 262 lv [] (.inl (I a 4) :: st) n I L P) ∧
  (∀ (lv : List mm_V) (st : List mm_V), mm_E d 185 262 lv [] st n I L P = mm_E d 185 263 lv [] (.inl (-1) :: st) n I L P) ∧
  (∀ (lv : List mm_V) (st : List mm_V) a b, mm_E d 185 263 lv [] (.inl b :: .inl a :: st) n I L P = if a = b then mm_E d 185 266 lv [] st n I L P else mm_E d 185 285 lv [] st n I L P) ∧
  (∀ (st : List mm_V) z (l1 : mm_V) (l2 : mm_V) (l3 : mm_V), mm_E d 185 266 [(.inr (.inr z)), l1, l2, l3] [] st n I L P = mm_E d 185 267 [(.inr (.inr z)), l1, l2, l3] [] ((.inr (.inr z)) :: st) n I L P) ∧
  (∀ (lv : List mm_V) a, (mm_ok n a 12) → mm_E d 185 267 lv [] (.inr (.inr (some a)) :: []) n I L P = mm_kr d 185 270 lv [] [] n (mm_rn d 153 [.inr (.inr (some a))] n I L P)) ∧
  (∀ (lv : List mm_V) (st : List mm_V), mm_E d 185 270 lv [] st n I L P = mm_E d 185 271 lv [] (.inl (-1) :: st) n I L P) ∧
  (∀ (lv : List mm_V) (st : List mm_V) a b, mm_E d 185 271 lv [] (.inl b :: .inl a :: st) n I L P = if a = b then mm_E d 185 274 lv [] st n I L P else mm_E d 185 281 lv [] st n I L P) ∧
  (∀ (st : List mm_V) z (l1 : mm_V) (l2 : mm_V) (l3 : mm_V), mm_E d 185 274 [(.inr (.inr z)), l1, l2, l3] [] st n I L P = mm_E d 185 275 [(.inr (.inr z)), l1, l2, l3] [] ((.inr (.inr z)) :: st) n I L P) ∧
  (∀ (lv : List mm_V) a, (mm_ok n a 12) → mm_E d 185 275 lv [] (.inr (.inr (some a)) :: []) n I L P = mm_kr d 185 278 lv [] [] n (mm_rn d 184 [.inr (.inr (some a))] n I L P)) ∧
  (∀ (lv : List mm_V) (st : List mm_V) a, mm_E d 185 278 lv [] (.inl a :: st) n I L P = if a = 0 then mm_E d 185 281 lv [] st n I L P else mm_E d 185 285 lv [] st n I L P) ∧
  (∀ (st : List mm_V) z (l1 : mm_V) (l2 : mm_V) (l3 : mm_V), mm_E d 185 281 [(.inr (.inr z)), l1, l2, l3] [] st n I L P = mm_E d 185 282 [(.inr (.inr z)), l1, l2, l3] [] ((.inr (.inr z)) :: st) n I L P) ∧
  (∀ (lv : List mm_V) a, (mm_ok n a 12) → mm_E d 185 282 lv [] (.inr (.inr (some a)) :: []) n I L P = mm_kv d 185 285 lv [] [] n (mm_rn d 154 [.inr (.inr (some a))] n I L P)) ∧
  (∀ (st : List mm_V) z (l1 : mm_V) (l2 : mm_V) (l3 : mm_V), mm_E d 185 285 [(.inr (.inr z)), l1, l2, l3] [] st n I L P = mm_E d 185 286 [(.inr (.inr z)), l1, l2, l3] [] ((.inr (.inr z)) :: st) n I L P) ∧
  (∀ (lv : List mm_V) (st : List mm_V) a, (mm_ok n a 12) → mm_E d 185 286 lv [] (.inr (.inr (some a)) :: st) n I L P = mm_E d 185 289 lv [] (.inl (I a 4) :: st) n I L P) ∧
  (∀ (lv : List mm_V) z, mm_E d 185 289 lv [] [.inl z] n I L P = some (some (.inl z), n, I, L, P)) :=
  ⟨fun _ _ _ _ _ => mq_al (i := 0) rfl rfl,
   fun _ _ => mq_push rfl,
   fun _ _ _ _ h0 => mq_putI rfl h0,
   fun _ _ _ _ _ => mq_al (i := 0) rfl rfl,
   fun _ _ => mq_push rfl,
   fun _ _ _ _ h0 => mq_putI rfl h0,
   fun _ _ _ _ _ => mq_al (i := 0) rfl rfl,
   fun _ _ => mq_push rfl,
   fun _ _ _ _ h0 => mq_putI rfl h0,
   fun _ _ _ _ _ => mq_al (i := 0) rfl rfl,
   fun _ _ => mq_push rfl,
   fun _ _ _ _ h0 => mq_putI rfl h0,
   fun _ _ => mq_push rfl,
   fun _ _ _ _ _ _ => mq_is (i := 1) rfl rfl rfl,
   fun _ _ => mq_push rfl,
   fun _ _ _ _ _ _ => mq_is (i := 2) rfl rfl rfl,
   fun _ _ => mq_push rfl,
   fun _ _ _ _ => mq_ic_ge rfl,
   fun _ _ _ _ _ => mq_al (i := 0) rfl rfl,
   fun _ _ _ h0 => mq_getR rfl h0,
   fun _ _ _ _ _ => mq_il (i := 2) rfl rfl,
   fun _ _ => mq_push rfl,
   fun _ _ _ _ _ => mq_il (i := 2) rfl rfl,
   fun _ _ _ _ _ => mq_cSr (na := 2) rfl (Nat.le_of_ble_eq_true rfl) (Nat.le_of_ble_eq_true rfl),
   fun _ _ _ _ _ h0 => mq_iast rfl h0,
   fun _ _ _ _ _ => mq_iinc (i := 2) rfl rfl rfl rfl,
   fun _ _ => mq_go rfl,
   fun _ _ => mq_push rfl,
   fun _ _ _ _ _ _ => mq_is (i := 2) rfl rfl rfl,
   fun _ _ _ => mq_if_eq rfl,
   fun _ _ _ _ _ => mq_al (i := 0) rfl rfl,
   fun _ _ _ h0 => mq_getI rfl h0,
   fun _ _ => mq_push rfl,
   fun _ _ _ _ => mq_ic_ne rfl,
   fun _ _ _ _ _ => mq_al (i := 0) rfl rfl,
   fun _ _ h0 => mq_cVr (na := 0) rfl rfl (Nat.le_of_ble_eq_true rfl) (Nat.le_of_ble_eq_true rfl) h0,
   fun _ _ _ _ _ _ => mq_is (i := 3) rfl rfl rfl,
   fun _ _ _ _ _ => mq_il (i := 3) rfl rfl,
   fun _ _ => mq_push rfl,
   fun _ _ _ _ => mq_ic_ne rfl,
   fun _ _ _ _ _ => mq_il (i := 1) rfl rfl,
   fun _ _ _ => mq_if_ne rfl,
   fun _ _ => mq_push rfl,
   fun _ _ _ _ _ _ => mq_is (i := 1) rfl rfl rfl,
   fun _ _ _ _ _ => mq_al (i := 0) rfl rfl,
   fun _ _ _ => mq_dup rfl rfl,
   fun _ _ _ h0 => mq_getI rfl h0,
   fun _ _ => mq_push rfl,
   fun _ _ _ _ => mq_bi rfl,
   fun _ _ _ _ h0 => mq_putI rfl h0,
   fun _ _ _ _ _ => mq_al (i := 0) rfl rfl,
   fun _ _ _ _ _ => mq_il (i := 3) rfl rfl,
   fun _ _ _ _ _ => mq_al (i := 0) rfl rfl,
   fun _ _ _ h0 => mq_getR rfl h0,
   fun _ _ => mq_push rfl,
   fun _ _ => mq_push rfl,
   fun _ _ _ _ _ _ h0 => mq_cVv (na := 4) rfl rfl (Nat.le_of_ble_eq_true rfl) (Nat.le_of_ble_eq_true rfl) h0,
   fun _ _ => mq_go rfl,
   fun _ _ _ _ _ => mq_il (i := 3) rfl rfl,
   fun _ _ => mq_push rfl,
   fun _ _ _ _ => mq_ic_ne rfl,
   fun _ _ _ _ _ => mq_al (i := 0) rfl rfl,
   fun _ _ _ h0 => mq_getI rfl h0,
   fun _ _ => mq_push rfl,
   fun _ _ _ _ => mq_ic_ge rfl,
   fun _ _ _ _ _ => mq_al (i := 0) rfl rfl,
   fun _ _ _ => mq_dup rfl rfl,
   fun _ _ _ h0 => mq_getI rfl h0,
   fun _ _ => mq_push rfl,
   fun _ _ _ _ => mq_bi rfl,
   fun _ _ _ _ h0 => mq_putI rfl h0,
   fun _ _ _ _ _ => mq_al (i := 0) rfl rfl,
   fun _ _ _ _ _ => mq_il (i := 3) rfl rfl,
   fun _ _ _ _ _ => mq_al (i := 0) rfl rfl,
   fun _ _ _ h0 => mq_getR rfl h0,
   fun _ _ => mq_push rfl,
   fun _ _ _ _ _ => mq_al (i := 0) rfl rfl,
   fun _ _ _ h0 => mq_getI rfl h0,
   fun _ _ _ _ => mq_bi rfl,
   fun _ _ => mq_push rfl,
   fun _ _ _ _ _ _ h0 => mq_cVv (na := 4) rfl rfl (Nat.le_of_ble_eq_true rfl) (Nat.le_of_ble_eq_true rfl) h0,
   fun _ _ _ _ _ => mq_al (i := 0) rfl rfl,
   fun _ _ _ => mq_dup rfl rfl,
   fun _ _ _ h0 => mq_getI rfl h0,
   fun _ _ => mq_push rfl,
   fun _ _ _ _ => mq_bi rfl,
   fun _ _ _ _ h0 => mq_putI rfl h0,
   fun _ _ => mq_go rfl,
   fun _ _ _ _ _ => mq_il (i := 3) rfl rfl,
   fun _ _ => mq_push rfl,
   fun _ _ _ _ => mq_ic_ne rfl,
   fun _ _ _ _ _ => mq_al (i := 0) rfl rfl,
   fun _ _ _ h0 => mq_getI rfl h0,
   fun _ _ => mq_push rfl,
   fun _ _ _ _ => mq_ic_ge rfl,
   fun _ _ _ _ _ => mq_al (i := 0) rfl rfl,
   fun _ _ _ => mq_dup rfl rfl,
   fun _ _ _ h0 => mq_getI rfl h0,
   fun _ _ => mq_push rfl,
   fun _ _ _ _ => mq_bi rfl,
   fun _ _ _ _ h0 => mq_putI rfl h0,
   fun _ _ _ _ _ => mq_al (i := 0) rfl rfl,
   fun _ _ _ _ _ => mq_il (i := 3) rfl rfl,
   fun _ _ _ _ _ => mq_al (i := 0) rfl rfl,
   fun _ _ _ h0 => mq_getR rfl h0,
   fun _ _ => mq_push rfl,
   fun _ _ _ _ _ => mq_al (i := 0) rfl rfl,
   fun _ _ _ h0 => mq_getI rfl h0,
   fun _ _ _ _ => mq_bi rfl,
   fun _ _ => mq_push rfl,
   fun _ _ _ _ _ _ h0 => mq_cVv (na := 4) rfl rfl (Nat.le_of_ble_eq_true rfl) (Nat.le_of_ble_eq_true rfl) h0,
   fun _ _ _ _ _ => mq_al (i := 0) rfl rfl,
   fun _ _ _ => mq_dup rfl rfl,
   fun _ _ _ h0 => mq_getI rfl h0,
   fun _ _ => mq_push rfl,
   fun _ _ _ _ => mq_bi rfl,
   fun _ _ _ _ h0 => mq_putI rfl h0,
   fun _ _ => mq_go rfl,
   fun _ _ _ _ _ => mq_al (i := 0) rfl rfl,
   fun _ _ h0 => mq_cVv (na := 0) rfl rfl (Nat.le_of_ble_eq_true rfl) (Nat.le_of_ble_eq_true rfl) h0,
   fun _ _ _ _ _ => mq_al (i := 0) rfl rfl,
   fun _ _ _ h0 => mq_getI rfl h0,
   fun _ _ => mq_push rfl,
   fun _ _ _ _ => mq_ic_ne rfl,
   fun _ _ _ _ _ => mq_al (i := 0) rfl rfl,
   fun _ _ h0 => mq_cVr (na := 0) rfl rfl (Nat.le_of_ble_eq_true rfl) (Nat.le_of_ble_eq_true rfl) h0,
   fun _ _ => mq_push rfl,
   fun _ _ _ _ => mq_ic_ne rfl,
   fun _ _ => mq_push rfl,
   fun _ _ => mq_go rfl,
   fun _ _ => mq_push rfl,
   fun _ _ _ _ _ _ => mq_is (i := 2) rfl rfl rfl,
   fun _ _ _ _ _ => mq_al (i := 0) rfl rfl,
   fun _ _ _ => mq_dup rfl rfl,
   fun _ _ _ h0 => mq_getI rfl h0,
   fun _ _ _ _ _ => mq_il (i := 2) rfl rfl,
   fun _ _ _ => mq_if_eq rfl,
   fun _ _ => mq_push rfl,
   fun _ _ => mq_go rfl,
   fun _ _ => mq_push rfl,
   fun _ _ _ _ => mq_bi rfl,
   fun _ _ _ _ h0 => mq_putI rfl h0,
   fun _ _ => mq_go rfl,
   fun _ _ _ _ _ => mq_al (i := 0) rfl rfl,
   fun _ _ _ h0 => mq_getI rfl h0,
   fun _ _ => mq_push rfl,
   fun _ _ _ _ => mq_ic_ne rfl,
   fun _ _ _ _ _ => mq_al (i := 0) rfl rfl,
   fun _ _ h0 => mq_cVr (na := 0) rfl rfl (Nat.le_of_ble_eq_true rfl) (Nat.le_of_ble_eq_true rfl) h0,
   fun _ _ => mq_push rfl,
   fun _ _ _ _ => mq_ic_ne rfl,
   fun _ _ _ _ _ => mq_al (i := 0) rfl rfl,
   fun _ _ h0 => mq_cVr (na := 0) rfl rfl (Nat.le_of_ble_eq_true rfl) (Nat.le_of_ble_eq_true rfl) h0,
   fun _ _ _ => mq_if_ne rfl,
   fun _ _ _ _ _ => mq_al (i := 0) rfl rfl,
   fun _ _ h0 => mq_cVv (na := 0) rfl rfl (Nat.le_of_ble_eq_true rfl) (Nat.le_of_ble_eq_true rfl) h0,
   fun _ _ _ _ _ => mq_al (i := 0) rfl rfl,
   fun _ _ _ h0 => mq_getI rfl h0,
   fun _ _ => mq_ri rfl⟩
theorem hX12_readTown_24 (d n : Nat) (I L : mm_I) (P : mm_P) : ∀ (st : List mm_V) z (l0 : mm_V) (l1 : mm_V) (l3 : mm_V), mm_E d 185 24 [l0, l1, (.inl z), l3] [] st n I L P = mm_E d 185 25 [l0, l1, (.inl z), l3] [] ((.inl z) :: st) n I L P := fun _ _ _ _ _ => mq_il (i := 2) rfl rfl
theorem hX12_readTown_49 (d n : Nat) (I L : mm_I) (P : mm_P) : ∀ (st : List mm_V) z (l0 : mm_V) (l1 : mm_V) (l3 : mm_V), mm_E d 185 49 [l0, l1, (.inl z), l3] [] st n I L P = mm_E d 185 50 [l0, l1, (.inl z), l3] [] ((.inl z) :: st) n I L P := fun _ _ _ _ _ => mq_il (i := 2) rfl rfl
theorem eX12_readTown (d n : Nat) (I L : mm_I) (P : mm_P) (x0 : Option Nat) : mm_rn (d + 1) 185 [.inr (.inr x0)] n I L P = mm_E d 185 0 [.inr (.inr x0), mm_junk, mm_junk, mm_junk] [] [] n I L P := rfl

set_option maxRecDepth 20000 in
set_option maxHeartbeats 8000000 in
theorem kX12_fault (d n : Nat) (I L : mm_I) (P : mm_P) :
  (∀ (st : List mm_V) z (l0 : mm_V), mm_E d 186 0 [l0, (.inl z)] [] st n I L P = mm_E d 186 1 [l0, (.inl z)] [] ((.inl z) :: st) n I L P) ∧
  (∀ (lv : List mm_V) (st : List mm_V) a, mm_E d 186 1 lv [] (.inl a :: st) n I L P = if a = 0 then mm_E d 186 4 lv [] st n I L P else mm_E d 186 11 lv [] st n I L P) ∧
  (∀ (st : List mm_V) z (l1 : mm_V), mm_E d 186 4 [(.inr (.inr z)), l1] [] st n I L P = mm_E d 186 5 [(.inr (.inr z)), l1] [] ((.inr (.inr z)) :: st) n I L P) ∧
  (∀ (lv : List mm_V) a, (mm_ok n a 12) → mm_E d 186 5 lv [] (.inr (.inr (some a)) :: []) n I L P = mm_kr d 186 8 lv [] [] n (mm_rn d 185 [.inr (.inr (some a))] n I L P)) ∧
  (∀ (lv : List mm_V) (st : List mm_V), mm_E d 186 8 lv [] st n I L P = mm_E d 186 26 lv [] st n I L P) ∧
  (∀ (st : List mm_V) z (l0 : mm_V), mm_E d 186 11 [l0, (.inl z)] [] st n I L P = mm_E d 186 12 [l0, (.inl z)] [] ((.inl z) :: st) n I L P) ∧
  (∀ (lv : List mm_V) (st : List mm_V), mm_E d 186 12 lv [] st n I L P = mm_E d 186 13 lv [] (.inl 1 :: st) n I L P) ∧
  (∀ (lv : List mm_V) (st : List mm_V) a b, mm_E d 186 13 lv [] (.inl b :: .inl a :: st) n I L P = if a = b then mm_E d 186 16 lv [] st n I L P else mm_E d 186 24 lv [] st n I L P) ∧
  (∀ (st : List mm_V) z (l1 : mm_V), mm_E d 186 16 [(.inr (.inr z)), l1] [] st n I L P = mm_E d 186 17 [(.inr (.inr z)), l1] [] ((.inr (.inr z)) :: st) n I L P) ∧
  (∀ (lv : List mm_V) (st : List mm_V), mm_E d 186 17 lv [] st n I L P = mm_E d 186 18 lv [] (.inl 4 :: st) n I L P) ∧
  (∀ (lv : List mm_V) a x0, (mm_ok n a 12) → mm_E d 186 18 lv [] (.inl x0 :: .inr (.inr (some a)) :: []) n I L P = mm_kr d 186 21 lv [] [] n (mm_rn d 173 [.inr (.inr (some a)), .inl x0] n I L P)) ∧
  (∀ (lv : List mm_V) (st : List mm_V), mm_E d 186 21 lv [] st n I L P = mm_E d 186 26 lv [] st n I L P) ∧
  (∀ (lv : List mm_V) (st : List mm_V), mm_E d 186 24 lv [] st n I L P = mm_E d 186 26 lv [] (.inl (-2) :: st) n I L P) ∧
  (∀ (lv : List mm_V) z, mm_E d 186 26 lv [] [.inl z] n I L P = some (some (.inl z), n, I, L, P)) :=
  ⟨fun _ _ _ => mq_il (i := 1) rfl rfl,
   fun _ _ _ => mq_if_ne rfl,
   fun _ _ _ => mq_al (i := 0) rfl rfl,
   fun _ _ h0 => mq_cVr (na := 0) rfl rfl (Nat.le_of_ble_eq_true rfl) (Nat.le_of_ble_eq_true rfl) h0,
   fun _ _ => mq_go rfl,
   fun _ _ _ => mq_il (i := 1) rfl rfl,
   fun _ _ => mq_push rfl,
   fun _ _ _ _ => mq_ic_ne rfl,
   fun _ _ _ => mq_al (i := 0) rfl rfl,
   fun _ _ => mq_push rfl,
   fun _ _ _ h0 => mq_cVr (na := 1) rfl rfl (Nat.le_of_ble_eq_true rfl) (Nat.le_of_ble_eq_true rfl) h0,
   fun _ _ => mq_go rfl,
   fun _ _ => mq_push rfl,
   fun _ _ => mq_ri rfl⟩
theorem eX12_fault (d n : Nat) (I L : mm_I) (P : mm_P) (x0 : Option Nat) (x1 : Int) : mm_rn (d + 1) 186 [.inr (.inr x0), .inl x1] n I L P = mm_E d 186 0 [.inr (.inr x0), .inl x1] [] [] n I L P := rfl

set_option maxRecDepth 20000 in
set_option maxHeartbeats 8000000 in
theorem kX12_layTold (d n : Nat) (I L : mm_I) (P : mm_P) :
  (∀ (lv : List mm_V) (st : List mm_V), mm_E d 187 0 lv [] st n I L P = mm_E d 187 1 lv [] (.inl 0 :: st) n I L P) ∧
  (∀ (st : List mm_V) z (l0 : mm_V) (l1 : mm_V), mm_E d 187 1 [l0, l1] [] ((.inl z) :: st) n I L P = mm_E d 187 2 [l0, (.inl z)] [] st n I L P) ∧
  (∀ (lv : List mm_V) (st : List mm_V), mm_E d 187 3 lv [] st n I L P = mm_E d 187 5 lv [] (.inl 30 :: st) n I L P) ∧
  (∀ (lv : List mm_V) (st : List mm_V) a b, mm_E d 187 5 lv [] (.inl b :: .inl a :: st) n I L P = if b ≤ a then mm_E d 187 21 lv [] st n I L P else mm_E d 187 8 lv [] st n I L P) ∧
  (∀ (st : List mm_V) z (l1 : mm_V), mm_E d 187 8 [(.inr (.inr z)), l1] [] st n I L P = mm_E d 187 9 [(.inr (.inr z)), l1] [] ((.inr (.inr z)) :: st) n I L P) ∧
  (∀ (lv : List mm_V) (st : List mm_V) a, (mm_ok n a 12) → mm_E d 187 9 lv [] (.inr (.inr (some a)) :: st) n I L P = mm_E d 187 12 lv [] (.inr (.inr (P a 27)) :: st) n I L P) ∧
  (∀ (st : List mm_V) z (l0 : mm_V), mm_E d 187 12 [l0, (.inl z)] [] st n I L P = mm_E d 187 13 [l0, (.inl z)] [] ((.inl z) :: st) n I L P) ∧
  (∀ (lv : List mm_V) (st : List mm_V), mm_E d 187 13 lv [] st n I L P = mm_E d 187 14 lv [] (.inl 0 :: st) n I L P) ∧
  (∀ (lv : List mm_V) (st : List mm_V) a i z, (mm_ix n a 20 i) → mm_E d 187 14 lv [] (.inl z :: .inl i :: .inr (.inr (some a)) :: st) n I L P = mm_E d 187 15 lv [] st n (mm_ui I a i.toNat z) L P) ∧
  (∀ (st : List mm_V) z (l0 : mm_V), mm_E d 187 15 [l0, (.inl z)] [] st n I L P = mm_E d 187 18 [l0, (.inl (mm_add z 1))] [] st n I L P) ∧
  (∀ (lv : List mm_V) (st : List mm_V), mm_E d 187 18 lv [] st n I L P = mm_E d 187 2 lv [] st n I L P) ∧
  (∀ (lv : List mm_V) (st : List mm_V), mm_E d 187 21 lv [] st n I L P = mm_E d 187 22 lv [] (.inl 0 :: st) n I L P) ∧
  (∀ (st : List mm_V) z (l0 : mm_V) (l1 : mm_V), mm_E d 187 22 [l0, l1] [] ((.inl z) :: st) n I L P = mm_E d 187 23 [l0, (.inl z)] [] st n I L P) ∧
  (∀ (st : List mm_V) z (l1 : mm_V), mm_E d 187 24 [(.inr (.inr z)), l1] [] st n I L P = mm_E d 187 25 [(.inr (.inr z)), l1] [] ((.inr (.inr z)) :: st) n I L P) ∧
  (∀ (lv : List mm_V) (st : List mm_V) a, (mm_ok n a 12) → mm_E d 187 25 lv [] (.inr (.inr (some a)) :: st) n I L P = mm_E d 187 28 lv [] (.inl (I a 26) :: st) n I L P) ∧
  (∀ (lv : List mm_V) (st : List mm_V) a b, mm_E d 187 28 lv [] (.inl b :: .inl a :: st) n I L P = if b ≤ a then mm_E d 187 55 lv [] st n I L P else mm_E d 187 31 lv [] st n I L P) ∧
  (∀ (st : List mm_V) z (l1 : mm_V), mm_E d 187 31 [(.inr (.inr z)), l1] [] st n I L P = mm_E d 187 32 [(.inr (.inr z)), l1] [] ((.inr (.inr z)) :: st) n I L P) ∧
  (∀ (lv : List mm_V) (st : List mm_V) a, (mm_ok n a 12) → mm_E d 187 32 lv [] (.inr (.inr (some a)) :: st) n I L P = mm_E d 187 35 lv [] (.inr (.inr (P a 27)) :: st) n I L P) ∧
  (∀ (lv : List mm_V) (st : List mm_V), mm_E d 187 35 lv [] st n I L P = mm_E d 187 36 lv [] (.inl 0 :: st) n I L P) ∧
  (∀ (st : List mm_V) z (l0 : mm_V), mm_E d 187 36 [l0, (.inl z)] [] st n I L P = mm_E d 187 37 [l0, (.inl z)] [] ((.inl z) :: st) n I L P) ∧
  (∀ (lv : List mm_V) (st : List mm_V) a b, mm_E d 187 37 lv [] (.inl b :: .inl a :: st) n I L P = mm_E d 187 38 lv [] (.inl (mm_add a b) :: st) n I L P) ∧
  (∀ (st : List mm_V) z (l1 : mm_V), mm_E d 187 38 [(.inr (.inr z)), l1] [] st n I L P = mm_E d 187 39 [(.inr (.inr z)), l1] [] ((.inr (.inr z)) :: st) n I L P) ∧
  (∀ (lv : List mm_V) (st : List mm_V) a, (mm_ok n a 12) → mm_E d 187 39 lv [] (.inr (.inr (some a)) :: st) n I L P = mm_E d 187 42 lv [] (.inr (.inr (P a 23)) :: st) n I L P) ∧
  (∀ (lv : List mm_V) (st : List mm_V), mm_E d 187 42 lv [] st n I L P = mm_E d 187 43 lv [] (.inl 2 :: st) n I L P) ∧
  (∀ (st : List mm_V) z (l0 : mm_V), mm_E d 187 43 [l0, (.inl z)] [] st n I L P = mm_E d 187 44 [l0, (.inl z)] [] ((.inl z) :: st) n I L P) ∧
  (∀ (lv : List mm_V) (st : List mm_V) a b, mm_E d 187 44 lv [] (.inl b :: .inl a :: st) n I L P = mm_E d 187 45 lv [] (.inl (mm_mul a b) :: st) n I L P) ∧
  (∀ (lv : List mm_V) (st : List mm_V), mm_E d 187 45 lv [] st n I L P = mm_E d 187 46 lv [] (.inl 0 :: st) n I L P) ∧
  (∀ (lv : List mm_V) (st : List mm_V) a b, mm_E d 187 46 lv [] (.inl b :: .inl a :: st) n I L P = mm_E d 187 47 lv [] (.inl (mm_add a b) :: st) n I L P) ∧
  (∀ (lv : List mm_V) (st : List mm_V) a i, (mm_ix n a 20 i) → mm_E d 187 47 lv [] (.inl i :: .inr (.inr (some a)) :: st) n I L P = mm_E d 187 48 lv [] (.inl (I a i.toNat) :: st) n I L P) ∧
  (∀ (lv : List mm_V) (st : List mm_V) a i z, (mm_ix n a 20 i) → mm_E d 187 48 lv [] (.inl z :: .inl i :: .inr (.inr (some a)) :: st) n I L P = mm_E d 187 49 lv [] st n (mm_ui I a i.toNat z) L P) ∧
  (∀ (st : List mm_V) z (l0 : mm_V), mm_E d 187 49 [l0, (.inl z)] [] st n I L P = mm_E d 187 52 [l0, (.inl (mm_add z 1))] [] st n I L P) ∧
  (∀ (lv : List mm_V) (st : List mm_V), mm_E d 187 52 lv [] st n I L P = mm_E d 187 23 lv [] st n I L P) ∧
  (∀ (st : List mm_V) z (l1 : mm_V), mm_E d 187 55 [(.inr (.inr z)), l1] [] st n I L P = mm_E d 187 56 [(.inr (.inr z)), l1] [] ((.inr (.inr z)) :: st) n I L P) ∧
  (∀ (lv : List mm_V) (st : List mm_V) a, (mm_ok n a 12) → mm_E d 187 56 lv [] (.inr (.inr (some a)) :: st) n I L P = mm_E d 187 59 lv [] (.inr (.inr (P a 27)) :: st) n I L P) ∧
  (∀ (lv : List mm_V) (st : List mm_V), mm_E d 187 59 lv [] st n I L P = mm_E d 187 61 lv [] (.inl 25 :: st) n I L P) ∧
  (∀ (st : List mm_V) z (l1 : mm_V), mm_E d 187 61 [(.inr (.inr z)), l1] [] st n I L P = mm_E d 187 62 [(.inr (.inr z)), l1] [] ((.inr (.inr z)) :: st) n I L P) ∧
  (∀ (lv : List mm_V) (st : List mm_V) a, (mm_ok n a 12) → mm_E d 187 62 lv [] (.inr (.inr (some a)) :: st) n I L P = mm_E d 187 65 lv [] (.inr (.inr (P a 22)) :: st) n I L P) ∧
  (∀ (lv : List mm_V) (st : List mm_V), mm_E d 187 65 lv [] st n I L P = mm_E d 187 66 lv [] (.inl 0 :: st) n I L P) ∧
  (∀ (lv : List mm_V) (st : List mm_V) a i, (mm_ix n a 20 i) → mm_E d 187 66 lv [] (.inl i :: .inr (.inr (some a)) :: st) n I L P = mm_E d 187 67 lv [] (.inl (I a i.toNat) :: st) n I L P) ∧
  (∀ (lv : List mm_V) (st : List mm_V) a i z, (mm_ix n a 20 i) → mm_E d 187 67 lv [] (.inl z :: .inl i :: .inr (.inr (some a)) :: st) n I L P = mm_E d 187 68 lv [] st n (mm_ui I a i.toNat z) L P) ∧
  (∀ (st : List mm_V) z (l1 : mm_V), mm_E d 187 68 [(.inr (.inr z)), l1] [] st n I L P = mm_E d 187 69 [(.inr (.inr z)), l1] [] ((.inr (.inr z)) :: st) n I L P) ∧
  (∀ (lv : List mm_V) (st : List mm_V) a, (mm_ok n a 12) → mm_E d 187 69 lv [] (.inr (.inr (some a)) :: st) n I L P = mm_E d 187 72 lv [] (.inr (.inr (P a 27)) :: st) n I L P) ∧
  (∀ (lv : List mm_V) (st : List mm_V), mm_E d 187 72 lv [] st n I L P = mm_E d 187 74 lv [] (.inl 26 :: st) n I L P) ∧
  (∀ (lv : List mm_V) (st : List mm_V), mm_E d 187 74 lv [] st n I L P = mm_E d 187 75 lv [] (.inl 3 :: st) n I L P) ∧
  (∀ (lv : List mm_V) (st : List mm_V) a i z, (mm_ix n a 20 i) → mm_E d 187 75 lv [] (.inl z :: .inl i :: .inr (.inr (some a)) :: st) n I L P = mm_E d 187 76 lv [] st n (mm_ui I a i.toNat z) L P) ∧
  (∀ (lv : List mm_V), mm_E d 187 76 lv [] [] n I L P = some (none, n, I, L, P)) :=
  ⟨fun _ _ => mq_push rfl,
   fun _ _ _ _ => mq_is (i := 1) rfl rfl rfl,
   fun _ _ => mq_push rfl,
   fun _ _ _ _ => mq_ic_ge rfl,
   fun _ _ _ => mq_al (i := 0) rfl rfl,
   fun _ _ _ h0 => mq_getR rfl h0,
   fun _ _ _ => mq_il (i := 1) rfl rfl,
   fun _ _ => mq_push rfl,
   fun _ _ _ _ _ h0 => mq_iast rfl h0,
   fun _ _ _ => mq_iinc (i := 1) rfl rfl rfl rfl,
   fun _ _ => mq_go rfl,
   fun _ _ => mq_push rfl,
   fun _ _ _ _ => mq_is (i := 1) rfl rfl rfl,
   fun _ _ _ => mq_al (i := 0) rfl rfl,
   fun _ _ _ h0 => mq_getI rfl h0,
   fun _ _ _ _ => mq_ic_ge rfl,
   fun _ _ _ => mq_al (i := 0) rfl rfl,
   fun _ _ _ h0 => mq_getR rfl h0,
   fun _ _ => mq_push rfl,
   fun _ _ _ => mq_il (i := 1) rfl rfl,
   fun _ _ _ _ => mq_bi rfl,
   fun _ _ _ => mq_al (i := 0) rfl rfl,
   fun _ _ _ h0 => mq_getR rfl h0,
   fun _ _ => mq_push rfl,
   fun _ _ _ => mq_il (i := 1) rfl rfl,
   fun _ _ _ _ => mq_bi rfl,
   fun _ _ => mq_push rfl,
   fun _ _ _ _ => mq_bi rfl,
   fun _ _ _ _ h0 => mq_iald rfl h0,
   fun _ _ _ _ _ h0 => mq_iast rfl h0,
   fun _ _ _ => mq_iinc (i := 1) rfl rfl rfl rfl,
   fun _ _ => mq_go rfl,
   fun _ _ _ => mq_al (i := 0) rfl rfl,
   fun _ _ _ h0 => mq_getR rfl h0,
   fun _ _ => mq_push rfl,
   fun _ _ _ => mq_al (i := 0) rfl rfl,
   fun _ _ _ h0 => mq_getR rfl h0,
   fun _ _ => mq_push rfl,
   fun _ _ _ _ h0 => mq_iald rfl h0,
   fun _ _ _ _ _ h0 => mq_iast rfl h0,
   fun _ _ _ => mq_al (i := 0) rfl rfl,
   fun _ _ _ h0 => mq_getR rfl h0,
   fun _ _ => mq_push rfl,
   fun _ _ => mq_push rfl,
   fun _ _ _ _ _ h0 => mq_iast rfl h0,
   fun _ => mq_rv rfl⟩
theorem hX12_layTold_2 (d n : Nat) (I L : mm_I) (P : mm_P) : ∀ (st : List mm_V) z (l0 : mm_V), mm_E d 187 2 [l0, (.inl z)] [] st n I L P = mm_E d 187 3 [l0, (.inl z)] [] ((.inl z) :: st) n I L P := fun _ _ _ => mq_il (i := 1) rfl rfl
theorem hX12_layTold_23 (d n : Nat) (I L : mm_I) (P : mm_P) : ∀ (st : List mm_V) z (l0 : mm_V), mm_E d 187 23 [l0, (.inl z)] [] st n I L P = mm_E d 187 24 [l0, (.inl z)] [] ((.inl z) :: st) n I L P := fun _ _ _ => mq_il (i := 1) rfl rfl
theorem eX12_layTold (d n : Nat) (I L : mm_I) (P : mm_P) (x0 : Option Nat) : mm_rn (d + 1) 187 [.inr (.inr x0)] n I L P = mm_E d 187 0 [.inr (.inr x0), mm_junk] [] [] n I L P := rfl

set_option maxRecDepth 20000 in
set_option maxHeartbeats 8000000 in
theorem kX12_laySteps (d n : Nat) (I L : mm_I) (P : mm_P) :
  (∀ (lv : List mm_V) (st : List mm_V), mm_E d 188 0 lv [] st n I L P = mm_E d 188 1 lv [] (.inl 0 :: st) n I L P) ∧
  (∀ (st : List mm_V) z (l0 : mm_V) (l1 : mm_V) (l2 : mm_V) (l3 : mm_V) (l4 : mm_V), mm_E d 188 1 [l0, l1, l2, l3, l4] [] ((.inl z) :: st) n I L P = mm_E d 188 2 [l0, (.inl z), l2, l3, l4] [] st n I L P) ∧
  (∀ (lv : List mm_V) (st : List mm_V), mm_E d 188 3 lv [] st n I L P = mm_E d 188 5 lv [] (.inl 64 :: st) n I L P) ∧
  (∀ (lv : List mm_V) (st : List mm_V) a b, mm_E d 188 5 lv [] (.inl b :: .inl a :: st) n I L P = if b ≤ a then mm_E d 188 58 lv [] st n I L P else mm_E d 188 8 lv [] st n I L P) ∧
  (∀ (st : List mm_V) z (l0 : mm_V) (l2 : mm_V) (l3 : mm_V) (l4 : mm_V), mm_E d 188 8 [l0, (.inl z), l2, l3, l4] [] st n I L P = mm_E d 188 9 [l0, (.inl z), l2, l3, l4] [] ((.inl z) :: st) n I L P) ∧
  (∀ (lv : List mm_V) (st : List mm_V), mm_E d 188 9 lv [] st n I L P = mm_E d 188 11 lv [] (.inl 8 :: st) n I L P) ∧
  (∀ (lv : List mm_V) (st : List mm_V) a b, (¬ b = 0) → mm_E d 188 11 lv [] (.inl b :: .inl a :: st) n I L P = mm_E d 188 12 lv [] (.inl (mm_w (Int.tdiv a b)) :: st) n I L P) ∧
  (∀ (st : List mm_V) z (l0 : mm_V) (l1 : mm_V) (l2 : mm_V) (l3 : mm_V) (l4 : mm_V), mm_E d 188 12 [l0, l1, l2, l3, l4] [] ((.inl z) :: st) n I L P = mm_E d 188 13 [l0, l1, (.inl z), l3, l4] [] st n I L P) ∧
  (∀ (st : List mm_V) z (l0 : mm_V) (l2 : mm_V) (l3 : mm_V) (l4 : mm_V), mm_E d 188 13 [l0, (.inl z), l2, l3, l4] [] st n I L P = mm_E d 188 14 [l0, (.inl z), l2, l3, l4] [] ((.inl z) :: st) n I L P) ∧
  (∀ (lv : List mm_V) (st : List mm_V), mm_E d 188 14 lv [] st n I L P = mm_E d 188 16 lv [] (.inl 8 :: st) n I L P) ∧
  (∀ (lv : List mm_V) (st : List mm_V) a b, (¬ b = 0) → mm_E d 188 16 lv [] (.inl b :: .inl a :: st) n I L P = mm_E d 188 17 lv [] (.inl (mm_w (Int.tmod a b)) :: st) n I L P) ∧
  (∀ (st : List mm_V) z (l0 : mm_V) (l1 : mm_V) (l2 : mm_V) (l3 : mm_V) (l4 : mm_V), mm_E d 188 17 [l0, l1, l2, l3, l4] [] ((.inl z) :: st) n I L P = mm_E d 188 18 [l0, l1, l2, (.inl z), l4] [] st n I L P) ∧
  (∀ (st : List mm_V) z (l1 : mm_V) (l2 : mm_V) (l3 : mm_V) (l4 : mm_V), mm_E d 188 18 [(.inr (.inr z)), l1, l2, l3, l4] [] st n I L P = mm_E d 188 19 [(.inr (.inr z)), l1, l2, l3, l4] [] ((.inr (.inr z)) :: st) n I L P) ∧
  (∀ (lv : List mm_V) (st : List mm_V) a, (mm_ok n a 12) → mm_E d 188 19 lv [] (.inr (.inr (some a)) :: st) n I L P = mm_E d 188 22 lv [] (.inr (.inr (P a 25)) :: st) n I L P) ∧
  (∀ (st : List mm_V) z (l0 : mm_V) (l2 : mm_V) (l3 : mm_V) (l4 : mm_V), mm_E d 188 22 [l0, (.inl z), l2, l3, l4] [] st n I L P = mm_E d 188 23 [l0, (.inl z), l2, l3, l4] [] ((.inl z) :: st) n I L P) ∧
  (∀ (st : List mm_V) z (l0 : mm_V) (l1 : mm_V) (l3 : mm_V) (l4 : mm_V), mm_E d 188 23 [l0, l1, (.inl z), l3, l4] [] st n I L P = mm_E d 188 24 [l0, l1, (.inl z), l3, l4] [] ((.inl z) :: st) n I L P) ∧
  (∀ (st : List mm_V) z (l0 : mm_V) (l1 : mm_V) (l2 : mm_V) (l4 : mm_V), mm_E d 188 24 [l0, l1, l2, (.inl z), l4] [] st n I L P = mm_E d 188 25 [l0, l1, l2, (.inl z), l4] [] ((.inl z) :: st) n I L P) ∧
  (∀ (lv : List mm_V) (st : List mm_V) a b, mm_E d 188 25 lv [] (.inl b :: .inl a :: st) n I L P = if a = b then mm_E d 188 28 lv [] st n I L P else mm_E d 188 32 lv [] st n I L P) ∧
  (∀ (lv : List mm_V) (st : List mm_V), mm_E d 188 28 lv [] st n I L P = mm_E d 188 29 lv [] (.inl 0 :: st) n I L P) ∧
  (∀ (lv : List mm_V) (st : List mm_V), mm_E d 188 29 lv [] st n I L P = mm_E d 188 51 lv [] st n I L P) ∧
  (∀ (st : List mm_V) z (l1 : mm_V) (l2 : mm_V) (l3 : mm_V) (l4 : mm_V), mm_E d 188 32 [(.inr (.inr z)), l1, l2, l3, l4] [] st n I L P = mm_E d 188 33 [(.inr (.inr z)), l1, l2, l3, l4] [] ((.inr (.inr z)) :: st) n I L P) ∧
  (∀ (lv : List mm_V) (st : List mm_V) a, (mm_ok n a 12) → mm_E d 188 33 lv [] (.inr (.inr (some a)) :: st) n I L P = mm_E d 188 36 lv [] (.inr (.inr (P a 24)) :: st) n I L P) ∧
  (∀ (st : List mm_V) z (l0 : mm_V) (l1 : mm_V) (l3 : mm_V) (l4 : mm_V), mm_E d 188 36 [l0, l1, (.inl z), l3, l4] [] st n I L P = mm_E d 188 37 [l0, l1, (.inl z), l3, l4] [] ((.inl z) :: st) n I L P) ∧
  (∀ (lv : List mm_V) (st : List mm_V) a i, (mm_ix n a 20 i) → mm_E d 188 37 lv [] (.inl i :: .inr (.inr (some a)) :: st) n I L P = mm_E d 188 38 lv [] (.inl (I a i.toNat) :: st) n I L P) ∧
  (∀ (st : List mm_V) z (l0 : mm_V) (l1 : mm_V) (l2 : mm_V) (l4 : mm_V), mm_E d 188 38 [l0, l1, l2, (.inl z), l4] [] st n I L P = mm_E d 188 39 [l0, l1, l2, (.inl z), l4] [] ((.inl z) :: st) n I L P) ∧
  (∀ (lv : List mm_V) x0 x1 w0 w1, mm_E d 188 39 lv [] (.inl x1 :: .inl x0 :: [.inl w0, .inr (.inr w1)]) n I L P = mm_kr d 188 42 lv [] [.inl w0, .inr (.inr w1)] n (mm_rn d 146 [.inl x0, .inl x1] n I L P)) ∧
  (∀ (lv : List mm_V) (st : List mm_V) a, mm_E d 188 42 lv [] (.inl a :: st) n I L P = if a = 0 then mm_E d 188 49 lv [] st n I L P else mm_E d 188 45 lv [] st n I L P) ∧
  (∀ (lv : List mm_V) (st : List mm_V), mm_E d 188 45 lv [] st n I L P = mm_E d 188 46 lv [] (.inl 1 :: st) n I L P) ∧
  (∀ (lv : List mm_V) (st : List mm_V), mm_E d 188 46 lv [] st n I L P = mm_E d 188 51 lv [] st n I L P) ∧
  (∀ (lv : List mm_V) (st : List mm_V), mm_E d 188 49 lv [] st n I L P = mm_E d 188 51 lv [] (.inl 99 :: st) n I L P) ∧
  (∀ (lv : List mm_V) (st : List mm_V) a i z, (mm_ix n a 20 i) → mm_E d 188 51 lv [] (.inl z :: .inl i :: .inr (.inr (some a)) :: st) n I L P = mm_E d 188 52 lv [] st n (mm_ui I a i.toNat z) L P) ∧
  (∀ (st : List mm_V) z (l0 : mm_V) (l2 : mm_V) (l3 : mm_V) (l4 : mm_V), mm_E d 188 52 [l0, (.inl z), l2, l3, l4] [] st n I L P = mm_E d 188 55 [l0, (.inl (mm_add z 1)), l2, l3, l4] [] st n I L P) ∧
  (∀ (lv : List mm_V) (st : List mm_V), mm_E d 188 55 lv [] st n I L P = mm_E d 188 2 lv [] st n I L P) ∧
  (∀ (lv : List mm_V) (st : List mm_V), mm_E d 188 58 lv [] st n I L P = mm_E d 188 59 lv [] (.inl 0 :: st) n I L P) ∧
  (∀ (st : List mm_V) z (l0 : mm_V) (l1 : mm_V) (l2 : mm_V) (l3 : mm_V) (l4 : mm_V), mm_E d 188 59 [l0, l1, l2, l3, l4] [] ((.inl z) :: st) n I L P = mm_E d 188 60 [l0, (.inl z), l2, l3, l4] [] st n I L P) ∧
  (∀ (lv : List mm_V) (st : List mm_V), mm_E d 188 61 lv [] st n I L P = mm_E d 188 64 lv [] (.inl 512 :: st) n I L P) ∧
  (∀ (lv : List mm_V) (st : List mm_V) a b, mm_E d 188 64 lv [] (.inl b :: .inl a :: st) n I L P = if b ≤ a then mm_E d 188 143 lv [] st n I L P else mm_E d 188 67 lv [] st n I L P) ∧
  (∀ (st : List mm_V) z (l0 : mm_V) (l2 : mm_V) (l3 : mm_V) (l4 : mm_V), mm_E d 188 67 [l0, (.inl z), l2, l3, l4] [] st n I L P = mm_E d 188 68 [l0, (.inl z), l2, l3, l4] [] ((.inl z) :: st) n I L P) ∧
  (∀ (lv : List mm_V) (st : List mm_V), mm_E d 188 68 lv [] st n I L P = mm_E d 188 70 lv [] (.inl 64 :: st) n I L P) ∧
  (∀ (lv : List mm_V) (st : List mm_V) a b, (¬ b = 0) → mm_E d 188 70 lv [] (.inl b :: .inl a :: st) n I L P = mm_E d 188 71 lv [] (.inl (mm_w (Int.tdiv a b)) :: st) n I L P) ∧
  (∀ (st : List mm_V) z (l0 : mm_V) (l1 : mm_V) (l2 : mm_V) (l3 : mm_V) (l4 : mm_V), mm_E d 188 71 [l0, l1, l2, l3, l4] [] ((.inl z) :: st) n I L P = mm_E d 188 72 [l0, l1, (.inl z), l3, l4] [] st n I L P) ∧
  (∀ (st : List mm_V) z (l0 : mm_V) (l2 : mm_V) (l3 : mm_V) (l4 : mm_V), mm_E d 188 72 [l0, (.inl z), l2, l3, l4] [] st n I L P = mm_E d 188 73 [l0, (.inl z), l2, l3, l4] [] ((.inl z) :: st) n I L P) ∧
  (∀ (lv : List mm_V) (st : List mm_V), mm_E d 188 73 lv [] st n I L P = mm_E d 188 75 lv [] (.inl 8 :: st) n I L P) ∧
  (∀ (lv : List mm_V) (st : List mm_V) a b, (¬ b = 0) → mm_E d 188 75 lv [] (.inl b :: .inl a :: st) n I L P = mm_E d 188 76 lv [] (.inl (mm_w (Int.tdiv a b)) :: st) n I L P) ∧
  (∀ (lv : List mm_V) (st : List mm_V), mm_E d 188 76 lv [] st n I L P = mm_E d 188 78 lv [] (.inl 8 :: st) n I L P) ∧
  (∀ (lv : List mm_V) (st : List mm_V) a b, (¬ b = 0) → mm_E d 188 78 lv [] (.inl b :: .inl a :: st) n I L P = mm_E d 188 79 lv [] (.inl (mm_w (Int.tmod a b)) :: st) n I L P) ∧
  (∀ (st : List mm_V) z (l0 : mm_V) (l1 : mm_V) (l2 : mm_V) (l3 : mm_V) (l4 : mm_V), mm_E d 188 79 [l0, l1, l2, l3, l4] [] ((.inl z) :: st) n I L P = mm_E d 188 80 [l0, l1, l2, (.inl z), l4] [] st n I L P) ∧
  (∀ (st : List mm_V) z (l0 : mm_V) (l2 : mm_V) (l3 : mm_V) (l4 : mm_V), mm_E d 188 80 [l0, (.inl z), l2, l3, l4] [] st n I L P = mm_E d 188 81 [l0, (.inl z), l2, l3, l4] [] ((.inl z) :: st) n I L P) ∧
  (∀ (lv : List mm_V) (st : List mm_V), mm_E d 188 81 lv [] st n I L P = mm_E d 188 83 lv [] (.inl 8 :: st) n I L P) ∧
  (∀ (lv : List mm_V) (st : List mm_V) a b, (¬ b = 0) → mm_E d 188 83 lv [] (.inl b :: .inl a :: st) n I L P = mm_E d 188 84 lv [] (.inl (mm_w (Int.tmod a b)) :: st) n I L P) ∧
  (∀ (st : List mm_V) z (l0 : mm_V) (l1 : mm_V) (l2 : mm_V) (l3 : mm_V) (l4 : mm_V), mm_E d 188 84 [l0, l1, l2, l3, l4] [] ((.inl z) :: st) n I L P = mm_E d 188 86 [l0, l1, l2, l3, (.inl z)] [] st n I L P) ∧
  (∀ (st : List mm_V) z (l1 : mm_V) (l2 : mm_V) (l3 : mm_V) (l4 : mm_V), mm_E d 188 86 [(.inr (.inr z)), l1, l2, l3, l4] [] st n I L P = mm_E d 188 87 [(.inr (.inr z)), l1, l2, l3, l4] [] ((.inr (.inr z)) :: st) n I L P) ∧
  (∀ (lv : List mm_V) (st : List mm_V) a, (mm_ok n a 12) → mm_E d 188 87 lv [] (.inr (.inr (some a)) :: st) n I L P = mm_E d 188 90 lv [] (.inr (.inr (P a 25)) :: st) n I L P) ∧
  (∀ (lv : List mm_V) (st : List mm_V), mm_E d 188 90 lv [] st n I L P = mm_E d 188 92 lv [] (.inl 8 :: st) n I L P) ∧
  (∀ (st : List mm_V) z (l0 : mm_V) (l1 : mm_V) (l2 : mm_V) (l4 : mm_V), mm_E d 188 92 [l0, l1, l2, (.inl z), l4] [] st n I L P = mm_E d 188 93 [l0, l1, l2, (.inl z), l4] [] ((.inl z) :: st) n I L P) ∧
  (∀ (lv : List mm_V) (st : List mm_V) a b, mm_E d 188 93 lv [] (.inl b :: .inl a :: st) n I L P = mm_E d 188 94 lv [] (.inl (mm_mul a b) :: st) n I L P) ∧
  (∀ (st : List mm_V) z (l0 : mm_V) (l1 : mm_V) (l2 : mm_V) (l3 : mm_V), mm_E d 188 94 [l0, l1, l2, l3, (.inl z)] [] st n I L P = mm_E d 188 96 [l0, l1, l2, l3, (.inl z)] [] ((.inl z) :: st) n I L P) ∧
  (∀ (lv : List mm_V) (st : List mm_V) a b, mm_E d 188 96 lv [] (.inl b :: .inl a :: st) n I L P = mm_E d 188 97 lv [] (.inl (mm_add a b) :: st) n I L P) ∧
  (∀ (st : List mm_V) z (l1 : mm_V) (l2 : mm_V) (l3 : mm_V) (l4 : mm_V), mm_E d 188 97 [(.inr (.inr z)), l1, l2, l3, l4] [] st n I L P = mm_E d 188 98 [(.inr (.inr z)), l1, l2, l3, l4] [] ((.inr (.inr z)) :: st) n I L P) ∧
  (∀ (lv : List mm_V) (st : List mm_V) a, (mm_ok n a 12) → mm_E d 188 98 lv [] (.inr (.inr (some a)) :: st) n I L P = mm_E d 188 101 lv [] (.inr (.inr (P a 25)) :: st) n I L P) ∧
  (∀ (lv : List mm_V) (st : List mm_V), mm_E d 188 101 lv [] st n I L P = mm_E d 188 103 lv [] (.inl 8 :: st) n I L P) ∧
  (∀ (st : List mm_V) z (l0 : mm_V) (l1 : mm_V) (l2 : mm_V) (l4 : mm_V), mm_E d 188 103 [l0, l1, l2, (.inl z), l4] [] st n I L P = mm_E d 188 104 [l0, l1, l2, (.inl z), l4] [] ((.inl z) :: st) n I L P) ∧
  (∀ (lv : List mm_V) (st : List mm_V) a b, mm_E d 188 104 lv [] (.inl b :: .inl a :: st) n I L P = mm_E d 188 105 lv [] (.inl (mm_mul a b) :: st) n I L P) ∧
  (∀ (st : List mm_V) z (l0 : mm_V) (l1 : mm_V) (l2 : mm_V) (l3 : mm_V), mm_E d 188 105 [l0, l1, l2, l3, (.inl z)] [] st n I L P = mm_E d 188 107 [l0, l1, l2, l3, (.inl z)] [] ((.inl z) :: st) n I L P) ∧
  (∀ (lv : List mm_V) (st : List mm_V) a b, mm_E d 188 107 lv [] (.inl b :: .inl a :: st) n I L P = mm_E d 188 108 lv [] (.inl (mm_add a b) :: st) n I L P) ∧
  (∀ (lv : List mm_V) (st : List mm_V) a i, (mm_ix n a 20 i) → mm_E d 188 108 lv [] (.inl i :: .inr (.inr (some a)) :: st) n I L P = mm_E d 188 109 lv [] (.inl (I a i.toNat) :: st) n I L P) ∧
  (∀ (st : List mm_V) z (l1 : mm_V) (l2 : mm_V) (l3 : mm_V) (l4 : mm_V), mm_E d 188 109 [(.inr (.inr z)), l1, l2, l3, l4] [] st n I L P = mm_E d 188 110 [(.inr (.inr z)), l1, l2, l3, l4] [] ((.inr (.inr z)) :: st) n I L P) ∧
  (∀ (lv : List mm_V) (st : List mm_V) a, (mm_ok n a 12) → mm_E d 188 110 lv [] (.inr (.inr (some a)) :: st) n I L P = mm_E d 188 113 lv [] (.inr (.inr (P a 25)) :: st) n I L P) ∧
  (∀ (lv : List mm_V) (st : List mm_V), mm_E d 188 113 lv [] st n I L P = mm_E d 188 115 lv [] (.inl 8 :: st) n I L P) ∧
  (∀ (st : List mm_V) z (l0 : mm_V) (l1 : mm_V) (l2 : mm_V) (l4 : mm_V), mm_E d 188 115 [l0, l1, l2, (.inl z), l4] [] st n I L P = mm_E d 188 116 [l0, l1, l2, (.inl z), l4] [] ((.inl z) :: st) n I L P) ∧
  (∀ (lv : List mm_V) (st : List mm_V) a b, mm_E d 188 116 lv [] (.inl b :: .inl a :: st) n I L P = mm_E d 188 117 lv [] (.inl (mm_mul a b) :: st) n I L P) ∧
  (∀ (st : List mm_V) z (l0 : mm_V) (l1 : mm_V) (l3 : mm_V) (l4 : mm_V), mm_E d 188 117 [l0, l1, (.inl z), l3, l4] [] st n I L P = mm_E d 188 118 [l0, l1, (.inl z), l3, l4] [] ((.inl z) :: st) n I L P) ∧
  (∀ (lv : List mm_V) (st : List mm_V) a b, mm_E d 188 118 lv [] (.inl b :: .inl a :: st) n I L P = mm_E d 188 119 lv [] (.inl (mm_add a b) :: st) n I L P) ∧
  (∀ (lv : List mm_V) (st : List mm_V) a i, (mm_ix n a 20 i) → mm_E d 188 119 lv [] (.inl i :: .inr (.inr (some a)) :: st) n I L P = mm_E d 188 120 lv [] (.inl (I a i.toNat) :: st) n I L P) ∧
  (∀ (st : List mm_V) z (l1 : mm_V) (l2 : mm_V) (l3 : mm_V) (l4 : mm_V), mm_E d 188 120 [(.inr (.inr z)), l1, l2, l3, l4] [] st n I L P = mm_E d 188 121 [(.inr (.inr z)), l1, l2, l3, l4] [] ((.inr (.inr z)) :: st) n I L P) ∧
  (∀ (lv : List mm_V) (st : List mm_V) a, (mm_ok n a 12) → mm_E d 188 121 lv [] (.inr (.inr (some a)) :: st) n I L P = mm_E d 188 124 lv [] (.inr (.inr (P a 25)) :: st) n I L P) ∧
  (∀ (lv : List mm_V) (st : List mm_V), mm_E d 188 124 lv [] st n I L P = mm_E d 188 126 lv [] (.inl 8 :: st) n I L P) ∧
  (∀ (st : List mm_V) z (l0 : mm_V) (l1 : mm_V) (l3 : mm_V) (l4 : mm_V), mm_E d 188 126 [l0, l1, (.inl z), l3, l4] [] st n I L P = mm_E d 188 127 [l0, l1, (.inl z), l3, l4] [] ((.inl z) :: st) n I L P) ∧
  (∀ (lv : List mm_V) (st : List mm_V) a b, mm_E d 188 127 lv [] (.inl b :: .inl a :: st) n I L P = mm_E d 188 128 lv [] (.inl (mm_mul a b) :: st) n I L P) ∧
  (∀ (st : List mm_V) z (l0 : mm_V) (l1 : mm_V) (l2 : mm_V) (l3 : mm_V), mm_E d 188 128 [l0, l1, l2, l3, (.inl z)] [] st n I L P = mm_E d 188 130 [l0, l1, l2, l3, (.inl z)] [] ((.inl z) :: st) n I L P) ∧
  (∀ (lv : List mm_V) (st : List mm_V) a b, mm_E d 188 130 lv [] (.inl b :: .inl a :: st) n I L P = mm_E d 188 131 lv [] (.inl (mm_add a b) :: st) n I L P) ∧
  (∀ (lv : List mm_V) (st : List mm_V) a i, (mm_ix n a 20 i) → mm_E d 188 131 lv [] (.inl i :: .inr (.inr (some a)) :: st) n I L P = mm_E d 188 132 lv [] (.inl (I a i.toNat) :: st) n I L P) ∧
  (∀ (lv : List mm_V) (st : List mm_V) a b, mm_E d 188 132 lv [] (.inl b :: .inl a :: st) n I L P = mm_E d 188 133 lv [] (.inl (mm_add a b) :: st) n I L P) ∧
  (∀ (lv : List mm_V) x0 x1 w0 w1, mm_E d 188 133 lv [] (.inl x1 :: .inl x0 :: [.inl w0, .inr (.inr w1)]) n I L P = mm_kr d 188 136 lv [] [.inl w0, .inr (.inr w1)] n (mm_rn d 267 [.inl x0, .inl x1] n I L P)) ∧
  (∀ (lv : List mm_V) (st : List mm_V) a i z, (mm_ix n a 20 i) → mm_E d 188 136 lv [] (.inl z :: .inl i :: .inr (.inr (some a)) :: st) n I L P = mm_E d 188 137 lv [] st n (mm_ui I a i.toNat z) L P) ∧
  (∀ (st : List mm_V) z (l0 : mm_V) (l2 : mm_V) (l3 : mm_V) (l4 : mm_V), mm_E d 188 137 [l0, (.inl z), l2, l3, l4] [] st n I L P = mm_E d 188 140 [l0, (.inl (mm_add z 1)), l2, l3, l4] [] st n I L P) ∧
  (∀ (lv : List mm_V) (st : List mm_V), mm_E d 188 140 lv [] st n I L P = mm_E d 188 60 lv [] st n I L P) ∧
  (∀ (lv : List mm_V), mm_E d 188 143 lv [] [] n I L P = some (none, n, I, L, P)) :=
  ⟨fun _ _ => mq_push rfl,
   fun _ _ _ _ _ _ _ => mq_is (i := 1) rfl rfl rfl,
   fun _ _ => mq_push rfl,
   fun _ _ _ _ => mq_ic_ge rfl,
   fun _ _ _ _ _ _ => mq_il (i := 1) rfl rfl,
   fun _ _ => mq_push rfl,
   fun _ _ _ _ h0 => mq_di rfl h0,
   fun _ _ _ _ _ _ _ => mq_is (i := 2) rfl rfl rfl,
   fun _ _ _ _ _ _ => mq_il (i := 1) rfl rfl,
   fun _ _ => mq_push rfl,
   fun _ _ _ _ h0 => mq_di rfl h0,
   fun _ _ _ _ _ _ _ => mq_is (i := 3) rfl rfl rfl,
   fun _ _ _ _ _ _ => mq_al (i := 0) rfl rfl,
   fun _ _ _ h0 => mq_getR rfl h0,
   fun _ _ _ _ _ _ => mq_il (i := 1) rfl rfl,
   fun _ _ _ _ _ _ => mq_il (i := 2) rfl rfl,
   fun _ _ _ _ _ _ => mq_il (i := 3) rfl rfl,
   fun _ _ _ _ => mq_ic_ne rfl,
   fun _ _ => mq_push rfl,
   fun _ _ => mq_go rfl,
   fun _ _ _ _ _ _ => mq_al (i := 0) rfl rfl,
   fun _ _ _ h0 => mq_getR rfl h0,
   fun _ _ _ _ _ _ => mq_il (i := 2) rfl rfl,
   fun _ _ _ _ h0 => mq_iald rfl h0,
   fun _ _ _ _ _ _ => mq_il (i := 3) rfl rfl,
   fun _ _ _ _ _ => mq_cSr (na := 2) rfl (Nat.le_of_ble_eq_true rfl) (Nat.le_of_ble_eq_true rfl),
   fun _ _ _ => mq_if_eq rfl,
   fun _ _ => mq_push rfl,
   fun _ _ => mq_go rfl,
   fun _ _ => mq_push rfl,
   fun _ _ _ _ _ h0 => mq_iast rfl h0,
   fun _ _ _ _ _ _ => mq_iinc (i := 1) rfl rfl rfl rfl,
   fun _ _ => mq_go rfl,
   fun _ _ => mq_push rfl,
   fun _ _ _ _ _ _ _ => mq_is (i := 1) rfl rfl rfl,
   fun _ _ => mq_push rfl,
   fun _ _ _ _ => mq_ic_ge rfl,
   fun _ _ _ _ _ _ => mq_il (i := 1) rfl rfl,
   fun _ _ => mq_push rfl,
   fun _ _ _ _ h0 => mq_di rfl h0,
   fun _ _ _ _ _ _ _ => mq_is (i := 2) rfl rfl rfl,
   fun _ _ _ _ _ _ => mq_il (i := 1) rfl rfl,
   fun _ _ => mq_push rfl,
   fun _ _ _ _ h0 => mq_di rfl h0,
   fun _ _ => mq_push rfl,
   fun _ _ _ _ h0 => mq_di rfl h0,
   fun _ _ _ _ _ _ _ => mq_is (i := 3) rfl rfl rfl,
   fun _ _ _ _ _ _ => mq_il (i := 1) rfl rfl,
   fun _ _ => mq_push rfl,
   fun _ _ _ _ h0 => mq_di rfl h0,
   fun _ _ _ _ _ _ _ => mq_is (i := 4) rfl rfl rfl,
   fun _ _ _ _ _ _ => mq_al (i := 0) rfl rfl,
   fun _ _ _ h0 => mq_getR rfl h0,
   fun _ _ => mq_push rfl,
   fun _ _ _ _ _ _ => mq_il (i := 3) rfl rfl,
   fun _ _ _ _ => mq_bi rfl,
   fun _ _ _ _ _ _ => mq_il (i := 4) rfl rfl,
   fun _ _ _ _ => mq_bi rfl,
   fun _ _ _ _ _ _ => mq_al (i := 0) rfl rfl,
   fun _ _ _ h0 => mq_getR rfl h0,
   fun _ _ => mq_push rfl,
   fun _ _ _ _ _ _ => mq_il (i := 3) rfl rfl,
   fun _ _ _ _ => mq_bi rfl,
   fun _ _ _ _ _ _ => mq_il (i := 4) rfl rfl,
   fun _ _ _ _ => mq_bi rfl,
   fun _ _ _ _ h0 => mq_iald rfl h0,
   fun _ _ _ _ _ _ => mq_al (i := 0) rfl rfl,
   fun _ _ _ h0 => mq_getR rfl h0,
   fun _ _ => mq_push rfl,
   fun _ _ _ _ _ _ => mq_il (i := 3) rfl rfl,
   fun _ _ _ _ => mq_bi rfl,
   fun _ _ _ _ _ _ => mq_il (i := 2) rfl rfl,
   fun _ _ _ _ => mq_bi rfl,
   fun _ _ _ _ h0 => mq_iald rfl h0,
   fun _ _ _ _ _ _ => mq_al (i := 0) rfl rfl,
   fun _ _ _ h0 => mq_getR rfl h0,
   fun _ _ => mq_push rfl,
   fun _ _ _ _ _ _ => mq_il (i := 2) rfl rfl,
   fun _ _ _ _ => mq_bi rfl,
   fun _ _ _ _ _ _ => mq_il (i := 4) rfl rfl,
   fun _ _ _ _ => mq_bi rfl,
   fun _ _ _ _ h0 => mq_iald rfl h0,
   fun _ _ _ _ => mq_bi rfl,
   fun _ _ _ _ _ => mq_cSr (na := 2) rfl (Nat.le_of_ble_eq_true rfl) (Nat.le_of_ble_eq_true rfl),
   fun _ _ _ _ _ h0 => mq_iast rfl h0,
   fun _ _ _ _ _ _ => mq_iinc (i := 1) rfl rfl rfl rfl,
   fun _ _ => mq_go rfl,
   fun _ => mq_rv rfl⟩
theorem hX12_laySteps_2 (d n : Nat) (I L : mm_I) (P : mm_P) : ∀ (st : List mm_V) z (l0 : mm_V) (l2 : mm_V) (l3 : mm_V) (l4 : mm_V), mm_E d 188 2 [l0, (.inl z), l2, l3, l4] [] st n I L P = mm_E d 188 3 [l0, (.inl z), l2, l3, l4] [] ((.inl z) :: st) n I L P := fun _ _ _ _ _ _ => mq_il (i := 1) rfl rfl
theorem hX12_laySteps_60 (d n : Nat) (I L : mm_I) (P : mm_P) : ∀ (st : List mm_V) z (l0 : mm_V) (l2 : mm_V) (l3 : mm_V) (l4 : mm_V), mm_E d 188 60 [l0, (.inl z), l2, l3, l4] [] st n I L P = mm_E d 188 61 [l0, (.inl z), l2, l3, l4] [] ((.inl z) :: st) n I L P := fun _ _ _ _ _ _ => mq_il (i := 1) rfl rfl
theorem eX12_laySteps (d n : Nat) (I L : mm_I) (P : mm_P) (x0 : Option Nat) : mm_rn (d + 1) 188 [.inr (.inr x0)] n I L P = mm_E d 188 0 [.inr (.inr x0), mm_junk, mm_junk, mm_junk, mm_junk] [] [] n I L P := rfl

set_option maxRecDepth 20000 in
set_option maxHeartbeats 8000000 in
theorem kX12_takeTown (d n : Nat) (I L : mm_I) (P : mm_P) :
  (∀ (st : List mm_V) z (l1 : mm_V), mm_E d 189 0 [(.inr (.inr z)), l1] [] st n I L P = mm_E d 189 1 [(.inr (.inr z)), l1] [] ((.inr (.inr z)) :: st) n I L P) ∧
  (∀ (st : List mm_V) z (l1 : mm_V), mm_E d 189 1 [(.inr (.inr z)), l1] [] st n I L P = mm_E d 189 2 [(.inr (.inr z)), l1] [] ((.inr (.inr z)) :: st) n I L P) ∧
  (∀ (lv : List mm_V) (st : List mm_V) a, (mm_ok n a 12) → mm_E d 189 2 lv [] (.inr (.inr (some a)) :: st) n I L P = mm_E d 189 5 lv [] (.inl (I a 20) :: st) n I L P) ∧
  (∀ (lv : List mm_V) (st : List mm_V) a z, (mm_ok n a 12) → mm_E d 189 5 lv [] (.inl z :: .inr (.inr (some a)) :: st) n I L P = mm_E d 189 8 lv [] st n (mm_ui I a 26 z) L P) ∧
  (∀ (lv : List mm_V) (st : List mm_V), mm_E d 189 8 lv [] st n I L P = mm_E d 189 9 lv [] (.inl 0 :: st) n I L P) ∧
  (∀ (st : List mm_V) z (l0 : mm_V) (l1 : mm_V), mm_E d 189 9 [l0, l1] [] ((.inl z) :: st) n I L P = mm_E d 189 10 [l0, (.inl z)] [] st n I L P) ∧
  (∀ (lv : List mm_V) (st : List mm_V), mm_E d 189 11 lv [] st n I L P = mm_E d 189 12 lv [] (.inl 3 :: st) n I L P) ∧
  (∀ (lv : List mm_V) (st : List mm_V) a b, mm_E d 189 12 lv [] (.inl b :: .inl a :: st) n I L P = if b ≤ a then mm_E d 189 33 lv [] st n I L P else mm_E d 189 15 lv [] st n I L P) ∧
  (∀ (st : List mm_V) z (l1 : mm_V), mm_E d 189 15 [(.inr (.inr z)), l1] [] st n I L P = mm_E d 189 16 [(.inr (.inr z)), l1] [] ((.inr (.inr z)) :: st) n I L P) ∧
  (∀ (lv : List mm_V) (st : List mm_V) a, (mm_ok n a 12) → mm_E d 189 16 lv [] (.inr (.inr (some a)) :: st) n I L P = mm_E d 189 19 lv [] (.inr (.inr (P a 22)) :: st) n I L P) ∧
  (∀ (st : List mm_V) z (l0 : mm_V), mm_E d 189 19 [l0, (.inl z)] [] st n I L P = mm_E d 189 20 [l0, (.inl z)] [] ((.inl z) :: st) n I L P) ∧
  (∀ (st : List mm_V) z (l1 : mm_V), mm_E d 189 20 [(.inr (.inr z)), l1] [] st n I L P = mm_E d 189 21 [(.inr (.inr z)), l1] [] ((.inr (.inr z)) :: st) n I L P) ∧
  (∀ (lv : List mm_V) (st : List mm_V) a, (mm_ok n a 12) → mm_E d 189 21 lv [] (.inr (.inr (some a)) :: st) n I L P = mm_E d 189 24 lv [] (.inr (.inr (P a 17)) :: st) n I L P) ∧
  (∀ (st : List mm_V) z (l0 : mm_V), mm_E d 189 24 [l0, (.inl z)] [] st n I L P = mm_E d 189 25 [l0, (.inl z)] [] ((.inl z) :: st) n I L P) ∧
  (∀ (lv : List mm_V) (st : List mm_V) a i, (mm_ix n a 20 i) → mm_E d 189 25 lv [] (.inl i :: .inr (.inr (some a)) :: st) n I L P = mm_E d 189 26 lv [] (.inl (I a i.toNat) :: st) n I L P) ∧
  (∀ (lv : List mm_V) (st : List mm_V) a i z, (mm_ix n a 20 i) → mm_E d 189 26 lv [] (.inl z :: .inl i :: .inr (.inr (some a)) :: st) n I L P = mm_E d 189 27 lv [] st n (mm_ui I a i.toNat z) L P) ∧
  (∀ (st : List mm_V) z (l0 : mm_V), mm_E d 189 27 [l0, (.inl z)] [] st n I L P = mm_E d 189 30 [l0, (.inl (mm_add z 1))] [] st n I L P) ∧
  (∀ (lv : List mm_V) (st : List mm_V), mm_E d 189 30 lv [] st n I L P = mm_E d 189 10 lv [] st n I L P) ∧
  (∀ (lv : List mm_V) (st : List mm_V), mm_E d 189 33 lv [] st n I L P = mm_E d 189 34 lv [] (.inl 0 :: st) n I L P) ∧
  (∀ (st : List mm_V) z (l0 : mm_V) (l1 : mm_V), mm_E d 189 34 [l0, l1] [] ((.inl z) :: st) n I L P = mm_E d 189 35 [l0, (.inl z)] [] st n I L P) ∧
  (∀ (lv : List mm_V) (st : List mm_V), mm_E d 189 36 lv [] st n I L P = mm_E d 189 38 lv [] (.inl 16 :: st) n I L P) ∧
  (∀ (lv : List mm_V) (st : List mm_V) a b, mm_E d 189 38 lv [] (.inl b :: .inl a :: st) n I L P = if b ≤ a then mm_E d 189 59 lv [] st n I L P else mm_E d 189 41 lv [] st n I L P) ∧
  (∀ (st : List mm_V) z (l1 : mm_V), mm_E d 189 41 [(.inr (.inr z)), l1] [] st n I L P = mm_E d 189 42 [(.inr (.inr z)), l1] [] ((.inr (.inr z)) :: st) n I L P) ∧
  (∀ (lv : List mm_V) (st : List mm_V) a, (mm_ok n a 12) → mm_E d 189 42 lv [] (.inr (.inr (some a)) :: st) n I L P = mm_E d 189 45 lv [] (.inr (.inr (P a 23)) :: st) n I L P) ∧
  (∀ (st : List mm_V) z (l0 : mm_V), mm_E d 189 45 [l0, (.inl z)] [] st n I L P = mm_E d 189 46 [l0, (.inl z)] [] ((.inl z) :: st) n I L P) ∧
  (∀ (st : List mm_V) z (l1 : mm_V), mm_E d 189 46 [(.inr (.inr z)), l1] [] st n I L P = mm_E d 189 47 [(.inr (.inr z)), l1] [] ((.inr (.inr z)) :: st) n I L P) ∧
  (∀ (lv : List mm_V) (st : List mm_V) a, (mm_ok n a 12) → mm_E d 189 47 lv [] (.inr (.inr (some a)) :: st) n I L P = mm_E d 189 50 lv [] (.inr (.inr (P a 18)) :: st) n I L P) ∧
  (∀ (st : List mm_V) z (l0 : mm_V), mm_E d 189 50 [l0, (.inl z)] [] st n I L P = mm_E d 189 51 [l0, (.inl z)] [] ((.inl z) :: st) n I L P) ∧
  (∀ (lv : List mm_V) (st : List mm_V) a i, (mm_ix n a 20 i) → mm_E d 189 51 lv [] (.inl i :: .inr (.inr (some a)) :: st) n I L P = mm_E d 189 52 lv [] (.inl (I a i.toNat) :: st) n I L P) ∧
  (∀ (lv : List mm_V) (st : List mm_V) a i z, (mm_ix n a 20 i) → mm_E d 189 52 lv [] (.inl z :: .inl i :: .inr (.inr (some a)) :: st) n I L P = mm_E d 189 53 lv [] st n (mm_ui I a i.toNat z) L P) ∧
  (∀ (st : List mm_V) z (l0 : mm_V), mm_E d 189 53 [l0, (.inl z)] [] st n I L P = mm_E d 189 56 [l0, (.inl (mm_add z 1))] [] st n I L P) ∧
  (∀ (lv : List mm_V) (st : List mm_V), mm_E d 189 56 lv [] st n I L P = mm_E d 189 35 lv [] st n I L P) ∧
  (∀ (lv : List mm_V) (st : List mm_V), mm_E d 189 59 lv [] st n I L P = mm_E d 189 60 lv [] (.inl 0 :: st) n I L P) ∧
  (∀ (st : List mm_V) z (l0 : mm_V) (l1 : mm_V), mm_E d 189 60 [l0, l1] [] ((.inl z) :: st) n I L P = mm_E d 189 61 [l0, (.inl z)] [] st n I L P) ∧
  (∀ (lv : List mm_V) (st : List mm_V), mm_E d 189 62 lv [] st n I L P = mm_E d 189 64 lv [] (.inl 8 :: st) n I L P) ∧
  (∀ (lv : List mm_V) (st : List mm_V) a b, mm_E d 189 64 lv [] (.inl b :: .inl a :: st) n I L P = if b ≤ a then mm_E d 189 80 lv [] st n I L P else mm_E d 189 67 lv [] st n I L P) ∧
  (∀ (st : List mm_V) z (l1 : mm_V), mm_E d 189 67 [(.inr (.inr z)), l1] [] st n I L P = mm_E d 189 68 [(.inr (.inr z)), l1] [] ((.inr (.inr z)) :: st) n I L P) ∧
  (∀ (lv : List mm_V) (st : List mm_V) a, (mm_ok n a 12) → mm_E d 189 68 lv [] (.inr (.inr (some a)) :: st) n I L P = mm_E d 189 71 lv [] (.inr (.inr (P a 24)) :: st) n I L P) ∧
  (∀ (st : List mm_V) z (l0 : mm_V), mm_E d 189 71 [l0, (.inl z)] [] st n I L P = mm_E d 189 72 [l0, (.inl z)] [] ((.inl z) :: st) n I L P) ∧
  (∀ (lv : List mm_V) (st : List mm_V), mm_E d 189 72 lv [] st n I L P = mm_E d 189 73 lv [] (.inl 0 :: st) n I L P) ∧
  (∀ (lv : List mm_V) (st : List mm_V) a i z, (mm_ix n a 20 i) → mm_E d 189 73 lv [] (.inl z :: .inl i :: .inr (.inr (some a)) :: st) n I L P = mm_E d 189 74 lv [] st n (mm_ui I a i.toNat z) L P) ∧
  (∀ (st : List mm_V) z (l0 : mm_V), mm_E d 189 74 [l0, (.inl z)] [] st n I L P = mm_E d 189 77 [l0, (.inl (mm_add z 1))] [] st n I L P) ∧
  (∀ (lv : List mm_V) (st : List mm_V), mm_E d 189 77 lv [] st n I L P = mm_E d 189 61 lv [] st n I L P) ∧
  (∀ (lv : List mm_V) (st : List mm_V), mm_E d 189 80 lv [] st n I L P = mm_E d 189 81 lv [] (.inl 0 :: st) n I L P) ∧
  (∀ (st : List mm_V) z (l0 : mm_V) (l1 : mm_V), mm_E d 189 81 [l0, l1] [] ((.inl z) :: st) n I L P = mm_E d 189 82 [l0, (.inl z)] [] st n I L P) ∧
  (∀ (st : List mm_V) z (l1 : mm_V), mm_E d 189 83 [(.inr (.inr z)), l1] [] st n I L P = mm_E d 189 84 [(.inr (.inr z)), l1] [] ((.inr (.inr z)) :: st) n I L P) ∧
  (∀ (lv : List mm_V) (st : List mm_V) a, (mm_ok n a 12) → mm_E d 189 84 lv [] (.inr (.inr (some a)) :: st) n I L P = mm_E d 189 87 lv [] (.inl (I a 21) :: st) n I L P) ∧
  (∀ (lv : List mm_V) (st : List mm_V) a b, mm_E d 189 87 lv [] (.inl b :: .inl a :: st) n I L P = if b ≤ a then mm_E d 189 152 lv [] st n I L P else mm_E d 189 90 lv [] st n I L P) ∧
  (∀ (st : List mm_V) z (l1 : mm_V), mm_E d 189 90 [(.inr (.inr z)), l1] [] st n I L P = mm_E d 189 91 [(.inr (.inr z)), l1] [] ((.inr (.inr z)) :: st) n I L P) ∧
  (∀ (lv : List mm_V) (st : List mm_V) a, (mm_ok n a 12) → mm_E d 189 91 lv [] (.inr (.inr (some a)) :: st) n I L P = mm_E d 189 94 lv [] (.inr (.inr (P a 24)) :: st) n I L P) ∧
  (∀ (st : List mm_V) z (l1 : mm_V), mm_E d 189 94 [(.inr (.inr z)), l1] [] st n I L P = mm_E d 189 95 [(.inr (.inr z)), l1] [] ((.inr (.inr z)) :: st) n I L P) ∧
  (∀ (lv : List mm_V) (st : List mm_V) a, (mm_ok n a 12) → mm_E d 189 95 lv [] (.inr (.inr (some a)) :: st) n I L P = mm_E d 189 98 lv [] (.inr (.inr (P a 19)) :: st) n I L P) ∧
  (∀ (lv : List mm_V) (st : List mm_V), mm_E d 189 98 lv [] st n I L P = mm_E d 189 99 lv [] (.inl 2 :: st) n I L P) ∧
  (∀ (st : List mm_V) z (l0 : mm_V), mm_E d 189 99 [l0, (.inl z)] [] st n I L P = mm_E d 189 100 [l0, (.inl z)] [] ((.inl z) :: st) n I L P) ∧
  (∀ (lv : List mm_V) (st : List mm_V) a b, mm_E d 189 100 lv [] (.inl b :: .inl a :: st) n I L P = mm_E d 189 101 lv [] (.inl (mm_mul a b) :: st) n I L P) ∧
  (∀ (lv : List mm_V) (st : List mm_V) a i, (mm_ix n a 20 i) → mm_E d 189 101 lv [] (.inl i :: .inr (.inr (some a)) :: st) n I L P = mm_E d 189 102 lv [] (.inl (I a i.toNat) :: st) n I L P) ∧
  (∀ (lv : List mm_V) (st : List mm_V) a b, mm_E d 189 102 lv [] ((.inl a) :: (.inr (.inr b)) :: st) n I L P = mm_E d 189 103 lv [] ((.inl a) :: (.inr (.inr b)) :: (.inl a) :: (.inr (.inr b)) :: st) n I L P) ∧
  (∀ (lv : List mm_V) (st : List mm_V) a i, (mm_ix n a 20 i) → mm_E d 189 103 lv [] (.inl i :: .inr (.inr (some a)) :: st) n I L P = mm_E d 189 104 lv [] (.inl (I a i.toNat) :: st) n I L P) ∧
  (∀ (lv : List mm_V) (st : List mm_V), mm_E d 189 104 lv [] st n I L P = mm_E d 189 105 lv [] (.inl 1 :: st) n I L P) ∧
  (∀ (st : List mm_V) z (l1 : mm_V), mm_E d 189 105 [(.inr (.inr z)), l1] [] st n I L P = mm_E d 189 106 [(.inr (.inr z)), l1] [] ((.inr (.inr z)) :: st) n I L P) ∧
  (∀ (lv : List mm_V) (st : List mm_V) a, (mm_ok n a 12) → mm_E d 189 106 lv [] (.inr (.inr (some a)) :: st) n I L P = mm_E d 189 109 lv [] (.inr (.inr (P a 19)) :: st) n I L P) ∧
  (∀ (lv : List mm_V) (st : List mm_V), mm_E d 189 109 lv [] st n I L P = mm_E d 189 110 lv [] (.inl 2 :: st) n I L P) ∧
  (∀ (st : List mm_V) z (l0 : mm_V), mm_E d 189 110 [l0, (.inl z)] [] st n I L P = mm_E d 189 111 [l0, (.inl z)] [] ((.inl z) :: st) n I L P) ∧
  (∀ (lv : List mm_V) (st : List mm_V) a b, mm_E d 189 111 lv [] (.inl b :: .inl a :: st) n I L P = mm_E d 189 112 lv [] (.inl (mm_mul a b) :: st) n I L P) ∧
  (∀ (lv : List mm_V) (st : List mm_V), mm_E d 189 112 lv [] st n I L P = mm_E d 189 113 lv [] (.inl 1 :: st) n I L P) ∧
  (∀ (lv : List mm_V) (st : List mm_V) a b, mm_E d 189 113 lv [] (.inl b :: .inl a :: st) n I L P = mm_E d 189 114 lv [] (.inl (mm_add a b) :: st) n I L P) ∧
  (∀ (lv : List mm_V) (st : List mm_V) a i, (mm_ix n a 20 i) → mm_E d 189 114 lv [] (.inl i :: .inr (.inr (some a)) :: st) n I L P = mm_E d 189 115 lv [] (.inl (I a i.toNat) :: st) n I L P) ∧
  (∀ (lv : List mm_V) (st : List mm_V) a b, mm_E d 189 115 lv [] (.inl b :: .inl a :: st) n I L P = mm_E d 189 116 lv [] (.inl (mm_shl a b) :: st) n I L P) ∧
  (∀ (lv : List mm_V) (st : List mm_V) a b, mm_E d 189 116 lv [] (.inl b :: .inl a :: st) n I L P = mm_E d 189 117 lv [] (.inl (mm_or a b) :: st) n I L P) ∧
  (∀ (lv : List mm_V) (st : List mm_V) a i z, (mm_ix n a 20 i) → mm_E d 189 117 lv [] (.inl z :: .inl i :: .inr (.inr (some a)) :: st) n I L P = mm_E d 189 118 lv [] st n (mm_ui I a i.toNat z) L P) ∧
  (∀ (st : List mm_V) z (l1 : mm_V), mm_E d 189 118 [(.inr (.inr z)), l1] [] st n I L P = mm_E d 189 119 [(.inr (.inr z)), l1] [] ((.inr (.inr z)) :: st) n I L P) ∧
  (∀ (lv : List mm_V) (st : List mm_V) a, (mm_ok n a 12) → mm_E d 189 119 lv [] (.inr (.inr (some a)) :: st) n I L P = mm_E d 189 122 lv [] (.inr (.inr (P a 24)) :: st) n I L P) ∧
  (∀ (st : List mm_V) z (l1 : mm_V), mm_E d 189 122 [(.inr (.inr z)), l1] [] st n I L P = mm_E d 189 123 [(.inr (.inr z)), l1] [] ((.inr (.inr z)) :: st) n I L P) ∧
  (∀ (lv : List mm_V) (st : List mm_V) a, (mm_ok n a 12) → mm_E d 189 123 lv [] (.inr (.inr (some a)) :: st) n I L P = mm_E d 189 126 lv [] (.inr (.inr (P a 19)) :: st) n I L P) ∧
  (∀ (lv : List mm_V) (st : List mm_V), mm_E d 189 126 lv [] st n I L P = mm_E d 189 127 lv [] (.inl 2 :: st) n I L P) ∧
  (∀ (st : List mm_V) z (l0 : mm_V), mm_E d 189 127 [l0, (.inl z)] [] st n I L P = mm_E d 189 128 [l0, (.inl z)] [] ((.inl z) :: st) n I L P) ∧
  (∀ (lv : List mm_V) (st : List mm_V) a b, mm_E d 189 128 lv [] (.inl b :: .inl a :: st) n I L P = mm_E d 189 129 lv [] (.inl (mm_mul a b) :: st) n I L P) ∧
  (∀ (lv : List mm_V) (st : List mm_V), mm_E d 189 129 lv [] st n I L P = mm_E d 189 130 lv [] (.inl 1 :: st) n I L P) ∧
  (∀ (lv : List mm_V) (st : List mm_V) a b, mm_E d 189 130 lv [] (.inl b :: .inl a :: st) n I L P = mm_E d 189 131 lv [] (.inl (mm_add a b) :: st) n I L P) ∧
  (∀ (lv : List mm_V) (st : List mm_V) a i, (mm_ix n a 20 i) → mm_E d 189 131 lv [] (.inl i :: .inr (.inr (some a)) :: st) n I L P = mm_E d 189 132 lv [] (.inl (I a i.toNat) :: st) n I L P) ∧
  (∀ (lv : List mm_V) (st : List mm_V) a b, mm_E d 189 132 lv [] ((.inl a) :: (.inr (.inr b)) :: st) n I L P = mm_E d 189 133 lv [] ((.inl a) :: (.inr (.inr b)) :: (.inl a) :: (.inr (.inr b)) :: st) n I L P) ∧
  (∀ (lv : List mm_V) (st : List mm_V) a i, (mm_ix n a 20 i) → mm_E d 189 133 lv [] (.inl i :: .inr (.inr (some a)) :: st) n I L P = mm_E d 189 134 lv [] (.inl (I a i.toNat) :: st) n I L P) ∧
  (∀ (lv : List mm_V) (st : List mm_V), mm_E d 189 134 lv [] st n I L P = mm_E d 189 135 lv [] (.inl 1 :: st) n I L P) ∧
  (∀ (st : List mm_V) z (l1 : mm_V), mm_E d 189 135 [(.inr (.inr z)), l1] [] st n I L P = mm_E d 189 136 [(.inr (.inr z)), l1] [] ((.inr (.inr z)) :: st) n I L P) ∧
  (∀ (lv : List mm_V) (st : List mm_V) a, (mm_ok n a 12) → mm_E d 189 136 lv [] (.inr (.inr (some a)) :: st) n I L P = mm_E d 189 139 lv [] (.inr (.inr (P a 19)) :: st) n I L P) ∧
  (∀ (lv : List mm_V) (st : List mm_V), mm_E d 189 139 lv [] st n I L P = mm_E d 189 140 lv [] (.inl 2 :: st) n I L P) ∧
  (∀ (st : List mm_V) z (l0 : mm_V), mm_E d 189 140 [l0, (.inl z)] [] st n I L P = mm_E d 189 141 [l0, (.inl z)] [] ((.inl z) :: st) n I L P) ∧
  (∀ (lv : List mm_V) (st : List mm_V) a b, mm_E d 189 141 lv [] (.inl b :: .inl a :: st) n I L P = mm_E d 189 142 lv [] (.inl (mm_mul a b) :: st) n I L P) ∧
  (∀ (lv : List mm_V) (st : List mm_V) a i, (mm_ix n a 20 i) → mm_E d 189 142 lv [] (.inl i :: .inr (.inr (some a)) :: st) n I L P = mm_E d 189 143 lv [] (.inl (I a i.toNat) :: st) n I L P) ∧
  (∀ (lv : List mm_V) (st : List mm_V) a b, mm_E d 189 143 lv [] (.inl b :: .inl a :: st) n I L P = mm_E d 189 144 lv [] (.inl (mm_shl a b) :: st) n I L P) ∧
  (∀ (lv : List mm_V) (st : List mm_V) a b, mm_E d 189 144 lv [] (.inl b :: .inl a :: st) n I L P = mm_E d 189 145 lv [] (.inl (mm_or a b) :: st) n I L P) ∧
  (∀ (lv : List mm_V) (st : List mm_V) a i z, (mm_ix n a 20 i) → mm_E d 189 145 lv [] (.inl z :: .inl i :: .inr (.inr (some a)) :: st) n I L P = mm_E d 189 146 lv [] st n (mm_ui I a i.toNat z) L P) ∧
  (∀ (st : List mm_V) z (l0 : mm_V), mm_E d 189 146 [l0, (.inl z)] [] st n I L P = mm_E d 189 149 [l0, (.inl (mm_add z 1))] [] st n I L P) ∧
  (∀ (lv : List mm_V) (st : List mm_V), mm_E d 189 149 lv [] st n I L P = mm_E d 189 82 lv [] st n I L P) ∧
  (∀ (st : List mm_V) z (l1 : mm_V), mm_E d 189 152 [(.inr (.inr z)), l1] [] st n I L P = mm_E d 189 153 [(.inr (.inr z)), l1] [] ((.inr (.inr z)) :: st) n I L P) ∧
  (∀ (lv : List mm_V) a, (mm_ok n a 12) → mm_E d 189 153 lv [] (.inr (.inr (some a)) :: []) n I L P = mm_kv d 189 156 lv [] [] n (mm_rn d 188 [.inr (.inr (some a))] n I L P)) ∧
  (∀ (lv : List mm_V) (st : List mm_V), mm_E d 189 156 lv [] st n I L P = mm_E d 189 157 lv [] (.inl 0 :: st) n I L P) ∧
  (∀ (st : List mm_V) z (l0 : mm_V) (l1 : mm_V), mm_E d 189 157 [l0, l1] [] ((.inl z) :: st) n I L P = mm_E d 189 158 [l0, (.inl z)] [] st n I L P) ∧
  (∀ (lv : List mm_V) (st : List mm_V), mm_E d 189 159 lv [] st n I L P = mm_E d 189 162 lv [] (.inl 211 :: st) n I L P) ∧
  (∀ (lv : List mm_V) (st : List mm_V) a b, mm_E d 189 162 lv [] (.inl b :: .inl a :: st) n I L P = if b ≤ a then mm_E d 189 178 lv [] st n I L P else mm_E d 189 165 lv [] st n I L P) ∧
  (∀ (st : List mm_V) z (l1 : mm_V), mm_E d 189 165 [(.inr (.inr z)), l1] [] st n I L P = mm_E d 189 166 [(.inr (.inr z)), l1] [] ((.inr (.inr z)) :: st) n I L P) ∧
  (∀ (lv : List mm_V) (st : List mm_V) a, (mm_ok n a 12) → mm_E d 189 166 lv [] (.inr (.inr (some a)) :: st) n I L P = mm_E d 189 169 lv [] (.inr (.inr (P a 27)) :: st) n I L P) ∧
  (∀ (st : List mm_V) z (l0 : mm_V), mm_E d 189 169 [l0, (.inl z)] [] st n I L P = mm_E d 189 170 [l0, (.inl z)] [] ((.inl z) :: st) n I L P) ∧
  (∀ (lv : List mm_V) (st : List mm_V), mm_E d 189 170 lv [] st n I L P = mm_E d 189 171 lv [] (.inl 0 :: st) n I L P) ∧
  (∀ (lv : List mm_V) (st : List mm_V) a i z, (mm_ix n a 20 i) → mm_E d 189 171 lv [] (.inl z :: .inl i :: .inr (.inr (some a)) :: st) n I L P = mm_E d 189 172 lv [] st n (mm_ui I a i.toNat z) L P) ∧
  (∀ (st : List mm_V) z (l0 : mm_V), mm_E d 189 172 [l0, (.inl z)] [] st n I L P = mm_E d 189 175 [l0, (.inl (mm_add z 1))] [] st n I L P) ∧
  (∀ (lv : List mm_V) (st : List mm_V), mm_E d 189 175 lv [] st n I L P = mm_E d 189 158 lv [] st n I L P) ∧
  (∀ (st : List mm_V) z (l1 : mm_V), mm_E d 189 178 [(.inr (.inr z)), l1] [] st n I L P = mm_E d 189 179 [(.inr (.inr z)), l1] [] ((.inr (.inr z)) :: st) n I L P) ∧
  (∀ (lv : List mm_V) a, (mm_ok n a 12) → mm_E d 189 179 lv [] (.inr (.inr (some a)) :: []) n I L P = mm_kv d 189 182 lv [] [] n (mm_rn d 187 [.inr (.inr (some a))] n I L P)) ∧
  (∀ (st : List mm_V) z (l1 : mm_V), mm_E d 189 182 [(.inr (.inr z)), l1] [] st n I L P = mm_E d 189 183 [(.inr (.inr z)), l1] [] ((.inr (.inr z)) :: st) n I L P) ∧
  (∀ (lv : List mm_V) (st : List mm_V) a, (mm_ok n a 12) → mm_E d 189 183 lv [] (.inr (.inr (some a)) :: st) n I L P = mm_E d 189 186 lv [] (.inr (.inr (P a 27)) :: st) n I L P) ∧
  (∀ (lv : List mm_V) (st : List mm_V), mm_E d 189 186 lv [] st n I L P = mm_E d 189 188 lv [] (.inl 27 :: st) n I L P) ∧
  (∀ (st : List mm_V) z (l1 : mm_V), mm_E d 189 188 [(.inr (.inr z)), l1] [] st n I L P = mm_E d 189 189 [(.inr (.inr z)), l1] [] ((.inr (.inr z)) :: st) n I L P) ∧
  (∀ (lv : List mm_V) (st : List mm_V) a, (mm_ok n a 12) → mm_E d 189 189 lv [] (.inr (.inr (some a)) :: st) n I L P = mm_E d 189 192 lv [] (.inr (.inr (P a 22)) :: st) n I L P) ∧
  (∀ (lv : List mm_V) (st : List mm_V), mm_E d 189 192 lv [] st n I L P = mm_E d 189 193 lv [] (.inl 2 :: st) n I L P) ∧
  (∀ (lv : List mm_V) (st : List mm_V) a i, (mm_ix n a 20 i) → mm_E d 189 193 lv [] (.inl i :: .inr (.inr (some a)) :: st) n I L P = mm_E d 189 194 lv [] (.inl (I a i.toNat) :: st) n I L P) ∧
  (∀ (lv : List mm_V) (st : List mm_V) a i z, (mm_ix n a 20 i) → mm_E d 189 194 lv [] (.inl z :: .inl i :: .inr (.inr (some a)) :: st) n I L P = mm_E d 189 195 lv [] st n (mm_ui I a i.toNat z) L P) ∧
  (∀ (st : List mm_V) z (l1 : mm_V), mm_E d 189 195 [(.inr (.inr z)), l1] [] st n I L P = mm_E d 189 196 [(.inr (.inr z)), l1] [] ((.inr (.inr z)) :: st) n I L P) ∧
  (∀ (lv : List mm_V) (st : List mm_V), mm_E d 189 196 lv [] st n I L P = mm_E d 189 197 lv [] (.inl 0 :: st) n I L P) ∧
  (∀ (lv : List mm_V) (st : List mm_V) a z, (mm_ok n a 12) → mm_E d 189 197 lv [] (.inl z :: .inr (.inr (some a)) :: st) n I L P = mm_E d 189 200 lv [] st n (mm_ui I a 42 z) L P) ∧
  (∀ (st : List mm_V) z (l1 : mm_V), mm_E d 189 200 [(.inr (.inr z)), l1] [] st n I L P = mm_E d 189 201 [(.inr (.inr z)), l1] [] ((.inr (.inr z)) :: st) n I L P) ∧
  (∀ (lv : List mm_V) (st : List mm_V), mm_E d 189 201 lv [] st n I L P = mm_E d 189 202 lv [] (.inl 0 :: st) n I L P) ∧
  (∀ (lv : List mm_V) (st : List mm_V) a z, (mm_ok n a 12) → mm_E d 189 202 lv [] (.inl z :: .inr (.inr (some a)) :: st) n I L P = mm_E d 189 205 lv [] st n (mm_ui I a 33 z) L P) ∧
  (∀ (st : List mm_V) z (l1 : mm_V), mm_E d 189 205 [(.inr (.inr z)), l1] [] st n I L P = mm_E d 189 206 [(.inr (.inr z)), l1] [] ((.inr (.inr z)) :: st) n I L P) ∧
  (∀ (lv : List mm_V) (st : List mm_V), mm_E d 189 206 lv [] st n I L P = mm_E d 189 207 lv [] (.inl 0 :: st) n I L P) ∧
  (∀ (lv : List mm_V) (st : List mm_V) a z, (mm_ok n a 12) → (z = 0 ∨ z = 1) → mm_E d 189 207 lv [] (.inl z :: .inr (.inr (some a)) :: st) n I L P = mm_E d 189 210 lv [] st n (mm_ui I a 46 z) L P) ∧
  (∀ (st : List mm_V) z (l1 : mm_V), mm_E d 189 210 [(.inr (.inr z)), l1] [] st n I L P = mm_E d 189 211 [(.inr (.inr z)), l1] [] ((.inr (.inr z)) :: st) n I L P) ∧
  (∀ (lv : List mm_V) (st : List mm_V) a, (mm_ok n a 12) → mm_E d 189 211 lv [] (.inr (.inr (some a)) :: st) n I L P = mm_E d 189 214 lv [] (.inl (I a 26) :: st) n I L P) ∧
  (∀ (lv : List mm_V) z, mm_E d 189 214 lv [] [.inl z] n I L P = some (some (.inl z), n, I, L, P)) :=
  ⟨fun _ _ _ => mq_al (i := 0) rfl rfl,
   fun _ _ _ => mq_al (i := 0) rfl rfl,
   fun _ _ _ h0 => mq_getI rfl h0,
   fun _ _ _ _ h0 => mq_putI rfl h0,
   fun _ _ => mq_push rfl,
   fun _ _ _ _ => mq_is (i := 1) rfl rfl rfl,
   fun _ _ => mq_push rfl,
   fun _ _ _ _ => mq_ic_ge rfl,
   fun _ _ _ => mq_al (i := 0) rfl rfl,
   fun _ _ _ h0 => mq_getR rfl h0,
   fun _ _ _ => mq_il (i := 1) rfl rfl,
   fun _ _ _ => mq_al (i := 0) rfl rfl,
   fun _ _ _ h0 => mq_getR rfl h0,
   fun _ _ _ => mq_il (i := 1) rfl rfl,
   fun _ _ _ _ h0 => mq_iald rfl h0,
   fun _ _ _ _ _ h0 => mq_iast rfl h0,
   fun _ _ _ => mq_iinc (i := 1) rfl rfl rfl rfl,
   fun _ _ => mq_go rfl,
   fun _ _ => mq_push rfl,
   fun _ _ _ _ => mq_is (i := 1) rfl rfl rfl,
   fun _ _ => mq_push rfl,
   fun _ _ _ _ => mq_ic_ge rfl,
   fun _ _ _ => mq_al (i := 0) rfl rfl,
   fun _ _ _ h0 => mq_getR rfl h0,
   fun _ _ _ => mq_il (i := 1) rfl rfl,
   fun _ _ _ => mq_al (i := 0) rfl rfl,
   fun _ _ _ h0 => mq_getR rfl h0,
   fun _ _ _ => mq_il (i := 1) rfl rfl,
   fun _ _ _ _ h0 => mq_iald rfl h0,
   fun _ _ _ _ _ h0 => mq_iast rfl h0,
   fun _ _ _ => mq_iinc (i := 1) rfl rfl rfl rfl,
   fun _ _ => mq_go rfl,
   fun _ _ => mq_push rfl,
   fun _ _ _ _ => mq_is (i := 1) rfl rfl rfl,
   fun _ _ => mq_push rfl,
   fun _ _ _ _ => mq_ic_ge rfl,
   fun _ _ _ => mq_al (i := 0) rfl rfl,
   fun _ _ _ h0 => mq_getR rfl h0,
   fun _ _ _ => mq_il (i := 1) rfl rfl,
   fun _ _ => mq_push rfl,
   fun _ _ _ _ _ h0 => mq_iast rfl h0,
   fun _ _ _ => mq_iinc (i := 1) rfl rfl rfl rfl,
   fun _ _ => mq_go rfl,
   fun _ _ => mq_push rfl,
   fun _ _ _ _ => mq_is (i := 1) rfl rfl rfl,
   fun _ _ _ => mq_al (i := 0) rfl rfl,
   fun _ _ _ h0 => mq_getI rfl h0,
   fun _ _ _ _ => mq_ic_ge rfl,
   fun _ _ _ => mq_al (i := 0) rfl rfl,
   fun _ _ _ h0 => mq_getR rfl h0,
   fun _ _ _ => mq_al (i := 0) rfl rfl,
   fun _ _ _ h0 => mq_getR rfl h0,
   fun _ _ => mq_push rfl,
   fun _ _ _ => mq_il (i := 1) rfl rfl,
   fun _ _ _ _ => mq_bi rfl,
   fun _ _ _ _ h0 => mq_iald rfl h0,
   fun _ _ _ _ => mq_dup2 rfl rfl rfl,
   fun _ _ _ _ h0 => mq_iald rfl h0,
   fun _ _ => mq_push rfl,
   fun _ _ _ => mq_al (i := 0) rfl rfl,
   fun _ _ _ h0 => mq_getR rfl h0,
   fun _ _ => mq_push rfl,
   fun _ _ _ => mq_il (i := 1) rfl rfl,
   fun _ _ _ _ => mq_bi rfl,
   fun _ _ => mq_push rfl,
   fun _ _ _ _ => mq_bi rfl,
   fun _ _ _ _ h0 => mq_iald rfl h0,
   fun _ _ _ _ => mq_bi rfl,
   fun _ _ _ _ => mq_bi rfl,
   fun _ _ _ _ _ h0 => mq_iast rfl h0,
   fun _ _ _ => mq_al (i := 0) rfl rfl,
   fun _ _ _ h0 => mq_getR rfl h0,
   fun _ _ _ => mq_al (i := 0) rfl rfl,
   fun _ _ _ h0 => mq_getR rfl h0,
   fun _ _ => mq_push rfl,
   fun _ _ _ => mq_il (i := 1) rfl rfl,
   fun _ _ _ _ => mq_bi rfl,
   fun _ _ => mq_push rfl,
   fun _ _ _ _ => mq_bi rfl,
   fun _ _ _ _ h0 => mq_iald rfl h0,
   fun _ _ _ _ => mq_dup2 rfl rfl rfl,
   fun _ _ _ _ h0 => mq_iald rfl h0,
   fun _ _ => mq_push rfl,
   fun _ _ _ => mq_al (i := 0) rfl rfl,
   fun _ _ _ h0 => mq_getR rfl h0,
   fun _ _ => mq_push rfl,
   fun _ _ _ => mq_il (i := 1) rfl rfl,
   fun _ _ _ _ => mq_bi rfl,
   fun _ _ _ _ h0 => mq_iald rfl h0,
   fun _ _ _ _ => mq_bi rfl,
   fun _ _ _ _ => mq_bi rfl,
   fun _ _ _ _ _ h0 => mq_iast rfl h0,
   fun _ _ _ => mq_iinc (i := 1) rfl rfl rfl rfl,
   fun _ _ => mq_go rfl,
   fun _ _ _ => mq_al (i := 0) rfl rfl,
   fun _ _ h0 => mq_cVv (na := 0) rfl rfl (Nat.le_of_ble_eq_true rfl) (Nat.le_of_ble_eq_true rfl) h0,
   fun _ _ => mq_push rfl,
   fun _ _ _ _ => mq_is (i := 1) rfl rfl rfl,
   fun _ _ => mq_push rfl,
   fun _ _ _ _ => mq_ic_ge rfl,
   fun _ _ _ => mq_al (i := 0) rfl rfl,
   fun _ _ _ h0 => mq_getR rfl h0,
   fun _ _ _ => mq_il (i := 1) rfl rfl,
   fun _ _ => mq_push rfl,
   fun _ _ _ _ _ h0 => mq_iast rfl h0,
   fun _ _ _ => mq_iinc (i := 1) rfl rfl rfl rfl,
   fun _ _ => mq_go rfl,
   fun _ _ _ => mq_al (i := 0) rfl rfl,
   fun _ _ h0 => mq_cVv (na := 0) rfl rfl (Nat.le_of_ble_eq_true rfl) (Nat.le_of_ble_eq_true rfl) h0,
   fun _ _ _ => mq_al (i := 0) rfl rfl,
   fun _ _ _ h0 => mq_getR rfl h0,
   fun _ _ => mq_push rfl,
   fun _ _ _ => mq_al (i := 0) rfl rfl,
   fun _ _ _ h0 => mq_getR rfl h0,
   fun _ _ => mq_push rfl,
   fun _ _ _ _ h0 => mq_iald rfl h0,
   fun _ _ _ _ _ h0 => mq_iast rfl h0,
   fun _ _ _ => mq_al (i := 0) rfl rfl,
   fun _ _ => mq_push rfl,
   fun _ _ _ _ h0 => mq_putI rfl h0,
   fun _ _ _ => mq_al (i := 0) rfl rfl,
   fun _ _ => mq_push rfl,
   fun _ _ _ _ h0 => mq_putI rfl h0,
   fun _ _ _ => mq_al (i := 0) rfl rfl,
   fun _ _ => mq_push rfl,
   fun _ _ _ _ h0 h1 => mq_putZ rfl h0 h1,
   fun _ _ _ => mq_al (i := 0) rfl rfl,
   fun _ _ _ h0 => mq_getI rfl h0,
   fun _ _ => mq_ri rfl⟩
theorem hX12_takeTown_10 (d n : Nat) (I L : mm_I) (P : mm_P) : ∀ (st : List mm_V) z (l0 : mm_V), mm_E d 189 10 [l0, (.inl z)] [] st n I L P = mm_E d 189 11 [l0, (.inl z)] [] ((.inl z) :: st) n I L P := fun _ _ _ => mq_il (i := 1) rfl rfl
theorem hX12_takeTown_35 (d n : Nat) (I L : mm_I) (P : mm_P) : ∀ (st : List mm_V) z (l0 : mm_V), mm_E d 189 35 [l0, (.inl z)] [] st n I L P = mm_E d 189 36 [l0, (.inl z)] [] ((.inl z) :: st) n I L P := fun _ _ _ => mq_il (i := 1) rfl rfl
theorem hX12_takeTown_61 (d n : Nat) (I L : mm_I) (P : mm_P) : ∀ (st : List mm_V) z (l0 : mm_V), mm_E d 189 61 [l0, (.inl z)] [] st n I L P = mm_E d 189 62 [l0, (.inl z)] [] ((.inl z) :: st) n I L P := fun _ _ _ => mq_il (i := 1) rfl rfl
theorem hX12_takeTown_82 (d n : Nat) (I L : mm_I) (P : mm_P) : ∀ (st : List mm_V) z (l0 : mm_V), mm_E d 189 82 [l0, (.inl z)] [] st n I L P = mm_E d 189 83 [l0, (.inl z)] [] ((.inl z) :: st) n I L P := fun _ _ _ => mq_il (i := 1) rfl rfl
theorem hX12_takeTown_158 (d n : Nat) (I L : mm_I) (P : mm_P) : ∀ (st : List mm_V) z (l0 : mm_V), mm_E d 189 158 [l0, (.inl z)] [] st n I L P = mm_E d 189 159 [l0, (.inl z)] [] ((.inl z) :: st) n I L P := fun _ _ _ => mq_il (i := 1) rfl rfl
theorem eX12_takeTown (d n : Nat) (I L : mm_I) (P : mm_P) (x0 : Option Nat) : mm_rn (d + 1) 189 [.inr (.inr x0)] n I L P = mm_E d 189 0 [.inr (.inr x0), mm_junk] [] [] n I L P := rfl

set_option maxRecDepth 20000 in
set_option maxHeartbeats 8000000 in
theorem kX12_text (d n : Nat) (I L : mm_I) (P : mm_P) :
  (∀ (st : List mm_V) z (l0 : mm_V), mm_E d 190 0 [l0, (.inl z)] [] st n I L P = mm_E d 190 1 [l0, (.inl z)] [] ((.inl z) :: st) n I L P) ∧
  (∀ (lv : List mm_V) (st : List mm_V) a, mm_E d 190 1 lv [] (.inl a :: st) n I L P = if a = 0 then mm_E d 190 4 lv [] st n I L P else mm_E d 190 22 lv [] st n I L P) ∧
  (∀ (st : List mm_V) z (l1 : mm_V), mm_E d 190 4 [(.inr (.inr z)), l1] [] st n I L P = mm_E d 190 5 [(.inr (.inr z)), l1] [] ((.inr (.inr z)) :: st) n I L P) ∧
  (∀ (lv : List mm_V) a, (mm_ok n a 12) → mm_E d 190 5 lv [] (.inr (.inr (some a)) :: []) n I L P = mm_kr d 190 8 lv [] [] n (mm_rn d 185 [.inr (.inr (some a))] n I L P)) ∧
  (∀ (lv : List mm_V) (st : List mm_V), mm_E d 190 8 lv [] st n I L P = mm_E d 190 9 lv [] (.inl (-1) :: st) n I L P) ∧
  (∀ (lv : List mm_V) (st : List mm_V) a b, mm_E d 190 9 lv [] (.inl b :: .inl a :: st) n I L P = if a = b then mm_E d 190 12 lv [] st n I L P else mm_E d 190 22 lv [] st n I L P) ∧
  (∀ (st : List mm_V) z (l1 : mm_V), mm_E d 190 12 [(.inr (.inr z)), l1] [] st n I L P = mm_E d 190 13 [(.inr (.inr z)), l1] [] ((.inr (.inr z)) :: st) n I L P) ∧
  (∀ (lv : List mm_V) (st : List mm_V), mm_E d 190 13 lv [] st n I L P = mm_E d 190 14 lv [] (.inl 0 :: st) n I L P) ∧
  (∀ (lv : List mm_V) (st : List mm_V) a z, (mm_ok n a 12) → mm_E d 190 14 lv [] (.inl z :: .inr (.inr (some a)) :: st) n I L P = mm_E d 190 17 lv [] st n (mm_ui I a 2 z) L P) ∧
  (∀ (st : List mm_V) z (l1 : mm_V), mm_E d 190 17 [(.inr (.inr z)), l1] [] st n I L P = mm_E d 190 18 [(.inr (.inr z)), l1] [] ((.inr (.inr z)) :: st) n I L P) ∧
  (∀ (lv : List mm_V) a, (mm_ok n a 12) → mm_E d 190 18 lv [] (.inr (.inr (some a)) :: []) n I L P = mm_kr d 190 21 lv [] [] n (mm_rn d 189 [.inr (.inr (some a))] n I L P)) ∧
  (∀ (lv : List mm_V) z, mm_E d 190 21 lv [] [.inl z] n I L P = some (some (.inl z), n, I, L, P)) ∧
  (∀ (st : List mm_V) z (l0 : mm_V), mm_E d 190 22 [l0, (.inl z)] [] st n I L P = mm_E d 190 23 [l0, (.inl z)] [] ((.inl z) :: st) n I L P) ∧
  (∀ (lv : List mm_V) (st : List mm_V), mm_E d 190 23 lv [] st n I L P = mm_E d 190 24 lv [] (.inl 1 :: st) n I L P) ∧
  (∀ (lv : List mm_V) (st : List mm_V) a b, mm_E d 190 24 lv [] (.inl b :: .inl a :: st) n I L P = if a = b then mm_E d 190 27 lv [] st n I L P else mm_E d 190 69 lv [] st n I L P) ∧
  (∀ (st : List mm_V) z (l1 : mm_V), mm_E d 190 27 [(.inr (.inr z)), l1] [] st n I L P = mm_E d 190 28 [(.inr (.inr z)), l1] [] ((.inr (.inr z)) :: st) n I L P) ∧
  (∀ (lv : List mm_V) (st : List mm_V) a, (mm_ok n a 12) → mm_E d 190 28 lv [] (.inr (.inr (some a)) :: st) n I L P = mm_E d 190 31 lv [] (.inl (I a 13) :: st) n I L P) ∧
  (∀ (lv : List mm_V) (st : List mm_V), mm_E d 190 31 lv [] st n I L P = mm_E d 190 32 lv [] (.inl 4 :: st) n I L P) ∧
  (∀ (lv : List mm_V) (st : List mm_V) a b, mm_E d 190 32 lv [] (.inl b :: .inl a :: st) n I L P = if b ≤ a then mm_E d 190 69 lv [] st n I L P else mm_E d 190 35 lv [] st n I L P) ∧
  (∀ (st : List mm_V) z (l1 : mm_V), mm_E d 190 35 [(.inr (.inr z)), l1] [] st n I L P = mm_E d 190 36 [(.inr (.inr z)), l1] [] ((.inr (.inr z)) :: st) n I L P) ∧
  (∀ (st : List mm_V) z (l1 : mm_V), mm_E d 190 36 [(.inr (.inr z)), l1] [] st n I L P = mm_E d 190 37 [(.inr (.inr z)), l1] [] ((.inr (.inr z)) :: st) n I L P) ∧
  (∀ (lv : List mm_V) (st : List mm_V) a, (mm_ok n a 12) → mm_E d 190 37 lv [] (.inr (.inr (some a)) :: st) n I L P = mm_E d 190 40 lv [] (.inl (I a 13) :: st) n I L P) ∧
  (∀ (lv : List mm_V) a x0, (mm_ok n a 12) → mm_E d 190 40 lv [] (.inl x0 :: .inr (.inr (some a)) :: []) n I L P = mm_kr d 190 43 lv [] [] n (mm_rn d 173 [.inr (.inr (some a)), .inl x0] n I L P)) ∧
  (∀ (lv : List mm_V) (st : List mm_V), mm_E d 190 43 lv [] st n I L P = mm_E d 190 44 lv [] (.inl (-1) :: st) n I L P) ∧
  (∀ (lv : List mm_V) (st : List mm_V) a b, mm_E d 190 44 lv [] (.inl b :: .inl a :: st) n I L P = if a = b then mm_E d 190 47 lv [] st n I L P else mm_E d 190 69 lv [] st n I L P) ∧
  (∀ (st : List mm_V) z (l1 : mm_V), mm_E d 190 47 [(.inr (.inr z)), l1] [] st n I L P = mm_E d 190 48 [(.inr (.inr z)), l1] [] ((.inr (.inr z)) :: st) n I L P) ∧
  (∀ (lv : List mm_V) (st : List mm_V), mm_E d 190 48 lv [] st n I L P = mm_E d 190 49 lv [] (.inl 0 :: st) n I L P) ∧
  (∀ (lv : List mm_V) (st : List mm_V) a z, (mm_ok n a 12) → mm_E d 190 49 lv [] (.inl z :: .inr (.inr (some a)) :: st) n I L P = mm_E d 190 52 lv [] st n (mm_ui I a 2 z) L P) ∧
  (∀ (st : List mm_V) z (l1 : mm_V), mm_E d 190 52 [(.inr (.inr z)), l1] [] st n I L P = mm_E d 190 53 [(.inr (.inr z)), l1] [] ((.inr (.inr z)) :: st) n I L P) ∧
  (∀ (lv : List mm_V) (st : List mm_V) a, mm_E d 190 53 lv [] ((.inr (.inr a)) :: st) n I L P = mm_E d 190 54 lv [] ((.inr (.inr a)) :: (.inr (.inr a)) :: st) n I L P) ∧
  (∀ (lv : List mm_V) (st : List mm_V) a, (mm_ok n a 12) → mm_E d 190 54 lv [] (.inr (.inr (some a)) :: st) n I L P = mm_E d 190 57 lv [] (.inl (I a 13) :: st) n I L P) ∧
  (∀ (lv : List mm_V) (st : List mm_V), mm_E d 190 57 lv [] st n I L P = mm_E d 190 58 lv [] (.inl 1 :: st) n I L P) ∧
  (∀ (lv : List mm_V) (st : List mm_V) a b, mm_E d 190 58 lv [] (.inl b :: .inl a :: st) n I L P = mm_E d 190 59 lv [] (.inl (mm_add a b) :: st) n I L P) ∧
  (∀ (lv : List mm_V) (st : List mm_V) a z, (mm_ok n a 12) → mm_E d 190 59 lv [] (.inl z :: .inr (.inr (some a)) :: st) n I L P = mm_E d 190 62 lv [] st n (mm_ui I a 13 z) L P) ∧
  (∀ (st : List mm_V) z (l1 : mm_V), mm_E d 190 62 [(.inr (.inr z)), l1] [] st n I L P = mm_E d 190 63 [(.inr (.inr z)), l1] [] ((.inr (.inr z)) :: st) n I L P) ∧
  (∀ (lv : List mm_V) (st : List mm_V) a, (mm_ok n a 12) → mm_E d 190 63 lv [] (.inr (.inr (some a)) :: st) n I L P = mm_E d 190 66 lv [] (.inl (I a 13) :: st) n I L P) ∧
  (∀ (lv : List mm_V) (st : List mm_V), mm_E d 190 66 lv [] st n I L P = mm_E d 190 67 lv [] (.inl 1 :: st) n I L P) ∧
  (∀ (lv : List mm_V) (st : List mm_V) a b, mm_E d 190 67 lv [] (.inl b :: .inl a :: st) n I L P = mm_E d 190 68 lv [] (.inl (mm_sub a b) :: st) n I L P) ∧
  (∀ (lv : List mm_V) z, mm_E d 190 68 lv [] [.inl z] n I L P = some (some (.inl z), n, I, L, P)) ∧
  (∀ (lv : List mm_V) (st : List mm_V), mm_E d 190 69 lv [] st n I L P = mm_E d 190 70 lv [] (.inl (-1) :: st) n I L P) ∧
  (∀ (lv : List mm_V) z, mm_E d 190 70 lv [] [.inl z] n I L P = some (some (.inl z), n, I, L, P)) :=
  ⟨fun _ _ _ => mq_il (i := 1) rfl rfl,
   fun _ _ _ => mq_if_ne rfl,
   fun _ _ _ => mq_al (i := 0) rfl rfl,
   fun _ _ h0 => mq_cVr (na := 0) rfl rfl (Nat.le_of_ble_eq_true rfl) (Nat.le_of_ble_eq_true rfl) h0,
   fun _ _ => mq_push rfl,
   fun _ _ _ _ => mq_ic_ne rfl,
   fun _ _ _ => mq_al (i := 0) rfl rfl,
   fun _ _ => mq_push rfl,
   fun _ _ _ _ h0 => mq_putI rfl h0,
   fun _ _ _ => mq_al (i := 0) rfl rfl,
   fun _ _ h0 => mq_cVr (na := 0) rfl rfl (Nat.le_of_ble_eq_true rfl) (Nat.le_of_ble_eq_true rfl) h0,
   fun _ _ => mq_ri rfl,
   fun _ _ _ => mq_il (i := 1) rfl rfl,
   fun _ _ => mq_push rfl,
   fun _ _ _ _ => mq_ic_ne rfl,
   fun _ _ _ => mq_al (i := 0) rfl rfl,
   fun _ _ _ h0 => mq_getI rfl h0,
   fun _ _ => mq_push rfl,
   fun _ _ _ _ => mq_ic_ge rfl,
   fun _ _ _ => mq_al (i := 0) rfl rfl,
   fun _ _ _ => mq_al (i := 0) rfl rfl,
   fun _ _ _ h0 => mq_getI rfl h0,
   fun _ _ _ h0 => mq_cVr (na := 1) rfl rfl (Nat.le_of_ble_eq_true rfl) (Nat.le_of_ble_eq_true rfl) h0,
   fun _ _ => mq_push rfl,
   fun _ _ _ _ => mq_ic_ne rfl,
   fun _ _ _ => mq_al (i := 0) rfl rfl,
   fun _ _ => mq_push rfl,
   fun _ _ _ _ h0 => mq_putI rfl h0,
   fun _ _ _ => mq_al (i := 0) rfl rfl,
   fun _ _ _ => mq_dup rfl rfl,
   fun _ _ _ h0 => mq_getI rfl h0,
   fun _ _ => mq_push rfl,
   fun _ _ _ _ => mq_bi rfl,
   fun _ _ _ _ h0 => mq_putI rfl h0,
   fun _ _ _ => mq_al (i := 0) rfl rfl,
   fun _ _ _ h0 => mq_getI rfl h0,
   fun _ _ => mq_push rfl,
   fun _ _ _ _ => mq_bi rfl,
   fun _ _ => mq_ri rfl,
   fun _ _ => mq_push rfl,
   fun _ _ => mq_ri rfl⟩
theorem eX12_text (d n : Nat) (I L : mm_I) (P : mm_P) (x0 : Option Nat) (x1 : Int) : mm_rn (d + 1) 190 [.inr (.inr x0), .inl x1] n I L P = mm_E d 190 0 [.inr (.inr x0), .inl x1] [] [] n I L P := rfl

set_option maxRecDepth 20000 in
set_option maxHeartbeats 8000000 in
theorem kX12_isSpot (d n : Nat) (I L : mm_I) (P : mm_P) :
  (∀ (st : List mm_V) z (l0 : mm_V), mm_E d 191 0 [l0, (.inl z)] [] st n I L P = mm_E d 191 1 [l0, (.inl z)] [] ((.inl z) :: st) n I L P) ∧
  (∀ (lv : List mm_V) (st : List mm_V), mm_E d 191 1 lv [] st n I L P = mm_E d 191 2 lv [] (.inl 0 :: st) n I L P) ∧
  (∀ (st : List mm_V) z (l1 : mm_V), mm_E d 191 2 [(.inr (.inr z)), l1] [] st n I L P = mm_E d 191 3 [(.inr (.inr z)), l1] [] ((.inr (.inr z)) :: st) n I L P) ∧
  (∀ (lv : List mm_V) (st : List mm_V) a, (mm_ok n a 12) → mm_E d 191 3 lv [] (.inr (.inr (some a)) :: st) n I L P = mm_E d 191 6 lv [] (.inl (I a 26) :: st) n I L P) ∧
  (∀ (lv : List mm_V) (st : List mm_V), mm_E d 191 6 lv [] st n I L P = mm_E d 191 7 lv [] (.inl 1 :: st) n I L P) ∧
  (∀ (lv : List mm_V) (st : List mm_V) a b, mm_E d 191 7 lv [] (.inl b :: .inl a :: st) n I L P = mm_E d 191 8 lv [] (.inl (mm_sub a b) :: st) n I L P) ∧
  (∀ (lv : List mm_V) x0 x1 x2, mm_E d 191 8 lv [] (.inl x2 :: .inl x1 :: .inl x0 :: []) n I L P = mm_kr d 191 11 lv [] [] n (mm_rn d 145 [.inl x0, .inl x1, .inl x2] n I L P)) ∧
  (∀ (lv : List mm_V) z, (0 ≤ z ∧ z < 2) → mm_E d 191 11 lv [] [.inl z] n I L P = some (some (.inl z), n, I, L, P)) :=
  ⟨fun _ _ _ => mq_il (i := 1) rfl rfl,
   fun _ _ => mq_push rfl,
   fun _ _ _ => mq_al (i := 0) rfl rfl,
   fun _ _ _ h0 => mq_getI rfl h0,
   fun _ _ => mq_push rfl,
   fun _ _ _ _ => mq_bi rfl,
   fun _ _ _ _ => mq_cSr (na := 3) rfl (Nat.le_of_ble_eq_true rfl) (Nat.le_of_ble_eq_true rfl),
   fun _ _ h0 => mq_rz rfl h0⟩
theorem eX12_isSpot (d n : Nat) (I L : mm_I) (P : mm_P) (x0 : Option Nat) (x1 : Int) : mm_rn (d + 1) 191 [.inr (.inr x0), .inl x1] n I L P = mm_E d 191 0 [.inr (.inr x0), .inl x1] [] [] n I L P := rfl

set_option maxRecDepth 20000 in
set_option maxHeartbeats 8000000 in
theorem kX12_stepsFrom (d n : Nat) (I L : mm_I) (P : mm_P) :
  (∀ (st : List mm_V) z (l1 : mm_V) (l2 : mm_V), mm_E d 192 0 [(.inr (.inr z)), l1, l2] [] st n I L P = mm_E d 192 1 [(.inr (.inr z)), l1, l2] [] ((.inr (.inr z)) :: st) n I L P) ∧
  (∀ (lv : List mm_V) (st : List mm_V) a, (mm_ok n a 12) → mm_E d 192 1 lv [] (.inr (.inr (some a)) :: st) n I L P = mm_E d 192 4 lv [] (.inr (.inr (P a 25)) :: st) n I L P) ∧
  (∀ (lv : List mm_V) (st : List mm_V), mm_E d 192 4 lv [] st n I L P = mm_E d 192 6 lv [] (.inl 8 :: st) n I L P) ∧
  (∀ (st : List mm_V) z (l0 : mm_V) (l2 : mm_V), mm_E d 192 6 [l0, (.inl z), l2] [] st n I L P = mm_E d 192 7 [l0, (.inl z), l2] [] ((.inl z) :: st) n I L P) ∧
  (∀ (lv : List mm_V) (st : List mm_V) a b, mm_E d 192 7 lv [] (.inl b :: .inl a :: st) n I L P = mm_E d 192 8 lv [] (.inl (mm_mul a b) :: st) n I L P) ∧
  (∀ (st : List mm_V) z (l0 : mm_V) (l1 : mm_V), mm_E d 192 8 [l0, l1, (.inl z)] [] st n I L P = mm_E d 192 9 [l0, l1, (.inl z)] [] ((.inl z) :: st) n I L P) ∧
  (∀ (lv : List mm_V) (st : List mm_V) a b, mm_E d 192 9 lv [] (.inl b :: .inl a :: st) n I L P = mm_E d 192 10 lv [] (.inl (mm_add a b) :: st) n I L P) ∧
  (∀ (lv : List mm_V) (st : List mm_V) a i, (mm_ix n a 20 i) → mm_E d 192 10 lv [] (.inl i :: .inr (.inr (some a)) :: st) n I L P = mm_E d 192 11 lv [] (.inl (I a i.toNat) :: st) n I L P) ∧
  (∀ (lv : List mm_V) z, mm_E d 192 11 lv [] [.inl z] n I L P = some (some (.inl z), n, I, L, P)) :=
  ⟨fun _ _ _ _ => mq_al (i := 0) rfl rfl,
   fun _ _ _ h0 => mq_getR rfl h0,
   fun _ _ => mq_push rfl,
   fun _ _ _ _ => mq_il (i := 1) rfl rfl,
   fun _ _ _ _ => mq_bi rfl,
   fun _ _ _ _ => mq_il (i := 2) rfl rfl,
   fun _ _ _ _ => mq_bi rfl,
   fun _ _ _ _ h0 => mq_iald rfl h0,
   fun _ _ => mq_ri rfl⟩
theorem eX12_stepsFrom (d n : Nat) (I L : mm_I) (P : mm_P) (x0 : Option Nat) (x1 : Int) (x2 : Int) : mm_rn (d + 1) 192 [.inr (.inr x0), .inl x1, .inl x2] n I L P = mm_E d 192 0 [.inr (.inr x0), .inl x1, .inl x2] [] [] n I L P := rfl

set_option maxRecDepth 20000 in
set_option maxHeartbeats 8000000 in
theorem kX12_isTrouble (d n : Nat) (I L : mm_I) (P : mm_P) :
  (∀ (st : List mm_V) z (l1 : mm_V), mm_E d 193 0 [(.inr (.inr z)), l1] [] st n I L P = mm_E d 193 1 [(.inr (.inr z)), l1] [] ((.inr (.inr z)) :: st) n I L P) ∧
  (∀ (lv : List mm_V) (st : List mm_V) a, (mm_ok n a 12) → mm_E d 193 1 lv [] (.inr (.inr (some a)) :: st) n I L P = mm_E d 193 4 lv [] (.inr (.inr (P a 27)) :: st) n I L P) ∧
  (∀ (lv : List mm_V) (st : List mm_V), mm_E d 193 4 lv [] st n I L P = mm_E d 193 6 lv [] (.inl 16 :: st) n I L P) ∧
  (∀ (st : List mm_V) z (l0 : mm_V), mm_E d 193 6 [l0, (.inl z)] [] st n I L P = mm_E d 193 7 [l0, (.inl z)] [] ((.inl z) :: st) n I L P) ∧
  (∀ (lv : List mm_V) (st : List mm_V) a b, mm_E d 193 7 lv [] (.inl b :: .inl a :: st) n I L P = mm_E d 193 8 lv [] (.inl (mm_add a b) :: st) n I L P) ∧
  (∀ (lv : List mm_V) (st : List mm_V) a i, (mm_ix n a 20 i) → mm_E d 193 8 lv [] (.inl i :: .inr (.inr (some a)) :: st) n I L P = mm_E d 193 9 lv [] (.inl (I a i.toNat) :: st) n I L P) ∧
  (∀ (lv : List mm_V) (st : List mm_V) a, mm_E d 193 9 lv [] (.inl a :: st) n I L P = if a ≤ 0 then mm_E d 193 16 lv [] st n I L P else mm_E d 193 12 lv [] st n I L P) ∧
  (∀ (lv : List mm_V) (st : List mm_V), mm_E d 193 12 lv [] st n I L P = mm_E d 193 13 lv [] (.inl 1 :: st) n I L P) ∧
  (∀ (lv : List mm_V) (st : List mm_V), mm_E d 193 13 lv [] st n I L P = mm_E d 193 17 lv [] st n I L P) ∧
  (∀ (lv : List mm_V) (st : List mm_V), mm_E d 193 16 lv [] st n I L P = mm_E d 193 17 lv [] (.inl 0 :: st) n I L P) ∧
  (∀ (lv : List mm_V) z, (0 ≤ z ∧ z < 2) → mm_E d 193 17 lv [] [.inl z] n I L P = some (some (.inl z), n, I, L, P)) :=
  ⟨fun _ _ _ => mq_al (i := 0) rfl rfl,
   fun _ _ _ h0 => mq_getR rfl h0,
   fun _ _ => mq_push rfl,
   fun _ _ _ => mq_il (i := 1) rfl rfl,
   fun _ _ _ _ => mq_bi rfl,
   fun _ _ _ _ h0 => mq_iald rfl h0,
   fun _ _ _ => mq_if_le rfl,
   fun _ _ => mq_push rfl,
   fun _ _ => mq_go rfl,
   fun _ _ => mq_push rfl,
   fun _ _ h0 => mq_rz rfl h0⟩
theorem eX12_isTrouble (d n : Nat) (I L : mm_I) (P : mm_P) (x0 : Option Nat) (x1 : Int) : mm_rn (d + 1) 193 [.inr (.inr x0), .inl x1] n I L P = mm_E d 193 0 [.inr (.inr x0), .inl x1] [] [] n I L P := rfl

set_option maxRecDepth 20000 in
set_option maxHeartbeats 8000000 in
theorem kX12_troubles (d n : Nat) (I L : mm_I) (P : mm_P) :
  (∀ (lv : List mm_V) (st : List mm_V), mm_E d 194 0 lv [] st n I L P = mm_E d 194 1 lv [] (.inl 0 :: st) n I L P) ∧
  (∀ (st : List mm_V) z (l0 : mm_V) (l1 : mm_V) (l2 : mm_V), mm_E d 194 1 [l0, l1, l2] [] ((.inl z) :: st) n I L P = mm_E d 194 2 [l0, (.inl z), l2] [] st n I L P) ∧
  (∀ (lv : List mm_V) (st : List mm_V), mm_E d 194 2 lv [] st n I L P = mm_E d 194 3 lv [] (.inl 0 :: st) n I L P) ∧
  (∀ (st : List mm_V) z (l0 : mm_V) (l1 : mm_V) (l2 : mm_V), mm_E d 194 3 [l0, l1, l2] [] ((.inl z) :: st) n I L P = mm_E d 194 4 [l0, l1, (.inl z)] [] st n I L P) ∧
  (∀ (st : List mm_V) z (l1 : mm_V) (l2 : mm_V), mm_E d 194 5 [(.inr (.inr z)), l1, l2] [] st n I L P = mm_E d 194 6 [(.inr (.inr z)), l1, l2] [] ((.inr (.inr z)) :: st) n I L P) ∧
  (∀ (lv : List mm_V) (st : List mm_V) a, (mm_ok n a 12) → mm_E d 194 6 lv [] (.inr (.inr (some a)) :: st) n I L P = mm_E d 194 9 lv [] (.inl (I a 26) :: st) n I L P) ∧
  (∀ (lv : List mm_V) (st : List mm_V) a b, mm_E d 194 9 lv [] (.inl b :: .inl a :: st) n I L P = if b ≤ a then mm_E d 194 36 lv [] st n I L P else mm_E d 194 12 lv [] st n I L P) ∧
  (∀ (st : List mm_V) z (l0 : mm_V) (l2 : mm_V), mm_E d 194 12 [l0, (.inl z), l2] [] st n I L P = mm_E d 194 13 [l0, (.inl z), l2] [] ((.inl z) :: st) n I L P) ∧
  (∀ (st : List mm_V) z (l1 : mm_V) (l2 : mm_V), mm_E d 194 13 [(.inr (.inr z)), l1, l2] [] st n I L P = mm_E d 194 14 [(.inr (.inr z)), l1, l2] [] ((.inr (.inr z)) :: st) n I L P) ∧
  (∀ (st : List mm_V) z (l0 : mm_V) (l1 : mm_V), mm_E d 194 14 [l0, l1, (.inl z)] [] st n I L P = mm_E d 194 15 [l0, l1, (.inl z)] [] ((.inl z) :: st) n I L P) ∧
  (∀ (lv : List mm_V) a x0 w0, (mm_ok n a 12) → mm_E d 194 15 lv [] (.inl x0 :: .inr (.inr (some a)) :: [.inl w0]) n I L P = mm_kr d 194 18 lv [] [.inl w0] n (mm_rn d 193 [.inr (.inr (some a)), .inl x0] n I L P)) ∧
  (∀ (lv : List mm_V) (st : List mm_V) a, mm_E d 194 18 lv [] (.inl a :: st) n I L P = if a = 0 then mm_E d 194 27 lv [] st n I L P else mm_E d 194 21 lv [] st n I L P) ∧
  (∀ (lv : List mm_V) (st : List mm_V), mm_E d 194 21 lv [] st n I L P = mm_E d 194 22 lv [] (.inl 1 :: st) n I L P) ∧
  (∀ (st : List mm_V) z (l0 : mm_V) (l1 : mm_V), mm_E d 194 22 [l0, l1, (.inl z)] [] st n I L P = mm_E d 194 23 [l0, l1, (.inl z)] [] ((.inl z) :: st) n I L P) ∧
  (∀ (lv : List mm_V) (st : List mm_V) a b, mm_E d 194 23 lv [] (.inl b :: .inl a :: st) n I L P = mm_E d 194 24 lv [] (.inl (mm_shl a b) :: st) n I L P) ∧
  (∀ (lv : List mm_V) (st : List mm_V), mm_E d 194 24 lv [] st n I L P = mm_E d 194 28 lv [] st n I L P) ∧
  (∀ (lv : List mm_V) (st : List mm_V), mm_E d 194 27 lv [] st n I L P = mm_E d 194 28 lv [] (.inl 0 :: st) n I L P) ∧
  (∀ (lv : List mm_V) (st : List mm_V) a b, mm_E d 194 28 lv [] (.inl b :: .inl a :: st) n I L P = mm_E d 194 29 lv [] (.inl (mm_or a b) :: st) n I L P) ∧
  (∀ (st : List mm_V) z (l0 : mm_V) (l1 : mm_V) (l2 : mm_V), mm_E d 194 29 [l0, l1, l2] [] ((.inl z) :: st) n I L P = mm_E d 194 30 [l0, (.inl z), l2] [] st n I L P) ∧
  (∀ (st : List mm_V) z (l0 : mm_V) (l1 : mm_V), mm_E d 194 30 [l0, l1, (.inl z)] [] st n I L P = mm_E d 194 33 [l0, l1, (.inl (mm_add z 1))] [] st n I L P) ∧
  (∀ (lv : List mm_V) (st : List mm_V), mm_E d 194 33 lv [] st n I L P = mm_E d 194 4 lv [] st n I L P) ∧
  (∀ (st : List mm_V) z (l0 : mm_V) (l2 : mm_V), mm_E d 194 36 [l0, (.inl z), l2] [] st n I L P = mm_E d 194 37 [l0, (.inl z), l2] [] ((.inl z) :: st) n I L P) ∧
  (∀ (lv : List mm_V) z, mm_E d 194 37 lv [] [.inl z] n I L P = some (some (.inl z), n, I, L, P)) :=
  ⟨fun _ _ => mq_push rfl,
   fun _ _ _ _ _ => mq_is (i := 1) rfl rfl rfl,
   fun _ _ => mq_push rfl,
   fun _ _ _ _ _ => mq_is (i := 2) rfl rfl rfl,
   fun _ _ _ _ => mq_al (i := 0) rfl rfl,
   fun _ _ _ h0 => mq_getI rfl h0,
   fun _ _ _ _ => mq_ic_ge rfl,
   fun _ _ _ _ => mq_il (i := 1) rfl rfl,
   fun _ _ _ _ => mq_al (i := 0) rfl rfl,
   fun _ _ _ _ => mq_il (i := 2) rfl rfl,
   fun _ _ _ _ h0 => mq_cVr (na := 1) rfl rfl (Nat.le_of_ble_eq_true rfl) (Nat.le_of_ble_eq_true rfl) h0,
   fun _ _ _ => mq_if_eq rfl,
   fun _ _ => mq_push rfl,
   fun _ _ _ _ => mq_il (i := 2) rfl rfl,
   fun _ _ _ _ => mq_bi rfl,
   fun _ _ => mq_go rfl,
   fun _ _ => mq_push rfl,
   fun _ _ _ _ => mq_bi rfl,
   fun _ _ _ _ _ => mq_is (i := 1) rfl rfl rfl,
   fun _ _ _ _ => mq_iinc (i := 2) rfl rfl rfl rfl,
   fun _ _ => mq_go rfl,
   fun _ _ _ _ => mq_il (i := 1) rfl rfl,
   fun _ _ => mq_ri rfl⟩
theorem hX12_troubles_4 (d n : Nat) (I L : mm_I) (P : mm_P) : ∀ (st : List mm_V) z (l0 : mm_V) (l1 : mm_V), mm_E d 194 4 [l0, l1, (.inl z)] [] st n I L P = mm_E d 194 5 [l0, l1, (.inl z)] [] ((.inl z) :: st) n I L P := fun _ _ _ _ => mq_il (i := 2) rfl rfl
theorem eX12_troubles (d n : Nat) (I L : mm_I) (P : mm_P) (x0 : Option Nat) : mm_rn (d + 1) 194 [.inr (.inr x0)] n I L P = mm_E d 194 0 [.inr (.inr x0), mm_junk, mm_junk] [] [] n I L P := rfl
