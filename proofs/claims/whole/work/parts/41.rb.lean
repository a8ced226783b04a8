/-! step rules of each method, printed by program -/
set_option maxRecDepth 20000 in
set_option maxHeartbeats 8000000 in
theorem kX4_readLaw (d n : Nat) (I L : mm_I) (P : mm_P) :
  (∀ (st : List mm_V) z (l1 : mm_V) (l2 : mm_V), mm_E d 28 0 [(.inr (.inr z)), l1, l2] [] st n I L P = mm_E d 28 1 [(.inr (.inr z)), l1, l2] [] ((.inr (.inr z)) :: st) n I L P) ∧
  (∀ (lv : List mm_V) (st : List mm_V), mm_E d 28 1 lv [] st n I L P = mm_E d 28 2 lv [] (.inl 0 :: st) n I L P) ∧
  (∀ (lv : List mm_V) (st : List mm_V) a z, (mm_ok n a 8) → mm_E d 28 2 lv [] (.inl z :: .inr (.inr (some a)) :: st) n I L P = mm_E d 28 5 lv [] st n (mm_ui I a 2 z) L P) ∧
  (∀ (st : List mm_V) z (l0 : mm_V) (l2 : mm_V), mm_E d 28 5 [l0, (.inr (.inr z)), l2] [] st n I L P = mm_E d 28 6 [l0, (.inr (.inr z)), l2] [] ((.inr (.inr z)) :: st) n I L P) ∧
  (∀ (lv : List mm_V) (st : List mm_V), mm_E d 28 6 lv [] st n I L P = mm_E d 28 7 lv [] (.inl 0 :: st) n I L P) ∧
  (∀ (lv : List mm_V) (st : List mm_V) a z, (mm_ok n a 3) → mm_E d 28 7 lv [] (.inl z :: .inr (.inr (some a)) :: st) n I L P = mm_E d 28 10 lv [] st n (mm_ui I a 1 z) L P) ∧
  (∀ (lv : List mm_V) (st : List mm_V), mm_E d 28 10 lv [] st n I L P = mm_E d 28 11 lv [] (.inl 0 :: st) n I L P) ∧
  (∀ (st : List mm_V) z (l0 : mm_V) (l1 : mm_V) (l2 : mm_V), mm_E d 28 11 [l0, l1, l2] [] ((.inl z) :: st) n I L P = mm_E d 28 12 [l0, l1, (.inl z)] [] st n I L P) ∧
  (∀ (lv : List mm_V) (st : List mm_V), mm_E d 28 13 lv [] st n I L P = mm_E d 28 16 lv [] (.inl 240 :: st) n I L P) ∧
  (∀ (lv : List mm_V) (st : List mm_V) a b, mm_E d 28 16 lv [] (.inl b :: .inl a :: st) n I L P = if b < a then mm_E d 28 56 lv [] st n I L P else mm_E d 28 19 lv [] st n I L P) ∧
  (∀ (st : List mm_V) z (l1 : mm_V) (l2 : mm_V), mm_E d 28 19 [(.inr (.inr z)), l1, l2] [] st n I L P = mm_E d 28 20 [(.inr (.inr z)), l1, l2] [] ((.inr (.inr z)) :: st) n I L P) ∧
  (∀ (st : List mm_V) z (l0 : mm_V) (l2 : mm_V), mm_E d 28 20 [l0, (.inr (.inr z)), l2] [] st n I L P = mm_E d 28 21 [l0, (.inr (.inr z)), l2] [] ((.inr (.inr z)) :: st) n I L P) ∧
  (∀ (lv : List mm_V) x0 x1, mm_E d 28 21 lv [] (.inr (.inr x1) :: .inr (.inr x0) :: []) n I L P = mm_kr d 28 24 lv [] [] n (mm_rn d 29 [.inr (.inr x0), .inr (.inr x1)] n I L P)) ∧
  (∀ (lv : List mm_V) (st : List mm_V) a, mm_E d 28 24 lv [] (.inl a :: st) n I L P = if a = 0 then mm_E d 28 27 lv [] st n I L P else mm_E d 28 29 lv [] st n I L P) ∧
  (∀ (lv : List mm_V) (st : List mm_V), mm_E d 28 27 lv [] st n I L P = mm_E d 28 28 lv [] (.inl 0 :: st) n I L P) ∧
  (∀ (lv : List mm_V) z, (0 ≤ z ∧ z < 2) → mm_E d 28 28 lv [] [.inl z] n I L P = some (some (.inl z), n, I, L, P)) ∧
  (∀ (st : List mm_V) z (l1 : mm_V) (l2 : mm_V), mm_E d 28 29 [(.inr (.inr z)), l1, l2] [] st n I L P = mm_E d 28 30 [(.inr (.inr z)), l1, l2] [] ((.inr (.inr z)) :: st) n I L P) ∧
  (∀ (lv : List mm_V) a, (mm_ok n a 8) → mm_E d 28 30 lv [] (.inr (.inr (some a)) :: []) n I L P = mm_kr d 28 33 lv [] [] n (mm_rn d 59 [.inr (.inr (some a))] n I L P)) ∧
  (∀ (lv : List mm_V) (st : List mm_V), mm_E d 28 33 lv [] st n I L P = mm_E d 28 34 lv [] (.inl (-1) :: st) n I L P) ∧
  (∀ (lv : List mm_V) (st : List mm_V) a b, mm_E d 28 34 lv [] (.inl b :: .inl a :: st) n I L P = if a = b then mm_E d 28 37 lv [] st n I L P else mm_E d 28 39 lv [] st n I L P) ∧
  (∀ (lv : List mm_V) (st : List mm_V), mm_E d 28 37 lv [] st n I L P = mm_E d 28 38 lv [] (.inl 1 :: st) n I L P) ∧
  (∀ (lv : List mm_V) z, (0 ≤ z ∧ z < 2) → mm_E d 28 38 lv [] [.inl z] n I L P = some (some (.inl z), n, I, L, P)) ∧
  (∀ (st : List mm_V) z (l1 : mm_V) (l2 : mm_V), mm_E d 28 39 [(.inr (.inr z)), l1, l2] [] st n I L P = mm_E d 28 40 [(.inr (.inr z)), l1, l2] [] ((.inr (.inr z)) :: st) n I L P) ∧
  (∀ (lv : List mm_V) (st : List mm_V), mm_E d 28 40 lv [] st n I L P = mm_E d 28 42 lv [] (.inl 59 :: st) n I L P) ∧
  (∀ (lv : List mm_V) a x0, (mm_ok n a 8) → mm_E d 28 42 lv [] (.inl x0 :: .inr (.inr (some a)) :: []) n I L P = mm_kr d 28 45 lv [] [] n (mm_rn d 60 [.inr (.inr (some a)), .inl x0] n I L P)) ∧
  (∀ (lv : List mm_V) (st : List mm_V) a, mm_E d 28 45 lv [] (.inl a :: st) n I L P = if a = 0 then mm_E d 28 48 lv [] st n I L P else mm_E d 28 50 lv [] st n I L P) ∧
  (∀ (lv : List mm_V) (st : List mm_V), mm_E d 28 48 lv [] st n I L P = mm_E d 28 49 lv [] (.inl 0 :: st) n I L P) ∧
  (∀ (lv : List mm_V) z, (0 ≤ z ∧ z < 2) → mm_E d 28 49 lv [] [.inl z] n I L P = some (some (.inl z), n, I, L, P)) ∧
  (∀ (st : List mm_V) z (l0 : mm_V) (l1 : mm_V), mm_E d 28 50 [l0, l1, (.inl z)] [] st n I L P = mm_E d 28 53 [l0, l1, (.inl (mm_add z 1))] [] st n I L P) ∧
  (∀ (lv : List mm_V) (st : List mm_V), mm_E d 28 53 lv [] st n I L P = mm_E d 28 12 lv [] st n I L P) ∧
  (∀ (lv : List mm_V) (st : List mm_V), mm_E d 28 56 lv [] st n I L P = mm_E d 28 57 lv [] (.inl 0 :: st) n I L P) ∧
  (∀ (lv : List mm_V) z, (0 ≤ z ∧ z < 2) → mm_E d 28 57 lv [] [.inl z] n I L P = some (some (.inl z), n, I, L, P)) :=
  ⟨fun _ _ _ _ => mq_al (i := 0) rfl rfl,
   fun _ _ => mq_push rfl,
   fun _ _ _ _ h0 => mq_putI rfl h0,
   fun _ _ _ _ => mq_al (i := 1) rfl rfl,
   fun _ _ => mq_push rfl,
   fun _ _ _ _ h0 => mq_putI rfl h0,
   fun _ _ => mq_push rfl,
   fun _ _ _ _ _ => mq_is (i := 2) rfl rfl rfl,
   fun _ _ => mq_push rfl,
   fun _ _ _ _ => mq_ic_gt rfl,
   fun _ _ _ _ => mq_al (i := 0) rfl rfl,
   fun _ _ _ _ => mq_al (i := 1) rfl rfl,
   fun _ _ _ => mq_cSr (na := 2) rfl (Nat.le_of_ble_eq_true rfl) (Nat.le_of_ble_eq_true rfl),
   fun _ _ _ => mq_if_ne rfl,
   fun _ _ => mq_push rfl,
   fun _ _ h0 => mq_rz rfl h0,
   fun _ _ _ _ => mq_al (i := 0) rfl rfl,
   fun _ _ h0 => mq_cVr (na := 0) rfl rfl (Nat.le_of_ble_eq_true rfl) (Nat.le_of_ble_eq_true rfl) h0,
   fun _ _ => mq_push rfl,
   fun _ _ _ _ => mq_ic_ne rfl,
   fun _ _ => mq_push rfl,
   fun _ _ h0 => mq_rz rfl h0,
   fun _ _ _ _ => mq_al (i := 0) rfl rfl,
   fun _ _ => mq_push rfl,
   fun _ _ _ h0 => mq_cVr (na := 1) rfl rfl (Nat.le_of_ble_eq_true rfl) (Nat.le_of_ble_eq_true rfl) h0,
   fun _ _ _ => mq_if_ne rfl,
   fun _ _ => mq_push rfl,
   fun _ _ h0 => mq_rz rfl h0,
   fun _ _ _ _ => mq_iinc (i := 2) rfl rfl rfl rfl,
   fun _ _ => mq_go rfl,
   fun _ _ => mq_push rfl,
   fun _ _ h0 => mq_rz rfl h0⟩
theorem hX4_readLaw_12 (d n : Nat) (I L : mm_I) (P : mm_P) : ∀ (st : List mm_V) z (l0 : mm_V) (l1 : mm_V), mm_E d 28 12 [l0, l1, (.inl z)] [] st n I L P = mm_E d 28 13 [l0, l1, (.inl z)] [] ((.inl z) :: st) n I L P := fun _ _ _ _ => mq_il (i := 2) rfl rfl
theorem eX4_readLaw (d n : Nat) (I L : mm_I) (P : mm_P) (x0 : Option Nat) (x1 : Option Nat) : mm_rn (d + 1) 28 [.inr (.inr x0), .inr (.inr x1)] n I L P = mm_E d 28 0 [.inr (.inr x0), .inr (.inr x1), mm_junk] [] [] n I L P := rfl

set_option maxRecDepth 20000 in
set_option maxHeartbeats 8000000 in
theorem kX4_readClause (d n : Nat) (I L : mm_I) (P : mm_P) :
  (∀ (st : List mm_V) z (l1 : mm_V) (l2 : mm_V) (l3 : mm_V) (l4 : mm_V), mm_E d 29 0 [(.inr (.inr z)), l1, l2, l3, l4] [] st n I L P = mm_E d 29 1 [(.inr (.inr z)), l1, l2, l3, l4] [] ((.inr (.inr z)) :: st) n I L P) ∧
  (∀ (lv : List mm_V) (st : List mm_V), mm_E d 29 1 lv [] st n I L P = mm_E d 29 3 lv [] (.inl 121 :: st) n I L P) ∧
  (∀ (lv : List mm_V) a x0, (mm_ok n a 8) → mm_E d 29 3 lv [] (.inl x0 :: .inr (.inr (some a)) :: []) n I L P = mm_kr d 29 6 lv [] [] n (mm_rn d 60 [.inr (.inr (some a)), .inl x0] n I L P)) ∧
  (∀ (lv : List mm_V) (st : List mm_V) a, mm_E d 29 6 lv [] (.inl a :: st) n I L P = if a = 0 then mm_E d 29 18 lv [] st n I L P else mm_E d 29 9 lv [] st n I L P) ∧
  (∀ (st : List mm_V) z (l1 : mm_V) (l2 : mm_V) (l3 : mm_V) (l4 : mm_V), mm_E d 29 9 [(.inr (.inr z)), l1, l2, l3, l4] [] st n I L P = mm_E d 29 10 [(.inr (.inr z)), l1, l2, l3, l4] [] ((.inr (.inr z)) :: st) n I L P) ∧
  (∀ (lv : List mm_V) (st : List mm_V), mm_E d 29 10 lv [] st n I L P = mm_E d 29 12 lv [] (.inl 58 :: st) n I L P) ∧
  (∀ (lv : List mm_V) a x0, (mm_ok n a 8) → mm_E d 29 12 lv [] (.inl x0 :: .inr (.inr (some a)) :: []) n I L P = mm_kr d 29 15 lv [] [] n (mm_rn d 60 [.inr (.inr (some a)), .inl x0] n I L P)) ∧
  (∀ (lv : List mm_V) (st : List mm_V) a, mm_E d 29 15 lv [] (.inl a :: st) n I L P = if a = 0 then mm_E d 29 18 lv [] st n I L P else mm_E d 29 20 lv [] st n I L P) ∧
  (∀ (lv : List mm_V) (st : List mm_V), mm_E d 29 18 lv [] st n I L P = mm_E d 29 19 lv [] (.inl 0 :: st) n I L P) ∧
  (∀ (lv : List mm_V) z, (0 ≤ z ∧ z < 2) → mm_E d 29 19 lv [] [.inl z] n I L P = some (some (.inl z), n, I, L, P)) ∧
  (∀ (st : List mm_V) z (l1 : mm_V) (l2 : mm_V) (l3 : mm_V) (l4 : mm_V), mm_E d 29 20 [(.inr (.inr z)), l1, l2, l3, l4] [] st n I L P = mm_E d 29 21 [(.inr (.inr z)), l1, l2, l3, l4] [] ((.inr (.inr z)) :: st) n I L P) ∧
  (∀ (lv : List mm_V) a, (mm_ok n a 8) → mm_E d 29 21 lv [] (.inr (.inr (some a)) :: []) n I L P = mm_kr d 29 24 lv [] [] n (mm_rn d 59 [.inr (.inr (some a))] n I L P)) ∧
  (∀ (st : List mm_V) z (l0 : mm_V) (l1 : mm_V) (l2 : mm_V) (l3 : mm_V) (l4 : mm_V), mm_E d 29 24 [l0, l1, l2, l3, l4] [] ((.inl z) :: st) n I L P = mm_E d 29 25 [l0, l1, (.inl z), l3, l4] [] st n I L P) ∧
  (∀ (st : List mm_V) z (l0 : mm_V) (l1 : mm_V) (l3 : mm_V) (l4 : mm_V), mm_E d 29 25 [l0, l1, (.inl z), l3, l4] [] st n I L P = mm_E d 29 26 [l0, l1, (.inl z), l3, l4] [] ((.inl z) :: st) n I L P) ∧
  (∀ (lv : List mm_V) (st : List mm_V), mm_E d 29 26 lv [] st n I L P = mm_E d 29 28 lv [] (.inl 33 :: st) n I L P) ∧
  (∀ (lv : List mm_V) (st : List mm_V) a b, mm_E d 29 28 lv [] (.inl b :: .inl a :: st) n I L P = if a = b then mm_E d 29 41 lv [] st n I L P else mm_E d 29 31 lv [] st n I L P) ∧
  (∀ (st : List mm_V) z (l0 : mm_V) (l1 : mm_V) (l3 : mm_V) (l4 : mm_V), mm_E d 29 31 [l0, l1, (.inl z), l3, l4] [] st n I L P = mm_E d 29 32 [l0, l1, (.inl z), l3, l4] [] ((.inl z) :: st) n I L P) ∧
  (∀ (lv : List mm_V) (st : List mm_V), mm_E d 29 32 lv [] st n I L P = mm_E d 29 34 lv [] (.inl 40 :: st) n I L P) ∧
  (∀ (lv : List mm_V) (st : List mm_V) a b, mm_E d 29 34 lv [] (.inl b :: .inl a :: st) n I L P = if a = b then mm_E d 29 41 lv [] st n I L P else mm_E d 29 37 lv [] st n I L P) ∧
  (∀ (lv : List mm_V) (st : List mm_V), mm_E d 29 37 lv [] st n I L P = mm_E d 29 38 lv [] (.inl 1 :: st) n I L P) ∧
  (∀ (lv : List mm_V) (st : List mm_V), mm_E d 29 38 lv [] st n I L P = mm_E d 29 42 lv [] st n I L P) ∧
  (∀ (lv : List mm_V) (st : List mm_V), mm_E d 29 41 lv [] st n I L P = mm_E d 29 42 lv [] (.inl 0 :: st) n I L P) ∧
  (∀ (st : List mm_V) z (l0 : mm_V) (l1 : mm_V) (l2 : mm_V) (l3 : mm_V) (l4 : mm_V), mm_E d 29 42 [l0, l1, l2, l3, l4] [] ((.inl z) :: st) n I L P = mm_E d 29 43 [l0, l1, l2, (.inl z), l4] [] st n I L P) ∧
  (∀ (st : List mm_V) z (l0 : mm_V) (l1 : mm_V) (l2 : mm_V) (l4 : mm_V), mm_E d 29 43 [l0, l1, l2, (.inl z), l4] [] st n I L P = mm_E d 29 44 [l0, l1, l2, (.inl z), l4] [] ((.inl z) :: st) n I L P) ∧
  (∀ (lv : List mm_V) (st : List mm_V) a, mm_E d 29 44 lv [] (.inl a :: st) n I L P = if a = 0 then mm_E d 29 78 lv [] st n I L P else mm_E d 29 47 lv [] st n I L P) ∧
  (∀ (st : List mm_V) z (l1 : mm_V) (l2 : mm_V) (l3 : mm_V) (l4 : mm_V), mm_E d 29 47 [(.inr (.inr z)), l1, l2, l3, l4] [] st n I L P = mm_E d 29 48 [(.inr (.inr z)), l1, l2, l3, l4] [] ((.inr (.inr z)) :: st) n I L P) ∧
  (∀ (st : List mm_V) z (l0 : mm_V) (l2 : mm_V) (l3 : mm_V) (l4 : mm_V), mm_E d 29 48 [l0, (.inr (.inr z)), l2, l3, l4] [] st n I L P = mm_E d 29 49 [l0, (.inr (.inr z)), l2, l3, l4] [] ((.inr (.inr z)) :: st) n I L P) ∧
  (∀ (lv : List mm_V) (st : List mm_V), mm_E d 29 49 lv [] st n I L P = mm_E d 29 50 lv [] (.inl 0 :: st) n I L P) ∧
  (∀ (lv : List mm_V) x0 x1 x2, mm_E d 29 50 lv [] (.inl x2 :: .inr (.inr x1) :: .inr (.inr x0) :: []) n I L P = mm_kr d 29 53 lv [] [] n (mm_rn d 35 [.inr (.inr x0), .inr (.inr x1), .inl x2] n I L P)) ∧
  (∀ (lv : List mm_V) (st : List mm_V) a, mm_E d 29 53 lv [] (.inl a :: st) n I L P = if a = 0 then mm_E d 29 56 lv [] st n I L P else mm_E d 29 58 lv [] st n I L P) ∧
  (∀ (lv : List mm_V) (st : List mm_V), mm_E d 29 56 lv [] st n I L P = mm_E d 29 57 lv [] (.inl 0 :: st) n I L P) ∧
  (∀ (lv : List mm_V) z, (0 ≤ z ∧ z < 2) → mm_E d 29 57 lv [] [.inl z] n I L P = some (some (.inl z), n, I, L, P)) ∧
  (∀ (st : List mm_V) z (l1 : mm_V) (l2 : mm_V) (l3 : mm_V) (l4 : mm_V), mm_E d 29 58 [(.inr (.inr z)), l1, l2, l3, l4] [] st n I L P = mm_E d 29 59 [(.inr (.inr z)), l1, l2, l3, l4] [] ((.inr (.inr z)) :: st) n I L P) ∧
  (∀ (lv : List mm_V) a, (mm_ok n a 8) → mm_E d 29 59 lv [] (.inr (.inr (some a)) :: []) n I L P = mm_kr d 29 62 lv [] [] n (mm_rn d 59 [.inr (.inr (some a))] n I L P)) ∧
  (∀ (lv : List mm_V) x0, mm_E d 29 62 lv [] (.inl x0 :: []) n I L P = mm_kr d 29 65 lv [] [] n (mm_rn d 34 [.inl x0] n I L P)) ∧
  (∀ (lv : List mm_V) (st : List mm_V), mm_E d 29 65 lv [] st n I L P = mm_E d 29 66 lv [] (.inl (-1) :: st) n I L P) ∧
  (∀ (lv : List mm_V) (st : List mm_V) a b, mm_E d 29 66 lv [] (.inl b :: .inl a :: st) n I L P = if a = b then mm_E d 29 69 lv [] st n I L P else mm_E d 29 78 lv [] st n I L P) ∧
  (∀ (st : List mm_V) z (l0 : mm_V) (l2 : mm_V) (l3 : mm_V) (l4 : mm_V), mm_E d 29 69 [l0, (.inr (.inr z)), l2, l3, l4] [] st n I L P = mm_E d 29 70 [l0, (.inr (.inr z)), l2, l3, l4] [] ((.inr (.inr z)) :: st) n I L P) ∧
  (∀ (lv : List mm_V) (st : List mm_V), mm_E d 29 70 lv [] st n I L P = mm_E d 29 72 lv [] (.inl 13 :: st) n I L P) ∧
  (∀ (lv : List mm_V) (st : List mm_V), mm_E d 29 72 lv [] st n I L P = mm_E d 29 73 lv [] (.inl 0 :: st) n I L P) ∧
  (∀ (lv : List mm_V) a x0 x1, (mm_ok n a 3) → mm_E d 29 73 lv [] (.inl x1 :: .inl x0 :: .inr (.inr (some a)) :: []) n I L P = mm_kv d 29 76 lv [] [] n (mm_rn d 22 [.inr (.inr (some a)), .inl x0, .inl x1] n I L P)) ∧
  (∀ (lv : List mm_V) (st : List mm_V), mm_E d 29 76 lv [] st n I L P = mm_E d 29 77 lv [] (.inl 1 :: st) n I L P) ∧
  (∀ (lv : List mm_V) z, (0 ≤ z ∧ z < 2) → mm_E d 29 77 lv [] [.inl z] n I L P = some (some (.inl z), n, I, L, P)) ∧
  (∀ (st : List mm_V) z (l1 : mm_V) (l2 : mm_V) (l3 : mm_V) (l4 : mm_V), mm_E d 29 78 [(.inr (.inr z)), l1, l2, l3, l4] [] st n I L P = mm_E d 29 79 [(.inr (.inr z)), l1, l2, l3, l4] [] ((.inr (.inr z)) :: st) n I L P) ∧
  (∀ (st : List mm_V) z (l0 : mm_V) (l2 : mm_V) (l3 : mm_V) (l4 : mm_V), mm_E d 29 79 [l0, (.inr (.inr z)), l2, l3, l4] [] st n I L P = mm_E d 29 80 [l0, (.inr (.inr z)), l2, l3, l4] [] ((.inr (.inr z)) :: st) n I L P) ∧
  (∀ (lv : List mm_V) (st : List mm_V), mm_E d 29 80 lv [] st n I L P = mm_E d 29 81 lv [] (.inl 0 :: st) n I L P) ∧
  (∀ (st : List mm_V) z (l0 : mm_V) (l1 : mm_V) (l2 : mm_V) (l4 : mm_V), mm_E d 29 81 [l0, l1, l2, (.inl z), l4] [] st n I L P = mm_E d 29 82 [l0, l1, l2, (.inl z), l4] [] ((.inl z) :: st) n I L P) ∧
  (∀ (lv : List mm_V) x0 x1 x2 x3, mm_E d 29 82 lv [] (.inl x3 :: .inl x2 :: .inr (.inr x1) :: .inr (.inr x0) :: []) n I L P = mm_kr d 29 85 lv [] [] n (mm_rn d 30 [.inr (.inr x0), .inr (.inr x1), .inl x2, .inl x3] n I L P)) ∧
  (∀ (lv : List mm_V) (st : List mm_V) a, mm_E d 29 85 lv [] (.inl a :: st) n I L P = if a = 0 then mm_E d 29 97 lv [] st n I L P else mm_E d 29 88 lv [] st n I L P) ∧
  (∀ (st : List mm_V) z (l1 : mm_V) (l2 : mm_V) (l3 : mm_V) (l4 : mm_V), mm_E d 29 88 [(.inr (.inr z)), l1, l2, l3, l4] [] st n I L P = mm_E d 29 89 [(.inr (.inr z)), l1, l2, l3, l4] [] ((.inr (.inr z)) :: st) n I L P) ∧
  (∀ (lv : List mm_V) (st : List mm_V), mm_E d 29 89 lv [] st n I L P = mm_E d 29 91 lv [] (.inl 63 :: st) n I L P) ∧
  (∀ (lv : List mm_V) a x0, (mm_ok n a 8) → mm_E d 29 91 lv [] (.inl x0 :: .inr (.inr (some a)) :: []) n I L P = mm_kr d 29 94 lv [] [] n (mm_rn d 60 [.inr (.inr (some a)), .inl x0] n I L P)) ∧
  (∀ (lv : List mm_V) (st : List mm_V) a, mm_E d 29 94 lv [] (.inl a :: st) n I L P = if a = 0 then mm_E d 29 97 lv [] st n I L P else mm_E d 29 99 lv [] st n I L P) ∧
  (∀ (lv : List mm_V) (st : List mm_V), mm_E d 29 97 lv [] st n I L P = mm_E d 29 98 lv [] (.inl 0 :: st) n I L P) ∧
  (∀ (lv : List mm_V) z, (0 ≤ z ∧ z < 2) → mm_E d 29 98 lv [] [.inl z] n I L P = some (some (.inl z), n, I, L, P)) ∧
  (∀ (st : List mm_V) z (l0 : mm_V) (l2 : mm_V) (l3 : mm_V) (l4 : mm_V), mm_E d 29 99 [l0, (.inr (.inr z)), l2, l3, l4] [] st n I L P = mm_E d 29 100 [l0, (.inr (.inr z)), l2, l3, l4] [] ((.inr (.inr z)) :: st) n I L P) ∧
  (∀ (lv : List mm_V) (st : List mm_V) a, (mm_ok n a 3) → mm_E d 29 100 lv [] (.inr (.inr (some a)) :: st) n I L P = mm_E d 29 103 lv [] (.inl (I a 1) :: st) n I L P) ∧
  (∀ (st : List mm_V) z (l0 : mm_V) (l1 : mm_V) (l2 : mm_V) (l3 : mm_V) (l4 : mm_V), mm_E d 29 103 [l0, l1, l2, l3, l4] [] ((.inl z) :: st) n I L P = mm_E d 29 105 [l0, l1, l2, l3, (.inl z)] [] st n I L P) ∧
  (∀ (st : List mm_V) z (l0 : mm_V) (l2 : mm_V) (l3 : mm_V) (l4 : mm_V), mm_E d 29 105 [l0, (.inr (.inr z)), l2, l3, l4] [] st n I L P = mm_E d 29 106 [l0, (.inr (.inr z)), l2, l3, l4] [] ((.inr (.inr z)) :: st) n I L P) ∧
  (∀ (lv : List mm_V) (st : List mm_V), mm_E d 29 106 lv [] st n I L P = mm_E d 29 108 lv [] (.inl 12 :: st) n I L P) ∧
  (∀ (lv : List mm_V) (st : List mm_V), mm_E d 29 108 lv [] st n I L P = mm_E d 29 109 lv [] (.inl 0 :: st) n I L P) ∧
  (∀ (lv : List mm_V) a x0 x1, (mm_ok n a 3) → mm_E d 29 109 lv [] (.inl x1 :: .inl x0 :: .inr (.inr (some a)) :: []) n I L P = mm_kv d 29 112 lv [] [] n (mm_rn d 22 [.inr (.inr (some a)), .inl x0, .inl x1] n I L P)) ∧
  (∀ (st : List mm_V) z (l1 : mm_V) (l2 : mm_V) (l3 : mm_V) (l4 : mm_V), mm_E d 29 112 [(.inr (.inr z)), l1, l2, l3, l4] [] st n I L P = mm_E d 29 113 [(.inr (.inr z)), l1, l2, l3, l4] [] ((.inr (.inr z)) :: st) n I L P) ∧
  (∀ (st : List mm_V) z (l0 : mm_V) (l2 : mm_V) (l3 : mm_V) (l4 : mm_V), mm_E d 29 113 [l0, (.inr (.inr z)), l2, l3, l4] [] st n I L P = mm_E d 29 114 [l0, (.inr (.inr z)), l2, l3, l4] [] ((.inr (.inr z)) :: st) n I L P) ∧
  (∀ (lv : List mm_V) (st : List mm_V), mm_E d 29 114 lv [] st n I L P = mm_E d 29 115 lv [] (.inl 0 :: st) n I L P) ∧
  (∀ (lv : List mm_V) x0 x1 x2, mm_E d 29 115 lv [] (.inl x2 :: .inr (.inr x1) :: .inr (.inr x0) :: []) n I L P = mm_kr d 29 118 lv [] [] n (mm_rn d 35 [.inr (.inr x0), .inr (.inr x1), .inl x2] n I L P)) ∧
  (∀ (lv : List mm_V) (st : List mm_V) a, mm_E d 29 118 lv [] (.inl a :: st) n I L P = if a = 0 then mm_E d 29 121 lv [] st n I L P else mm_E d 29 123 lv [] st n I L P) ∧
  (∀ (lv : List mm_V) (st : List mm_V), mm_E d 29 121 lv [] st n I L P = mm_E d 29 122 lv [] (.inl 0 :: st) n I L P) ∧
  (∀ (lv : List mm_V) z, (0 ≤ z ∧ z < 2) → mm_E d 29 122 lv [] [.inl z] n I L P = some (some (.inl z), n, I, L, P)) ∧
  (∀ (st : List mm_V) z (l0 : mm_V) (l2 : mm_V) (l3 : mm_V) (l4 : mm_V), mm_E d 29 123 [l0, (.inr (.inr z)), l2, l3, l4] [] st n I L P = mm_E d 29 124 [l0, (.inr (.inr z)), l2, l3, l4] [] ((.inr (.inr z)) :: st) n I L P) ∧
  (∀ (lv : List mm_V) (st : List mm_V), mm_E d 29 124 lv [] st n I L P = mm_E d 29 126 lv [] (.inl 13 :: st) n I L P) ∧
  (∀ (lv : List mm_V) (st : List mm_V), mm_E d 29 126 lv [] st n I L P = mm_E d 29 127 lv [] (.inl 0 :: st) n I L P) ∧
  (∀ (lv : List mm_V) a x0 x1, (mm_ok n a 3) → mm_E d 29 127 lv [] (.inl x1 :: .inl x0 :: .inr (.inr (some a)) :: []) n I L P = mm_kv d 29 130 lv [] [] n (mm_rn d 22 [.inr (.inr (some a)), .inl x0, .inl x1] n I L P)) ∧
  (∀ (st : List mm_V) z (l0 : mm_V) (l2 : mm_V) (l3 : mm_V) (l4 : mm_V), mm_E d 29 130 [l0, (.inr (.inr z)), l2, l3, l4] [] st n I L P = mm_E d 29 131 [l0, (.inr (.inr z)), l2, l3, l4] [] ((.inr (.inr z)) :: st) n I L P) ∧
  (∀ (st : List mm_V) z (l0 : mm_V) (l1 : mm_V) (l2 : mm_V) (l3 : mm_V), mm_E d 29 131 [l0, l1, l2, l3, (.inl z)] [] st n I L P = mm_E d 29 133 [l0, l1, l2, l3, (.inl z)] [] ((.inl z) :: st) n I L P) ∧
  (∀ (lv : List mm_V) a x0, (mm_ok n a 3) → mm_E d 29 133 lv [] (.inl x0 :: .inr (.inr (some a)) :: []) n I L P = mm_kv d 29 136 lv [] [] n (mm_rn d 23 [.inr (.inr (some a)), .inl x0] n I L P)) ∧
  (∀ (lv : List mm_V) (st : List mm_V), mm_E d 29 136 lv [] st n I L P = mm_E d 29 137 lv [] (.inl 1 :: st) n I L P) ∧
  (∀ (lv : List mm_V) z, (0 ≤ z ∧ z < 2) → mm_E d 29 137 lv [] [.inl z] n I L P = some (some (.inl z), n, I, L, P)) :=
  ⟨fun _ _ _ _ _ _ => mq_al (i := 0) rfl rfl,
   fun _ _ => mq_push rfl,
   fun _ _ _ h0 => mq_cVr (na := 1) rfl rfl (Nat.le_of_ble_eq_true rfl) (Nat.le_of_ble_eq_true rfl) h0,
   fun _ _ _ => mq_if_eq rfl,
   fun _ _ _ _ _ _ => mq_al (i := 0) rfl rfl,
   fun _ _ => mq_push rfl,
   fun _ _ _ h0 => mq_cVr (na := 1) rfl rfl (Nat.le_of_ble_eq_true rfl) (Nat.le_of_ble_eq_true rfl) h0,
   fun _ _ _ => mq_if_ne rfl,
   fun _ _ => mq_push rfl,
   fun _ _ h0 => mq_rz rfl h0,
   fun _ _ _ _ _ _ => mq_al (i := 0) rfl rfl,
   fun _ _ h0 => mq_cVr (na := 0) rfl rfl (Nat.le_of_ble_eq_true rfl) (Nat.le_of_ble_eq_true rfl) h0,
   fun _ _ _ _ _ _ _ => mq_is (i := 2) rfl rfl rfl,
   fun _ _ _ _ _ _ => mq_il (i := 2) rfl rfl,
   fun _ _ => mq_push rfl,
   fun _ _ _ _ => mq_ic_eq rfl,
   fun _ _ _ _ _ _ => mq_il (i := 2) rfl rfl,
   fun _ _ => mq_push rfl,
   fun _ _ _ _ => mq_ic_eq rfl,
   fun _ _ => mq_push rfl,
   fun _ _ => mq_go rfl,
   fun _ _ => mq_push rfl,
   fun _ _ _ _ _ _ _ => mq_is (i := 3) rfl rfl rfl,
   fun _ _ _ _ _ _ => mq_il (i := 3) rfl rfl,
   fun _ _ _ => mq_if_eq rfl,
   fun _ _ _ _ _ _ => mq_al (i := 0) rfl rfl,
   fun _ _ _ _ _ _ => mq_al (i := 1) rfl rfl,
   fun _ _ => mq_push rfl,
   fun _ _ _ _ => mq_cSr (na := 3) rfl (Nat.le_of_ble_eq_true rfl) (Nat.le_of_ble_eq_true rfl),
   fun _ _ _ => mq_if_ne rfl,
   fun _ _ => mq_push rfl,
   fun _ _ h0 => mq_rz rfl h0,
   fun _ _ _ _ _ _ => mq_al (i := 0) rfl rfl,
   fun _ _ h0 => mq_cVr (na := 0) rfl rfl (Nat.le_of_ble_eq_true rfl) (Nat.le_of_ble_eq_true rfl) h0,
   fun _ _ => mq_cSr (na := 1) rfl (Nat.le_of_ble_eq_true rfl) (Nat.le_of_ble_eq_true rfl),
   fun _ _ => mq_push rfl,
   fun _ _ _ _ => mq_ic_ne rfl,
   fun _ _ _ _ _ _ => mq_al (i := 1) rfl rfl,
   fun _ _ => mq_push rfl,
   fun _ _ => mq_push rfl,
   fun _ _ _ _ h0 => mq_cVv (na := 2) rfl rfl (Nat.le_of_ble_eq_true rfl) (Nat.le_of_ble_eq_true rfl) h0,
   fun _ _ => mq_push rfl,
   fun _ _ h0 => mq_rz rfl h0,
   fun _ _ _ _ _ _ => mq_al (i := 0) rfl rfl,
   fun _ _ _ _ _ _ => mq_al (i := 1) rfl rfl,
   fun _ _ => mq_push rfl,
   fun _ _ _ _ _ _ => mq_il (i := 3) rfl rfl,
   fun _ _ _ _ _ => mq_cSr (na := 4) rfl (Nat.le_of_ble_eq_true rfl) (Nat.le_of_ble_eq_true rfl),
   fun _ _ _ => mq_if_eq rfl,
   fun _ _ _ _ _ _ => mq_al (i := 0) rfl rfl,
   fun _ _ => mq_push rfl,
   fun _ _ _ h0 => mq_cVr (na := 1) rfl rfl (Nat.le_of_ble_eq_true rfl) (Nat.le_of_ble_eq_true rfl) h0,
   fun _ _ _ => mq_if_ne rfl,
   fun _ _ => mq_push rfl,
   fun _ _ h0 => mq_rz rfl h0,
   fun _ _ _ _ _ _ => mq_al (i := 1) rfl rfl,
   fun _ _ _ h0 => mq_getI rfl h0,
   fun _ _ _ _ _ _ _ => mq_is (i := 4) rfl rfl rfl,
   fun _ _ _ _ _ _ => mq_al (i := 1) rfl rfl,
   fun _ _ => mq_push rfl,
   fun _ _ => mq_push rfl,
   fun _ _ _ _ h0 => mq_cVv (na := 2) rfl rfl (Nat.le_of_ble_eq_true rfl) (Nat.le_of_ble_eq_true rfl) h0,
   fun _ _ _ _ _ _ => mq_al (i := 0) rfl rfl,
   fun _ _ _ _ _ _ => mq_al (i := 1) rfl rfl,
   fun _ _ => mq_push rfl,
   fun _ _ _ _ => mq_cSr (na := 3) rfl (Nat.le_of_ble_eq_true rfl) (Nat.le_of_ble_eq_true rfl),
   fun _ _ _ => mq_if_ne rfl,
   fun _ _ => mq_push rfl,
   fun _ _ h0 => mq_rz rfl h0,
   fun _ _ _ _ _ _ => mq_al (i := 1) rfl rfl,
   fun _ _ => mq_push rfl,
   fun _ _ => mq_push rfl,
   fun _ _ _ _ h0 => mq_cVv (na := 2) rfl rfl (Nat.le_of_ble_eq_true rfl) (Nat.le_of_ble_eq_true rfl) h0,
   fun _ _ _ _ _ _ => mq_al (i := 1) rfl rfl,
   fun _ _ _ _ _ _ => mq_il (i := 4) rfl rfl,
   fun _ _ _ h0 => mq_cVv (na := 1) rfl rfl (Nat.le_of_ble_eq_true rfl) (Nat.le_of_ble_eq_true rfl) h0,
   fun _ _ => mq_push rfl,
   fun _ _ h0 => mq_rz rfl h0⟩
theorem eX4_readClause (d n : Nat) (I L : mm_I) (P : mm_P) (x0 : Option Nat) (x1 : Option Nat) : mm_rn (d + 1) 29 [.inr (.inr x0), .inr (.inr x1)] n I L P = mm_E d 29 0 [.inr (.inr x0), .inr (.inr x1), mm_junk, mm_junk, mm_junk] [] [] n I L P := rfl

set_option maxRecDepth 20000 in
set_option maxHeartbeats 8000000 in
theorem kX4_readCondition (d n : Nat) (I L : mm_I) (P : mm_P) :
  (∀ (st : List mm_V) z (l1 : mm_V) (l2 : mm_V) (l3 : mm_V) (l4 : mm_V), mm_E d 30 0 [(.inr (.inr z)), l1, l2, l3, l4] [] st n I L P = mm_E d 30 1 [(.inr (.inr z)), l1, l2, l3, l4] [] ((.inr (.inr z)) :: st) n I L P) ∧
  (∀ (st : List mm_V) z (l0 : mm_V) (l2 : mm_V) (l3 : mm_V) (l4 : mm_V), mm_E d 30 1 [l0, (.inr (.inr z)), l2, l3, l4] [] st n I L P = mm_E d 30 2 [l0, (.inr (.inr z)), l2, l3, l4] [] ((.inr (.inr z)) :: st) n I L P) ∧
  (∀ (st : List mm_V) z (l0 : mm_V) (l1 : mm_V) (l3 : mm_V) (l4 : mm_V), mm_E d 30 2 [l0, l1, (.inl z), l3, l4] [] st n I L P = mm_E d 30 3 [l0, l1, (.inl z), l3, l4] [] ((.inl z) :: st) n I L P) ∧
  (∀ (st : List mm_V) z (l0 : mm_V) (l1 : mm_V) (l2 : mm_V) (l4 : mm_V), mm_E d 30 3 [l0, l1, l2, (.inl z), l4] [] st n I L P = mm_E d 30 4 [l0, l1, l2, (.inl z), l4] [] ((.inl z) :: st) n I L P) ∧
  (∀ (lv : List mm_V) x0 x1 x2 x3, mm_E d 30 4 lv [] (.inl x3 :: .inl x2 :: .inr (.inr x1) :: .inr (.inr x0) :: []) n I L P = mm_kr d 30 7 lv [] [] n (mm_rn d 31 [.inr (.inr x0), .inr (.inr x1), .inl x2, .inl x3] n I L P)) ∧
  (∀ (lv : List mm_V) (st : List mm_V) a, mm_E d 30 7 lv [] (.inl a :: st) n I L P = if a = 0 then mm_E d 30 10 lv [] st n I L P else mm_E d 30 12 lv [] st n I L P) ∧
  (∀ (lv : List mm_V) (st : List mm_V), mm_E d 30 10 lv [] st n I L P = mm_E d 30 11 lv [] (.inl 0 :: st) n I L P) ∧
  (∀ (lv : List mm_V) z, (0 ≤ z ∧ z < 2) → mm_E d 30 11 lv [] [.inl z] n I L P = some (some (.inl z), n, I, L, P)) ∧
  (∀ (lv : List mm_V) (st : List mm_V), mm_E d 30 12 lv [] st n I L P = mm_E d 30 13 lv [] (.inl 0 :: st) n I L P) ∧
  (∀ (st : List mm_V) z (l0 : mm_V) (l1 : mm_V) (l2 : mm_V) (l3 : mm_V) (l4 : mm_V), mm_E d 30 13 [l0, l1, l2, l3, l4] [] ((.inl z) :: st) n I L P = mm_E d 30 15 [l0, l1, l2, l3, (.inl z)] [] st n I L P) ∧
  (∀ (lv : List mm_V) (st : List mm_V), mm_E d 30 17 lv [] st n I L P = mm_E d 30 20 lv [] (.inl 240 :: st) n I L P) ∧
  (∀ (lv : List mm_V) (st : List mm_V) a b, mm_E d 30 20 lv [] (.inl b :: .inl a :: st) n I L P = if b ≤ a then mm_E d 30 57 lv [] st n I L P else mm_E d 30 23 lv [] st n I L P) ∧
  (∀ (st : List mm_V) z (l1 : mm_V) (l2 : mm_V) (l3 : mm_V) (l4 : mm_V), mm_E d 30 23 [(.inr (.inr z)), l1, l2, l3, l4] [] st n I L P = mm_E d 30 24 [(.inr (.inr z)), l1, l2, l3, l4] [] ((.inr (.inr z)) :: st) n I L P) ∧
  (∀ (lv : List mm_V) (st : List mm_V), mm_E d 30 24 lv [] st n I L P = mm_E d 30 26 lv [] (.inl 124 :: st) n I L P) ∧
  (∀ (lv : List mm_V) a x0, (mm_ok n a 8) → mm_E d 30 26 lv [] (.inl x0 :: .inr (.inr (some a)) :: []) n I L P = mm_kr d 30 29 lv [] [] n (mm_rn d 60 [.inr (.inr (some a)), .inl x0] n I L P)) ∧
  (∀ (lv : List mm_V) (st : List mm_V) a, mm_E d 30 29 lv [] (.inl a :: st) n I L P = if a = 0 then mm_E d 30 57 lv [] st n I L P else mm_E d 30 32 lv [] st n I L P) ∧
  (∀ (st : List mm_V) z (l1 : mm_V) (l2 : mm_V) (l3 : mm_V) (l4 : mm_V), mm_E d 30 32 [(.inr (.inr z)), l1, l2, l3, l4] [] st n I L P = mm_E d 30 33 [(.inr (.inr z)), l1, l2, l3, l4] [] ((.inr (.inr z)) :: st) n I L P) ∧
  (∀ (st : List mm_V) z (l0 : mm_V) (l2 : mm_V) (l3 : mm_V) (l4 : mm_V), mm_E d 30 33 [l0, (.inr (.inr z)), l2, l3, l4] [] st n I L P = mm_E d 30 34 [l0, (.inr (.inr z)), l2, l3, l4] [] ((.inr (.inr z)) :: st) n I L P) ∧
  (∀ (st : List mm_V) z (l0 : mm_V) (l1 : mm_V) (l3 : mm_V) (l4 : mm_V), mm_E d 30 34 [l0, l1, (.inl z), l3, l4] [] st n I L P = mm_E d 30 35 [l0, l1, (.inl z), l3, l4] [] ((.inl z) :: st) n I L P) ∧
  (∀ (lv : List mm_V) (st : List mm_V), mm_E d 30 35 lv [] st n I L P = mm_E d 30 36 lv [] (.inl 0 :: st) n I L P) ∧
  (∀ (lv : List mm_V) x0 x1 x2 x3, mm_E d 30 36 lv [] (.inl x3 :: .inl x2 :: .inr (.inr x1) :: .inr (.inr x0) :: []) n I L P = mm_kr d 30 39 lv [] [] n (mm_rn d 31 [.inr (.inr x0), .inr (.inr x1), .inl x2, .inl x3] n I L P)) ∧
  (∀ (lv : List mm_V) (st : List mm_V) a, mm_E d 30 39 lv [] (.inl a :: st) n I L P = if a = 0 then mm_E d 30 42 lv [] st n I L P else mm_E d 30 44 lv [] st n I L P) ∧
  (∀ (lv : List mm_V) (st : List mm_V), mm_E d 30 42 lv [] st n I L P = mm_E d 30 43 lv [] (.inl 0 :: st) n I L P) ∧
  (∀ (lv : List mm_V) z, (0 ≤ z ∧ z < 2) → mm_E d 30 43 lv [] [.inl z] n I L P = some (some (.inl z), n, I, L, P)) ∧
  (∀ (st : List mm_V) z (l0 : mm_V) (l2 : mm_V) (l3 : mm_V) (l4 : mm_V), mm_E d 30 44 [l0, (.inr (.inr z)), l2, l3, l4] [] st n I L P = mm_E d 30 45 [l0, (.inr (.inr z)), l2, l3, l4] [] ((.inr (.inr z)) :: st) n I L P) ∧
  (∀ (lv : List mm_V) (st : List mm_V), mm_E d 30 45 lv [] st n I L P = mm_E d 30 47 lv [] (.inl 10 :: st) n I L P) ∧
  (∀ (lv : List mm_V) (st : List mm_V), mm_E d 30 47 lv [] st n I L P = mm_E d 30 48 lv [] (.inl 0 :: st) n I L P) ∧
  (∀ (lv : List mm_V) a x0 x1, (mm_ok n a 3) → mm_E d 30 48 lv [] (.inl x1 :: .inl x0 :: .inr (.inr (some a)) :: []) n I L P = mm_kv d 30 51 lv [] [] n (mm_rn d 22 [.inr (.inr (some a)), .inl x0, .inl x1] n I L P)) ∧
  (∀ (st : List mm_V) z (l0 : mm_V) (l1 : mm_V) (l2 : mm_V) (l3 : mm_V), mm_E d 30 51 [l0, l1, l2, l3, (.inl z)] [] st n I L P = mm_E d 30 54 [l0, l1, l2, l3, (.inl (mm_add z 1))] [] st n I L P) ∧
  (∀ (lv : List mm_V) (st : List mm_V), mm_E d 30 54 lv [] st n I L P = mm_E d 30 15 lv [] st n I L P) ∧
  (∀ (lv : List mm_V) (st : List mm_V), mm_E d 30 57 lv [] st n I L P = mm_E d 30 58 lv [] (.inl 1 :: st) n I L P) ∧
  (∀ (lv : List mm_V) z, (0 ≤ z ∧ z < 2) → mm_E d 30 58 lv [] [.inl z] n I L P = some (some (.inl z), n, I, L, P)) :=
  ⟨fun _ _ _ _ _ _ => mq_al (i := 0) rfl rfl,
   fun _ _ _ _ _ _ => mq_al (i := 1) rfl rfl,
   fun _ _ _ _ _ _ => mq_il (i := 2) rfl rfl,
   fun _ _ _ _ _ _ => mq_il (i := 3) rfl rfl,
   fun _ _ _ _ _ => mq_cSr (na := 4) rfl (Nat.le_of_ble_eq_true rfl) (Nat.le_of_ble_eq_true rfl),
   fun _ _ _ => mq_if_ne rfl,
   fun _ _ => mq_push rfl,
   fun _ _ h0 => mq_rz rfl h0,
   fun _ _ => mq_push rfl,
   fun _ _ _ _ _ _ _ => mq_is (i := 4) rfl rfl rfl,
   fun _ _ => mq_push rfl,
   fun _ _ _ _ => mq_ic_ge rfl,
   fun _ _ _ _ _ _ => mq_al (i := 0) rfl rfl,
   fun _ _ => mq_push rfl,
   fun _ _ _ h0 => mq_cVr (na := 1) rfl rfl (Nat.le_of_ble_eq_true rfl) (Nat.le_of_ble_eq_true rfl) h0,
   fun _ _ _ => mq_if_eq rfl,
   fun _ _ _ _ _ _ => mq_al (i := 0) rfl rfl,
   fun _ _ _ _ _ _ => mq_al (i := 1) rfl rfl,
   fun _ _ _ _ _ _ => mq_il (i := 2) rfl rfl,
   fun _ _ => mq_push rfl,
   fun _ _ _ _ _ => mq_cSr (na := 4) rfl (Nat.le_of_ble_eq_true rfl) (Nat.le_of_ble_eq_true rfl),
   fun _ _ _ => mq_if_ne rfl,
   fun _ _ => mq_push rfl,
   fun _ _ h0 => mq_rz rfl h0,
   fun _ _ _ _ _ _ => mq_al (i := 1) rfl rfl,
   fun _ _ => mq_push rfl,
   fun _ _ => mq_push rfl,
   fun _ _ _ _ h0 => mq_cVv (na := 2) rfl rfl (Nat.le_of_ble_eq_true rfl) (Nat.le_of_ble_eq_true rfl) h0,
   fun _ _ _ _ _ _ => mq_iinc (i := 4) rfl rfl rfl rfl,
   fun _ _ => mq_go rfl,
   fun _ _ => mq_push rfl,
   fun _ _ h0 => mq_rz rfl h0⟩
theorem hX4_readCondition_15 (d n : Nat) (I L : mm_I) (P : mm_P) : ∀ (st : List mm_V) z (l0 : mm_V) (l1 : mm_V) (l2 : mm_V) (l3 : mm_V), mm_E d 30 15 [l0, l1, l2, l3, (.inl z)] [] st n I L P = mm_E d 30 17 [l0, l1, l2, l3, (.inl z)] [] ((.inl z) :: st) n I L P := fun _ _ _ _ _ _ => mq_il (i := 4) rfl rfl
theorem eX4_readCondition (d n : Nat) (I L : mm_I) (P : mm_P) (x0 : Option Nat) (x1 : Option Nat) (x2 : Int) (x3 : Int) : mm_rn (d + 1) 30 [.inr (.inr x0), .inr (.inr x1), .inl x2, .inl x3] n I L P = mm_E d 30 0 [.inr (.inr x0), .inr (.inr x1), .inl x2, .inl x3, mm_junk] [] [] n I L P := rfl

set_option maxRecDepth 20000 in
set_option maxHeartbeats 8000000 in
theorem kX4_readTruth (d n : Nat) (I L : mm_I) (P : mm_P) :
  (∀ (st : List mm_V) z (l1 : mm_V) (l2 : mm_V) (l3 : mm_V) (l4 : mm_V), mm_E d 31 0 [(.inr (.inr z)), l1, l2, l3, l4] [] st n I L P = mm_E d 31 1 [(.inr (.inr z)), l1, l2, l3, l4] [] ((.inr (.inr z)) :: st) n I L P) ∧
  (∀ (st : List mm_V) z (l0 : mm_V) (l2 : mm_V) (l3 : mm_V) (l4 : mm_V), mm_E d 31 1 [l0, (.inr (.inr z)), l2, l3, l4] [] st n I L P = mm_E d 31 2 [l0, (.inr (.inr z)), l2, l3, l4] [] ((.inr (.inr z)) :: st) n I L P) ∧
  (∀ (st : List mm_V) z (l0 : mm_V) (l1 : mm_V) (l3 : mm_V) (l4 : mm_V), mm_E d 31 2 [l0, l1, (.inl z), l3, l4] [] st n I L P = mm_E d 31 3 [l0, l1, (.inl z), l3, l4] [] ((.inl z) :: st) n I L P) ∧
  (∀ (st : List mm_V) z (l0 : mm_V) (l1 : mm_V) (l2 : mm_V) (l4 : mm_V), mm_E d 31 3 [l0, l1, l2, (.inl z), l4] [] st n I L P = mm_E d 31 4 [l0, l1, l2, (.inl z), l4] [] ((.inl z) :: st) n I L P) ∧
  (∀ (lv : List mm_V) x0 x1 x2 x3, mm_E d 31 4 lv [] (.inl x3 :: .inl x2 :: .inr (.inr x1) :: .inr (.inr x0) :: []) n I L P = mm_kr d 31 7 lv [] [] n (mm_rn d 32 [.inr (.inr x0), .inr (.inr x1), .inl x2, .inl x3] n I L P)) ∧
  (∀ (lv : List mm_V) (st : List mm_V) a, mm_E d 31 7 lv [] (.inl a :: st) n I L P = if a = 0 then mm_E d 31 10 lv [] st n I L P else mm_E d 31 12 lv [] st n I L P) ∧
  (∀ (lv : List mm_V) (st : List mm_V), mm_E d 31 10 lv [] st n I L P = mm_E d 31 11 lv [] (.inl 0 :: st) n I L P) ∧
  (∀ (lv : List mm_V) z, (0 ≤ z ∧ z < 2) → mm_E d 31 11 lv [] [.inl z] n I L P = some (some (.inl z), n, I, L, P)) ∧
  (∀ (lv : List mm_V) (st : List mm_V), mm_E d 31 12 lv [] st n I L P = mm_E d 31 13 lv [] (.inl 0 :: st) n I L P) ∧
  (∀ (st : List mm_V) z (l0 : mm_V) (l1 : mm_V) (l2 : mm_V) (l3 : mm_V) (l4 : mm_V), mm_E d 31 13 [l0, l1, l2, l3, l4] [] ((.inl z) :: st) n I L P = mm_E d 31 15 [l0, l1, l2, l3, (.inl z)] [] st n I L P) ∧
  (∀ (lv : List mm_V) (st : List mm_V), mm_E d 31 17 lv [] st n I L P = mm_E d 31 20 lv [] (.inl 240 :: st) n I L P) ∧
  (∀ (lv : List mm_V) (st : List mm_V) a b, mm_E d 31 20 lv [] (.inl b :: .inl a :: st) n I L P = if b ≤ a then mm_E d 31 57 lv [] st n I L P else mm_E d 31 23 lv [] st n I L P) ∧
  (∀ (st : List mm_V) z (l1 : mm_V) (l2 : mm_V) (l3 : mm_V) (l4 : mm_V), mm_E d 31 23 [(.inr (.inr z)), l1, l2, l3, l4] [] st n I L P = mm_E d 31 24 [(.inr (.inr z)), l1, l2, l3, l4] [] ((.inr (.inr z)) :: st) n I L P) ∧
  (∀ (lv : List mm_V) (st : List mm_V), mm_E d 31 24 lv [] st n I L P = mm_E d 31 26 lv [] (.inl 38 :: st) n I L P) ∧
  (∀ (lv : List mm_V) a x0, (mm_ok n a 8) → mm_E d 31 26 lv [] (.inl x0 :: .inr (.inr (some a)) :: []) n I L P = mm_kr d 31 29 lv [] [] n (mm_rn d 60 [.inr (.inr (some a)), .inl x0] n I L P)) ∧
  (∀ (lv : List mm_V) (st : List mm_V) a, mm_E d 31 29 lv [] (.inl a :: st) n I L P = if a = 0 then mm_E d 31 57 lv [] st n I L P else mm_E d 31 32 lv [] st n I L P) ∧
  (∀ (st : List mm_V) z (l1 : mm_V) (l2 : mm_V) (l3 : mm_V) (l4 : mm_V), mm_E d 31 32 [(.inr (.inr z)), l1, l2, l3, l4] [] st n I L P = mm_E d 31 33 [(.inr (.inr z)), l1, l2, l3, l4] [] ((.inr (.inr z)) :: st) n I L P) ∧
  (∀ (st : List mm_V) z (l0 : mm_V) (l2 : mm_V) (l3 : mm_V) (l4 : mm_V), mm_E d 31 33 [l0, (.inr (.inr z)), l2, l3, l4] [] st n I L P = mm_E d 31 34 [l0, (.inr (.inr z)), l2, l3, l4] [] ((.inr (.inr z)) :: st) n I L P) ∧
  (∀ (st : List mm_V) z (l0 : mm_V) (l1 : mm_V) (l3 : mm_V) (l4 : mm_V), mm_E d 31 34 [l0, l1, (.inl z), l3, l4] [] st n I L P = mm_E d 31 35 [l0, l1, (.inl z), l3, l4] [] ((.inl z) :: st) n I L P) ∧
  (∀ (lv : List mm_V) (st : List mm_V), mm_E d 31 35 lv [] st n I L P = mm_E d 31 36 lv [] (.inl 0 :: st) n I L P) ∧
  (∀ (lv : List mm_V) x0 x1 x2 x3, mm_E d 31 36 lv [] (.inl x3 :: .inl x2 :: .inr (.inr x1) :: .inr (.inr x0) :: []) n I L P = mm_kr d 31 39 lv [] [] n (mm_rn d 32 [.inr (.inr x0), .inr (.inr x1), .inl x2, .inl x3] n I L P)) ∧
  (∀ (lv : List mm_V) (st : List mm_V) a, mm_E d 31 39 lv [] (.inl a :: st) n I L P = if a = 0 then mm_E d 31 42 lv [] st n I L P else mm_E d 31 44 lv [] st n I L P) ∧
  (∀ (lv : List mm_V) (st : List mm_V), mm_E d 31 42 lv [] st n I L P = mm_E d 31 43 lv [] (.inl 0 :: st) n I L P) ∧
  (∀ (lv : List mm_V) z, (0 ≤ z ∧ z < 2) → mm_E d 31 43 lv [] [.inl z] n I L P = some (some (.inl z), n, I, L, P)) ∧
  (∀ (st : List mm_V) z (l0 : mm_V) (l2 : mm_V) (l3 : mm_V) (l4 : mm_V), mm_E d 31 44 [l0, (.inr (.inr z)), l2, l3, l4] [] st n I L P = mm_E d 31 45 [l0, (.inr (.inr z)), l2, l3, l4] [] ((.inr (.inr z)) :: st) n I L P) ∧
  (∀ (lv : List mm_V) (st : List mm_V), mm_E d 31 45 lv [] st n I L P = mm_E d 31 47 lv [] (.inl 9 :: st) n I L P) ∧
  (∀ (lv : List mm_V) (st : List mm_V), mm_E d 31 47 lv [] st n I L P = mm_E d 31 48 lv [] (.inl 0 :: st) n I L P) ∧
  (∀ (lv : List mm_V) a x0 x1, (mm_ok n a 3) → mm_E d 31 48 lv [] (.inl x1 :: .inl x0 :: .inr (.inr (some a)) :: []) n I L P = mm_kv d 31 51 lv [] [] n (mm_rn d 22 [.inr (.inr (some a)), .inl x0, .inl x1] n I L P)) ∧
  (∀ (st : List mm_V) z (l0 : mm_V) (l1 : mm_V) (l2 : mm_V) (l3 : mm_V), mm_E d 31 51 [l0, l1, l2, l3, (.inl z)] [] st n I L P = mm_E d 31 54 [l0, l1, l2, l3, (.inl (mm_add z 1))] [] st n I L P) ∧
  (∀ (lv : List mm_V) (st : List mm_V), mm_E d 31 54 lv [] st n I L P = mm_E d 31 15 lv [] st n I L P) ∧
  (∀ (lv : List mm_V) (st : List mm_V), mm_E d 31 57 lv [] st n I L P = mm_E d 31 58 lv [] (.inl 1 :: st) n I L P) ∧
  (∀ (lv : List mm_V) z, (0 ≤ z ∧ z < 2) → mm_E d 31 58 lv [] [.inl z] n I L P = some (some (.inl z), n, I, L, P)) :=
  ⟨fun _ _ _ _ _ _ => mq_al (i := 0) rfl rfl,
   fun _ _ _ _ _ _ => mq_al (i := 1) rfl rfl,
   fun _ _ _ _ _ _ => mq_il (i := 2) rfl rfl,
   fun _ _ _ _ _ _ => mq_il (i := 3) rfl rfl,
   fun _ _ _ _ _ => mq_cSr (na := 4) rfl (Nat.le_of_ble_eq_true rfl) (Nat.le_of_ble_eq_true rfl),
   fun _ _ _ => mq_if_ne rfl,
   fun _ _ => mq_push rfl,
   fun _ _ h0 => mq_rz rfl h0,
   fun _ _ => mq_push rfl,
   fun _ _ _ _ _ _ _ => mq_is (i := 4) rfl rfl rfl,
   fun _ _ => mq_push rfl,
   fun _ _ _ _ => mq_ic_ge rfl,
   fun _ _ _ _ _ _ => mq_al (i := 0) rfl rfl,
   fun _ _ => mq_push rfl,
   fun _ _ _ h0 => mq_cVr (na := 1) rfl rfl (Nat.le_of_ble_eq_true rfl) (Nat.le_of_ble_eq_true rfl) h0,
   fun _ _ _ => mq_if_eq rfl,
   fun _ _ _ _ _ _ => mq_al (i := 0) rfl rfl,
   fun _ _ _ _ _ _ => mq_al (i := 1) rfl rfl,
   fun _ _ _ _ _ _ => mq_il (i := 2) rfl rfl,
   fun _ _ => mq_push rfl,
   fun _ _ _ _ _ => mq_cSr (na := 4) rfl (Nat.le_of_ble_eq_true rfl) (Nat.le_of_ble_eq_true rfl),
   fun _ _ _ => mq_if_ne rfl,
   fun _ _ => mq_push rfl,
   fun _ _ h0 => mq_rz rfl h0,
   fun _ _ _ _ _ _ => mq_al (i := 1) rfl rfl,
   fun _ _ => mq_push rfl,
   fun _ _ => mq_push rfl,
   fun _ _ _ _ h0 => mq_cVv (na := 2) rfl rfl (Nat.le_of_ble_eq_true rfl) (Nat.le_of_ble_eq_true rfl) h0,
   fun _ _ _ _ _ _ => mq_iinc (i := 4) rfl rfl rfl rfl,
   fun _ _ => mq_go rfl,
   fun _ _ => mq_push rfl,
   fun _ _ h0 => mq_rz rfl h0⟩
theorem hX4_readTruth_15 (d n : Nat) (I L : mm_I) (P : mm_P) : ∀ (st : List mm_V) z (l0 : mm_V) (l1 : mm_V) (l2 : mm_V) (l3 : mm_V), mm_E d 31 15 [l0, l1, l2, l3, (.inl z)] [] st n I L P = mm_E d 31 17 [l0, l1, l2, l3, (.inl z)] [] ((.inl z) :: st) n I L P := fun _ _ _ _ _ _ => mq_il (i := 4) rfl rfl
theorem eX4_readTruth (d n : Nat) (I L : mm_I) (P : mm_P) (x0 : Option Nat) (x1 : Option Nat) (x2 : Int) (x3 : Int) : mm_rn (d + 1) 31 [.inr (.inr x0), .inr (.inr x1), .inl x2, .inl x3] n I L P = mm_E d 31 0 [.inr (.inr x0), .inr (.inr x1), .inl x2, .inl x3, mm_junk] [] [] n I L P := rfl

set_option maxRecDepth 20000 in
set_option maxHeartbeats 8000000 in
theorem kX4_readUnit (d n : Nat) (I L : mm_I) (P : mm_P) :
  (∀ (st : List mm_V) z (l0 : mm_V) (l1 : mm_V) (l2 : mm_V) (l4 : mm_V) (l5 : mm_V), mm_E d 32 0 [l0, l1, l2, (.inl z), l4, l5] [] st n I L P = mm_E d 32 1 [l0, l1, l2, (.inl z), l4, l5] [] ((.inl z) :: st) n I L P) ∧
  (∀ (lv : List mm_V) (st : List mm_V) a, mm_E d 32 1 lv [] (.inl a :: st) n I L P = if a = 0 then mm_E d 32 8 lv [] st n I L P else mm_E d 32 4 lv [] st n I L P) ∧
  (∀ (lv : List mm_V) (st : List mm_V), mm_E d 32 4 lv [] st n I L P = mm_E d 32 5 lv [] (.inl (-1) :: st) n I L P) ∧
  (∀ (lv : List mm_V) (st : List mm_V), mm_E d 32 5 lv [] st n I L P = mm_E d 32 12 lv [] st n I L P) ∧
  (∀ (st : List mm_V) z (l1 : mm_V) (l2 : mm_V) (l3 : mm_V) (l4 : mm_V) (l5 : mm_V), mm_E d 32 8 [(.inr (.inr z)), l1, l2, l3, l4, l5] [] st n I L P = mm_E d 32 9 [(.inr (.inr z)), l1, l2, l3, l4, l5] [] ((.inr (.inr z)) :: st) n I L P) ∧
  (∀ (lv : List mm_V) a, (mm_ok n a 8) → mm_E d 32 9 lv [] (.inr (.inr (some a)) :: []) n I L P = mm_kr d 32 12 lv [] [] n (mm_rn d 59 [.inr (.inr (some a))] n I L P)) ∧
  (∀ (st : List mm_V) z (l0 : mm_V) (l1 : mm_V) (l2 : mm_V) (l3 : mm_V) (l4 : mm_V) (l5 : mm_V), mm_E d 32 12 [l0, l1, l2, l3, l4, l5] [] ((.inl z) :: st) n I L P = mm_E d 32 14 [l0, l1, l2, l3, (.inl z), l5] [] st n I L P) ∧
  (∀ (st : List mm_V) z (l0 : mm_V) (l1 : mm_V) (l2 : mm_V) (l3 : mm_V) (l5 : mm_V), mm_E d 32 14 [l0, l1, l2, l3, (.inl z), l5] [] st n I L P = mm_E d 32 16 [l0, l1, l2, l3, (.inl z), l5] [] ((.inl z) :: st) n I L P) ∧
  (∀ (lv : List mm_V) (st : List mm_V), mm_E d 32 16 lv [] st n I L P = mm_E d 32 18 lv [] (.inl 33 :: st) n I L P) ∧
  (∀ (lv : List mm_V) (st : List mm_V) a b, mm_E d 32 18 lv [] (.inl b :: .inl a :: st) n I L P = if a = b then mm_E d 32 28 lv [] st n I L P else mm_E d 32 21 lv [] st n I L P) ∧
  (∀ (st : List mm_V) z (l0 : mm_V) (l1 : mm_V) (l2 : mm_V) (l3 : mm_V) (l5 : mm_V), mm_E d 32 21 [l0, l1, l2, l3, (.inl z), l5] [] st n I L P = mm_E d 32 23 [l0, l1, l2, l3, (.inl z), l5] [] ((.inl z) :: st) n I L P) ∧
  (∀ (lv : List mm_V) (st : List mm_V), mm_E d 32 23 lv [] st n I L P = mm_E d 32 25 lv [] (.inl 40 :: st) n I L P) ∧
  (∀ (lv : List mm_V) (st : List mm_V) a b, mm_E d 32 25 lv [] (.inl b :: .inl a :: st) n I L P = if a = b then mm_E d 32 28 lv [] st n I L P else mm_E d 32 51 lv [] st n I L P) ∧
  (∀ (st : List mm_V) z (l0 : mm_V) (l1 : mm_V) (l3 : mm_V) (l4 : mm_V) (l5 : mm_V), mm_E d 32 28 [l0, l1, (.inl z), l3, l4, l5] [] st n I L P = mm_E d 32 29 [l0, l1, (.inl z), l3, l4, l5] [] ((.inl z) :: st) n I L P) ∧
  (∀ (lv : List mm_V) (st : List mm_V), mm_E d 32 29 lv [] st n I L P = mm_E d 32 31 lv [] (.inl 6 :: st) n I L P) ∧
  (∀ (lv : List mm_V) (st : List mm_V) a b, mm_E d 32 31 lv [] (.inl b :: .inl a :: st) n I L P = if b ≤ a then mm_E d 32 49 lv [] st n I L P else mm_E d 32 34 lv [] st n I L P) ∧
  (∀ (st : List mm_V) z (l1 : mm_V) (l2 : mm_V) (l3 : mm_V) (l4 : mm_V) (l5 : mm_V), mm_E d 32 34 [(.inr (.inr z)), l1, l2, l3, l4, l5] [] st n I L P = mm_E d 32 35 [(.inr (.inr z)), l1, l2, l3, l4, l5] [] ((.inr (.inr z)) :: st) n I L P) ∧
  (∀ (st : List mm_V) z (l0 : mm_V) (l2 : mm_V) (l3 : mm_V) (l4 : mm_V) (l5 : mm_V), mm_E d 32 35 [l0, (.inr (.inr z)), l2, l3, l4, l5] [] st n I L P = mm_E d 32 36 [l0, (.inr (.inr z)), l2, l3, l4, l5] [] ((.inr (.inr z)) :: st) n I L P) ∧
  (∀ (st : List mm_V) z (l0 : mm_V) (l1 : mm_V) (l3 : mm_V) (l4 : mm_V) (l5 : mm_V), mm_E d 32 36 [l0, l1, (.inl z), l3, l4, l5] [] st n I L P = mm_E d 32 37 [l0, l1, (.inl z), l3, l4, l5] [] ((.inl z) :: st) n I L P) ∧
  (∀ (lv : List mm_V) (st : List mm_V), mm_E d 32 37 lv [] st n I L P = mm_E d 32 38 lv [] (.inl 1 :: st) n I L P) ∧
  (∀ (lv : List mm_V) (st : List mm_V) a b, mm_E d 32 38 lv [] (.inl b :: .inl a :: st) n I L P = mm_E d 32 39 lv [] (.inl (mm_add a b) :: st) n I L P) ∧
  (∀ (lv : List mm_V) x0 x1 x2, mm_E d 32 39 lv [] (.inl x2 :: .inr (.inr x1) :: .inr (.inr x0) :: []) n I L P = mm_kr d 32 42 lv [] [] n (mm_rn d 33 [.inr (.inr x0), .inr (.inr x1), .inl x2] n I L P)) ∧
  (∀ (lv : List mm_V) (st : List mm_V) a, mm_E d 32 42 lv [] (.inl a :: st) n I L P = if a = 0 then mm_E d 32 49 lv [] st n I L P else mm_E d 32 45 lv [] st n I L P) ∧
  (∀ (lv : List mm_V) (st : List mm_V), mm_E d 32 45 lv [] st n I L P = mm_E d 32 46 lv [] (.inl 1 :: st) n I L P) ∧
  (∀ (lv : List mm_V) (st : List mm_V), mm_E d 32 46 lv [] st n I L P = mm_E d 32 50 lv [] st n I L P) ∧
  (∀ (lv : List mm_V) (st : List mm_V), mm_E d 32 49 lv [] st n I L P = mm_E d 32 50 lv [] (.inl 0 :: st) n I L P) ∧
  (∀ (lv : List mm_V) z, (0 ≤ z ∧ z < 2) → mm_E d 32 50 lv [] [.inl z] n I L P = some (some (.inl z), n, I, L, P)) ∧
  (∀ (st : List mm_V) z (l0 : mm_V) (l1 : mm_V) (l2 : mm_V) (l4 : mm_V) (l5 : mm_V), mm_E d 32 51 [l0, l1, l2, (.inl z), l4, l5] [] st n I L P = mm_E d 32 52 [l0, l1, l2, (.inl z), l4, l5] [] ((.inl z) :: st) n I L P) ∧
  (∀ (lv : List mm_V) (st : List mm_V) a, mm_E d 32 52 lv [] (.inl a :: st) n I L P = if a = 0 then mm_E d 32 55 lv [] st n I L P else mm_E d 32 66 lv [] st n I L P) ∧
  (∀ (st : List mm_V) z (l1 : mm_V) (l2 : mm_V) (l3 : mm_V) (l4 : mm_V) (l5 : mm_V), mm_E d 32 55 [(.inr (.inr z)), l1, l2, l3, l4, l5] [] st n I L P = mm_E d 32 56 [(.inr (.inr z)), l1, l2, l3, l4, l5] [] ((.inr (.inr z)) :: st) n I L P) ∧
  (∀ (st : List mm_V) z (l0 : mm_V) (l2 : mm_V) (l3 : mm_V) (l4 : mm_V) (l5 : mm_V), mm_E d 32 56 [l0, (.inr (.inr z)), l2, l3, l4, l5] [] st n I L P = mm_E d 32 57 [l0, (.inr (.inr z)), l2, l3, l4, l5] [] ((.inr (.inr z)) :: st) n I L P) ∧
  (∀ (st : List mm_V) z (l0 : mm_V) (l1 : mm_V) (l3 : mm_V) (l4 : mm_V) (l5 : mm_V), mm_E d 32 57 [l0, l1, (.inl z), l3, l4, l5] [] st n I L P = mm_E d 32 58 [l0, l1, (.inl z), l3, l4, l5] [] ((.inl z) :: st) n I L P) ∧
  (∀ (lv : List mm_V) x0 x1 x2, mm_E d 32 58 lv [] (.inl x2 :: .inr (.inr x1) :: .inr (.inr x0) :: []) n I L P = mm_kr d 32 61 lv [] [] n (mm_rn d 35 [.inr (.inr x0), .inr (.inr x1), .inl x2] n I L P)) ∧
  (∀ (lv : List mm_V) (st : List mm_V) a, mm_E d 32 61 lv [] (.inl a :: st) n I L P = if a = 0 then mm_E d 32 64 lv [] st n I L P else mm_E d 32 66 lv [] st n I L P) ∧
  (∀ (lv : List mm_V) (st : List mm_V), mm_E d 32 64 lv [] st n I L P = mm_E d 32 65 lv [] (.inl 0 :: st) n I L P) ∧
  (∀ (lv : List mm_V) z, (0 ≤ z ∧ z < 2) → mm_E d 32 65 lv [] [.inl z] n I L P = some (some (.inl z), n, I, L, P)) ∧
  (∀ (st : List mm_V) z (l1 : mm_V) (l2 : mm_V) (l3 : mm_V) (l4 : mm_V) (l5 : mm_V), mm_E d 32 66 [(.inr (.inr z)), l1, l2, l3, l4, l5] [] st n I L P = mm_E d 32 67 [(.inr (.inr z)), l1, l2, l3, l4, l5] [] ((.inr (.inr z)) :: st) n I L P) ∧
  (∀ (lv : List mm_V) a, (mm_ok n a 8) → mm_E d 32 67 lv [] (.inr (.inr (some a)) :: []) n I L P = mm_kr d 32 70 lv [] [] n (mm_rn d 59 [.inr (.inr (some a))] n I L P)) ∧
  (∀ (lv : List mm_V) x0, mm_E d 32 70 lv [] (.inl x0 :: []) n I L P = mm_kr d 32 73 lv [] [] n (mm_rn d 34 [.inl x0] n I L P)) ∧
  (∀ (st : List mm_V) z (l0 : mm_V) (l1 : mm_V) (l2 : mm_V) (l3 : mm_V) (l4 : mm_V) (l5 : mm_V), mm_E d 32 73 [l0, l1, l2, l3, l4, l5] [] ((.inl z) :: st) n I L P = mm_E d 32 75 [l0, l1, l2, l3, l4, (.inl z)] [] st n I L P) ∧
  (∀ (st : List mm_V) z (l0 : mm_V) (l1 : mm_V) (l2 : mm_V) (l3 : mm_V) (l4 : mm_V), mm_E d 32 75 [l0, l1, l2, l3, l4, (.inl z)] [] st n I L P = mm_E d 32 77 [l0, l1, l2, l3, l4, (.inl z)] [] ((.inl z) :: st) n I L P) ∧
  (∀ (lv : List mm_V) (st : List mm_V), mm_E d 32 77 lv [] st n I L P = mm_E d 32 78 lv [] (.inl (-1) :: st) n I L P) ∧
  (∀ (lv : List mm_V) (st : List mm_V) a b, mm_E d 32 78 lv [] (.inl b :: .inl a :: st) n I L P = if a = b then mm_E d 32 81 lv [] st n I L P else mm_E d 32 83 lv [] st n I L P) ∧
  (∀ (lv : List mm_V) (st : List mm_V), mm_E d 32 81 lv [] st n I L P = mm_E d 32 82 lv [] (.inl 0 :: st) n I L P) ∧
  (∀ (lv : List mm_V) z, (0 ≤ z ∧ z < 2) → mm_E d 32 82 lv [] [.inl z] n I L P = some (some (.inl z), n, I, L, P)) ∧
  (∀ (st : List mm_V) z (l1 : mm_V) (l2 : mm_V) (l3 : mm_V) (l4 : mm_V) (l5 : mm_V), mm_E d 32 83 [(.inr (.inr z)), l1, l2, l3, l4, l5] [] st n I L P = mm_E d 32 84 [(.inr (.inr z)), l1, l2, l3, l4, l5] [] ((.inr (.inr z)) :: st) n I L P) ∧
  (∀ (lv : List mm_V) (st : List mm_V) a, mm_E d 32 84 lv [] ((.inr (.inr a)) :: st) n I L P = mm_E d 32 85 lv [] ((.inr (.inr a)) :: (.inr (.inr a)) :: st) n I L P) ∧
  (∀ (lv : List mm_V) (st : List mm_V) a, (mm_ok n a 8) → mm_E d 32 85 lv [] (.inr (.inr (some a)) :: st) n I L P = mm_E d 32 88 lv [] (.inl (I a 2) :: st) n I L P) ∧
  (∀ (lv : List mm_V) (st : List mm_V), mm_E d 32 88 lv [] st n I L P = mm_E d 32 89 lv [] (.inl 1 :: st) n I L P) ∧
  (∀ (lv : List mm_V) (st : List mm_V) a b, mm_E d 32 89 lv [] (.inl b :: .inl a :: st) n I L P = mm_E d 32 90 lv [] (.inl (mm_add a b) :: st) n I L P) ∧
  (∀ (lv : List mm_V) (st : List mm_V) a z, (mm_ok n a 8) → mm_E d 32 90 lv [] (.inl z :: .inr (.inr (some a)) :: st) n I L P = mm_E d 32 93 lv [] st n (mm_ui I a 2 z) L P) ∧
  (∀ (st : List mm_V) z (l1 : mm_V) (l2 : mm_V) (l3 : mm_V) (l4 : mm_V) (l5 : mm_V), mm_E d 32 93 [(.inr (.inr z)), l1, l2, l3, l4, l5] [] st n I L P = mm_E d 32 94 [(.inr (.inr z)), l1, l2, l3, l4, l5] [] ((.inr (.inr z)) :: st) n I L P) ∧
  (∀ (st : List mm_V) z (l0 : mm_V) (l2 : mm_V) (l3 : mm_V) (l4 : mm_V) (l5 : mm_V), mm_E d 32 94 [l0, (.inr (.inr z)), l2, l3, l4, l5] [] st n I L P = mm_E d 32 95 [l0, (.inr (.inr z)), l2, l3, l4, l5] [] ((.inr (.inr z)) :: st) n I L P) ∧
  (∀ (st : List mm_V) z (l0 : mm_V) (l1 : mm_V) (l3 : mm_V) (l4 : mm_V) (l5 : mm_V), mm_E d 32 95 [l0, l1, (.inl z), l3, l4, l5] [] st n I L P = mm_E d 32 96 [l0, l1, (.inl z), l3, l4, l5] [] ((.inl z) :: st) n I L P) ∧
  (∀ (lv : List mm_V) x0 x1 x2, mm_E d 32 96 lv [] (.inl x2 :: .inr (.inr x1) :: .inr (.inr x0) :: []) n I L P = mm_kr d 32 99 lv [] [] n (mm_rn d 35 [.inr (.inr x0), .inr (.inr x1), .inl x2] n I L P)) ∧
  (∀ (lv : List mm_V) (st : List mm_V) a, mm_E d 32 99 lv [] (.inl a :: st) n I L P = if a = 0 then mm_E d 32 102 lv [] st n I L P else mm_E d 32 104 lv [] st n I L P) ∧
  (∀ (lv : List mm_V) (st : List mm_V), mm_E d 32 102 lv [] st n I L P = mm_E d 32 103 lv [] (.inl 0 :: st) n I L P) ∧
  (∀ (lv : List mm_V) z, (0 ≤ z ∧ z < 2) → mm_E d 32 103 lv [] [.inl z] n I L P = some (some (.inl z), n, I, L, P)) ∧
  (∀ (st : List mm_V) z (l0 : mm_V) (l2 : mm_V) (l3 : mm_V) (l4 : mm_V) (l5 : mm_V), mm_E d 32 104 [l0, (.inr (.inr z)), l2, l3, l4, l5] [] st n I L P = mm_E d 32 105 [l0, (.inr (.inr z)), l2, l3, l4, l5] [] ((.inr (.inr z)) :: st) n I L P) ∧
  (∀ (st : List mm_V) z (l0 : mm_V) (l1 : mm_V) (l2 : mm_V) (l3 : mm_V) (l4 : mm_V), mm_E d 32 105 [l0, l1, l2, l3, l4, (.inl z)] [] st n I L P = mm_E d 32 107 [l0, l1, l2, l3, l4, (.inl z)] [] ((.inl z) :: st) n I L P) ∧
  (∀ (lv : List mm_V) (st : List mm_V), mm_E d 32 107 lv [] st n I L P = mm_E d 32 108 lv [] (.inl 0 :: st) n I L P) ∧
  (∀ (lv : List mm_V) a x0 x1, (mm_ok n a 3) → mm_E d 32 108 lv [] (.inl x1 :: .inl x0 :: .inr (.inr (some a)) :: []) n I L P = mm_kv d 32 111 lv [] [] n (mm_rn d 22 [.inr (.inr (some a)), .inl x0, .inl x1] n I L P)) ∧
  (∀ (lv : List mm_V) (st : List mm_V), mm_E d 32 111 lv [] st n I L P = mm_E d 32 112 lv [] (.inl 1 :: st) n I L P) ∧
  (∀ (lv : List mm_V) z, (0 ≤ z ∧ z < 2) → mm_E d 32 112 lv [] [.inl z] n I L P = some (some (.inl z), n, I, L, P)) :=
  ⟨fun _ _ _ _ _ _ _ => mq_il (i := 3) rfl rfl,
   fun _ _ _ => mq_if_eq rfl,
   fun _ _ => mq_push rfl,
   fun _ _ => mq_go rfl,
   fun _ _ _ _ _ _ _ => mq_al (i := 0) rfl rfl,
   fun _ _ h0 => mq_cVr (na := 0) rfl rfl (Nat.le_of_ble_eq_true rfl) (Nat.le_of_ble_eq_true rfl) h0,
   fun _ _ _ _ _ _ _ _ => mq_is (i := 4) rfl rfl rfl,
   fun _ _ _ _ _ _ _ => mq_il (i := 4) rfl rfl,
   fun _ _ => mq_push rfl,
   fun _ _ _ _ => mq_ic_eq rfl,
   fun _ _ _ _ _ _ _ => mq_il (i := 4) rfl rfl,
   fun _ _ => mq_push rfl,
   fun _ _ _ _ => mq_ic_ne rfl,
   fun _ _ _ _ _ _ _ => mq_il (i := 2) rfl rfl,
   fun _ _ => mq_push rfl,
   fun _ _ _ _ => mq_ic_ge rfl,
   fun _ _ _ _ _ _ _ => mq_al (i := 0) rfl rfl,
   fun _ _ _ _ _ _ _ => mq_al (i := 1) rfl rfl,
   fun _ _ _ _ _ _ _ => mq_il (i := 2) rfl rfl,
   fun _ _ => mq_push rfl,
   fun _ _ _ _ => mq_bi rfl,
   fun _ _ _ _ => mq_cSr (na := 3) rfl (Nat.le_of_ble_eq_true rfl) (Nat.le_of_ble_eq_true rfl),
   fun _ _ _ => mq_if_eq rfl,
   fun _ _ => mq_push rfl,
   fun _ _ => mq_go rfl,
   fun _ _ => mq_push rfl,
   fun _ _ h0 => mq_rz rfl h0,
   fun _ _ _ _ _ _ _ => mq_il (i := 3) rfl rfl,
   fun _ _ _ => mq_if_ne rfl,
   fun _ _ _ _ _ _ _ => mq_al (i := 0) rfl rfl,
   fun _ _ _ _ _ _ _ => mq_al (i := 1) rfl rfl,
   fun _ _ _ _ _ _ _ => mq_il (i := 2) rfl rfl,
   fun _ _ _ _ => mq_cSr (na := 3) rfl (Nat.le_of_ble_eq_true rfl) (Nat.le_of_ble_eq_true rfl),
   fun _ _ _ => mq_if_ne rfl,
   fun _ _ => mq_push rfl,
   fun _ _ h0 => mq_rz rfl h0,
   fun _ _ _ _ _ _ _ => mq_al (i := 0) rfl rfl,
   fun _ _ h0 => mq_cVr (na := 0) rfl rfl (Nat.le_of_ble_eq_true rfl) (Nat.le_of_ble_eq_true rfl) h0,
   fun _ _ => mq_cSr (na := 1) rfl (Nat.le_of_ble_eq_true rfl) (Nat.le_of_ble_eq_true rfl),
   fun _ _ _ _ _ _ _ _ => mq_is (i := 5) rfl rfl rfl,
   fun _ _ _ _ _ _ _ => mq_il (i := 5) rfl rfl,
   fun _ _ => mq_push rfl,
   fun _ _ _ _ => mq_ic_ne rfl,
   fun _ _ => mq_push rfl,
   fun _ _ h0 => mq_rz rfl h0,
   fun _ _ _ _ _ _ _ => mq_al (i := 0) rfl rfl,
   fun _ _ _ => mq_dup rfl rfl,
   fun _ _ _ h0 => mq_getI rfl h0,
   fun _ _ => mq_push rfl,
   fun _ _ _ _ => mq_bi rfl,
   fun _ _ _ _ h0 => mq_putI rfl h0,
   fun _ _ _ _ _ _ _ => mq_al (i := 0) rfl rfl,
   fun _ _ _ _ _ _ _ => mq_al (i := 1) rfl rfl,
   fun _ _ _ _ _ _ _ => mq_il (i := 2) rfl rfl,
   fun _ _ _ _ => mq_cSr (na := 3) rfl (Nat.le_of_ble_eq_true rfl) (Nat.le_of_ble_eq_true rfl),
   fun _ _ _ => mq_if_ne rfl,
   fun _ _ => mq_push rfl,
   fun _ _ h0 => mq_rz rfl h0,
   fun _ _ _ _ _ _ _ => mq_al (i := 1) rfl rfl,
   fun _ _ _ _ _ _ _ => mq_il (i := 5) rfl rfl,
   fun _ _ => mq_push rfl,
   fun _ _ _ _ h0 => mq_cVv (na := 2) rfl rfl (Nat.le_of_ble_eq_true rfl) (Nat.le_of_ble_eq_true rfl) h0,
   fun _ _ => mq_push rfl,
   fun _ _ h0 => mq_rz rfl h0⟩
theorem eX4_readUnit (d n : Nat) (I L : mm_I) (P : mm_P) (x0 : Option Nat) (x1 : Option Nat) (x2 : Int) (x3 : Int) : mm_rn (d + 1) 32 [.inr (.inr x0), .inr (.inr x1), .inl x2, .inl x3] n I L P = mm_E d 32 0 [.inr (.inr x0), .inr (.inr x1), .inl x2, .inl x3, mm_junk, mm_junk] [] [] n I L P := rfl

set_option maxRecDepth 20000 in
set_option maxHeartbeats 8000000 in
theorem kX4_readInner (d n : Nat) (I L : mm_I) (P : mm_P) :
  (∀ (st : List mm_V) z (l1 : mm_V) (l2 : mm_V), mm_E d 33 0 [(.inr (.inr z)), l1, l2] [] st n I L P = mm_E d 33 1 [(.inr (.inr z)), l1, l2] [] ((.inr (.inr z)) :: st) n I L P) ∧
  (∀ (lv : List mm_V) (st : List mm_V), mm_E d 33 1 lv [] st n I L P = mm_E d 33 3 lv [] (.inl 33 :: st) n I L P) ∧
  (∀ (lv : List mm_V) a x0, (mm_ok n a 8) → mm_E d 33 3 lv [] (.inl x0 :: .inr (.inr (some a)) :: []) n I L P = mm_kr d 33 6 lv [] [] n (mm_rn d 60 [.inr (.inr (some a)), .inl x0] n I L P)) ∧
  (∀ (lv : List mm_V) (st : List mm_V) a, mm_E d 33 6 lv [] (.inl a :: st) n I L P = if a = 0 then mm_E d 33 30 lv [] st n I L P else mm_E d 33 9 lv [] st n I L P) ∧
  (∀ (st : List mm_V) z (l1 : mm_V) (l2 : mm_V), mm_E d 33 9 [(.inr (.inr z)), l1, l2] [] st n I L P = mm_E d 33 10 [(.inr (.inr z)), l1, l2] [] ((.inr (.inr z)) :: st) n I L P) ∧
  (∀ (st : List mm_V) z (l0 : mm_V) (l2 : mm_V), mm_E d 33 10 [l0, (.inr (.inr z)), l2] [] st n I L P = mm_E d 33 11 [l0, (.inr (.inr z)), l2] [] ((.inr (.inr z)) :: st) n I L P) ∧
  (∀ (st : List mm_V) z (l0 : mm_V) (l1 : mm_V), mm_E d 33 11 [l0, l1, (.inl z)] [] st n I L P = mm_E d 33 12 [l0, l1, (.inl z)] [] ((.inl z) :: st) n I L P) ∧
  (∀ (lv : List mm_V) (st : List mm_V), mm_E d 33 12 lv [] st n I L P = mm_E d 33 13 lv [] (.inl 0 :: st) n I L P) ∧
  (∀ (lv : List mm_V) x0 x1 x2 x3, mm_E d 33 13 lv [] (.inl x3 :: .inl x2 :: .inr (.inr x1) :: .inr (.inr x0) :: []) n I L P = mm_kr d 33 16 lv [] [] n (mm_rn d 32 [.inr (.inr x0), .inr (.inr x1), .inl x2, .inl x3] n I L P)) ∧
  (∀ (lv : List mm_V) (st : List mm_V) a, mm_E d 33 16 lv [] (.inl a :: st) n I L P = if a = 0 then mm_E d 33 19 lv [] st n I L P else mm_E d 33 21 lv [] st n I L P) ∧
  (∀ (lv : List mm_V) (st : List mm_V), mm_E d 33 19 lv [] st n I L P = mm_E d 33 20 lv [] (.inl 0 :: st) n I L P) ∧
  (∀ (lv : List mm_V) z, (0 ≤ z ∧ z < 2) → mm_E d 33 20 lv [] [.inl z] n I L P = some (some (.inl z), n, I, L, P)) ∧
  (∀ (st : List mm_V) z (l0 : mm_V) (l2 : mm_V), mm_E d 33 21 [l0, (.inr (.inr z)), l2] [] st n I L P = mm_E d 33 22 [l0, (.inr (.inr z)), l2] [] ((.inr (.inr z)) :: st) n I L P) ∧
  (∀ (lv : List mm_V) (st : List mm_V), mm_E d 33 22 lv [] st n I L P = mm_E d 33 24 lv [] (.inl 11 :: st) n I L P) ∧
  (∀ (lv : List mm_V) (st : List mm_V), mm_E d 33 24 lv [] st n I L P = mm_E d 33 25 lv [] (.inl 0 :: st) n I L P) ∧
  (∀ (lv : List mm_V) a x0 x1, (mm_ok n a 3) → mm_E d 33 25 lv [] (.inl x1 :: .inl x0 :: .inr (.inr (some a)) :: []) n I L P = mm_kv d 33 28 lv [] [] n (mm_rn d 22 [.inr (.inr (some a)), .inl x0, .inl x1] n I L P)) ∧
  (∀ (lv : List mm_V) (st : List mm_V), mm_E d 33 28 lv [] st n I L P = mm_E d 33 29 lv [] (.inl 1 :: st) n I L P) ∧
  (∀ (lv : List mm_V) z, (0 ≤ z ∧ z < 2) → mm_E d 33 29 lv [] [.inl z] n I L P = some (some (.inl z), n, I, L, P)) ∧
  (∀ (st : List mm_V) z (l1 : mm_V) (l2 : mm_V), mm_E d 33 30 [(.inr (.inr z)), l1, l2] [] st n I L P = mm_E d 33 31 [(.inr (.inr z)), l1, l2] [] ((.inr (.inr z)) :: st) n I L P) ∧
  (∀ (lv : List mm_V) (st : List mm_V), mm_E d 33 31 lv [] st n I L P = mm_E d 33 33 lv [] (.inl 40 :: st) n I L P) ∧
  (∀ (lv : List mm_V) a x0, (mm_ok n a 8) → mm_E d 33 33 lv [] (.inl x0 :: .inr (.inr (some a)) :: []) n I L P = mm_kr d 33 36 lv [] [] n (mm_rn d 60 [.inr (.inr (some a)), .inl x0] n I L P)) ∧
  (∀ (lv : List mm_V) (st : List mm_V) a, mm_E d 33 36 lv [] (.inl a :: st) n I L P = if a = 0 then mm_E d 33 62 lv [] st n I L P else mm_E d 33 39 lv [] st n I L P) ∧
  (∀ (st : List mm_V) z (l1 : mm_V) (l2 : mm_V), mm_E d 33 39 [(.inr (.inr z)), l1, l2] [] st n I L P = mm_E d 33 40 [(.inr (.inr z)), l1, l2] [] ((.inr (.inr z)) :: st) n I L P) ∧
  (∀ (st : List mm_V) z (l0 : mm_V) (l2 : mm_V), mm_E d 33 40 [l0, (.inr (.inr z)), l2] [] st n I L P = mm_E d 33 41 [l0, (.inr (.inr z)), l2] [] ((.inr (.inr z)) :: st) n I L P) ∧
  (∀ (st : List mm_V) z (l0 : mm_V) (l1 : mm_V), mm_E d 33 41 [l0, l1, (.inl z)] [] st n I L P = mm_E d 33 42 [l0, l1, (.inl z)] [] ((.inl z) :: st) n I L P) ∧
  (∀ (lv : List mm_V) (st : List mm_V), mm_E d 33 42 lv [] st n I L P = mm_E d 33 43 lv [] (.inl 0 :: st) n I L P) ∧
  (∀ (lv : List mm_V) x0 x1 x2 x3, mm_E d 33 43 lv [] (.inl x3 :: .inl x2 :: .inr (.inr x1) :: .inr (.inr x0) :: []) n I L P = mm_kr d 33 46 lv [] [] n (mm_rn d 30 [.inr (.inr x0), .inr (.inr x1), .inl x2, .inl x3] n I L P)) ∧
  (∀ (lv : List mm_V) (st : List mm_V) a, mm_E d 33 46 lv [] (.inl a :: st) n I L P = if a = 0 then mm_E d 33 62 lv [] st n I L P else mm_E d 33 49 lv [] st n I L P) ∧
  (∀ (st : List mm_V) z (l1 : mm_V) (l2 : mm_V), mm_E d 33 49 [(.inr (.inr z)), l1, l2] [] st n I L P = mm_E d 33 50 [(.inr (.inr z)), l1, l2] [] ((.inr (.inr z)) :: st) n I L P) ∧
  (∀ (lv : List mm_V) (st : List mm_V), mm_E d 33 50 lv [] st n I L P = mm_E d 33 52 lv [] (.inl 41 :: st) n I L P) ∧
  (∀ (lv : List mm_V) a x0, (mm_ok n a 8) → mm_E d 33 52 lv [] (.inl x0 :: .inr (.inr (some a)) :: []) n I L P = mm_kr d 33 55 lv [] [] n (mm_rn d 60 [.inr (.inr (some a)), .inl x0] n I L P)) ∧
  (∀ (lv : List mm_V) (st : List mm_V) a, mm_E d 33 55 lv [] (.inl a :: st) n I L P = if a = 0 then mm_E d 33 62 lv [] st n I L P else mm_E d 33 58 lv [] st n I L P) ∧
  (∀ (lv : List mm_V) (st : List mm_V), mm_E d 33 58 lv [] st n I L P = mm_E d 33 59 lv [] (.inl 1 :: st) n I L P) ∧
  (∀ (lv : List mm_V) (st : List mm_V), mm_E d 33 59 lv [] st n I L P = mm_E d 33 63 lv [] st n I L P) ∧
  (∀ (lv : List mm_V) (st : List mm_V), mm_E d 33 62 lv [] st n I L P = mm_E d 33 63 lv [] (.inl 0 :: st) n I L P) ∧
  (∀ (lv : List mm_V) z, (0 ≤ z ∧ z < 2) → mm_E d 33 63 lv [] [.inl z] n I L P = some (some (.inl z), n, I, L, P)) :=
  ⟨fun _ _ _ _ => mq_al (i := 0) rfl rfl,
   fun _ _ => mq_push rfl,
   fun _ _ _ h0 => mq_cVr (na := 1) rfl rfl (Nat.le_of_ble_eq_true rfl) (Nat.le_of_ble_eq_true rfl) h0,
   fun _ _ _ => mq_if_eq rfl,
   fun _ _ _ _ => mq_al (i := 0) rfl rfl,
   fun _ _ _ _ => mq_al (i := 1) rfl rfl,
   fun _ _ _ _ => mq_il (i := 2) rfl rfl,
   fun _ _ => mq_push rfl,
   fun _ _ _ _ _ => mq_cSr (na := 4) rfl (Nat.le_of_ble_eq_true rfl) (Nat.le_of_ble_eq_true rfl),
   fun _ _ _ => mq_if_ne rfl,
   fun _ _ => mq_push rfl,
   fun _ _ h0 => mq_rz rfl h0,
   fun _ _ _ _ => mq_al (i := 1) rfl rfl,
   fun _ _ => mq_push rfl,
   fun _ _ => mq_push rfl,
   fun _ _ _ _ h0 => mq_cVv (na := 2) rfl rfl (Nat.le_of_ble_eq_true rfl) (Nat.le_of_ble_eq_true rfl) h0,
   fun _ _ => mq_push rfl,
   fun _ _ h0 => mq_rz rfl h0,
   fun _ _ _ _ => mq_al (i := 0) rfl rfl,
   fun _ _ => mq_push rfl,
   fun _ _ _ h0 => mq_cVr (na := 1) rfl rfl (Nat.le_of_ble_eq_true rfl) (Nat.le_of_ble_eq_true rfl) h0,
   fun _ _ _ => mq_if_eq rfl,
   fun _ _ _ _ => mq_al (i := 0) rfl rfl,
   fun _ _ _ _ => mq_al (i := 1) rfl rfl,
   fun _ _ _ _ => mq_il (i := 2) rfl rfl,
   fun _ _ => mq_push rfl,
   fun _ _ _ _ _ => mq_cSr (na := 4) rfl (Nat.le_of_ble_eq_true rfl) (Nat.le_of_ble_eq_true rfl),
   fun _ _ _ => mq_if_eq rfl,
   fun _ _ _ _ => mq_al (i := 0) rfl rfl,
   fun _ _ => mq_push rfl,
   fun _ _ _ h0 => mq_cVr (na := 1) rfl rfl (Nat.le_of_ble_eq_true rfl) (Nat.le_of_ble_eq_true rfl) h0,
   fun _ _ _ => mq_if_eq rfl,
   fun _ _ => mq_push rfl,
   fun _ _ => mq_go rfl,
   fun _ _ => mq_push rfl,
   fun _ _ h0 => mq_rz rfl h0⟩
theorem eX4_readInner (d n : Nat) (I L : mm_I) (P : mm_P) (x0 : Option Nat) (x1 : Option Nat) (x2 : Int) : mm_rn (d + 1) 33 [.inr (.inr x0), .inr (.inr x1), .inl x2] n I L P = mm_E d 33 0 [.inr (.inr x0), .inr (.inr x1), .inl x2] [] [] n I L P := rfl

set_option maxRecDepth 20000 in
set_option maxHeartbeats 8000000 in
theorem kX4_comparisonOf (d n : Nat) (I L : mm_I) (P : mm_P) :
  (∀ (st : List mm_V) z, mm_E d 34 0 [(.inl z)] [] st n I L P = mm_E d 34 1 [(.inl z)] [] ((.inl z) :: st) n I L P) ∧
  (∀ (lv : List mm_V) (st : List mm_V) a, mm_E d 34 1 lv [] (.inl a :: st) n I L P = if a = 60 then mm_E d 34 31 lv [] st n I L P else if a = 61 then mm_E d 34 28 lv [] st n I L P else if a = 62 then mm_E d 34 34 lv [] st n I L P else mm_E d 34 37 lv [] st n I L P) ∧
  (∀ (lv : List mm_V) (st : List mm_V), mm_E d 34 28 lv [] st n I L P = mm_E d 34 30 lv [] (.inl 6 :: st) n I L P) ∧
  (∀ (lv : List mm_V) z, mm_E d 34 30 lv [] [.inl z] n I L P = some (some (.inl z), n, I, L, P)) ∧
  (∀ (lv : List mm_V) (st : List mm_V), mm_E d 34 31 lv [] st n I L P = mm_E d 34 33 lv [] (.inl 7 :: st) n I L P) ∧
  (∀ (lv : List mm_V) z, mm_E d 34 33 lv [] [.inl z] n I L P = some (some (.inl z), n, I, L, P)) ∧
  (∀ (lv : List mm_V) (st : List mm_V), mm_E d 34 34 lv [] st n I L P = mm_E d 34 36 lv [] (.inl 8 :: st) n I L P) ∧
  (∀ (lv : List mm_V) z, mm_E d 34 36 lv [] [.inl z] n I L P = some (some (.inl z), n, I, L, P)) ∧
  (∀ (lv : List mm_V) (st : List mm_V), mm_E d 34 37 lv [] st n I L P = mm_E d 34 38 lv [] (.inl (-1) :: st) n I L P) ∧
  (∀ (lv : List mm_V) z, mm_E d 34 38 lv [] [.inl z] n I L P = some (some (.inl z), n, I, L, P)) :=
  ⟨fun _ _ => mq_il (i := 0) rfl rfl,
   fun _ _ _ => mq_sw (l := [(60, 31), (61, 28), (62, 34)]) (df := 37) rfl,
   fun _ _ => mq_push rfl,
   fun _ _ => mq_ri rfl,
   fun _ _ => mq_push rfl,
   fun _ _ => mq_ri rfl,
   fun _ _ => mq_push rfl,
   fun _ _ => mq_ri rfl,
   fun _ _ => mq_push rfl,
   fun _ _ => mq_ri rfl⟩
theorem eX4_comparisonOf (d n : Nat) (I L : mm_I) (P : mm_P) (x0 : Int) : mm_rn (d + 1) 34 [.inl x0] n I L P = mm_E d 34 0 [.inl x0] [] [] n I L P := rfl

set_option maxRecDepth 20000 in
set_option maxHeartbeats 8000000 in
theorem kX4_readSum (d n : Nat) (I L : mm_I) (P : mm_P) :
  (∀ (st : List mm_V) z (l1 : mm_V) (l2 : mm_V) (l3 : mm_V) (l4 : mm_V), mm_E d 35 0 [(.inr (.inr z)), l1, l2, l3, l4] [] st n I L P = mm_E d 35 1 [(.inr (.inr z)), l1, l2, l3, l4] [] ((.inr (.inr z)) :: st) n I L P) ∧
  (∀ (st : List mm_V) z (l0 : mm_V) (l2 : mm_V) (l3 : mm_V) (l4 : mm_V), mm_E d 35 1 [l0, (.inr (.inr z)), l2, l3, l4] [] st n I L P = mm_E d 35 2 [l0, (.inr (.inr z)), l2, l3, l4] [] ((.inr (.inr z)) :: st) n I L P) ∧
  (∀ (st : List mm_V) z (l0 : mm_V) (l1 : mm_V) (l3 : mm_V) (l4 : mm_V), mm_E d 35 2 [l0, l1, (.inl z), l3, l4] [] st n I L P = mm_E d 35 3 [l0, l1, (.inl z), l3, l4] [] ((.inl z) :: st) n I L P) ∧
  (∀ (lv : List mm_V) x0 x1 x2, mm_E d 35 3 lv [] (.inl x2 :: .inr (.inr x1) :: .inr (.inr x0) :: []) n I L P = mm_kr d 35 6 lv [] [] n (mm_rn d 36 [.inr (.inr x0), .inr (.inr x1), .inl x2] n I L P)) ∧
  (∀ (lv : List mm_V) (st : List mm_V) a, mm_E d 35 6 lv [] (.inl a :: st) n I L P = if a = 0 then mm_E d 35 9 lv [] st n I L P else mm_E d 35 11 lv [] st n I L P) ∧
  (∀ (lv : List mm_V) (st : List mm_V), mm_E d 35 9 lv [] st n I L P = mm_E d 35 10 lv [] (.inl 0 :: st) n I L P) ∧
  (∀ (lv : List mm_V) z, (0 ≤ z ∧ z < 2) → mm_E d 35 10 lv [] [.inl z] n I L P = some (some (.inl z), n, I, L, P)) ∧
  (∀ (lv : List mm_V) (st : List mm_V), mm_E d 35 11 lv [] st n I L P = mm_E d 35 12 lv [] (.inl 0 :: st) n I L P) ∧
  (∀ (st : List mm_V) z (l0 : mm_V) (l1 : mm_V) (l2 : mm_V) (l3 : mm_V) (l4 : mm_V), mm_E d 35 12 [l0, l1, l2, l3, l4] [] ((.inl z) :: st) n I L P = mm_E d 35 13 [l0, l1, l2, (.inl z), l4] [] st n I L P) ∧
  (∀ (lv : List mm_V) (st : List mm_V), mm_E d 35 14 lv [] st n I L P = mm_E d 35 17 lv [] (.inl 240 :: st) n I L P) ∧
  (∀ (lv : List mm_V) (st : List mm_V) a b, mm_E d 35 17 lv [] (.inl b :: .inl a :: st) n I L P = if b ≤ a then mm_E d 35 81 lv [] st n I L P else mm_E d 35 20 lv [] st n I L P) ∧
  (∀ (st : List mm_V) z (l1 : mm_V) (l2 : mm_V) (l3 : mm_V) (l4 : mm_V), mm_E d 35 20 [(.inr (.inr z)), l1, l2, l3, l4] [] st n I L P = mm_E d 35 21 [(.inr (.inr z)), l1, l2, l3, l4] [] ((.inr (.inr z)) :: st) n I L P) ∧
  (∀ (lv : List mm_V) (st : List mm_V), mm_E d 35 21 lv [] st n I L P = mm_E d 35 23 lv [] (.inl 43 :: st) n I L P) ∧
  (∀ (lv : List mm_V) a x0, (mm_ok n a 8) → mm_E d 35 23 lv [] (.inl x0 :: .inr (.inr (some a)) :: []) n I L P = mm_kr d 35 26 lv [] [] n (mm_rn d 60 [.inr (.inr (some a)), .inl x0] n I L P)) ∧
  (∀ (lv : List mm_V) (st : List mm_V) a, mm_E d 35 26 lv [] (.inl a :: st) n I L P = if a = 0 then mm_E d 35 33 lv [] st n I L P else mm_E d 35 29 lv [] st n I L P) ∧
  (∀ (lv : List mm_V) (st : List mm_V), mm_E d 35 29 lv [] st n I L P = mm_E d 35 30 lv [] (.inl 2 :: st) n I L P) ∧
  (∀ (lv : List mm_V) (st : List mm_V), mm_E d 35 30 lv [] st n I L P = mm_E d 35 47 lv [] st n I L P) ∧
  (∀ (st : List mm_V) z (l1 : mm_V) (l2 : mm_V) (l3 : mm_V) (l4 : mm_V), mm_E d 35 33 [(.inr (.inr z)), l1, l2, l3, l4] [] st n I L P = mm_E d 35 34 [(.inr (.inr z)), l1, l2, l3, l4] [] ((.inr (.inr z)) :: st) n I L P) ∧
  (∀ (lv : List mm_V) (st : List mm_V), mm_E d 35 34 lv [] st n I L P = mm_E d 35 36 lv [] (.inl 45 :: st) n I L P) ∧
  (∀ (lv : List mm_V) a x0, (mm_ok n a 8) → mm_E d 35 36 lv [] (.inl x0 :: .inr (.inr (some a)) :: []) n I L P = mm_kr d 35 39 lv [] [] n (mm_rn d 60 [.inr (.inr (some a)), .inl x0] n I L P)) ∧
  (∀ (lv : List mm_V) (st : List mm_V) a, mm_E d 35 39 lv [] (.inl a :: st) n I L P = if a = 0 then mm_E d 35 46 lv [] st n I L P else mm_E d 35 42 lv [] st n I L P) ∧
  (∀ (lv : List mm_V) (st : List mm_V), mm_E d 35 42 lv [] st n I L P = mm_E d 35 43 lv [] (.inl 3 :: st) n I L P) ∧
  (∀ (lv : List mm_V) (st : List mm_V), mm_E d 35 43 lv [] st n I L P = mm_E d 35 47 lv [] st n I L P) ∧
  (∀ (lv : List mm_V) (st : List mm_V), mm_E d 35 46 lv [] st n I L P = mm_E d 35 47 lv [] (.inl (-1) :: st) n I L P) ∧
  (∀ (st : List mm_V) z (l0 : mm_V) (l1 : mm_V) (l2 : mm_V) (l3 : mm_V) (l4 : mm_V), mm_E d 35 47 [l0, l1, l2, l3, l4] [] ((.inl z) :: st) n I L P = mm_E d 35 49 [l0, l1, l2, l3, (.inl z)] [] st n I L P) ∧
  (∀ (st : List mm_V) z (l0 : mm_V) (l1 : mm_V) (l2 : mm_V) (l3 : mm_V), mm_E d 35 49 [l0, l1, l2, l3, (.inl z)] [] st n I L P = mm_E d 35 51 [l0, l1, l2, l3, (.inl z)] [] ((.inl z) :: st) n I L P) ∧
  (∀ (lv : List mm_V) (st : List mm_V), mm_E d 35 51 lv [] st n I L P = mm_E d 35 52 lv [] (.inl (-1) :: st) n I L P) ∧
  (∀ (lv : List mm_V) (st : List mm_V) a b, mm_E d 35 52 lv [] (.inl b :: .inl a :: st) n I L P = if a = b then mm_E d 35 55 lv [] st n I L P else mm_E d 35 57 lv [] st n I L P) ∧
  (∀ (lv : List mm_V) (st : List mm_V), mm_E d 35 55 lv [] st n I L P = mm_E d 35 56 lv [] (.inl 1 :: st) n I L P) ∧
  (∀ (lv : List mm_V) z, (0 ≤ z ∧ z < 2) → mm_E d 35 56 lv [] [.inl z] n I L P = some (some (.inl z), n, I, L, P)) ∧
  (∀ (st : List mm_V) z (l1 : mm_V) (l2 : mm_V) (l3 : mm_V) (l4 : mm_V), mm_E d 35 57 [(.inr (.inr z)), l1, l2, l3, l4] [] st n I L P = mm_E d 35 58 [(.inr (.inr z)), l1, l2, l3, l4] [] ((.inr (.inr z)) :: st) n I L P) ∧
  (∀ (st : List mm_V) z (l0 : mm_V) (l2 : mm_V) (l3 : mm_V) (l4 : mm_V), mm_E d 35 58 [l0, (.inr (.inr z)), l2, l3, l4] [] st n I L P = mm_E d 35 59 [l0, (.inr (.inr z)), l2, l3, l4] [] ((.inr (.inr z)) :: st) n I L P) ∧
  (∀ (st : List mm_V) z (l0 : mm_V) (l1 : mm_V) (l3 : mm_V) (l4 : mm_V), mm_E d 35 59 [l0, l1, (.inl z), l3, l4] [] st n I L P = mm_E d 35 60 [l0, l1, (.inl z), l3, l4] [] ((.inl z) :: st) n I L P) ∧
  (∀ (lv : List mm_V) x0 x1 x2, mm_E d 35 60 lv [] (.inl x2 :: .inr (.inr x1) :: .inr (.inr x0) :: []) n I L P = mm_kr d 35 63 lv [] [] n (mm_rn d 36 [.inr (.inr x0), .inr (.inr x1), .inl x2] n I L P)) ∧
  (∀ (lv : List mm_V) (st : List mm_V) a, mm_E d 35 63 lv [] (.inl a :: st) n I L P = if a = 0 then mm_E d 35 66 lv [] st n I L P else mm_E d 35 68 lv [] st n I L P) ∧
  (∀ (lv : List mm_V) (st : List mm_V), mm_E d 35 66 lv [] st n I L P = mm_E d 35 67 lv [] (.inl 0 :: st) n I L P) ∧
  (∀ (lv : List mm_V) z, (0 ≤ z ∧ z < 2) → mm_E d 35 67 lv [] [.inl z] n I L P = some (some (.inl z), n, I, L, P)) ∧
  (∀ (st : List mm_V) z (l0 : mm_V) (l2 : mm_V) (l3 : mm_V) (l4 : mm_V), mm_E d 35 68 [l0, (.inr (.inr z)), l2, l3, l4] [] st n I L P = mm_E d 35 69 [l0, (.inr (.inr z)), l2, l3, l4] [] ((.inr (.inr z)) :: st) n I L P) ∧
  (∀ (st : List mm_V) z (l0 : mm_V) (l1 : mm_V) (l2 : mm_V) (l3 : mm_V), mm_E d 35 69 [l0, l1, l2, l3, (.inl z)] [] st n I L P = mm_E d 35 71 [l0, l1, l2, l3, (.inl z)] [] ((.inl z) :: st) n I L P) ∧
  (∀ (lv : List mm_V) (st : List mm_V), mm_E d 35 71 lv [] st n I L P = mm_E d 35 72 lv [] (.inl 0 :: st) n I L P) ∧
  (∀ (lv : List mm_V) a x0 x1, (mm_ok n a 3) → mm_E d 35 72 lv [] (.inl x1 :: .inl x0 :: .inr (.inr (some a)) :: []) n I L P = mm_kv d 35 75 lv [] [] n (mm_rn d 22 [.inr (.inr (some a)), .inl x0, .inl x1] n I L P)) ∧
  (∀ (st : List mm_V) z (l0 : mm_V) (l1 : mm_V) (l2 : mm_V) (l4 : mm_V), mm_E d 35 75 [l0, l1, l2, (.inl z), l4] [] st n I L P = mm_E d 35 78 [l0, l1, l2, (.inl (mm_add z 1)), l4] [] st n I L P) ∧
  (∀ (lv : List mm_V) (st : List mm_V), mm_E d 35 78 lv [] st n I L P = mm_E d 35 13 lv [] st n I L P) ∧
  (∀ (lv : List mm_V) (st : List mm_V), mm_E d 35 81 lv [] st n I L P = mm_E d 35 82 lv [] (.inl 0 :: st) n I L P) ∧
  (∀ (lv : List mm_V) z, (0 ≤ z ∧ z < 2) → mm_E d 35 82 lv [] [.inl z] n I L P = some (some (.inl z), n, I, L, P)) :=
  ⟨fun _ _ _ _ _ _ => mq_al (i := 0) rfl rfl,
   fun _ _ _ _ _ _ => mq_al (i := 1) rfl rfl,
   fun _ _ _ _ _ _ => mq_il (i := 2) rfl rfl,
   fun _ _ _ _ => mq_cSr (na := 3) rfl (Nat.le_of_ble_eq_true rfl) (Nat.le_of_ble_eq_true rfl),
   fun _ _ _ => mq_if_ne rfl,
   fun _ _ => mq_push rfl,
   fun _ _ h0 => mq_rz rfl h0,
   fun _ _ => mq_push rfl,
   fun _ _ _ _ _ _ _ => mq_is (i := 3) rfl rfl rfl,
   fun _ _ => mq_push rfl,
   fun _ _ _ _ => mq_ic_ge rfl,
   fun _ _ _ _ _ _ => mq_al (i := 0) rfl rfl,
   fun _ _ => mq_push rfl,
   fun _ _ _ h0 => mq_cVr (na := 1) rfl rfl (Nat.le_of_ble_eq_true rfl) (Nat.le_of_ble_eq_true rfl) h0,
   fun _ _ _ => mq_if_eq rfl,
   fun _ _ => mq_push rfl,
   fun _ _ => mq_go rfl,
   fun _ _ _ _ _ _ => mq_al (i := 0) rfl rfl,
   fun _ _ => mq_push rfl,
   fun _ _ _ h0 => mq_cVr (na := 1) rfl rfl (Nat.le_of_ble_eq_true rfl) (Nat.le_of_ble_eq_true rfl) h0,
   fun _ _ _ => mq_if_eq rfl,
   fun _ _ => mq_push rfl,
   fun _ _ => mq_go rfl,
   fun _ _ => mq_push rfl,
   fun _ _ _ _ _ _ _ => mq_is (i := 4) rfl rfl rfl,
   fun _ _ _ _ _ _ => mq_il (i := 4) rfl rfl,
   fun _ _ => mq_push rfl,
   fun _ _ _ _ => mq_ic_ne rfl,
   fun _ _ => mq_push rfl,
   fun _ _ h0 => mq_rz rfl h0,
   fun _ _ _ _ _ _ => mq_al (i := 0) rfl rfl,
   fun _ _ _ _ _ _ => mq_al (i := 1) rfl rfl,
   fun _ _ _ _ _ _ => mq_il (i := 2) rfl rfl,
   fun _ _ _ _ => mq_cSr (na := 3) rfl (Nat.le_of_ble_eq_true rfl) (Nat.le_of_ble_eq_true rfl),
   fun _ _ _ => mq_if_ne rfl,
   fun _ _ => mq_push rfl,
   fun _ _ h0 => mq_rz rfl h0,
   fun _ _ _ _ _ _ => mq_al (i := 1) rfl rfl,
   fun _ _ _ _ _ _ => mq_il (i := 4) rfl rfl,
   fun _ _ => mq_push rfl,
   fun _ _ _ _ h0 => mq_cVv (na := 2) rfl rfl (Nat.le_of_ble_eq_true rfl) (Nat.le_of_ble_eq_true rfl) h0,
   fun _ _ _ _ _ _ => mq_iinc (i := 3) rfl rfl rfl rfl,
   fun _ _ => mq_go rfl,
   fun _ _ => mq_push rfl,
   fun _ _ h0 => mq_rz rfl h0⟩
theorem hX4_readSum_13 (d n : Nat) (I L : mm_I) (P : mm_P) : ∀ (st : List mm_V) z (l0 : mm_V) (l1 : mm_V) (l2 : mm_V) (l4 : mm_V), mm_E d 35 13 [l0, l1, l2, (.inl z), l4] [] st n I L P = mm_E d 35 14 [l0, l1, l2, (.inl z), l4] [] ((.inl z) :: st) n I L P := fun _ _ _ _ _ _ => mq_il (i := 3) rfl rfl
theorem eX4_readSum (d n : Nat) (I L : mm_I) (P : mm_P) (x0 : Option Nat) (x1 : Option Nat) (x2 : Int) : mm_rn (d + 1) 35 [.inr (.inr x0), .inr (.inr x1), .inl x2] n I L P = mm_E d 35 0 [.inr (.inr x0), .inr (.inr x1), .inl x2, mm_junk, mm_junk] [] [] n I L P := rfl

set_option maxRecDepth 20000 in
set_option maxHeartbeats 8000000 in
theorem kX4_readTerm (d n : Nat) (I L : mm_I) (P : mm_P) :
  (∀ (st : List mm_V) z (l1 : mm_V) (l2 : mm_V) (l3 : mm_V) (l4 : mm_V), mm_E d 36 0 [(.inr (.inr z)), l1, l2, l3, l4] [] st n I L P = mm_E d 36 1 [(.inr (.inr z)), l1, l2, l3, l4] [] ((.inr (.inr z)) :: st) n I L P) ∧
  (∀ (st : List mm_V) z (l0 : mm_V) (l2 : mm_V) (l3 : mm_V) (l4 : mm_V), mm_E d 36 1 [l0, (.inr (.inr z)), l2, l3, l4] [] st n I L P = mm_E d 36 2 [l0, (.inr (.inr z)), l2, l3, l4] [] ((.inr (.inr z)) :: st) n I L P) ∧
  (∀ (st : List mm_V) z (l0 : mm_V) (l1 : mm_V) (l3 : mm_V) (l4 : mm_V), mm_E d 36 2 [l0, l1, (.inl z), l3, l4] [] st n I L P = mm_E d 36 3 [l0, l1, (.inl z), l3, l4] [] ((.inl z) :: st) n I L P) ∧
  (∀ (lv : List mm_V) x0 x1 x2, mm_E d 36 3 lv [] (.inl x2 :: .inr (.inr x1) :: .inr (.inr x0) :: []) n I L P = mm_kr d 36 6 lv [] [] n (mm_rn d 37 [.inr (.inr x0), .inr (.inr x1), .inl x2] n I L P)) ∧
  (∀ (lv : List mm_V) (st : List mm_V) a, mm_E d 36 6 lv [] (.inl a :: st) n I L P = if a = 0 then mm_E d 36 9 lv [] st n I L P else mm_E d 36 11 lv [] st n I L P) ∧
  (∀ (lv : List mm_V) (st : List mm_V), mm_E d 36 9 lv [] st n I L P = mm_E d 36 10 lv [] (.inl 0 :: st) n I L P) ∧
  (∀ (lv : List mm_V) z, (0 ≤ z ∧ z < 2) → mm_E d 36 10 lv [] [.inl z] n I L P = some (some (.inl z), n, I, L, P)) ∧
  (∀ (lv : List mm_V) (st : List mm_V), mm_E d 36 11 lv [] st n I L P = mm_E d 36 12 lv [] (.inl 0 :: st) n I L P) ∧
  (∀ (st : List mm_V) z (l0 : mm_V) (l1 : mm_V) (l2 : mm_V) (l3 : mm_V) (l4 : mm_V), mm_E d 36 12 [l0, l1, l2, l3, l4] [] ((.inl z) :: st) n I L P = mm_E d 36 13 [l0, l1, l2, (.inl z), l4] [] st n I L P) ∧
  (∀ (lv : List mm_V) (st : List mm_V), mm_E d 36 14 lv [] st n I L P = mm_E d 36 17 lv [] (.inl 240 :: st) n I L P) ∧
  (∀ (lv : List mm_V) (st : List mm_V) a b, mm_E d 36 17 lv [] (.inl b :: .inl a :: st) n I L P = if b ≤ a then mm_E d 36 81 lv [] st n I L P else mm_E d 36 20 lv [] st n I L P) ∧
  (∀ (st : List mm_V) z (l1 : mm_V) (l2 : mm_V) (l3 : mm_V) (l4 : mm_V), mm_E d 36 20 [(.inr (.inr z)), l1, l2, l3, l4] [] st n I L P = mm_E d 36 21 [(.inr (.inr z)), l1, l2, l3, l4] [] ((.inr (.inr z)) :: st) n I L P) ∧
  (∀ (lv : List mm_V) (st : List mm_V), mm_E d 36 21 lv [] st n I L P = mm_E d 36 23 lv [] (.inl 42 :: st) n I L P) ∧
  (∀ (lv : List mm_V) a x0, (mm_ok n a 8) → mm_E d 36 23 lv [] (.inl x0 :: .inr (.inr (some a)) :: []) n I L P = mm_kr d 36 26 lv [] [] n (mm_rn d 60 [.inr (.inr (some a)), .inl x0] n I L P)) ∧
  (∀ (lv : List mm_V) (st : List mm_V) a, mm_E d 36 26 lv [] (.inl a :: st) n I L P = if a = 0 then mm_E d 36 33 lv [] st n I L P else mm_E d 36 29 lv [] st n I L P) ∧
  (∀ (lv : List mm_V) (st : List mm_V), mm_E d 36 29 lv [] st n I L P = mm_E d 36 30 lv [] (.inl 4 :: st) n I L P) ∧
  (∀ (lv : List mm_V) (st : List mm_V), mm_E d 36 30 lv [] st n I L P = mm_E d 36 47 lv [] st n I L P) ∧
  (∀ (st : List mm_V) z (l1 : mm_V) (l2 : mm_V) (l3 : mm_V) (l4 : mm_V), mm_E d 36 33 [(.inr (.inr z)), l1, l2, l3, l4] [] st n I L P = mm_E d 36 34 [(.inr (.inr z)), l1, l2, l3, l4] [] ((.inr (.inr z)) :: st) n I L P) ∧
  (∀ (lv : List mm_V) (st : List mm_V), mm_E d 36 34 lv [] st n I L P = mm_E d 36 36 lv [] (.inl 47 :: st) n I L P) ∧
  (∀ (lv : List mm_V) a x0, (mm_ok n a 8) → mm_E d 36 36 lv [] (.inl x0 :: .inr (.inr (some a)) :: []) n I L P = mm_kr d 36 39 lv [] [] n (mm_rn d 60 [.inr (.inr (some a)), .inl x0] n I L P)) ∧
  (∀ (lv : List mm_V) (st : List mm_V) a, mm_E d 36 39 lv [] (.inl a :: st) n I L P = if a = 0 then mm_E d 36 46 lv [] st n I L P else mm_E d 36 42 lv [] st n I L P) ∧
  (∀ (lv : List mm_V) (st : List mm_V), mm_E d 36 42 lv [] st n I L P = mm_E d 36 43 lv [] (.inl 5 :: st) n I L P) ∧
  (∀ (lv : List mm_V) (st : List mm_V), mm_E d 36 43 lv [] st n I L P = mm_E d 36 47 lv [] st n I L P) ∧
  (∀ (lv : List mm_V) (st : List mm_V), mm_E d 36 46 lv [] st n I L P = mm_E d 36 47 lv [] (.inl (-1) :: st) n I L P) ∧
  (∀ (st : List mm_V) z (l0 : mm_V) (l1 : mm_V) (l2 : mm_V) (l3 : mm_V) (l4 : mm_V), mm_E d 36 47 [l0, l1, l2, l3, l4] [] ((.inl z) :: st) n I L P = mm_E d 36 49 [l0, l1, l2, l3, (.inl z)] [] st n I L P) ∧
  (∀ (st : List mm_V) z (l0 : mm_V) (l1 : mm_V) (l2 : mm_V) (l3 : mm_V), mm_E d 36 49 [l0, l1, l2, l3, (.inl z)] [] st n I L P = mm_E d 36 51 [l0, l1, l2, l3, (.inl z)] [] ((.inl z) :: st) n I L P) ∧
  (∀ (lv : List mm_V) (st : List mm_V), mm_E d 36 51 lv [] st n I L P = mm_E d 36 52 lv [] (.inl (-1) :: st) n I L P) ∧
  (∀ (lv : List mm_V) (st : List mm_V) a b, mm_E d 36 52 lv [] (.inl b :: .inl a :: st) n I L P = if a = b then mm_E d 36 55 lv [] st n I L P else mm_E d 36 57 lv [] st n I L P) ∧
  (∀ (lv : List mm_V) (st : List mm_V), mm_E d 36 55 lv [] st n I L P = mm_E d 36 56 lv [] (.inl 1 :: st) n I L P) ∧
  (∀ (lv : List mm_V) z, (0 ≤ z ∧ z < 2) → mm_E d 36 56 lv [] [.inl z] n I L P = some (some (.inl z), n, I, L, P)) ∧
  (∀ (st : List mm_V) z (l1 : mm_V) (l2 : mm_V) (l3 : mm_V) (l4 : mm_V), mm_E d 36 57 [(.inr (.inr z)), l1, l2, l3, l4] [] st n I L P = mm_E d 36 58 [(.inr (.inr z)), l1, l2, l3, l4] [] ((.inr (.inr z)) :: st) n I L P) ∧
  (∀ (st : List mm_V) z (l0 : mm_V) (l2 : mm_V) (l3 : mm_V) (l4 : mm_V), mm_E d 36 58 [l0, (.inr (.inr z)), l2, l3, l4] [] st n I L P = mm_E d 36 59 [l0, (.inr (.inr z)), l2, l3, l4] [] ((.inr (.inr z)) :: st) n I L P) ∧
  (∀ (st : List mm_V) z (l0 : mm_V) (l1 : mm_V) (l3 : mm_V) (l4 : mm_V), mm_E d 36 59 [l0, l1, (.inl z), l3, l4] [] st n I L P = mm_E d 36 60 [l0, l1, (.inl z), l3, l4] [] ((.inl z) :: st) n I L P) ∧
  (∀ (lv : List mm_V) x0 x1 x2, mm_E d 36 60 lv [] (.inl x2 :: .inr (.inr x1) :: .inr (.inr x0) :: []) n I L P = mm_kr d 36 63 lv [] [] n (mm_rn d 37 [.inr (.inr x0), .inr (.inr x1), .inl x2] n I L P)) ∧
  (∀ (lv : List mm_V) (st : List mm_V) a, mm_E d 36 63 lv [] (.inl a :: st) n I L P = if a = 0 then mm_E d 36 66 lv [] st n I L P else mm_E d 36 68 lv [] st n I L P) ∧
  (∀ (lv : List mm_V) (st : List mm_V), mm_E d 36 66 lv [] st n I L P = mm_E d 36 67 lv [] (.inl 0 :: st) n I L P) ∧
  (∀ (lv : List mm_V) z, (0 ≤ z ∧ z < 2) → mm_E d 36 67 lv [] [.inl z] n I L P = some (some (.inl z), n, I, L, P)) ∧
  (∀ (st : List mm_V) z (l0 : mm_V) (l2 : mm_V) (l3 : mm_V) (l4 : mm_V), mm_E d 36 68 [l0, (.inr (.inr z)), l2, l3, l4] [] st n I L P = mm_E d 36 69 [l0, (.inr (.inr z)), l2, l3, l4] [] ((.inr (.inr z)) :: st) n I L P) ∧
  (∀ (st : List mm_V) z (l0 : mm_V) (l1 : mm_V) (l2 : mm_V) (l3 : mm_V), mm_E d 36 69 [l0, l1, l2, l3, (.inl z)] [] st n I L P = mm_E d 36 71 [l0, l1, l2, l3, (.inl z)] [] ((.inl z) :: st) n I L P) ∧
  (∀ (lv : List mm_V) (st : List mm_V), mm_E d 36 71 lv [] st n I L P = mm_E d 36 72 lv [] (.inl 0 :: st) n I L P) ∧
  (∀ (lv : List mm_V) a x0 x1, (mm_ok n a 3) → mm_E d 36 72 lv [] (.inl x1 :: .inl x0 :: .inr (.inr (some a)) :: []) n I L P = mm_kv d 36 75 lv [] [] n (mm_rn d 22 [.inr (.inr (some a)), .inl x0, .inl x1] n I L P)) ∧
  (∀ (st : List mm_V) z (l0 : mm_V) (l1 : mm_V) (l2 : mm_V) (l4 : mm_V), mm_E d 36 75 [l0, l1, l2, (.inl z), l4] [] st n I L P = mm_E d 36 78 [l0, l1, l2, (.inl (mm_add z 1)), l4] [] st n I L P) ∧
  (∀ (lv : List mm_V) (st : List mm_V), mm_E d 36 78 lv [] st n I L P = mm_E d 36 13 lv [] st n I L P) ∧
  (∀ (lv : List mm_V) (st : List mm_V), mm_E d 36 81 lv [] st n I L P = mm_E d 36 82 lv [] (.inl 0 :: st) n I L P) ∧
  (∀ (lv : List mm_V) z, (0 ≤ z ∧ z < 2) → mm_E d 36 82 lv [] [.inl z] n I L P = some (some (.inl z), n, I, L, P)) :=
  ⟨fun _ _ _ _ _ _ => mq_al (i := 0) rfl rfl,
   fun _ _ _ _ _ _ => mq_al (i := 1) rfl rfl,
   fun _ _ _ _ _ _ => mq_il (i := 2) rfl rfl,
   fun _ _ _ _ => mq_cSr (na := 3) rfl (Nat.le_of_ble_eq_true rfl) (Nat.le_of_ble_eq_true rfl),
   fun _ _ _ => mq_if_ne rfl,
   fun _ _ => mq_push rfl,
   fun _ _ h0 => mq_rz rfl h0,
   fun _ _ => mq_push rfl,
   fun _ _ _ _ _ _ _ => mq_is (i := 3) rfl rfl rfl,
   fun _ _ => mq_push rfl,
   fun _ _ _ _ => mq_ic_ge rfl,
   fun _ _ _ _ _ _ => mq_al (i := 0) rfl rfl,
   fun _ _ => mq_push rfl,
   fun _ _ _ h0 => mq_cVr (na := 1) rfl rfl (Nat.le_of_ble_eq_true rfl) (Nat.le_of_ble_eq_true rfl) h0,
   fun _ _ _ => mq_if_eq rfl,
   fun _ _ => mq_push rfl,
   fun _ _ => mq_go rfl,
   fun _ _ _ _ _ _ => mq_al (i := 0) rfl rfl,
   fun _ _ => mq_push rfl,
   fun _ _ _ h0 => mq_cVr (na := 1) rfl rfl (Nat.le_of_ble_eq_true rfl) (Nat.le_of_ble_eq_true rfl) h0,
   fun _ _ _ => mq_if_eq rfl,
   fun _ _ => mq_push rfl,
   fun _ _ => mq_go rfl,
   fun _ _ => mq_push rfl,
   fun _ _ _ _ _ _ _ => mq_is (i := 4) rfl rfl rfl,
   fun _ _ _ _ _ _ => mq_il (i := 4) rfl rfl,
   fun _ _ => mq_push rfl,
   fun _ _ _ _ => mq_ic_ne rfl,
   fun _ _ => mq_push rfl,
   fun _ _ h0 => mq_rz rfl h0,
   fun _ _ _ _ _ _ => mq_al (i := 0) rfl rfl,
   fun _ _ _ _ _ _ => mq_al (i := 1) rfl rfl,
   fun _ _ _ _ _ _ => mq_il (i := 2) rfl rfl,
   fun _ _ _ _ => mq_cSr (na := 3) rfl (Nat.le_of_ble_eq_true rfl) (Nat.le_of_ble_eq_true rfl),
   fun _ _ _ => mq_if_ne rfl,
   fun _ _ => mq_push rfl,
   fun _ _ h0 => mq_rz rfl h0,
   fun _ _ _ _ _ _ => mq_al (i := 1) rfl rfl,
   fun _ _ _ _ _ _ => mq_il (i := 4) rfl rfl,
   fun _ _ => mq_push rfl,
   fun _ _ _ _ h0 => mq_cVv (na := 2) rfl rfl (Nat.le_of_ble_eq_true rfl) (Nat.le_of_ble_eq_true rfl) h0,
   fun _ _ _ _ _ _ => mq_iinc (i := 3) rfl rfl rfl rfl,
   fun _ _ => mq_go rfl,
   fun _ _ => mq_push rfl,
   fun _ _ h0 => mq_rz rfl h0⟩
theorem hX4_readTerm_13 (d n : Nat) (I L : mm_I) (P : mm_P) : ∀ (st : List mm_V) z (l0 : mm_V) (l1 : mm_V) (l2 : mm_V) (l4 : mm_V), mm_E d 36 13 [l0, l1, l2, (.inl z), l4] [] st n I L P = mm_E d 36 14 [l0, l1, l2, (.inl z), l4] [] ((.inl z) :: st) n I L P := fun _ _ _ _ _ _ => mq_il (i := 3) rfl rfl
theorem eX4_readTerm (d n : Nat) (I L : mm_I) (P : mm_P) (x0 : Option Nat) (x1 : Option Nat) (x2 : Int) : mm_rn (d + 1) 36 [.inr (.inr x0), .inr (.inr x1), .inl x2] n I L P = mm_E d 36 0 [.inr (.inr x0), .inr (.inr x1), .inl x2, mm_junk, mm_junk] [] [] n I L P := rfl

set_option maxRecDepth 20000 in
set_option maxHeartbeats 8000000 in
theorem kX4_readAtom (d n : Nat) (I L : mm_I) (P : mm_P) :
  (∀ (st : List mm_V) z (l1 : mm_V) (l2 : mm_V) (l3 : mm_V) (l4 : mm_V) (l5 : mm_V), mm_E d 37 0 [(.inr (.inr z)), l1, l2, l3, l4, l5] [] st n I L P = mm_E d 37 1 [(.inr (.inr z)), l1, l2, l3, l4, l5] [] ((.inr (.inr z)) :: st) n I L P) ∧
  (∀ (lv : List mm_V) a, (mm_ok n a 8) → mm_E d 37 1 lv [] (.inr (.inr (some a)) :: []) n I L P = mm_kr d 37 4 lv [] [] n (mm_rn d 59 [.inr (.inr (some a))] n I L P)) ∧
  (∀ (st : List mm_V) z (l0 : mm_V) (l1 : mm_V) (l2 : mm_V) (l3 : mm_V) (l4 : mm_V) (l5 : mm_V), mm_E d 37 4 [l0, l1, l2, l3, l4, l5] [] ((.inl z) :: st) n I L P = mm_E d 37 5 [l0, l1, l2, (.inl z), l4, l5] [] st n I L P) ∧
  (∀ (st : List mm_V) z (l0 : mm_V) (l1 : mm_V) (l2 : mm_V) (l4 : mm_V) (l5 : mm_V), mm_E d 37 5 [l0, l1, l2, (.inl z), l4, l5] [] st n I L P = mm_E d 37 6 [l0, l1, l2, (.inl z), l4, l5] [] ((.inl z) :: st) n I L P) ∧
  (∀ (lv : List mm_V) (st : List mm_V), mm_E d 37 6 lv [] st n I L P = mm_E d 37 8 lv [] (.inl 91 :: st) n I L P) ∧
  (∀ (lv : List mm_V) (st : List mm_V) a b, mm_E d 37 8 lv [] (.inl b :: .inl a :: st) n I L P = if a = b then mm_E d 37 11 lv [] st n I L P else mm_E d 37 55 lv [] st n I L P) ∧
  (∀ (st : List mm_V) z (l0 : mm_V) (l1 : mm_V) (l3 : mm_V) (l4 : mm_V) (l5 : mm_V), mm_E d 37 11 [l0, l1, (.inl z), l3, l4, l5] [] st n I L P = mm_E d 37 12 [l0, l1, (.inl z), l3, l4, l5] [] ((.inl z) :: st) n I L P) ∧
  (∀ (lv : List mm_V) (st : List mm_V), mm_E d 37 12 lv [] st n I L P = mm_E d 37 14 lv [] (.inl 6 :: st) n I L P) ∧
  (∀ (lv : List mm_V) (st : List mm_V) a b, mm_E d 37 14 lv [] (.inl b :: .inl a :: st) n I L P = if a < b then mm_E d 37 19 lv [] st n I L P else mm_E d 37 17 lv [] st n I L P) ∧
  (∀ (lv : List mm_V) (st : List mm_V), mm_E d 37 17 lv [] st n I L P = mm_E d 37 18 lv [] (.inl 0 :: st) n I L P) ∧
  (∀ (lv : List mm_V) z, (0 ≤ z ∧ z < 2) → mm_E d 37 18 lv [] [.inl z] n I L P = some (some (.inl z), n, I, L, P)) ∧
  (∀ (st : List mm_V) z (l1 : mm_V) (l2 : mm_V) (l3 : mm_V) (l4 : mm_V) (l5 : mm_V), mm_E d 37 19 [(.inr (.inr z)), l1, l2, l3, l4, l5] [] st n I L P = mm_E d 37 20 [(.inr (.inr z)), l1, l2, l3, l4, l5] [] ((.inr (.inr z)) :: st) n I L P) ∧
  (∀ (lv : List mm_V) (st : List mm_V) a, mm_E d 37 20 lv [] ((.inr (.inr a)) :: st) n I L P = mm_E d 37 21 lv [] ((.inr (.inr a)) :: (.inr (.inr a)) :: st) n I L P) ∧
  (∀ (lv : List mm_V) (st : List mm_V) a, (mm_ok n a 8) → mm_E d 37 21 lv [] (.inr (.inr (some a)) :: st) n I L P = mm_E d 37 24 lv [] (.inl (I a 2) :: st) n I L P) ∧
  (∀ (lv : List mm_V) (st : List mm_V), mm_E d 37 24 lv [] st n I L P = mm_E d 37 25 lv [] (.inl 1 :: st) n I L P) ∧
  (∀ (lv : List mm_V) (st : List mm_V) a b, mm_E d 37 25 lv [] (.inl b :: .inl a :: st) n I L P = mm_E d 37 26 lv [] (.inl (mm_add a b) :: st) n I L P) ∧
  (∀ (lv : List mm_V) (st : List mm_V) a z, (mm_ok n a 8) → mm_E d 37 26 lv [] (.inl z :: .inr (.inr (some a)) :: st) n I L P = mm_E d 37 29 lv [] st n (mm_ui I a 2 z) L P) ∧
  (∀ (st : List mm_V) z (l1 : mm_V) (l2 : mm_V) (l3 : mm_V) (l4 : mm_V) (l5 : mm_V), mm_E d 37 29 [(.inr (.inr z)), l1, l2, l3, l4, l5] [] st n I L P = mm_E d 37 30 [(.inr (.inr z)), l1, l2, l3, l4, l5] [] ((.inr (.inr z)) :: st) n I L P) ∧
  (∀ (st : List mm_V) z (l0 : mm_V) (l2 : mm_V) (l3 : mm_V) (l4 : mm_V) (l5 : mm_V), mm_E d 37 30 [l0, (.inr (.inr z)), l2, l3, l4, l5] [] st n I L P = mm_E d 37 31 [l0, (.inr (.inr z)), l2, l3, l4, l5] [] ((.inr (.inr z)) :: st) n I L P) ∧
  (∀ (st : List mm_V) z (l0 : mm_V) (l1 : mm_V) (l3 : mm_V) (l4 : mm_V) (l5 : mm_V), mm_E d 37 31 [l0, l1, (.inl z), l3, l4, l5] [] st n I L P = mm_E d 37 32 [l0, l1, (.inl z), l3, l4, l5] [] ((.inl z) :: st) n I L P) ∧
  (∀ (lv : List mm_V) (st : List mm_V), mm_E d 37 32 lv [] st n I L P = mm_E d 37 33 lv [] (.inl 1 :: st) n I L P) ∧
  (∀ (lv : List mm_V) (st : List mm_V) a b, mm_E d 37 33 lv [] (.inl b :: .inl a :: st) n I L P = mm_E d 37 34 lv [] (.inl (mm_add a b) :: st) n I L P) ∧
  (∀ (lv : List mm_V) x0 x1 x2, mm_E d 37 34 lv [] (.inl x2 :: .inr (.inr x1) :: .inr (.inr x0) :: []) n I L P = mm_kr d 37 37 lv [] [] n (mm_rn d 35 [.inr (.inr x0), .inr (.inr x1), .inl x2] n I L P)) ∧
  (∀ (lv : List mm_V) (st : List mm_V) a, mm_E d 37 37 lv [] (.inl a :: st) n I L P = if a = 0 then mm_E d 37 53 lv [] st n I L P else mm_E d 37 40 lv [] st n I L P) ∧
  (∀ (st : List mm_V) z (l1 : mm_V) (l2 : mm_V) (l3 : mm_V) (l4 : mm_V) (l5 : mm_V), mm_E d 37 40 [(.inr (.inr z)), l1, l2, l3, l4, l5] [] st n I L P = mm_E d 37 41 [(.inr (.inr z)), l1, l2, l3, l4, l5] [] ((.inr (.inr z)) :: st) n I L P) ∧
  (∀ (lv : List mm_V) (st : List mm_V), mm_E d 37 41 lv [] st n I L P = mm_E d 37 43 lv [] (.inl 93 :: st) n I L P) ∧
  (∀ (lv : List mm_V) a x0, (mm_ok n a 8) → mm_E d 37 43 lv [] (.inl x0 :: .inr (.inr (some a)) :: []) n I L P = mm_kr d 37 46 lv [] [] n (mm_rn d 60 [.inr (.inr (some a)), .inl x0] n I L P)) ∧
  (∀ (lv : List mm_V) (st : List mm_V) a, mm_E d 37 46 lv [] (.inl a :: st) n I L P = if a = 0 then mm_E d 37 53 lv [] st n I L P else mm_E d 37 49 lv [] st n I L P) ∧
  (∀ (lv : List mm_V) (st : List mm_V), mm_E d 37 49 lv [] st n I L P = mm_E d 37 50 lv [] (.inl 1 :: st) n I L P) ∧
  (∀ (lv : List mm_V) (st : List mm_V), mm_E d 37 50 lv [] st n I L P = mm_E d 37 54 lv [] st n I L P) ∧
  (∀ (lv : List mm_V) (st : List mm_V), mm_E d 37 53 lv [] st n I L P = mm_E d 37 54 lv [] (.inl 0 :: st) n I L P) ∧
  (∀ (lv : List mm_V) z, (0 ≤ z ∧ z < 2) → mm_E d 37 54 lv [] [.inl z] n I L P = some (some (.inl z), n, I, L, P)) ∧
  (∀ (st : List mm_V) z (l0 : mm_V) (l1 : mm_V) (l2 : mm_V) (l4 : mm_V) (l5 : mm_V), mm_E d 37 55 [l0, l1, l2, (.inl z), l4, l5] [] st n I L P = mm_E d 37 56 [l0, l1, l2, (.inl z), l4, l5] [] ((.inl z) :: st) n I L P) ∧
  (∀ (lv : List mm_V) x0, mm_E d 37 56 lv [] (.inl x0 :: []) n I L P = mm_kr d 37 59 lv [] [] n (mm_rn d 38 [.inl x0] n I L P)) ∧
  (∀ (st : List mm_V) z (l0 : mm_V) (l1 : mm_V) (l2 : mm_V) (l3 : mm_V) (l4 : mm_V) (l5 : mm_V), mm_E d 37 59 [l0, l1, l2, l3, l4, l5] [] ((.inl z) :: st) n I L P = mm_E d 37 61 [l0, l1, l2, l3, (.inl z), l5] [] st n I L P) ∧
  (∀ (st : List mm_V) z (l0 : mm_V) (l1 : mm_V) (l2 : mm_V) (l3 : mm_V) (l5 : mm_V), mm_E d 37 61 [l0, l1, l2, l3, (.inl z), l5] [] st n I L P = mm_E d 37 63 [l0, l1, l2, l3, (.inl z), l5] [] ((.inl z) :: st) n I L P) ∧
  (∀ (lv : List mm_V) (st : List mm_V), mm_E d 37 63 lv [] st n I L P = mm_E d 37 64 lv [] (.inl (-1) :: st) n I L P) ∧
  (∀ (lv : List mm_V) (st : List mm_V) a b, mm_E d 37 64 lv [] (.inl b :: .inl a :: st) n I L P = if a = b then mm_E d 37 86 lv [] st n I L P else mm_E d 37 67 lv [] st n I L P) ∧
  (∀ (st : List mm_V) z (l1 : mm_V) (l2 : mm_V) (l3 : mm_V) (l4 : mm_V) (l5 : mm_V), mm_E d 37 67 [(.inr (.inr z)), l1, l2, l3, l4, l5] [] st n I L P = mm_E d 37 68 [(.inr (.inr z)), l1, l2, l3, l4, l5] [] ((.inr (.inr z)) :: st) n I L P) ∧
  (∀ (lv : List mm_V) (st : List mm_V) a, mm_E d 37 68 lv [] ((.inr (.inr a)) :: st) n I L P = mm_E d 37 69 lv [] ((.inr (.inr a)) :: (.inr (.inr a)) :: st) n I L P) ∧
  (∀ (lv : List mm_V) (st : List mm_V) a, (mm_ok n a 8) → mm_E d 37 69 lv [] (.inr (.inr (some a)) :: st) n I L P = mm_E d 37 72 lv [] (.inl (I a 2) :: st) n I L P) ∧
  (∀ (lv : List mm_V) (st : List mm_V), mm_E d 37 72 lv [] st n I L P = mm_E d 37 73 lv [] (.inl 1 :: st) n I L P) ∧
  (∀ (lv : List mm_V) (st : List mm_V) a b, mm_E d 37 73 lv [] (.inl b :: .inl a :: st) n I L P = mm_E d 37 74 lv [] (.inl (mm_add a b) :: st) n I L P) ∧
  (∀ (lv : List mm_V) (st : List mm_V) a z, (mm_ok n a 8) → mm_E d 37 74 lv [] (.inl z :: .inr (.inr (some a)) :: st) n I L P = mm_E d 37 77 lv [] st n (mm_ui I a 2 z) L P) ∧
  (∀ (st : List mm_V) z (l0 : mm_V) (l2 : mm_V) (l3 : mm_V) (l4 : mm_V) (l5 : mm_V), mm_E d 37 77 [l0, (.inr (.inr z)), l2, l3, l4, l5] [] st n I L P = mm_E d 37 78 [l0, (.inr (.inr z)), l2, l3, l4, l5] [] ((.inr (.inr z)) :: st) n I L P) ∧
  (∀ (lv : List mm_V) (st : List mm_V), mm_E d 37 78 lv [] st n I L P = mm_E d 37 79 lv [] (.inl 1 :: st) n I L P) ∧
  (∀ (st : List mm_V) z (l0 : mm_V) (l1 : mm_V) (l2 : mm_V) (l3 : mm_V) (l5 : mm_V), mm_E d 37 79 [l0, l1, l2, l3, (.inl z), l5] [] st n I L P = mm_E d 37 81 [l0, l1, l2, l3, (.inl z), l5] [] ((.inl z) :: st) n I L P) ∧
  (∀ (lv : List mm_V) a x0 x1, (mm_ok n a 3) → mm_E d 37 81 lv [] (.inl x1 :: .inl x0 :: .inr (.inr (some a)) :: []) n I L P = mm_kv d 37 84 lv [] [] n (mm_rn d 22 [.inr (.inr (some a)), .inl x0, .inl x1] n I L P)) ∧
  (∀ (lv : List mm_V) (st : List mm_V), mm_E d 37 84 lv [] st n I L P = mm_E d 37 85 lv [] (.inl 1 :: st) n I L P) ∧
  (∀ (lv : List mm_V) z, (0 ≤ z ∧ z < 2) → mm_E d 37 85 lv [] [.inl z] n I L P = some (some (.inl z), n, I, L, P)) ∧
  (∀ (st : List mm_V) z (l1 : mm_V) (l2 : mm_V) (l3 : mm_V) (l4 : mm_V) (l5 : mm_V), mm_E d 37 86 [(.inr (.inr z)), l1, l2, l3, l4, l5] [] st n I L P = mm_E d 37 87 [(.inr (.inr z)), l1, l2, l3, l4, l5] [] ((.inr (.inr z)) :: st) n I L P) ∧
  (∀ (lv : List mm_V) (st : List mm_V), mm_E d 37 87 lv [] st n I L P = mm_E d 37 88 lv [] (.inl 4 :: st) n I L P) ∧
  (∀ (lv : List mm_V) a x0, (mm_ok n a 8) → mm_E d 37 88 lv [] (.inl x0 :: .inr (.inr (some a)) :: []) n I L P = mm_kr d 37 91 lv [] [] n (mm_rn d 61 [.inr (.inr (some a)), .inl x0] n I L P)) ∧
  (∀ (st : List mm_V) z (l0 : mm_V) (l1 : mm_V) (l2 : mm_V) (l3 : mm_V) (l4 : mm_V) (l5 : mm_V), mm_E d 37 91 [l0, l1, l2, l3, l4, l5] [] ((.inl z) :: st) n I L P = mm_E d 37 93 [l0, l1, l2, l3, l4, (.inl z)] [] st n I L P) ∧
  (∀ (st : List mm_V) z (l0 : mm_V) (l1 : mm_V) (l2 : mm_V) (l3 : mm_V) (l4 : mm_V), mm_E d 37 93 [l0, l1, l2, l3, l4, (.inl z)] [] st n I L P = mm_E d 37 95 [l0, l1, l2, l3, l4, (.inl z)] [] ((.inl z) :: st) n I L P) ∧
  (∀ (lv : List mm_V) (st : List mm_V), mm_E d 37 95 lv [] st n I L P = mm_E d 37 96 lv [] (.inl (-1) :: st) n I L P) ∧
  (∀ (lv : List mm_V) (st : List mm_V) a b, mm_E d 37 96 lv [] (.inl b :: .inl a :: st) n I L P = if a = b then mm_E d 37 99 lv [] st n I L P else mm_E d 37 101 lv [] st n I L P) ∧
  (∀ (lv : List mm_V) (st : List mm_V), mm_E d 37 99 lv [] st n I L P = mm_E d 37 100 lv [] (.inl 0 :: st) n I L P) ∧
  (∀ (lv : List mm_V) z, (0 ≤ z ∧ z < 2) → mm_E d 37 100 lv [] [.inl z] n I L P = some (some (.inl z), n, I, L, P)) ∧
  (∀ (st : List mm_V) z (l0 : mm_V) (l2 : mm_V) (l3 : mm_V) (l4 : mm_V) (l5 : mm_V), mm_E d 37 101 [l0, (.inr (.inr z)), l2, l3, l4, l5] [] st n I L P = mm_E d 37 102 [l0, (.inr (.inr z)), l2, l3, l4, l5] [] ((.inr (.inr z)) :: st) n I L P) ∧
  (∀ (lv : List mm_V) (st : List mm_V), mm_E d 37 102 lv [] st n I L P = mm_E d 37 103 lv [] (.inl 0 :: st) n I L P) ∧
  (∀ (st : List mm_V) z (l0 : mm_V) (l1 : mm_V) (l2 : mm_V) (l3 : mm_V) (l4 : mm_V), mm_E d 37 103 [l0, l1, l2, l3, l4, (.inl z)] [] st n I L P = mm_E d 37 105 [l0, l1, l2, l3, l4, (.inl z)] [] ((.inl z) :: st) n I L P) ∧
  (∀ (lv : List mm_V) a x0 x1, (mm_ok n a 3) → mm_E d 37 105 lv [] (.inl x1 :: .inl x0 :: .inr (.inr (some a)) :: []) n I L P = mm_kv d 37 108 lv [] [] n (mm_rn d 22 [.inr (.inr (some a)), .inl x0, .inl x1] n I L P)) ∧
  (∀ (lv : List mm_V) (st : List mm_V), mm_E d 37 108 lv [] st n I L P = mm_E d 37 109 lv [] (.inl 1 :: st) n I L P) ∧
  (∀ (lv : List mm_V) z, (0 ≤ z ∧ z < 2) → mm_E d 37 109 lv [] [.inl z] n I L P = some (some (.inl z), n, I, L, P)) :=
  ⟨fun _ _ _ _ _ _ _ => mq_al (i := 0) rfl rfl,
   fun _ _ h0 => mq_cVr (na := 0) rfl rfl (Nat.le_of_ble_eq_true rfl) (Nat.le_of_ble_eq_true rfl) h0,
   fun _ _ _ _ _ _ _ _ => mq_is (i := 3) rfl rfl rfl,
   fun _ _ _ _ _ _ _ => mq_il (i := 3) rfl rfl,
   fun _ _ => mq_push rfl,
   fun _ _ _ _ => mq_ic_ne rfl,
   fun _ _ _ _ _ _ _ => mq_il (i := 2) rfl rfl,
   fun _ _ => mq_push rfl,
   fun _ _ _ _ => mq_ic_lt rfl,
   fun _ _ => mq_push rfl,
   fun _ _ h0 => mq_rz rfl h0,
   fun _ _ _ _ _ _ _ => mq_al (i := 0) rfl rfl,
   fun _ _ _ => mq_dup rfl rfl,
   fun _ _ _ h0 => mq_getI rfl h0,
   fun _ _ => mq_push rfl,
   fun _ _ _ _ => mq_bi rfl,
   fun _ _ _ _ h0 => mq_putI rfl h0,
   fun _ _ _ _ _ _ _ => mq_al (i := 0) rfl rfl,
   fun _ _ _ _ _ _ _ => mq_al (i := 1) rfl rfl,
   fun _ _ _ _ _ _ _ => mq_il (i := 2) rfl rfl,
   fun _ _ => mq_push rfl,
   fun _ _ _ _ => mq_bi rfl,
   fun _ _ _ _ => mq_cSr (na := 3) rfl (Nat.le_of_ble_eq_true rfl) (Nat.le_of_ble_eq_true rfl),
   fun _ _ _ => mq_if_eq rfl,
   fun _ _ _ _ _ _ _ => mq_al (i := 0) rfl rfl,
   fun _ _ => mq_push rfl,
   fun _ _ _ h0 => mq_cVr (na := 1) rfl rfl (Nat.le_of_ble_eq_true rfl) (Nat.le_of_ble_eq_true rfl) h0,
   fun _ _ _ => mq_if_eq rfl,
   fun _ _ => mq_push rfl,
   fun _ _ => mq_go rfl,
   fun _ _ => mq_push rfl,
   fun _ _ h0 => mq_rz rfl h0,
   fun _ _ _ _ _ _ _ => mq_il (i := 3) rfl rfl,
   fun _ _ => mq_cSr (na := 1) rfl (Nat.le_of_ble_eq_true rfl) (Nat.le_of_ble_eq_true rfl),
   fun _ _ _ _ _ _ _ _ => mq_is (i := 4) rfl rfl rfl,
   fun _ _ _ _ _ _ _ => mq_il (i := 4) rfl rfl,
   fun _ _ => mq_push rfl,
   fun _ _ _ _ => mq_ic_eq rfl,
   fun _ _ _ _ _ _ _ => mq_al (i := 0) rfl rfl,
   fun _ _ _ => mq_dup rfl rfl,
   fun _ _ _ h0 => mq_getI rfl h0,
   fun _ _ => mq_push rfl,
   fun _ _ _ _ => mq_bi rfl,
   fun _ _ _ _ h0 => mq_putI rfl h0,
   fun _ _ _ _ _ _ _ => mq_al (i := 1) rfl rfl,
   fun _ _ => mq_push rfl,
   fun _ _ _ _ _ _ _ => mq_il (i := 4) rfl rfl,
   fun _ _ _ _ h0 => mq_cVv (na := 2) rfl rfl (Nat.le_of_ble_eq_true rfl) (Nat.le_of_ble_eq_true rfl) h0,
   fun _ _ => mq_push rfl,
   fun _ _ h0 => mq_rz rfl h0,
   fun _ _ _ _ _ _ _ => mq_al (i := 0) rfl rfl,
   fun _ _ => mq_push rfl,
   fun _ _ _ h0 => mq_cVr (na := 1) rfl rfl (Nat.le_of_ble_eq_true rfl) (Nat.le_of_ble_eq_true rfl) h0,
   fun _ _ _ _ _ _ _ _ => mq_is (i := 5) rfl rfl rfl,
   fun _ _ _ _ _ _ _ => mq_il (i := 5) rfl rfl,
   fun _ _ => mq_push rfl,
   fun _ _ _ _ => mq_ic_ne rfl,
   fun _ _ => mq_push rfl,
   fun _ _ h0 => mq_rz rfl h0,
   fun _ _ _ _ _ _ _ => mq_al (i := 1) rfl rfl,
   fun _ _ => mq_push rfl,
   fun _ _ _ _ _ _ _ => mq_il (i := 5) rfl rfl,
   fun _ _ _ _ h0 => mq_cVv (na := 2) rfl rfl (Nat.le_of_ble_eq_true rfl) (Nat.le_of_ble_eq_true rfl) h0,
   fun _ _ => mq_push rfl,
   fun _ _ h0 => mq_rz rfl h0⟩
theorem eX4_readAtom (d n : Nat) (I L : mm_I) (P : mm_P) (x0 : Option Nat) (x1 : Option Nat) (x2 : Int) : mm_rn (d + 1) 37 [.inr (.inr x0), .inr (.inr x1), .inl x2] n I L P = mm_E d 37 0 [.inr (.inr x0), .inr (.inr x1), .inl x2, mm_junk, mm_junk, mm_junk] [] [] n I L P := rfl

set_option maxRecDepth 20000 in
set_option maxHeartbeats 8000000 in
theorem kX4_letterOf (d n : Nat) (I L : mm_I) (P : mm_P) :
  (∀ (st : List mm_V) z, mm_E d 38 0 [(.inl z)] [] st n I L P = mm_E d 38 1 [(.inl z)] [] ((.inl z) :: st) n I L P) ∧
  (∀ (lv : List mm_V) (st : List mm_V) a, mm_E d 38 1 lv [] (.inl a :: st) n I L P = if a = 100 then mm_E d 38 66 lv [] st n I L P else if a = 104 then mm_E d 38 70 lv [] st n I L P else if a = 107 then mm_E d 38 62 lv [] st n I L P else if a = 110 then mm_E d 38 68 lv [] st n I L P else if a = 119 then mm_E d 38 64 lv [] st n I L P else if a = 122 then mm_E d 38 60 lv [] st n I L P else mm_E d 38 72 lv [] st n I L P) ∧
  (∀ (lv : List mm_V) (st : List mm_V), mm_E d 38 60 lv [] st n I L P = mm_E d 38 61 lv [] (.inl 0 :: st) n I L P) ∧
  (∀ (lv : List mm_V) z, mm_E d 38 61 lv [] [.inl z] n I L P = some (some (.inl z), n, I, L, P)) ∧
  (∀ (lv : List mm_V) (st : List mm_V), mm_E d 38 62 lv [] st n I L P = mm_E d 38 63 lv [] (.inl 1 :: st) n I L P) ∧
  (∀ (lv : List mm_V) z, mm_E d 38 63 lv [] [.inl z] n I L P = some (some (.inl z), n, I, L, P)) ∧
  (∀ (lv : List mm_V) (st : List mm_V), mm_E d 38 64 lv [] st n I L P = mm_E d 38 65 lv [] (.inl 2 :: st) n I L P) ∧
  (∀ (lv : List mm_V) z, mm_E d 38 65 lv [] [.inl z] n I L P = some (some (.inl z), n, I, L, P)) ∧
  (∀ (lv : List mm_V) (st : List mm_V), mm_E d 38 66 lv [] st n I L P = mm_E d 38 67 lv [] (.inl 3 :: st) n I L P) ∧
  (∀ (lv : List mm_V) z, mm_E d 38 67 lv [] [.inl z] n I L P = some (some (.inl z), n, I, L, P)) ∧
  (∀ (lv : List mm_V) (st : List mm_V), mm_E d 38 68 lv [] st n I L P = mm_E d 38 69 lv [] (.inl 4 :: st) n I L P) ∧
  (∀ (lv : List mm_V) z, mm_E d 38 69 lv [] [.inl z] n I L P = some (some (.inl z), n, I, L, P)) ∧
  (∀ (lv : List mm_V) (st : List mm_V), mm_E d 38 70 lv [] st n I L P = mm_E d 38 71 lv [] (.inl 5 :: st) n I L P) ∧
  (∀ (lv : List mm_V) z, mm_E d 38 71 lv [] [.inl z] n I L P = some (some (.inl z), n, I, L, P)) ∧
  (∀ (lv : List mm_V) (st : List mm_V), mm_E d 38 72 lv [] st n I L P = mm_E d 38 73 lv [] (.inl (-1) :: st) n I L P) ∧
  (∀ (lv : List mm_V) z, mm_E d 38 73 lv [] [.inl z] n I L P = some (some (.inl z), n, I, L, P)) :=
  ⟨fun _ _ => mq_il (i := 0) rfl rfl,
   fun _ _ _ => mq_sw (l := [(100, 66), (104, 70), (107, 62), (110, 68), (119, 64), (122, 60)]) (df := 72) rfl,
   fun _ _ => mq_push rfl,
   fun _ _ => mq_ri rfl,
   fun _ _ => mq_push rfl,
   fun _ _ => mq_ri rfl,
   fun _ _ => mq_push rfl,
   fun _ _ => mq_ri rfl,
   fun _ _ => mq_push rfl,
   fun _ _ => mq_ri rfl,
   fun _ _ => mq_push rfl,
   fun _ _ => mq_ri rfl,
   fun _ _ => mq_push rfl,
   fun _ _ => mq_ri rfl,
   fun _ _ => mq_push rfl,
   fun _ _ => mq_ri rfl⟩
theorem eX4_letterOf (d n : Nat) (I L : mm_I) (P : mm_P) (x0 : Int) : mm_rn (d + 1) 38 [.inl x0] n I L P = mm_E d 38 0 [.inl x0] [] [] n I L P := rfl

set_option maxRecDepth 20000 in
set_option maxHeartbeats 8000000 in
theorem kX8_init (d n : Nat) (I L : mm_I) (P : mm_P) :
  (∀ (st : List mm_V) z, mm_E d 57 0 [(.inr (.inr z))] [] st n I L P = mm_E d 57 1 [(.inr (.inr z))] [] ((.inr (.inr z)) :: st) n I L P) ∧
  (∀ (lv : List mm_V) a, (a < n) → mm_E d 57 1 lv [] (.inr (.inr (some a)) :: []) n I L P = mm_E d 57 4 lv [] [] n I L P) ∧
  (∀ (st : List mm_V) z, mm_E d 57 4 [(.inr (.inr z))] [] st n I L P = mm_E d 57 5 [(.inr (.inr z))] [] ((.inr (.inr z)) :: st) n I L P) ∧
  (∀ (lv : List mm_V) (st : List mm_V), mm_E d 57 5 lv [] st n I L P = mm_E d 57 8 lv [] (.inl 240 :: st) n I L P) ∧
  (∀ (lv : List mm_V) (st : List mm_V) z, (n < mm_NC ∧ mm_ty n = (20, z.toNat) ∧ 0 ≤ z) → mm_E d 57 8 lv [] (.inl z :: st) n I L P = mm_E d 57 10 lv [] (.inr (.inr (some n)) :: st) (n + 1) (mm_zi I n) (mm_zi L n) (mm_zp P n)) ∧
  (∀ (lv : List mm_V) (st : List mm_V) a z, (mm_ok n a 8) → mm_E d 57 10 lv [] (.inr (.inr z) :: .inr (.inr (some a)) :: st) n I L P = mm_E d 57 13 lv [] st n I L (mm_up P a 0 z)) ∧
  (∀ (lv : List mm_V), mm_E d 57 13 lv [] [] n I L P = some (none, n, I, L, P)) :=
  ⟨fun _ _ => mq_al (i := 0) rfl rfl,
   fun _ _ h0 => mq_oi rfl h0 (Nat.le_of_ble_eq_true rfl),
   fun _ _ => mq_al (i := 0) rfl rfl,
   fun _ _ => mq_push rfl,
   fun _ _ _ h0 => mq_newa rfl h0,
   fun _ _ _ _ h0 => mq_putR rfl h0,
   fun _ => mq_rv rfl⟩
theorem eX8_init (d n : Nat) (I L : mm_I) (P : mm_P) (x0 : Option Nat) : mm_rn (d + 1) 57 [.inr (.inr x0)] n I L P = mm_E d 57 0 [.inr (.inr x0)] [] [] n I L P := rfl

set_option maxRecDepth 20000 in
set_option maxHeartbeats 8000000 in
theorem kX8_append (d n : Nat) (I L : mm_I) (P : mm_P) :
  (∀ (lv : List mm_V) (st : List mm_V), mm_E d 58 0 lv [] st n I L P = mm_E d 58 2 lv [] (.inl 24 :: st) n I L P) ∧
  (∀ (st : List mm_V) z (l0 : mm_V) (l1 : mm_V) (l2 : mm_V) (l3 : mm_V), mm_E d 58 2 [l0, l1, l2, l3] [] ((.inl z) :: st) n I L P = mm_E d 58 3 [l0, l1, (.inl z), l3] [] st n I L P) ∧
  (∀ (lv : List mm_V) (st : List mm_V) a, mm_E d 58 4 lv [] (.inl a :: st) n I L P = if a < 0 then mm_E d 58 55 lv [] st n I L P else mm_E d 58 7 lv [] st n I L P) ∧
  (∀ (st : List mm_V) z (l0 : mm_V) (l2 : mm_V) (l3 : mm_V), mm_E d 58 7 [l0, (.inl z), l2, l3] [] st n I L P = mm_E d 58 8 [l0, (.inl z), l2, l3] [] ((.inl z) :: st) n I L P) ∧
  (∀ (st : List mm_V) z (l0 : mm_V) (l1 : mm_V) (l3 : mm_V), mm_E d 58 8 [l0, l1, (.inl z), l3] [] st n I L P = mm_E d 58 9 [l0, l1, (.inl z), l3] [] ((.inl z) :: st) n I L P) ∧
  (∀ (lv : List mm_V) (st : List mm_V) a b, mm_E d 58 9 lv [] (.inl b :: .inl a :: st) n I L P = mm_E d 58 10 lv [] (.inl (mm_ushr a b) :: st) n I L P) ∧
  (∀ (lv : List mm_V) (st : List mm_V), mm_E d 58 10 lv [] st n I L P = mm_E d 58 13 lv [] (.inl 255 :: st) n I L P) ∧
  (∀ (lv : List mm_V) (st : List mm_V) a b, mm_E d 58 13 lv [] (.inl b :: .inl a :: st) n I L P = mm_E d 58 14 lv [] (.inl (mm_and a b) :: st) n I L P) ∧
  (∀ (st : List mm_V) z (l0 : mm_V) (l1 : mm_V) (l2 : mm_V) (l3 : mm_V), mm_E d 58 14 [l0, l1, l2, l3] [] ((.inl z) :: st) n I L P = mm_E d 58 15 [l0, l1, l2, (.inl z)] [] st n I L P) ∧
  (∀ (st : List mm_V) z (l0 : mm_V) (l1 : mm_V) (l2 : mm_V), mm_E d 58 15 [l0, l1, l2, (.inl z)] [] st n I L P = mm_E d 58 16 [l0, l1, l2, (.inl z)] [] ((.inl z) :: st) n I L P) ∧
  (∀ (lv : List mm_V) (st : List mm_V) a, mm_E d 58 16 lv [] (.inl a :: st) n I L P = if a = 0 then mm_E d 58 49 lv [] st n I L P else mm_E d 58 19 lv [] st n I L P) ∧
  (∀ (st : List mm_V) z (l1 : mm_V) (l2 : mm_V) (l3 : mm_V), mm_E d 58 19 [(.inr (.inr z)), l1, l2, l3] [] st n I L P = mm_E d 58 20 [(.inr (.inr z)), l1, l2, l3] [] ((.inr (.inr z)) :: st) n I L P) ∧
  (∀ (lv : List mm_V) (st : List mm_V) a, (mm_ok n a 8) → mm_E d 58 20 lv [] (.inr (.inr (some a)) :: st) n I L P = mm_E d 58 23 lv [] (.inl (I a 1) :: st) n I L P) ∧
  (∀ (lv : List mm_V) (st : List mm_V), mm_E d 58 23 lv [] st n I L P = mm_E d 58 26 lv [] (.inl 240 :: st) n I L P) ∧
  (∀ (lv : List mm_V) (st : List mm_V) a b, mm_E d 58 26 lv [] (.inl b :: .inl a :: st) n I L P = if b ≤ a then mm_E d 58 49 lv [] st n I L P else mm_E d 58 29 lv [] st n I L P) ∧
  (∀ (st : List mm_V) z (l1 : mm_V) (l2 : mm_V) (l3 : mm_V), mm_E d 58 29 [(.inr (.inr z)), l1, l2, l3] [] st n I L P = mm_E d 58 30 [(.inr (.inr z)), l1, l2, l3] [] ((.inr (.inr z)) :: st) n I L P) ∧
  (∀ (lv : List mm_V) (st : List mm_V) a, (mm_ok n a 8) → mm_E d 58 30 lv [] (.inr (.inr (some a)) :: st) n I L P = mm_E d 58 33 lv [] (.inr (.inr (P a 0)) :: st) n I L P) ∧
  (∀ (st : List mm_V) z (l1 : mm_V) (l2 : mm_V) (l3 : mm_V), mm_E d 58 33 [(.inr (.inr z)), l1, l2, l3] [] st n I L P = mm_E d 58 34 [(.inr (.inr z)), l1, l2, l3] [] ((.inr (.inr z)) :: st) n I L P) ∧
  (∀ (lv : List mm_V) (st : List mm_V) a, (mm_ok n a 8) → mm_E d 58 34 lv [] (.inr (.inr (some a)) :: st) n I L P = mm_E d 58 37 lv [] (.inl (I a 1) :: st) n I L P) ∧
  (∀ (st : List mm_V) z (l0 : mm_V) (l1 : mm_V) (l2 : mm_V), mm_E d 58 37 [l0, l1, l2, (.inl z)] [] st n I L P = mm_E d 58 38 [l0, l1, l2, (.inl z)] [] ((.inl z) :: st) n I L P) ∧
  (∀ (lv : List mm_V) (st : List mm_V) a i z, (mm_ix n a 20 i) → mm_E d 58 38 lv [] (.inl z :: .inl i :: .inr (.inr (some a)) :: st) n I L P = mm_E d 58 39 lv [] st n (mm_ui I a i.toNat z) L P) ∧
  (∀ (st : List mm_V) z (l1 : mm_V) (l2 : mm_V) (l3 : mm_V), mm_E d 58 39 [(.inr (.inr z)), l1, l2, l3] [] st n I L P = mm_E d 58 40 [(.inr (.inr z)), l1, l2, l3] [] ((.inr (.inr z)) :: st) n I L P) ∧
  (∀ (lv : List mm_V) (st : List mm_V) a, mm_E d 58 40 lv [] ((.inr (.inr a)) :: st) n I L P = mm_E d 58 41 lv [] ((.inr (.inr a)) :: (.inr (.inr a)) :: st) n I L P) ∧
  (∀ (lv : List mm_V) (st : List mm_V) a, (mm_ok n a 8) → mm_E d 58 41 lv [] (.inr (.inr (some a)) :: st) n I L P = mm_E d 58 44 lv [] (.inl (I a 1) :: st) n I L P) ∧
  (∀ (lv : List mm_V) (st : List mm_V), mm_E d 58 44 lv [] st n I L P = mm_E d 58 45 lv [] (.inl 1 :: st) n I L P) ∧
  (∀ (lv : List mm_V) (st : List mm_V) a b, mm_E d 58 45 lv [] (.inl b :: .inl a :: st) n I L P = mm_E d 58 46 lv [] (.inl (mm_add a b) :: st) n I L P) ∧
  (∀ (lv : List mm_V) (st : List mm_V) a z, (mm_ok n a 8) → mm_E d 58 46 lv [] (.inl z :: .inr (.inr (some a)) :: st) n I L P = mm_E d 58 49 lv [] st n (mm_ui I a 1 z) L P) ∧
  (∀ (st : List mm_V) z (l0 : mm_V) (l1 : mm_V) (l3 : mm_V), mm_E d 58 49 [l0, l1, (.inl z), l3] [] st n I L P = mm_E d 58 52 [l0, l1, (.inl (mm_add z (-8))), l3] [] st n I L P) ∧
  (∀ (lv : List mm_V) (st : List mm_V), mm_E d 58 52 lv [] st n I L P = mm_E d 58 3 lv [] st n I L P) ∧
  (∀ (lv : List mm_V), mm_E d 58 55 lv [] [] n I L P = some (none, n, I, L, P)) :=
  ⟨fun _ _ => mq_push rfl,
   fun _ _ _ _ _ _ => mq_is (i := 2) rfl rfl rfl,
   fun _ _ _ => mq_if_lt rfl,
   fun _ _ _ _ _ => mq_il (i := 1) rfl rfl,
   fun _ _ _ _ _ => mq_il (i := 2) rfl rfl,
   fun _ _ _ _ => mq_bi rfl,
   fun _ _ => mq_push rfl,
   fun _ _ _ _ => mq_bi rfl,
   fun _ _ _ _ _ _ => mq_is (i := 3) rfl rfl rfl,
   fun _ _ _ _ _ => mq_il (i := 3) rfl rfl,
   fun _ _ _ => mq_if_eq rfl,
   fun _ _ _ _ _ => mq_al (i := 0) rfl rfl,
   fun _ _ _ h0 => mq_getI rfl h0,
   fun _ _ => mq_push rfl,
   fun _ _ _ _ => mq_ic_ge rfl,
   fun _ _ _ _ _ => mq_al (i := 0) rfl rfl,
   fun _ _ _ h0 => mq_getR rfl h0,
   fun _ _ _ _ _ => mq_al (i := 0) rfl rfl,
   fun _ _ _ h0 => mq_getI rfl h0,
   fun _ _ _ _ _ => mq_il (i := 3) rfl rfl,
   fun _ _ _ _ _ h0 => mq_iast rfl h0,
   fun _ _ _ _ _ => mq_al (i := 0) rfl rfl,
   fun _ _ _ => mq_dup rfl rfl,
   fun _ _ _ h0 => mq_getI rfl h0,
   fun _ _ => mq_push rfl,
   fun _ _ _ _ => mq_bi rfl,
   fun _ _ _ _ h0 => mq_putI rfl h0,
   fun _ _ _ _ _ => mq_iinc (i := 2) rfl rfl rfl rfl,
   fun _ _ => mq_go rfl,
   fun _ => mq_rv rfl⟩
theorem hX8_append_3 (d n : Nat) (I L : mm_I) (P : mm_P) : ∀ (st : List mm_V) z (l0 : mm_V) (l1 : mm_V) (l3 : mm_V), mm_E d 58 3 [l0, l1, (.inl z), l3] [] st n I L P = mm_E d 58 4 [l0, l1, (.inl z), l3] [] ((.inl z) :: st) n I L P := fun _ _ _ _ _ => mq_il (i := 2) rfl rfl
theorem eX8_append (d n : Nat) (I L : mm_I) (P : mm_P) (x0 : Option Nat) (x1 : Int) : mm_rn (d + 1) 58 [.inr (.inr x0), .inl x1] n I L P = mm_E d 58 0 [.inr (.inr x0), .inl x1, mm_junk, mm_junk] [] [] n I L P := rfl

set_option maxRecDepth 20000 in
set_option maxHeartbeats 8000000 in
theorem kX8_peek (d n : Nat) (I L : mm_I) (P : mm_P) :
  (∀ (st : List mm_V) z (l1 : mm_V), mm_E d 59 0 [(.inr (.inr z)), l1] [] st n I L P = mm_E d 59 1 [(.inr (.inr z)), l1] [] ((.inr (.inr z)) :: st) n I L P) ∧
  (∀ (lv : List mm_V) (st : List mm_V) a, (mm_ok n a 8) → mm_E d 59 1 lv [] (.inr (.inr (some a)) :: st) n I L P = mm_E d 59 4 lv [] (.inl (I a 2) :: st) n I L P) ∧
  (∀ (st : List mm_V) z (l0 : mm_V) (l1 : mm_V), mm_E d 59 4 [l0, l1] [] ((.inl z) :: st) n I L P = mm_E d 59 5 [l0, (.inl z)] [] st n I L P) ∧
  (∀ (st : List mm_V) z (l1 : mm_V), mm_E d 59 6 [(.inr (.inr z)), l1] [] st n I L P = mm_E d 59 7 [(.inr (.inr z)), l1] [] ((.inr (.inr z)) :: st) n I L P) ∧
  (∀ (lv : List mm_V) (st : List mm_V) a, (mm_ok n a 8) → mm_E d 59 7 lv [] (.inr (.inr (some a)) :: st) n I L P = mm_E d 59 10 lv [] (.inl (I a 1) :: st) n I L P) ∧
  (∀ (lv : List mm_V) (st : List mm_V) a b, mm_E d 59 10 lv [] (.inl b :: .inl a :: st) n I L P = if b ≤ a then mm_E d 59 42 lv [] st n I L P else mm_E d 59 13 lv [] st n I L P) ∧
  (∀ (st : List mm_V) z (l1 : mm_V), mm_E d 59 13 [(.inr (.inr z)), l1] [] st n I L P = mm_E d 59 14 [(.inr (.inr z)), l1] [] ((.inr (.inr z)) :: st) n I L P) ∧
  (∀ (lv : List mm_V) (st : List mm_V) a, (mm_ok n a 8) → mm_E d 59 14 lv [] (.inr (.inr (some a)) :: st) n I L P = mm_E d 59 17 lv [] (.inr (.inr (P a 0)) :: st) n I L P) ∧
  (∀ (st : List mm_V) z (l0 : mm_V), mm_E d 59 17 [l0, (.inl z)] [] st n I L P = mm_E d 59 18 [l0, (.inl z)] [] ((.inl z) :: st) n I L P) ∧
  (∀ (lv : List mm_V) (st : List mm_V) a i, (mm_ix n a 20 i) → mm_E d 59 18 lv [] (.inl i :: .inr (.inr (some a)) :: st) n I L P = mm_E d 59 19 lv [] (.inl (I a i.toNat) :: st) n I L P) ∧
  (∀ (lv : List mm_V) (st : List mm_V), mm_E d 59 19 lv [] st n I L P = mm_E d 59 21 lv [] (.inl 32 :: st) n I L P) ∧
  (∀ (lv : List mm_V) (st : List mm_V) a b, mm_E d 59 21 lv [] (.inl b :: .inl a :: st) n I L P = if a = b then mm_E d 59 36 lv [] st n I L P else mm_E d 59 24 lv [] st n I L P) ∧
  (∀ (st : List mm_V) z (l1 : mm_V), mm_E d 59 24 [(.inr (.inr z)), l1] [] st n I L P = mm_E d 59 25 [(.inr (.inr z)), l1] [] ((.inr (.inr z)) :: st) n I L P) ∧
  (∀ (st : List mm_V) z (l0 : mm_V), mm_E d 59 25 [l0, (.inl z)] [] st n I L P = mm_E d 59 26 [l0, (.inl z)] [] ((.inl z) :: st) n I L P) ∧
  (∀ (lv : List mm_V) (st : List mm_V) a z, (mm_ok n a 8) → mm_E d 59 26 lv [] (.inl z :: .inr (.inr (some a)) :: st) n I L P = mm_E d 59 29 lv [] st n (mm_ui I a 2 z) L P) ∧
  (∀ (st : List mm_V) z (l1 : mm_V), mm_E d 59 29 [(.inr (.inr z)), l1] [] st n I L P = mm_E d 59 30 [(.inr (.inr z)), l1] [] ((.inr (.inr z)) :: st) n I L P) ∧
  (∀ (lv : List mm_V) (st : List mm_V) a, (mm_ok n a 8) → mm_E d 59 30 lv [] (.inr (.inr (some a)) :: st) n I L P = mm_E d 59 33 lv [] (.inr (.inr (P a 0)) :: st) n I L P) ∧
  (∀ (st : List mm_V) z (l0 : mm_V), mm_E d 59 33 [l0, (.inl z)] [] st n I L P = mm_E d 59 34 [l0, (.inl z)] [] ((.inl z) :: st) n I L P) ∧
  (∀ (lv : List mm_V) (st : List mm_V) a i, (mm_ix n a 20 i) → mm_E d 59 34 lv [] (.inl i :: .inr (.inr (some a)) :: st) n I L P = mm_E d 59 35 lv [] (.inl (I a i.toNat) :: st) n I L P) ∧
  (∀ (lv : List mm_V) z, mm_E d 59 35 lv [] [.inl z] n I L P = some (some (.inl z), n, I, L, P)) ∧
  (∀ (st : List mm_V) z (l0 : mm_V), mm_E d 59 36 [l0, (.inl z)] [] st n I L P = mm_E d 59 39 [l0, (.inl (mm_add z 1))] [] st n I L P) ∧
  (∀ (lv : List mm_V) (st : List mm_V), mm_E d 59 39 lv [] st n I L P = mm_E d 59 5 lv [] st n I L P) ∧
  (∀ (st : List mm_V) z (l1 : mm_V), mm_E d 59 42 [(.inr (.inr z)), l1] [] st n I L P = mm_E d 59 43 [(.inr (.inr z)), l1] [] ((.inr (.inr z)) :: st) n I L P) ∧
  (∀ (st : List mm_V) z (l1 : mm_V), mm_E d 59 43 [(.inr (.inr z)), l1] [] st n I L P = mm_E d 59 44 [(.inr (.inr z)), l1] [] ((.inr (.inr z)) :: st) n I L P) ∧
  (∀ (lv : List mm_V) (st : List mm_V) a, (mm_ok n a 8) → mm_E d 59 44 lv [] (.inr (.inr (some a)) :: st) n I L P = mm_E d 59 47 lv [] (.inl (I a 1) :: st) n I L P) ∧
  (∀ (lv : List mm_V) (st : List mm_V) a z, (mm_ok n a 8) → mm_E d 59 47 lv [] (.inl z :: .inr (.inr (some a)) :: st) n I L P = mm_E d 59 50 lv [] st n (mm_ui I a 2 z) L P) ∧
  (∀ (lv : List mm_V) (st : List mm_V), mm_E d 59 50 lv [] st n I L P = mm_E d 59 51 lv [] (.inl (-1) :: st) n I L P) ∧
  (∀ (lv : List mm_V) z, mm_E d 59 51 lv [] [.inl z] n I L P = some (some (.inl z), n, I, L, P)) :=
  ⟨fun _ _ _ => mq_al (i := 0) rfl rfl,
   fun _ _ _ h0 => mq_getI rfl h0,
   fun _ _ _ _ => mq_is (i := 1) rfl rfl rfl,
   fun _ _ _ => mq_al (i := 0) rfl rfl,
   fun _ _ _ h0 => mq_getI rfl h0,
   fun _ _ _ _ => mq_ic_ge rfl,
   fun _ _ _ => mq_al (i := 0) rfl rfl,
   fun _ _ _ h0 => mq_getR rfl h0,
   fun _ _ _ => mq_il (i := 1) rfl rfl,
   fun _ _ _ _ h0 => mq_iald rfl h0,
   fun _ _ => mq_push rfl,
   fun _ _ _ _ => mq_ic_eq rfl,
   fun _ _ _ => mq_al (i := 0) rfl rfl,
   fun _ _ _ => mq_il (i := 1) rfl rfl,
   fun _ _ _ _ h0 => mq_putI rfl h0,
   fun _ _ _ => mq_al (i := 0) rfl rfl,
   fun _ _ _ h0 => mq_getR rfl h0,
   fun _ _ _ => mq_il (i := 1) rfl rfl,
   fun _ _ _ _ h0 => mq_iald rfl h0,
   fun _ _ => mq_ri rfl,
   fun _ _ _ => mq_iinc (i := 1) rfl rfl rfl rfl,
   fun _ _ => mq_go rfl,
   fun _ _ _ => mq_al (i := 0) rfl rfl,
   fun _ _ _ => mq_al (i := 0) rfl rfl,
   fun _ _ _ h0 => mq_getI rfl h0,
   fun _ _ _ _ h0 => mq_putI rfl h0,
   fun _ _ => mq_push rfl,
   fun _ _ => mq_ri rfl⟩
theorem hX8_peek_5 (d n : Nat) (I L : mm_I) (P : mm_P) : ∀ (st : List mm_V) z (l0 : mm_V), mm_E d 59 5 [l0, (.inl z)] [] st n I L P = mm_E d 59 6 [l0, (.inl z)] [] ((.inl z) :: st) n I L P := fun _ _ _ => mq_il (i := 1) rfl rfl
theorem eX8_peek (d n : Nat) (I L : mm_I) (P : mm_P) (x0 : Option Nat) : mm_rn (d + 1) 59 [.inr (.inr x0)] n I L P = mm_E d 59 0 [.inr (.inr x0), mm_junk] [] [] n I L P := rfl

set_option maxRecDepth 20000 in
set_option maxHeartbeats 8000000 in
theorem kX8_passes (d n : Nat) (I L : mm_I) (P : mm_P) :
  (∀ (st : List mm_V) z (l1 : mm_V), mm_E d 60 0 [(.inr (.inr z)), l1] [] st n I L P = mm_E d 60 1 [(.inr (.inr z)), l1] [] ((.inr (.inr z)) :: st) n I L P) ∧
  (∀ (lv : List mm_V) a, (mm_ok n a 8) → mm_E d 60 1 lv [] (.inr (.inr (some a)) :: []) n I L P = mm_kr d 60 4 lv [] [] n (mm_rn d 59 [.inr (.inr (some a))] n I L P)) ∧
  (∀ (st : List mm_V) z (l0 : mm_V), mm_E d 60 4 [l0, (.inl z)] [] st n I L P = mm_E d 60 5 [l0, (.inl z)] [] ((.inl z) :: st) n I L P) ∧
  (∀ (lv : List mm_V) (st : List mm_V) a b, mm_E d 60 5 lv [] (.inl b :: .inl a :: st) n I L P = if a = b then mm_E d 60 10 lv [] st n I L P else mm_E d 60 8 lv [] st n I L P) ∧
  (∀ (lv : List mm_V) (st : List mm_V), mm_E d 60 8 lv [] st n I L P = mm_E d 60 9 lv [] (.inl 0 :: st) n I L P) ∧
  (∀ (lv : List mm_V) z, (0 ≤ z ∧ z < 2) → mm_E d 60 9 lv [] [.inl z] n I L P = some (some (.inl z), n, I, L, P)) ∧
  (∀ (st : List mm_V) z (l1 : mm_V), mm_E d 60 10 [(.inr (.inr z)), l1] [] st n I L P = mm_E d 60 11 [(.inr (.inr z)), l1] [] ((.inr (.inr z)) :: st) n I L P) ∧
  (∀ (lv : List mm_V) (st : List mm_V) a, mm_E d 60 11 lv [] ((.inr (.inr a)) :: st) n I L P = mm_E d 60 12 lv [] ((.inr (.inr a)) :: (.inr (.inr a)) :: st) n I L P) ∧
  (∀ (lv : List mm_V) (st : List mm_V) a, (mm_ok n a 8) → mm_E d 60 12 lv [] (.inr (.inr (some a)) :: st) n I L P = mm_E d 60 15 lv [] (.inl (I a 2) :: st) n I L P) ∧
  (∀ (lv : List mm_V) (st : List mm_V), mm_E d 60 15 lv [] st n I L P = mm_E d 60 16 lv [] (.inl 1 :: st) n I L P) ∧
  (∀ (lv : List mm_V) (st : List mm_V) a b, mm_E d 60 16 lv [] (.inl b :: .inl a :: st) n I L P = mm_E d 60 17 lv [] (.inl (mm_add a b) :: st) n I L P) ∧
  (∀ (lv : List mm_V) (st : List mm_V) a z, (mm_ok n a 8) → mm_E d 60 17 lv [] (.inl z :: .inr (.inr (some a)) :: st) n I L P = mm_E d 60 20 lv [] st n (mm_ui I a 2 z) L P) ∧
  (∀ (lv : List mm_V) (st : List mm_V), mm_E d 60 20 lv [] st n I L P = mm_E d 60 21 lv [] (.inl 1 :: st) n I L P) ∧
  (∀ (lv : List mm_V) z, (0 ≤ z ∧ z < 2) → mm_E d 60 21 lv [] [.inl z] n I L P = some (some (.inl z), n, I, L, P)) :=
  ⟨fun _ _ _ => mq_al (i := 0) rfl rfl,
   fun _ _ h0 => mq_cVr (na := 0) rfl rfl (Nat.le_of_ble_eq_true rfl) (Nat.le_of_ble_eq_true rfl) h0,
   fun _ _ _ => mq_il (i := 1) rfl rfl,
   fun _ _ _ _ => mq_ic_eq rfl,
   fun _ _ => mq_push rfl,
   fun _ _ h0 => mq_rz rfl h0,
   fun _ _ _ => mq_al (i := 0) rfl rfl,
   fun _ _ _ => mq_dup rfl rfl,
   fun _ _ _ h0 => mq_getI rfl h0,
   fun _ _ => mq_push rfl,
   fun _ _ _ _ => mq_bi rfl,
   fun _ _ _ _ h0 => mq_putI rfl h0,
   fun _ _ => mq_push rfl,
   fun _ _ h0 => mq_rz rfl h0⟩
theorem eX8_passes (d n : Nat) (I L : mm_I) (P : mm_P) (x0 : Option Nat) (x1 : Int) : mm_rn (d + 1) 60 [.inr (.inr x0), .inl x1] n I L P = mm_E d 60 0 [.inr (.inr x0), .inl x1] [] [] n I L P := rfl

set_option maxRecDepth 20000 in
set_option maxHeartbeats 8000000 in
theorem kX8_number (d n : Nat) (I L : mm_I) (P : mm_P) :
  (∀ (st : List mm_V) z (l1 : mm_V) (l2 : mm_V) (l3 : mm_V), mm_E d 61 0 [(.inr (.inr z)), l1, l2, l3] [] st n I L P = mm_E d 61 1 [(.inr (.inr z)), l1, l2, l3] [] ((.inr (.inr z)) :: st) n I L P) ∧
  (∀ (lv : List mm_V) a, (mm_ok n a 8) → mm_E d 61 1 lv [] (.inr (.inr (some a)) :: []) n I L P = mm_kr d 61 4 lv [] [] n (mm_rn d 59 [.inr (.inr (some a))] n I L P)) ∧
  (∀ (lv : List mm_V) (st : List mm_V) a, mm_E d 61 4 lv [] ((.inl a) :: st) n I L P = mm_E d 61 5 lv [] st n I L P) ∧
  (∀ (lv : List mm_V) (st : List mm_V), mm_E d 61 5 lv [] st n I L P = mm_E d 61 6 lv [] (.inl 0 :: st) n I L P) ∧
  (∀ (st : List mm_V) z (l0 : mm_V) (l1 : mm_V) (l2 : mm_V) (l3 : mm_V), mm_E d 61 6 [l0, l1, l2, l3] [] ((.inl z) :: st) n I L P = mm_E d 61 7 [l0, l1, (.inl z), l3] [] st n I L P) ∧
  (∀ (lv : List mm_V) (st : List mm_V), mm_E d 61 7 lv [] st n I L P = mm_E d 61 8 lv [] (.inl 0 :: st) n I L P) ∧
  (∀ (st : List mm_V) z (l0 : mm_V) (l1 : mm_V) (l2 : mm_V) (l3 : mm_V), mm_E d 61 8 [l0, l1, l2, l3] [] ((.inl z) :: st) n I L P = mm_E d 61 9 [l0, l1, l2, (.inl z)] [] st n I L P) ∧
  (∀ (st : List mm_V) z (l0 : mm_V) (l2 : mm_V) (l3 : mm_V), mm_E d 61 10 [l0, (.inl z), l2, l3] [] st n I L P = mm_E d 61 11 [l0, (.inl z), l2, l3] [] ((.inl z) :: st) n I L P) ∧
  (∀ (lv : List mm_V) (st : List mm_V) a b, mm_E d 61 11 lv [] (.inl b :: .inl a :: st) n I L P = if b < a then mm_E d 61 102 lv [] st n I L P else mm_E d 61 14 lv [] st n I L P) ∧
  (∀ (st : List mm_V) z (l1 : mm_V) (l2 : mm_V) (l3 : mm_V), mm_E d 61 14 [(.inr (.inr z)), l1, l2, l3] [] st n I L P = mm_E d 61 15 [(.inr (.inr z)), l1, l2, l3] [] ((.inr (.inr z)) :: st) n I L P) ∧
  (∀ (lv : List mm_V) (st : List mm_V) a, (mm_ok n a 8) → mm_E d 61 15 lv [] (.inr (.inr (some a)) :: st) n I L P = mm_E d 61 18 lv [] (.inl (I a 2) :: st) n I L P) ∧
  (∀ (st : List mm_V) z (l1 : mm_V) (l2 : mm_V) (l3 : mm_V), mm_E d 61 18 [(.inr (.inr z)), l1, l2, l3] [] st n I L P = mm_E d 61 19 [(.inr (.inr z)), l1, l2, l3] [] ((.inr (.inr z)) :: st) n I L P) ∧
  (∀ (lv : List mm_V) (st : List mm_V) a, (mm_ok n a 8) → mm_E d 61 19 lv [] (.inr (.inr (some a)) :: st) n I L P = mm_E d 61 22 lv [] (.inl (I a 1) :: st) n I L P) ∧
  (∀ (lv : List mm_V) (st : List mm_V) a b, mm_E d 61 22 lv [] (.inl b :: .inl a :: st) n I L P = if b ≤ a then mm_E d 61 53 lv [] st n I L P else mm_E d 61 25 lv [] st n I L P) ∧
  (∀ (st : List mm_V) z (l1 : mm_V) (l2 : mm_V) (l3 : mm_V), mm_E d 61 25 [(.inr (.inr z)), l1, l2, l3] [] st n I L P = mm_E d 61 26 [(.inr (.inr z)), l1, l2, l3] [] ((.inr (.inr z)) :: st) n I L P) ∧
  (∀ (lv : List mm_V) (st : List mm_V) a, (mm_ok n a 8) → mm_E d 61 26 lv [] (.inr (.inr (some a)) :: st) n I L P = mm_E d 61 29 lv [] (.inr (.inr (P a 0)) :: st) n I L P) ∧
  (∀ (st : List mm_V) z (l1 : mm_V) (l2 : mm_V) (l3 : mm_V), mm_E d 61 29 [(.inr (.inr z)), l1, l2, l3] [] st n I L P = mm_E d 61 30 [(.inr (.inr z)), l1, l2, l3] [] ((.inr (.inr z)) :: st) n I L P) ∧
  (∀ (lv : List mm_V) (st : List mm_V) a, (mm_ok n a 8) → mm_E d 61 30 lv [] (.inr (.inr (some a)) :: st) n I L P = mm_E d 61 33 lv [] (.inl (I a 2) :: st) n I L P) ∧
  (∀ (lv : List mm_V) (st : List mm_V) a i, (mm_ix n a 20 i) → mm_E d 61 33 lv [] (.inl i :: .inr (.inr (some a)) :: st) n I L P = mm_E d 61 34 lv [] (.inl (I a i.toNat) :: st) n I L P) ∧
  (∀ (lv : List mm_V) (st : List mm_V), mm_E d 61 34 lv [] st n I L P = mm_E d 61 36 lv [] (.inl 48 :: st) n I L P) ∧
  (∀ (lv : List mm_V) (st : List mm_V) a b, mm_E d 61 36 lv [] (.inl b :: .inl a :: st) n I L P = if a < b then mm_E d 61 53 lv [] st n I L P else mm_E d 61 39 lv [] st n I L P) ∧
  (∀ (st : List mm_V) z (l1 : mm_V) (l2 : mm_V) (l3 : mm_V), mm_E d 61 39 [(.inr (.inr z)), l1, l2, l3] [] st n I L P = mm_E d 61 40 [(.inr (.inr z)), l1, l2, l3] [] ((.inr (.inr z)) :: st) n I L P) ∧
  (∀ (lv : List mm_V) (st : List mm_V) a, (mm_ok n a 8) → mm_E d 61 40 lv [] (.inr (.inr (some a)) :: st) n I L P = mm_E d 61 43 lv [] (.inr (.inr (P a 0)) :: st) n I L P) ∧
  (∀ (st : List mm_V) z (l1 : mm_V) (l2 : mm_V) (l3 : mm_V), mm_E d 61 43 [(.inr (.inr z)), l1, l2, l3] [] st n I L P = mm_E d 61 44 [(.inr (.inr z)), l1, l2, l3] [] ((.inr (.inr z)) :: st) n I L P) ∧
  (∀ (lv : List mm_V) (st : List mm_V) a, (mm_ok n a 8) → mm_E d 61 44 lv [] (.inr (.inr (some a)) :: st) n I L P = mm_E d 61 47 lv [] (.inl (I a 2) :: st) n I L P) ∧
  (∀ (lv : List mm_V) (st : List mm_V) a i, (mm_ix n a 20 i) → mm_E d 61 47 lv [] (.inl i :: .inr (.inr (some a)) :: st) n I L P = mm_E d 61 48 lv [] (.inl (I a i.toNat) :: st) n I L P) ∧
  (∀ (lv : List mm_V) (st : List mm_V), mm_E d 61 48 lv [] st n I L P = mm_E d 61 50 lv [] (.inl 57 :: st) n I L P) ∧
  (∀ (lv : List mm_V) (st : List mm_V) a b, mm_E d 61 50 lv [] (.inl b :: .inl a :: st) n I L P = if a ≤ b then mm_E d 61 63 lv [] st n I L P else mm_E d 61 53 lv [] st n I L P) ∧
  (∀ (st : List mm_V) z (l0 : mm_V) (l1 : mm_V) (l2 : mm_V), mm_E d 61 53 [l0, l1, l2, (.inl z)] [] st n I L P = mm_E d 61 54 [l0, l1, l2, (.inl z)] [] ((.inl z) :: st) n I L P) ∧
  (∀ (lv : List mm_V) (st : List mm_V) a, mm_E d 61 54 lv [] (.inl a :: st) n I L P = if a = 0 then mm_E d 61 57 lv [] st n I L P else mm_E d 61 61 lv [] st n I L P) ∧
  (∀ (lv : List mm_V) (st : List mm_V), mm_E d 61 57 lv [] st n I L P = mm_E d 61 58 lv [] (.inl (-1) :: st) n I L P) ∧
  (∀ (lv : List mm_V) (st : List mm_V), mm_E d 61 58 lv [] st n I L P = mm_E d 61 62 lv [] st n I L P) ∧
  (∀ (st : List mm_V) z (l0 : mm_V) (l1 : mm_V) (l3 : mm_V), mm_E d 61 61 [l0, l1, (.inl z), l3] [] st n I L P = mm_E d 61 62 [l0, l1, (.inl z), l3] [] ((.inl z) :: st) n I L P) ∧
  (∀ (lv : List mm_V) z, mm_E d 61 62 lv [] [.inl z] n I L P = some (some (.inl z), n, I, L, P)) ∧
  (∀ (st : List mm_V) z (l0 : mm_V) (l1 : mm_V) (l2 : mm_V), mm_E d 61 63 [l0, l1, l2, (.inl z)] [] st n I L P = mm_E d 61 64 [l0, l1, l2, (.inl z)] [] ((.inl z) :: st) n I L P) ∧
  (∀ (st : List mm_V) z (l0 : mm_V) (l2 : mm_V) (l3 : mm_V), mm_E d 61 64 [l0, (.inl z), l2, l3] [] st n I L P = mm_E d 61 65 [l0, (.inl z), l2, l3] [] ((.inl z) :: st) n I L P) ∧
  (∀ (lv : List mm_V) (st : List mm_V) a b, mm_E d 61 65 lv [] (.inl b :: .inl a :: st) n I L P = if b ≤ a then mm_E d 61 96 lv [] st n I L P else mm_E d 61 68 lv [] st n I L P) ∧
  (∀ (lv : List mm_V) (st : List mm_V), mm_E d 61 68 lv [] st n I L P = mm_E d 61 70 lv [] (.inl 10 :: st) n I L P) ∧
  (∀ (st : List mm_V) z (l0 : mm_V) (l1 : mm_V) (l3 : mm_V), mm_E d 61 70 [l0, l1, (.inl z), l3] [] st n I L P = mm_E d 61 71 [l0, l1, (.inl z), l3] [] ((.inl z) :: st) n I L P) ∧
  (∀ (lv : List mm_V) (st : List mm_V) a b, mm_E d 61 71 lv [] (.inl b :: .inl a :: st) n I L P = mm_E d 61 72 lv [] (.inl (mm_mul a b) :: st) n I L P) ∧
  (∀ (st : List mm_V) z (l1 : mm_V) (l2 : mm_V) (l3 : mm_V), mm_E d 61 72 [(.inr (.inr z)), l1, l2, l3] [] st n I L P = mm_E d 61 73 [(.inr (.inr z)), l1, l2, l3] [] ((.inr (.inr z)) :: st) n I L P) ∧
  (∀ (lv : List mm_V) (st : List mm_V) a, (mm_ok n a 8) → mm_E d 61 73 lv [] (.inr (.inr (some a)) :: st) n I L P = mm_E d 61 76 lv [] (.inr (.inr (P a 0)) :: st) n I L P) ∧
  (∀ (st : List mm_V) z (l1 : mm_V) (l2 : mm_V) (l3 : mm_V), mm_E d 61 76 [(.inr (.inr z)), l1, l2, l3] [] st n I L P = mm_E d 61 77 [(.inr (.inr z)), l1, l2, l3] [] ((.inr (.inr z)) :: st) n I L P) ∧
  (∀ (lv : List mm_V) (st : List mm_V) a, (mm_ok n a 8) → mm_E d 61 77 lv [] (.inr (.inr (some a)) :: st) n I L P = mm_E d 61 80 lv [] (.inl (I a 2) :: st) n I L P) ∧
  (∀ (lv : List mm_V) (st : List mm_V) a i, (mm_ix n a 20 i) → mm_E d 61 80 lv [] (.inl i :: .inr (.inr (some a)) :: st) n I L P = mm_E d 61 81 lv [] (.inl (I a i.toNat) :: st) n I L P) ∧
  (∀ (lv : List mm_V) (st : List mm_V) a b, mm_E d 61 81 lv [] (.inl b :: .inl a :: st) n I L P = mm_E d 61 82 lv [] (.inl (mm_add a b) :: st) n I L P) ∧
  (∀ (lv : List mm_V) (st : List mm_V), mm_E d 61 82 lv [] st n I L P = mm_E d 61 84 lv [] (.inl 48 :: st) n I L P) ∧
  (∀ (lv : List mm_V) (st : List mm_V) a b, mm_E d 61 84 lv [] (.inl b :: .inl a :: st) n I L P = mm_E d 61 85 lv [] (.inl (mm_sub a b) :: st) n I L P) ∧
  (∀ (st : List mm_V) z (l0 : mm_V) (l1 : mm_V) (l2 : mm_V) (l3 : mm_V), mm_E d 61 85 [l0, l1, l2, l3] [] ((.inl z) :: st) n I L P = mm_E d 61 86 [l0, l1, (.inl z), l3] [] st n I L P) ∧
  (∀ (st : List mm_V) z (l1 : mm_V) (l2 : mm_V) (l3 : mm_V), mm_E d 61 86 [(.inr (.inr z)), l1, l2, l3] [] st n I L P = mm_E d 61 87 [(.inr (.inr z)), l1, l2, l3] [] ((.inr (.inr z)) :: st) n I L P) ∧
  (∀ (lv : List mm_V) (st : List mm_V) a, mm_E d 61 87 lv [] ((.inr (.inr a)) :: st) n I L P = mm_E d 61 88 lv [] ((.inr (.inr a)) :: (.inr (.inr a)) :: st) n I L P) ∧
  (∀ (lv : List mm_V) (st : List mm_V) a, (mm_ok n a 8) → mm_E d 61 88 lv [] (.inr (.inr (some a)) :: st) n I L P = mm_E d 61 91 lv [] (.inl (I a 2) :: st) n I L P) ∧
  (∀ (lv : List mm_V) (st : List mm_V), mm_E d 61 91 lv [] st n I L P = mm_E d 61 92 lv [] (.inl 1 :: st) n I L P) ∧
  (∀ (lv : List mm_V) (st : List mm_V) a b, mm_E d 61 92 lv [] (.inl b :: .inl a :: st) n I L P = mm_E d 61 93 lv [] (.inl (mm_add a b) :: st) n I L P) ∧
  (∀ (lv : List mm_V) (st : List mm_V) a z, (mm_ok n a 8) → mm_E d 61 93 lv [] (.inl z :: .inr (.inr (some a)) :: st) n I L P = mm_E d 61 96 lv [] st n (mm_ui I a 2 z) L P) ∧
  (∀ (st : List mm_V) z (l0 : mm_V) (l1 : mm_V) (l2 : mm_V), mm_E d 61 96 [l0, l1, l2, (.inl z)] [] st n I L P = mm_E d 61 99 [l0, l1, l2, (.inl (mm_add z 1))] [] st n I L P) ∧
  (∀ (lv : List mm_V) (st : List mm_V), mm_E d 61 99 lv [] st n I L P = mm_E d 61 9 lv [] st n I L P) ∧
  (∀ (lv : List mm_V) (st : List mm_V), mm_E d 61 102 lv [] st n I L P = mm_E d 61 103 lv [] (.inl (-1) :: st) n I L P) ∧
  (∀ (lv : List mm_V) z, mm_E d 61 103 lv [] [.inl z] n I L P = some (some (.inl z), n, I, L, P)) :=
  ⟨fun _ _ _ _ _ => mq_al (i := 0) rfl rfl,
   fun _ _ h0 => mq_cVr (na := 0) rfl rfl (Nat.le_of_ble_eq_true rfl) (Nat.le_of_ble_eq_true rfl) h0,
   fun _ _ _ => mq_pop rfl rfl,
   fun _ _ => mq_push rfl,
   fun _ _ _ _ _ _ => mq_is (i := 2) rfl rfl rfl,
   fun _ _ => mq_push rfl,
   fun _ _ _ _ _ _ => mq_is (i := 3) rfl rfl rfl,
   fun _ _ _ _ _ => mq_il (i := 1) rfl rfl,
   fun _ _ _ _ => mq_ic_gt rfl,
   fun _ _ _ _ _ => mq_al (i := 0) rfl rfl,
   fun _ _ _ h0 => mq_getI rfl h0,
   fun _ _ _ _ _ => mq_al (i := 0) rfl rfl,
   fun _ _ _ h0 => mq_getI rfl h0,
   fun _ _ _ _ => mq_ic_ge rfl,
   fun _ _ _ _ _ => mq_al (i := 0) rfl rfl,
   fun _ _ _ h0 => mq_getR rfl h0,
   fun _ _ _ _ _ => mq_al (i := 0) rfl rfl,
   fun _ _ _ h0 => mq_getI rfl h0,
   fun _ _ _ _ h0 => mq_iald rfl h0,
   fun _ _ => mq_push rfl,
   fun _ _ _ _ => mq_ic_lt rfl,
   fun _ _ _ _ _ => mq_al (i := 0) rfl rfl,
   fun _ _ _ h0 => mq_getR rfl h0,
   fun _ _ _ _ _ => mq_al (i := 0) rfl rfl,
   fun _ _ _ h0 => mq_getI rfl h0,
   fun _ _ _ _ h0 => mq_iald rfl h0,
   fun _ _ => mq_push rfl,
   fun _ _ _ _ => mq_ic_le rfl,
   fun _ _ _ _ _ => mq_il (i := 3) rfl rfl,
   fun _ _ _ => mq_if_ne rfl,
   fun _ _ => mq_push rfl,
   fun _ _ => mq_go rfl,
   fun _ _ _ _ _ => mq_il (i := 2) rfl rfl,
   fun _ _ => mq_ri rfl,
   fun _ _ _ _ _ => mq_il (i := 3) rfl rfl,
   fun _ _ _ _ _ => mq_il (i := 1) rfl rfl,
   fun _ _ _ _ => mq_ic_ge rfl,
   fun _ _ => mq_push rfl,
   fun _ _ _ _ _ => mq_il (i := 2) rfl rfl,
   fun _ _ _ _ => mq_bi rfl,
   fun _ _ _ _ _ => mq_al (i := 0) rfl rfl,
   fun _ _ _ h0 => mq_getR rfl h0,
   fun _ _ _ _ _ => mq_al (i := 0) rfl rfl,
   fun _ _ _ h0 => mq_getI rfl h0,
   fun _ _ _ _ h0 => mq_iald rfl h0,
   fun _ _ _ _ => mq_bi rfl,
   fun _ _ => mq_push rfl,
   fun _ _ _ _ => mq_bi rfl,
   fun _ _ _ _ _ _ => mq_is (i := 2) rfl rfl rfl,
   fun _ _ _ _ _ => mq_al (i := 0) rfl rfl,
   fun _ _ _ => mq_dup rfl rfl,
   fun _ _ _ h0 => mq_getI rfl h0,
   fun _ _ => mq_push rfl,
   fun _ _ _ _ => mq_bi rfl,
   fun _ _ _ _ h0 => mq_putI rfl h0,
   fun _ _ _ _ _ => mq_iinc (i := 3) rfl rfl rfl rfl,
   fun _ _ => mq_go rfl,
   fun _ _ => mq_push rfl,
   fun _ _ => mq_ri rfl⟩
theorem hX8_number_9 (d n : Nat) (I L : mm_I) (P : mm_P) : ∀ (st : List mm_V) z (l0 : mm_V) (l1 : mm_V) (l2 : mm_V), mm_E d 61 9 [l0, l1, l2, (.inl z)] [] st n I L P = mm_E d 61 10 [l0, l1, l2, (.inl z)] [] ((.inl z) :: st) n I L P := fun _ _ _ _ _ => mq_il (i := 3) rfl rfl
theorem eX8_number (d n : Nat) (I L : mm_I) (P : mm_P) (x0 : Option Nat) (x1 : Int) : mm_rn (d + 1) 61 [.inr (.inr x0), .inl x1] n I L P = mm_E d 61 0 [.inr (.inr x0), .inl x1, mm_junk, mm_junk] [] [] n I L P := rfl

set_option maxRecDepth 20000 in
set_option maxHeartbeats 8000000 in
theorem kX9_init (d n : Nat) (I L : mm_I) (P : mm_P) :
  (∀ (st : List mm_V) z, mm_E d 62 0 [(.inr (.inr z))] [] st n I L P = mm_E d 62 1 [(.inr (.inr z))] [] ((.inr (.inr z)) :: st) n I L P) ∧
  (∀ (lv : List mm_V) a, (a < n) → mm_E d 62 1 lv [] (.inr (.inr (some a)) :: []) n I L P = mm_E d 62 4 lv [] [] n I L P) ∧
  (∀ (st : List mm_V) z, mm_E d 62 4 [(.inr (.inr z))] [] st n I L P = mm_E d 62 5 [(.inr (.inr z))] [] ((.inr (.inr z)) :: st) n I L P) ∧
  (∀ (lv : List mm_V) (st : List mm_V), mm_E d 62 5 lv [] st n I L P = mm_E d 62 7 lv [] (.inl 8 :: st) n I L P) ∧
  (∀ (lv : List mm_V) (st : List mm_V) z, (n < mm_NC ∧ mm_ty n = (20, z.toNat) ∧ 0 ≤ z) → mm_E d 62 7 lv [] (.inl z :: st) n I L P = mm_E d 62 9 lv [] (.inr (.inr (some n)) :: st) (n + 1) (mm_zi I n) (mm_zi L n) (mm_zp P n)) ∧
  (∀ (lv : List mm_V) (st : List mm_V) a z, (mm_ok n a 9) → mm_E d 62 9 lv [] (.inr (.inr z) :: .inr (.inr (some a)) :: st) n I L P = mm_E d 62 12 lv [] st n I L (mm_up P a 4 z)) ∧
  (∀ (st : List mm_V) z, mm_E d 62 12 [(.inr (.inr z))] [] st n I L P = mm_E d 62 13 [(.inr (.inr z))] [] ((.inr (.inr z)) :: st) n I L P) ∧
  (∀ (lv : List mm_V) (st : List mm_V), mm_E d 62 13 lv [] st n I L P = mm_E d 62 15 lv [] (.inl 8 :: st) n I L P) ∧
  (∀ (lv : List mm_V) (st : List mm_V) z, (n < mm_NC ∧ mm_ty n = (20, z.toNat) ∧ 0 ≤ z) → mm_E d 62 15 lv [] (.inl z :: st) n I L P = mm_E d 62 17 lv [] (.inr (.inr (some n)) :: st) (n + 1) (mm_zi I n) (mm_zi L n) (mm_zp P n)) ∧
  (∀ (lv : List mm_V) (st : List mm_V) a z, (mm_ok n a 9) → mm_E d 62 17 lv [] (.inr (.inr z) :: .inr (.inr (some a)) :: st) n I L P = mm_E d 62 20 lv [] st n I L (mm_up P a 5 z)) ∧
  (∀ (st : List mm_V) z, mm_E d 62 20 [(.inr (.inr z))] [] st n I L P = mm_E d 62 21 [(.inr (.inr z))] [] ((.inr (.inr z)) :: st) n I L P) ∧
  (∀ (lv : List mm_V) (st : List mm_V), mm_E d 62 21 lv [] st n I L P = mm_E d 62 23 lv [] (.inl 8 :: st) n I L P) ∧
  (∀ (lv : List mm_V) (st : List mm_V) z, (n < mm_NC ∧ mm_ty n = (20, z.toNat) ∧ 0 ≤ z) → mm_E d 62 23 lv [] (.inl z :: st) n I L P = mm_E d 62 25 lv [] (.inr (.inr (some n)) :: st) (n + 1) (mm_zi I n) (mm_zi L n) (mm_zp P n)) ∧
  (∀ (lv : List mm_V) (st : List mm_V) a z, (mm_ok n a 9) → mm_E d 62 25 lv [] (.inr (.inr z) :: .inr (.inr (some a)) :: st) n I L P = mm_E d 62 28 lv [] st n I L (mm_up P a 6 z)) ∧
  (∀ (st : List mm_V) z, mm_E d 62 28 [(.inr (.inr z))] [] st n I L P = mm_E d 62 29 [(.inr (.inr z))] [] ((.inr (.inr z)) :: st) n I L P) ∧
  (∀ (lv : List mm_V) (st : List mm_V), mm_E d 62 29 lv [] st n I L P = mm_E d 62 31 lv [] (.inl 8 :: st) n I L P) ∧
  (∀ (lv : List mm_V) (st : List mm_V) z, (n < mm_NC ∧ mm_ty n = (20, z.toNat) ∧ 0 ≤ z) → mm_E d 62 31 lv [] (.inl z :: st) n I L P = mm_E d 62 33 lv [] (.inr (.inr (some n)) :: st) (n + 1) (mm_zi I n) (mm_zi L n) (mm_zp P n)) ∧
  (∀ (lv : List mm_V) (st : List mm_V) a z, (mm_ok n a 9) → mm_E d 62 33 lv [] (.inr (.inr z) :: .inr (.inr (some a)) :: st) n I L P = mm_E d 62 36 lv [] st n I L (mm_up P a 7 z)) ∧
  (∀ (st : List mm_V) z, mm_E d 62 36 [(.inr (.inr z))] [] st n I L P = mm_E d 62 37 [(.inr (.inr z))] [] ((.inr (.inr z)) :: st) n I L P) ∧
  (∀ (lv : List mm_V) (st : List mm_V), mm_E d 62 37 lv [] st n I L P = mm_E d 62 39 lv [] (.inl 64 :: st) n I L P) ∧
  (∀ (lv : List mm_V) (st : List mm_V) z, (n < mm_NC ∧ mm_ty n = (20, z.toNat) ∧ 0 ≤ z) → mm_E d 62 39 lv [] (.inl z :: st) n I L P = mm_E d 62 41 lv [] (.inr (.inr (some n)) :: st) (n + 1) (mm_zi I n) (mm_zi L n) (mm_zp P n)) ∧
  (∀ (lv : List mm_V) (st : List mm_V) a z, (mm_ok n a 9) → mm_E d 62 41 lv [] (.inr (.inr z) :: .inr (.inr (some a)) :: st) n I L P = mm_E d 62 44 lv [] st n I L (mm_up P a 8 z)) ∧
  (∀ (lv : List mm_V), mm_E d 62 44 lv [] [] n I L P = some (none, n, I, L, P)) :=
  ⟨fun _ _ => mq_al (i := 0) rfl rfl,
   fun _ _ h0 => mq_oi rfl h0 (Nat.le_of_ble_eq_true rfl),
   fun _ _ => mq_al (i := 0) rfl rfl,
   fun _ _ => mq_push rfl,
   fun _ _ _ h0 => mq_newa rfl h0,
   fun _ _ _ _ h0 => mq_putR rfl h0,
   fun _ _ => mq_al (i := 0) rfl rfl,
   fun _ _ => mq_push rfl,
   fun _ _ _ h0 => mq_newa rfl h0,
   fun _ _ _ _ h0 => mq_putR rfl h0,
   fun _ _ => mq_al (i := 0) rfl rfl,
   fun _ _ => mq_push rfl,
   fun _ _ _ h0 => mq_newa rfl h0,
   fun _ _ _ _ h0 => mq_putR rfl h0,
   fun _ _ => mq_al (i := 0) rfl rfl,
   fun _ _ => mq_push rfl,
   fun _ _ _ h0 => mq_newa rfl h0,
   fun _ _ _ _ h0 => mq_putR rfl h0,
   fun _ _ => mq_al (i := 0) rfl rfl,
   fun _ _ => mq_push rfl,
   fun _ _ _ h0 => mq_newa rfl h0,
   fun _ _ _ _ h0 => mq_putR rfl h0,
   fun _ => mq_rv rfl⟩
theorem eX9_init (d n : Nat) (I L : mm_I) (P : mm_P) (x0 : Option Nat) : mm_rn (d + 1) 62 [.inr (.inr x0)] n I L P = mm_E d 62 0 [.inr (.inr x0)] [] [] n I L P := rfl

set_option maxRecDepth 20000 in
set_option maxHeartbeats 8000000 in
theorem kX9_has (d n : Nat) (I L : mm_I) (P : mm_P) :
  (∀ (st : List mm_V) z (l0 : mm_V), mm_E d 63 0 [l0, (.inl z)] [] st n I L P = mm_E d 63 1 [l0, (.inl z)] [] ((.inl z) :: st) n I L P) ∧
  (∀ (lv : List mm_V) (st : List mm_V) a, mm_E d 63 1 lv [] (.inl a :: st) n I L P = if a < 0 then mm_E d 63 16 lv [] st n I L P else mm_E d 63 4 lv [] st n I L P) ∧
  (∀ (st : List mm_V) z (l0 : mm_V), mm_E d 63 4 [l0, (.inl z)] [] st n I L P = mm_E d 63 5 [l0, (.inl z)] [] ((.inl z) :: st) n I L P) ∧
  (∀ (st : List mm_V) z (l1 : mm_V), mm_E d 63 5 [(.inr (.inr z)), l1] [] st n I L P = mm_E d 63 6 [(.inr (.inr z)), l1] [] ((.inr (.inr z)) :: st) n I L P) ∧
  (∀ (lv : List mm_V) (st : List mm_V) a, (mm_ok n a 9) → mm_E d 63 6 lv [] (.inr (.inr (some a)) :: st) n I L P = mm_E d 63 9 lv [] (.inl (I a 0) :: st) n I L P) ∧
  (∀ (lv : List mm_V) (st : List mm_V) a b, mm_E d 63 9 lv [] (.inl b :: .inl a :: st) n I L P = if b ≤ a then mm_E d 63 16 lv [] st n I L P else mm_E d 63 12 lv [] st n I L P) ∧
  (∀ (lv : List mm_V) (st : List mm_V), mm_E d 63 12 lv [] st n I L P = mm_E d 63 13 lv [] (.inl 1 :: st) n I L P) ∧
  (∀ (lv : List mm_V) (st : List mm_V), mm_E d 63 13 lv [] st n I L P = mm_E d 63 17 lv [] st n I L P) ∧
  (∀ (lv : List mm_V) (st : List mm_V), mm_E d 63 16 lv [] st n I L P = mm_E d 63 17 lv [] (.inl 0 :: st) n I L P) ∧
  (∀ (lv : List mm_V) z, (0 ≤ z ∧ z < 2) → mm_E d 63 17 lv [] [.inl z] n I L P = some (some (.inl z), n, I, L, P)) :=
  ⟨fun _ _ _ => mq_il (i := 1) rfl rfl,
   fun _ _ _ => mq_if_lt rfl,
   fun _ _ _ => mq_il (i := 1) rfl rfl,
   fun _ _ _ => mq_al (i := 0) rfl rfl,
   fun _ _ _ h0 => mq_getI rfl h0,
   fun _ _ _ _ => mq_ic_ge rfl,
   fun _ _ => mq_push rfl,
   fun _ _ => mq_go rfl,
   fun _ _ => mq_push rfl,
   fun _ _ h0 => mq_rz rfl h0⟩
theorem eX9_has (d n : Nat) (I L : mm_I) (P : mm_P) (x0 : Option Nat) (x1 : Int) : mm_rn (d + 1) 63 [.inr (.inr x0), .inl x1] n I L P = mm_E d 63 0 [.inr (.inr x0), .inl x1] [] [] n I L P := rfl

set_option maxRecDepth 20000 in
set_option maxHeartbeats 8000000 in
theorem kX9_way (d n : Nat) (I L : mm_I) (P : mm_P) :
  (∀ (st : List mm_V) z (l1 : mm_V) (l2 : mm_V), mm_E d 64 0 [(.inr (.inr z)), l1, l2] [] st n I L P = mm_E d 64 1 [(.inr (.inr z)), l1, l2] [] ((.inr (.inr z)) :: st) n I L P) ∧
  (∀ (st : List mm_V) z (l0 : mm_V) (l2 : mm_V), mm_E d 64 1 [l0, (.inl z), l2] [] st n I L P = mm_E d 64 2 [l0, (.inl z), l2] [] ((.inl z) :: st) n I L P) ∧
  (∀ (lv : List mm_V) a x0, (mm_ok n a 9) → mm_E d 64 2 lv [] (.inl x0 :: .inr (.inr (some a)) :: []) n I L P = mm_kr d 64 5 lv [] [] n (mm_rn d 63 [.inr (.inr (some a)), .inl x0] n I L P)) ∧
  (∀ (lv : List mm_V) (st : List mm_V) a, mm_E d 64 5 lv [] (.inl a :: st) n I L P = if a = 0 then mm_E d 64 30 lv [] st n I L P else mm_E d 64 8 lv [] st n I L P) ∧
  (∀ (st : List mm_V) z (l1 : mm_V) (l2 : mm_V), mm_E d 64 8 [(.inr (.inr z)), l1, l2] [] st n I L P = mm_E d 64 9 [(.inr (.inr z)), l1, l2] [] ((.inr (.inr z)) :: st) n I L P) ∧
  (∀ (st : List mm_V) z (l0 : mm_V) (l1 : mm_V), mm_E d 64 9 [l0, l1, (.inl z)] [] st n I L P = mm_E d 64 10 [l0, l1, (.inl z)] [] ((.inl z) :: st) n I L P) ∧
  (∀ (lv : List mm_V) a x0, (mm_ok n a 9) → mm_E d 64 10 lv [] (.inl x0 :: .inr (.inr (some a)) :: []) n I L P = mm_kr d 64 13 lv [] [] n (mm_rn d 63 [.inr (.inr (some a)), .inl x0] n I L P)) ∧
  (∀ (lv : List mm_V) (st : List mm_V) a, mm_E d 64 13 lv [] (.inl a :: st) n I L P = if a = 0 then mm_E d 64 30 lv [] st n I L P else mm_E d 64 16 lv [] st n I L P) ∧
  (∀ (st : List mm_V) z (l1 : mm_V) (l2 : mm_V), mm_E d 64 16 [(.inr (.inr z)), l1, l2] [] st n I L P = mm_E d 64 17 [(.inr (.inr z)), l1, l2] [] ((.inr (.inr z)) :: st) n I L P) ∧
  (∀ (lv : List mm_V) (st : List mm_V) a, (mm_ok n a 9) → mm_E d 64 17 lv [] (.inr (.inr (some a)) :: st) n I L P = mm_E d 64 20 lv [] (.inr (.inr (P a 8)) :: st) n I L P) ∧
  (∀ (st : List mm_V) z (l0 : mm_V) (l2 : mm_V), mm_E d 64 20 [l0, (.inl z), l2] [] st n I L P = mm_E d 64 21 [l0, (.inl z), l2] [] ((.inl z) :: st) n I L P) ∧
  (∀ (lv : List mm_V) (st : List mm_V), mm_E d 64 21 lv [] st n I L P = mm_E d 64 23 lv [] (.inl 8 :: st) n I L P) ∧
  (∀ (lv : List mm_V) (st : List mm_V) a b, mm_E d 64 23 lv [] (.inl b :: .inl a :: st) n I L P = mm_E d 64 24 lv [] (.inl (mm_mul a b) :: st) n I L P) ∧
  (∀ (st : List mm_V) z (l0 : mm_V) (l1 : mm_V), mm_E d 64 24 [l0, l1, (.inl z)] [] st n I L P = mm_E d 64 25 [l0, l1, (.inl z)] [] ((.inl z) :: st) n I L P) ∧
  (∀ (lv : List mm_V) (st : List mm_V) a b, mm_E d 64 25 lv [] (.inl b :: .inl a :: st) n I L P = mm_E d 64 26 lv [] (.inl (mm_add a b) :: st) n I L P) ∧
  (∀ (lv : List mm_V) (st : List mm_V) a i, (mm_ix n a 20 i) → mm_E d 64 26 lv [] (.inl i :: .inr (.inr (some a)) :: st) n I L P = mm_E d 64 27 lv [] (.inl (I a i.toNat) :: st) n I L P) ∧
  (∀ (lv : List mm_V) (st : List mm_V), mm_E d 64 27 lv [] st n I L P = mm_E d 64 32 lv [] st n I L P) ∧
  (∀ (lv : List mm_V) (st : List mm_V), mm_E d 64 30 lv [] st n I L P = mm_E d 64 32 lv [] (.inl 99 :: st) n I L P) ∧
  (∀ (lv : List mm_V) z, mm_E d 64 32 lv [] [.inl z] n I L P = some (some (.inl z), n, I, L, P)) :=
  ⟨fun _ _ _ _ => mq_al (i := 0) rfl rfl,
   fun _ _ _ _ => mq_il (i := 1) rfl rfl,
   fun _ _ _ h0 => mq_cVr (na := 1) rfl rfl (Nat.le_of_ble_eq_true rfl) (Nat.le_of_ble_eq_true rfl) h0,
   fun _ _ _ => mq_if_eq rfl,
   fun _ _ _ _ => mq_al (i := 0) rfl rfl,
   fun _ _ _ _ => mq_il (i := 2) rfl rfl,
   fun _ _ _ h0 => mq_cVr (na := 1) rfl rfl (Nat.le_of_ble_eq_true rfl) (Nat.le_of_ble_eq_true rfl) h0,
   fun _ _ _ => mq_if_eq rfl,
   fun _ _ _ _ => mq_al (i := 0) rfl rfl,
   fun _ _ _ h0 => mq_getR rfl h0,
   fun _ _ _ _ => mq_il (i := 1) rfl rfl,
   fun _ _ => mq_push rfl,
   fun _ _ _ _ => mq_bi rfl,
   fun _ _ _ _ => mq_il (i := 2) rfl rfl,
   fun _ _ _ _ => mq_bi rfl,
   fun _ _ _ _ h0 => mq_iald rfl h0,
   fun _ _ => mq_go rfl,
   fun _ _ => mq_push rfl,
   fun _ _ => mq_ri rfl⟩
theorem eX9_way (d n : Nat) (I L : mm_I) (P : mm_P) (x0 : Option Nat) (x1 : Int) (x2 : Int) : mm_rn (d + 1) 64 [.inr (.inr x0), .inl x1, .inl x2] n I L P = mm_E d 64 0 [.inr (.inr x0), .inl x1, .inl x2] [] [] n I L P := rfl

set_option maxRecDepth 20000 in
set_option maxHeartbeats 8000000 in
theorem kX9_joined (d n : Nat) (I L : mm_I) (P : mm_P) :
  (∀ (st : List mm_V) z (l1 : mm_V) (l2 : mm_V), mm_E d 65 0 [(.inr (.inr z)), l1, l2] [] st n I L P = mm_E d 65 1 [(.inr (.inr z)), l1, l2] [] ((.inr (.inr z)) :: st) n I L P) ∧
  (∀ (st : List mm_V) z (l0 : mm_V) (l1 : mm_V), mm_E d 65 1 [l0, l1, (.inl z)] [] st n I L P = mm_E d 65 2 [l0, l1, (.inl z)] [] ((.inl z) :: st) n I L P) ∧
  (∀ (lv : List mm_V) a x0, (mm_ok n a 9) → mm_E d 65 2 lv [] (.inl x0 :: .inr (.inr (some a)) :: []) n I L P = mm_kr d 65 5 lv [] [] n (mm_rn d 63 [.inr (.inr (some a)), .inl x0] n I L P)) ∧
  (∀ (lv : List mm_V) (st : List mm_V) a, mm_E d 65 5 lv [] (.inl a :: st) n I L P = if a = 0 then mm_E d 65 25 lv [] st n I L P else mm_E d 65 8 lv [] st n I L P) ∧
  (∀ (st : List mm_V) z (l1 : mm_V) (l2 : mm_V), mm_E d 65 8 [(.inr (.inr z)), l1, l2] [] st n I L P = mm_E d 65 9 [(.inr (.inr z)), l1, l2] [] ((.inr (.inr z)) :: st) n I L P) ∧
  (∀ (st : List mm_V) z (l0 : mm_V) (l2 : mm_V), mm_E d 65 9 [l0, (.inl z), l2] [] st n I L P = mm_E d 65 10 [l0, (.inl z), l2] [] ((.inl z) :: st) n I L P) ∧
  (∀ (lv : List mm_V) a x0, (mm_ok n a 9) → mm_E d 65 10 lv [] (.inl x0 :: .inr (.inr (some a)) :: []) n I L P = mm_kr d 65 13 lv [] [] n (mm_rn d 287 [.inr (.inr (some a)), .inl x0] n I L P)) ∧
  (∀ (st : List mm_V) z (l0 : mm_V) (l1 : mm_V), mm_E d 65 13 [l0, l1, (.inl z)] [] st n I L P = mm_E d 65 14 [l0, l1, (.inl z)] [] ((.inl z) :: st) n I L P) ∧
  (∀ (lv : List mm_V) (st : List mm_V) a b, mm_E d 65 14 lv [] (.inl b :: .inl a :: st) n I L P = mm_E d 65 15 lv [] (.inl (mm_shr a b) :: st) n I L P) ∧
  (∀ (lv : List mm_V) (st : List mm_V), mm_E d 65 15 lv [] st n I L P = mm_E d 65 16 lv [] (.inl 1 :: st) n I L P) ∧
  (∀ (lv : List mm_V) (st : List mm_V) a b, mm_E d 65 16 lv [] (.inl b :: .inl a :: st) n I L P = mm_E d 65 17 lv [] (.inl (mm_and a b) :: st) n I L P) ∧
  (∀ (lv : List mm_V) (st : List mm_V), mm_E d 65 17 lv [] st n I L P = mm_E d 65 18 lv [] (.inl 1 :: st) n I L P) ∧
  (∀ (lv : List mm_V) (st : List mm_V) a b, mm_E d 65 18 lv [] (.inl b :: .inl a :: st) n I L P = if a = b then mm_E d 65 21 lv [] st n I L P else mm_E d 65 25 lv [] st n I L P) ∧
  (∀ (lv : List mm_V) (st : List mm_V), mm_E d 65 21 lv [] st n I L P = mm_E d 65 22 lv [] (.inl 1 :: st) n I L P) ∧
  (∀ (lv : List mm_V) (st : List mm_V), mm_E d 65 22 lv [] st n I L P = mm_E d 65 26 lv [] st n I L P) ∧
  (∀ (lv : List mm_V) (st : List mm_V), mm_E d 65 25 lv [] st n I L P = mm_E d 65 26 lv [] (.inl 0 :: st) n I L P) ∧
  (∀ (lv : List mm_V) z, (0 ≤ z ∧ z < 2) → mm_E d 65 26 lv [] [.inl z] n I L P = some (some (.inl z), n, I, L, P)) :=
  ⟨fun _ _ _ _ => mq_al (i := 0) rfl rfl,
   fun _ _ _ _ => mq_il (i := 2) rfl rfl,
   fun _ _ _ h0 => mq_cVr (na := 1) rfl rfl (Nat.le_of_ble_eq_true rfl) (Nat.le_of_ble_eq_true rfl) h0,
   fun _ _ _ => mq_if_eq rfl,
   fun _ _ _ _ => mq_al (i := 0) rfl rfl,
   fun _ _ _ _ => mq_il (i := 1) rfl rfl,
   fun _ _ _ h0 => mq_cVr (na := 1) rfl rfl (Nat.le_of_ble_eq_true rfl) (Nat.le_of_ble_eq_true rfl) h0,
   fun _ _ _ _ => mq_il (i := 2) rfl rfl,
   fun _ _ _ _ => mq_bi rfl,
   fun _ _ => mq_push rfl,
   fun _ _ _ _ => mq_bi rfl,
   fun _ _ => mq_push rfl,
   fun _ _ _ _ => mq_ic_ne rfl,
   fun _ _ => mq_push rfl,
   fun _ _ => mq_go rfl,
   fun _ _ => mq_push rfl,
   fun _ _ h0 => mq_rz rfl h0⟩
theorem eX9_joined (d n : Nat) (I L : mm_I) (P : mm_P) (x0 : Option Nat) (x1 : Int) (x2 : Int) : mm_rn (d + 1) 65 [.inr (.inr x0), .inl x1, .inl x2] n I L P = mm_E d 65 0 [.inr (.inr x0), .inl x1, .inl x2] [] [] n I L P := rfl

set_option maxRecDepth 20000 in
set_option maxHeartbeats 8000000 in
theorem kX9_join (d n : Nat) (I L : mm_I) (P : mm_P) :
  (∀ (st : List mm_V) z (l1 : mm_V) (l2 : mm_V), mm_E d 66 0 [(.inr (.inr z)), l1, l2] [] st n I L P = mm_E d 66 1 [(.inr (.inr z)), l1, l2] [] ((.inr (.inr z)) :: st) n I L P) ∧
  (∀ (lv : List mm_V) (st : List mm_V) a, (mm_ok n a 9) → mm_E d 66 1 lv [] (.inr (.inr (some a)) :: st) n I L P = mm_E d 66 4 lv [] (.inr (.inr (P a 6)) :: st) n I L P) ∧
  (∀ (st : List mm_V) z (l0 : mm_V) (l2 : mm_V), mm_E d 66 4 [l0, (.inl z), l2] [] st n I L P = mm_E d 66 5 [l0, (.inl z), l2] [] ((.inl z) :: st) n I L P) ∧
  (∀ (lv : List mm_V) (st : List mm_V) a b, mm_E d 66 5 lv [] ((.inl a) :: (.inr (.inr b)) :: st) n I L P = mm_E d 66 6 lv [] ((.inl a) :: (.inr (.inr b)) :: (.inl a) :: (.inr (.inr b)) :: st) n I L P) ∧
  (∀ (lv : List mm_V) (st : List mm_V) a i, (mm_ix n a 20 i) → mm_E d 66 6 lv [] (.inl i :: .inr (.inr (some a)) :: st) n I L P = mm_E d 66 7 lv [] (.inl (I a i.toNat) :: st) n I L P) ∧
  (∀ (lv : List mm_V) (st : List mm_V), mm_E d 66 7 lv [] st n I L P = mm_E d 66 8 lv [] (.inl 1 :: st) n I L P) ∧
  (∀ (st : List mm_V) z (l0 : mm_V) (l1 : mm_V), mm_E d 66 8 [l0, l1, (.inl z)] [] st n I L P = mm_E d 66 9 [l0, l1, (.inl z)] [] ((.inl z) :: st) n I L P) ∧
  (∀ (lv : List mm_V) (st : List mm_V) a b, mm_E d 66 9 lv [] (.inl b :: .inl a :: st) n I L P = mm_E d 66 10 lv [] (.inl (mm_shl a b) :: st) n I L P) ∧
  (∀ (lv : List mm_V) (st : List mm_V) a b, mm_E d 66 10 lv [] (.inl b :: .inl a :: st) n I L P = mm_E d 66 11 lv [] (.inl (mm_or a b) :: st) n I L P) ∧
  (∀ (lv : List mm_V) (st : List mm_V) a i z, (mm_ix n a 20 i) → mm_E d 66 11 lv [] (.inl z :: .inl i :: .inr (.inr (some a)) :: st) n I L P = mm_E d 66 12 lv [] st n (mm_ui I a i.toNat z) L P) ∧
  (∀ (st : List mm_V) z (l1 : mm_V) (l2 : mm_V), mm_E d 66 12 [(.inr (.inr z)), l1, l2] [] st n I L P = mm_E d 66 13 [(.inr (.inr z)), l1, l2] [] ((.inr (.inr z)) :: st) n I L P) ∧
  (∀ (lv : List mm_V) (st : List mm_V) a, (mm_ok n a 9) → mm_E d 66 13 lv [] (.inr (.inr (some a)) :: st) n I L P = mm_E d 66 16 lv [] (.inr (.inr (P a 6)) :: st) n I L P) ∧
  (∀ (st : List mm_V) z (l0 : mm_V) (l1 : mm_V), mm_E d 66 16 [l0, l1, (.inl z)] [] st n I L P = mm_E d 66 17 [l0, l1, (.inl z)] [] ((.inl z) :: st) n I L P) ∧
  (∀ (lv : List mm_V) (st : List mm_V) a b, mm_E d 66 17 lv [] ((.inl a) :: (.inr (.inr b)) :: st) n I L P = mm_E d 66 18 lv [] ((.inl a) :: (.inr (.inr b)) :: (.inl a) :: (.inr (.inr b)) :: st) n I L P) ∧
  (∀ (lv : List mm_V) (st : List mm_V) a i, (mm_ix n a 20 i) → mm_E d 66 18 lv [] (.inl i :: .inr (.inr (some a)) :: st) n I L P = mm_E d 66 19 lv [] (.inl (I a i.toNat) :: st) n I L P) ∧
  (∀ (lv : List mm_V) (st : List mm_V), mm_E d 66 19 lv [] st n I L P = mm_E d 66 20 lv [] (.inl 1 :: st) n I L P) ∧
  (∀ (st : List mm_V) z (l0 : mm_V) (l2 : mm_V), mm_E d 66 20 [l0, (.inl z), l2] [] st n I L P = mm_E d 66 21 [l0, (.inl z), l2] [] ((.inl z) :: st) n I L P) ∧
  (∀ (lv : List mm_V) (st : List mm_V) a b, mm_E d 66 21 lv [] (.inl b :: .inl a :: st) n I L P = mm_E d 66 22 lv [] (.inl (mm_shl a b) :: st) n I L P) ∧
  (∀ (lv : List mm_V) (st : List mm_V) a b, mm_E d 66 22 lv [] (.inl b :: .inl a :: st) n I L P = mm_E d 66 23 lv [] (.inl (mm_or a b) :: st) n I L P) ∧
  (∀ (lv : List mm_V) (st : List mm_V) a i z, (mm_ix n a 20 i) → mm_E d 66 23 lv [] (.inl z :: .inl i :: .inr (.inr (some a)) :: st) n I L P = mm_E d 66 24 lv [] st n (mm_ui I a i.toNat z) L P) ∧
  (∀ (lv : List mm_V), mm_E d 66 24 lv [] [] n I L P = some (none, n, I, L, P)) :=
  ⟨fun _ _ _ _ => mq_al (i := 0) rfl rfl,
   fun _ _ _ h0 => mq_getR rfl h0,
   fun _ _ _ _ => mq_il (i := 1) rfl rfl,
   fun _ _ _ _ => mq_dup2 rfl rfl rfl,
   fun _ _ _ _ h0 => mq_iald rfl h0,
   fun _ _ => mq_push rfl,
   fun _ _ _ _ => mq_il (i := 2) rfl rfl,
   fun _ _ _ _ => mq_bi rfl,
   fun _ _ _ _ => mq_bi rfl,
   fun _ _ _ _ _ h0 => mq_iast rfl h0,
   fun _ _ _ _ => mq_al (i := 0) rfl rfl,
   fun _ _ _ h0 => mq_getR rfl h0,
   fun _ _ _ _ => mq_il (i := 2) rfl rfl,
   fun _ _ _ _ => mq_dup2 rfl rfl rfl,
   fun _ _ _ _ h0 => mq_iald rfl h0,
   fun _ _ => mq_push rfl,
   fun _ _ _ _ => mq_il (i := 1) rfl rfl,
   fun _ _ _ _ => mq_bi rfl,
   fun _ _ _ _ => mq_bi rfl,
   fun _ _ _ _ _ h0 => mq_iast rfl h0,
   fun _ => mq_rv rfl⟩
theorem eX9_join (d n : Nat) (I L : mm_I) (P : mm_P) (x0 : Option Nat) (x1 : Int) (x2 : Int) : mm_rn (d + 1) 66 [.inr (.inr x0), .inl x1, .inl x2] n I L P = mm_E d 66 0 [.inr (.inr x0), .inl x1, .inl x2] [] [] n I L P := rfl

set_option maxRecDepth 20000 in
set_option maxHeartbeats 8000000 in
theorem kX9_reckonWays (d n : Nat) (I L : mm_I) (P : mm_P) :
  (∀ (lv : List mm_V) (st : List mm_V), mm_E d 67 0 lv [] st n I L P = mm_E d 67 1 lv [] (.inl 0 :: st) n I L P) ∧
  (∀ (st : List mm_V) z (l0 : mm_V) (l1 : mm_V) (l2 : mm_V) (l3 : mm_V) (l4 : mm_V), mm_E d 67 1 [l0, l1, l2, l3, l4] [] ((.inl z) :: st) n I L P = mm_E d 67 2 [l0, (.inl z), l2, l3, l4] [] st n I L P) ∧
  (∀ (st : List mm_V) z (l1 : mm_V) (l2 : mm_V) (l3 : mm_V) (l4 : mm_V), mm_E d 67 3 [(.inr (.inr z)), l1, l2, l3, l4] [] st n I L P = mm_E d 67 4 [(.inr (.inr z)), l1, l2, l3, l4] [] ((.inr (.inr z)) :: st) n I L P) ∧
  (∀ (lv : List mm_V) (st : List mm_V) a, (mm_ok n a 9) → mm_E d 67 4 lv [] (.inr (.inr (some a)) :: st) n I L P = mm_E d 67 7 lv [] (.inl (I a 0) :: st) n I L P) ∧
  (∀ (lv : List mm_V) (st : List mm_V) a b, mm_E d 67 7 lv [] (.inl b :: .inl a :: st) n I L P = if b ≤ a then mm_E d 67 67 lv [] st n I L P else mm_E d 67 10 lv [] st n I L P) ∧
  (∀ (lv : List mm_V) (st : List mm_V), mm_E d 67 10 lv [] st n I L P = mm_E d 67 11 lv [] (.inl 0 :: st) n I L P) ∧
  (∀ (st : List mm_V) z (l0 : mm_V) (l1 : mm_V) (l2 : mm_V) (l3 : mm_V) (l4 : mm_V), mm_E d 67 11 [l0, l1, l2, l3, l4] [] ((.inl z) :: st) n I L P = mm_E d 67 12 [l0, l1, (.inl z), l3, l4] [] st n I L P) ∧
  (∀ (st : List mm_V) z (l1 : mm_V) (l2 : mm_V) (l3 : mm_V) (l4 : mm_V), mm_E d 67 13 [(.inr (.inr z)), l1, l2, l3, l4] [] st n I L P = mm_E d 67 14 [(.inr (.inr z)), l1, l2, l3, l4] [] ((.inr (.inr z)) :: st) n I L P) ∧
  (∀ (lv : List mm_V) (st : List mm_V) a, (mm_ok n a 9) → mm_E d 67 14 lv [] (.inr (.inr (some a)) :: st) n I L P = mm_E d 67 17 lv [] (.inl (I a 0) :: st) n I L P) ∧
  (∀ (lv : List mm_V) (st : List mm_V) a b, mm_E d 67 17 lv [] (.inl b :: .inl a :: st) n I L P = if b ≤ a then mm_E d 67 61 lv [] st n I L P else mm_E d 67 20 lv [] st n I L P) ∧
  (∀ (st : List mm_V) z (l1 : mm_V) (l2 : mm_V) (l3 : mm_V) (l4 : mm_V), mm_E d 67 20 [(.inr (.inr z)), l1, l2, l3, l4] [] st n I L P = mm_E d 67 21 [(.inr (.inr z)), l1, l2, l3, l4] [] ((.inr (.inr z)) :: st) n I L P) ∧
  (∀ (lv : List mm_V) (st : List mm_V) a, (mm_ok n a 9) → mm_E d 67 21 lv [] (.inr (.inr (some a)) :: st) n I L P = mm_E d 67 24 lv [] (.inr (.inr (P a 8)) :: st) n I L P) ∧
  (∀ (st : List mm_V) z (l0 : mm_V) (l2 : mm_V) (l3 : mm_V) (l4 : mm_V), mm_E d 67 24 [l0, (.inl z), l2, l3, l4] [] st n I L P = mm_E d 67 25 [l0, (.inl z), l2, l3, l4] [] ((.inl z) :: st) n I L P) ∧
  (∀ (lv : List mm_V) (st : List mm_V), mm_E d 67 25 lv [] st n I L P = mm_E d 67 27 lv [] (.inl 8 :: st) n I L P) ∧
  (∀ (lv : List mm_V) (st : List mm_V) a b, mm_E d 67 27 lv [] (.inl b :: .inl a :: st) n I L P = mm_E d 67 28 lv [] (.inl (mm_mul a b) :: st) n I L P) ∧
  (∀ (st : List mm_V) z (l0 : mm_V) (l1 : mm_V) (l3 : mm_V) (l4 : mm_V), mm_E d 67 28 [l0, l1, (.inl z), l3, l4] [] st n I L P = mm_E d 67 29 [l0, l1, (.inl z), l3, l4] [] ((.inl z) :: st) n I L P) ∧
  (∀ (lv : List mm_V) (st : List mm_V) a b, mm_E d 67 29 lv [] (.inl b :: .inl a :: st) n I L P = mm_E d 67 30 lv [] (.inl (mm_add a b) :: st) n I L P) ∧
  (∀ (st : List mm_V) z (l0 : mm_V) (l2 : mm_V) (l3 : mm_V) (l4 : mm_V), mm_E d 67 30 [l0, (.inl z), l2, l3, l4] [] st n I L P = mm_E d 67 31 [l0, (.inl z), l2, l3, l4] [] ((.inl z) :: st) n I L P) ∧
  (∀ (st : List mm_V) z (l0 : mm_V) (l1 : mm_V) (l3 : mm_V) (l4 : mm_V), mm_E d 67 31 [l0, l1, (.inl z), l3, l4] [] st n I L P = mm_E d 67 32 [l0, l1, (.inl z), l3, l4] [] ((.inl z) :: st) n I L P) ∧
  (∀ (lv : List mm_V) (st : List mm_V) a b, mm_E d 67 32 lv [] (.inl b :: .inl a :: st) n I L P = if a = b then mm_E d 67 35 lv [] st n I L P else mm_E d 67 39 lv [] st n I L P) ∧
  (∀ (lv : List mm_V) (st : List mm_V), mm_E d 67 35 lv [] st n I L P = mm_E d 67 36 lv [] (.inl 0 :: st) n I L P) ∧
  (∀ (lv : List mm_V) (st : List mm_V), mm_E d 67 36 lv [] st n I L P = mm_E d 67 54 lv [] st n I L P) ∧
  (∀ (st : List mm_V) z (l1 : mm_V) (l2 : mm_V) (l3 : mm_V) (l4 : mm_V), mm_E d 67 39 [(.inr (.inr z)), l1, l2, l3, l4] [] st n I L P = mm_E d 67 40 [(.inr (.inr z)), l1, l2, l3, l4] [] ((.inr (.inr z)) :: st) n I L P) ∧
  (∀ (st : List mm_V) z (l0 : mm_V) (l2 : mm_V) (l3 : mm_V) (l4 : mm_V), mm_E d 67 40 [l0, (.inl z), l2, l3, l4] [] st n I L P = mm_E d 67 41 [l0, (.inl z), l2, l3, l4] [] ((.inl z) :: st) n I L P) ∧
  (∀ (st : List mm_V) z (l0 : mm_V) (l1 : mm_V) (l3 : mm_V) (l4 : mm_V), mm_E d 67 41 [l0, l1, (.inl z), l3, l4] [] st n I L P = mm_E d 67 42 [l0, l1, (.inl z), l3, l4] [] ((.inl z) :: st) n I L P) ∧
  (∀ (lv : List mm_V) a x0 x1 w0 w1, (mm_ok n a 9) → mm_E d 67 42 lv [] (.inl x1 :: .inl x0 :: .inr (.inr (some a)) :: [.inl w0, .inr (.inr w1)]) n I L P = mm_kr d 67 45 lv [] [.inl w0, .inr (.inr w1)] n (mm_rn d 65 [.inr (.inr (some a)), .inl x0, .inl x1] n I L P)) ∧
  (∀ (lv : List mm_V) (st : List mm_V) a, mm_E d 67 45 lv [] (.inl a :: st) n I L P = if a = 0 then mm_E d 67 52 lv [] st n I L P else mm_E d 67 48 lv [] st n I L P) ∧
  (∀ (lv : List mm_V) (st : List mm_V), mm_E d 67 48 lv [] st n I L P = mm_E d 67 49 lv [] (.inl 1 :: st) n I L P) ∧
  (∀ (lv : List mm_V) (st : List mm_V), mm_E d 67 49 lv [] st n I L P = mm_E d 67 54 lv [] st n I L P) ∧
  (∀ (lv : List mm_V) (st : List mm_V), mm_E d 67 52 lv [] st n I L P = mm_E d 67 54 lv [] (.inl 99 :: st) n I L P) ∧
  (∀ (lv : List mm_V) (st : List mm_V) a i z, (mm_ix n a 20 i) → mm_E d 67 54 lv [] (.inl z :: .inl i :: .inr (.inr (some a)) :: st) n I L P = mm_E d 67 55 lv [] st n (mm_ui I a i.toNat z) L P) ∧
  (∀ (st : List mm_V) z (l0 : mm_V) (l1 : mm_V) (l3 : mm_V) (l4 : mm_V), mm_E d 67 55 [l0, l1, (.inl z), l3, l4] [] st n I L P = mm_E d 67 58 [l0, l1, (.inl (mm_add z 1)), l3, l4] [] st n I L P) ∧
  (∀ (lv : List mm_V) (st : List mm_V), mm_E d 67 58 lv [] st n I L P = mm_E d 67 12 lv [] st n I L P) ∧
  (∀ (st : List mm_V) z (l0 : mm_V) (l2 : mm_V) (l3 : mm_V) (l4 : mm_V), mm_E d 67 61 [l0, (.inl z), l2, l3, l4] [] st n I L P = mm_E d 67 64 [l0, (.inl (mm_add z 1)), l2, l3, l4] [] st n I L P) ∧
  (∀ (lv : List mm_V) (st : List mm_V), mm_E d 67 64 lv [] st n I L P = mm_E d 67 2 lv [] st n I L P) ∧
  (∀ (lv : List mm_V) (st : List mm_V), mm_E d 67 67 lv [] st n I L P = mm_E d 67 68 lv [] (.inl 0 :: st) n I L P) ∧
  (∀ (st : List mm_V) z (l0 : mm_V) (l1 : mm_V) (l2 : mm_V) (l3 : mm_V) (l4 : mm_V), mm_E d 67 68 [l0, l1, l2, l3, l4] [] ((.inl z) :: st) n I L P = mm_E d 67 69 [l0, (.inl z), l2, l3, l4] [] st n I L P) ∧
  (∀ (st : List mm_V) z (l1 : mm_V) (l2 : mm_V) (l3 : mm_V) (l4 : mm_V), mm_E d 67 70 [(.inr (.inr z)), l1, l2, l3, l4] [] st n I L P = mm_E d 67 71 [(.inr (.inr z)), l1, l2, l3, l4] [] ((.inr (.inr z)) :: st) n I L P) ∧
  (∀ (lv : List mm_V) (st : List mm_V) a, (mm_ok n a 9) → mm_E d 67 71 lv [] (.inr (.inr (some a)) :: st) n I L P = mm_E d 67 74 lv [] (.inl (I a 0) :: st) n I L P) ∧
  (∀ (lv : List mm_V) (st : List mm_V) a b, mm_E d 67 74 lv [] (.inl b :: .inl a :: st) n I L P = if b ≤ a then mm_E d 67 153 lv [] st n I L P else mm_E d 67 77 lv [] st n I L P) ∧
  (∀ (lv : List mm_V) (st : List mm_V), mm_E d 67 77 lv [] st n I L P = mm_E d 67 78 lv [] (.inl 0 :: st) n I L P) ∧
  (∀ (st : List mm_V) z (l0 : mm_V) (l1 : mm_V) (l2 : mm_V) (l3 : mm_V) (l4 : mm_V), mm_E d 67 78 [l0, l1, l2, l3, l4] [] ((.inl z) :: st) n I L P = mm_E d 67 79 [l0, l1, (.inl z), l3, l4] [] st n I L P) ∧
  (∀ (st : List mm_V) z (l1 : mm_V) (l2 : mm_V) (l3 : mm_V) (l4 : mm_V), mm_E d 67 80 [(.inr (.inr z)), l1, l2, l3, l4] [] st n I L P = mm_E d 67 81 [(.inr (.inr z)), l1, l2, l3, l4] [] ((.inr (.inr z)) :: st) n I L P) ∧
  (∀ (lv : List mm_V) (st : List mm_V) a, (mm_ok n a 9) → mm_E d 67 81 lv [] (.inr (.inr (some a)) :: st) n I L P = mm_E d 67 84 lv [] (.inl (I a 0) :: st) n I L P) ∧
  (∀ (lv : List mm_V) (st : List mm_V) a b, mm_E d 67 84 lv [] (.inl b :: .inl a :: st) n I L P = if b ≤ a then mm_E d 67 147 lv [] st n I L P else mm_E d 67 87 lv [] st n I L P) ∧
  (∀ (lv : List mm_V) (st : List mm_V), mm_E d 67 87 lv [] st n I L P = mm_E d 67 88 lv [] (.inl 0 :: st) n I L P) ∧
  (∀ (st : List mm_V) z (l0 : mm_V) (l1 : mm_V) (l2 : mm_V) (l3 : mm_V) (l4 : mm_V), mm_E d 67 88 [l0, l1, l2, l3, l4] [] ((.inl z) :: st) n I L P = mm_E d 67 89 [l0, l1, l2, (.inl z), l4] [] st n I L P) ∧
  (∀ (st : List mm_V) z (l1 : mm_V) (l2 : mm_V) (l3 : mm_V) (l4 : mm_V), mm_E d 67 90 [(.inr (.inr z)), l1, l2, l3, l4] [] st n I L P = mm_E d 67 91 [(.inr (.inr z)), l1, l2, l3, l4] [] ((.inr (.inr z)) :: st) n I L P) ∧
  (∀ (lv : List mm_V) (st : List mm_V) a, (mm_ok n a 9) → mm_E d 67 91 lv [] (.inr (.inr (some a)) :: st) n I L P = mm_E d 67 94 lv [] (.inl (I a 0) :: st) n I L P) ∧
  (∀ (lv : List mm_V) (st : List mm_V) a b, mm_E d 67 94 lv [] (.inl b :: .inl a :: st) n I L P = if b ≤ a then mm_E d 67 141 lv [] st n I L P else mm_E d 67 97 lv [] st n I L P) ∧
  (∀ (st : List mm_V) z (l0 : mm_V) (l1 : mm_V) (l3 : mm_V) (l4 : mm_V), mm_E d 67 97 [l0, l1, (.inl z), l3, l4] [] st n I L P = mm_E d 67 98 [l0, l1, (.inl z), l3, l4] [] ((.inl z) :: st) n I L P) ∧
  (∀ (lv : List mm_V) (st : List mm_V), mm_E d 67 98 lv [] st n I L P = mm_E d 67 100 lv [] (.inl 8 :: st) n I L P) ∧
  (∀ (lv : List mm_V) (st : List mm_V) a b, mm_E d 67 100 lv [] (.inl b :: .inl a :: st) n I L P = mm_E d 67 101 lv [] (.inl (mm_mul a b) :: st) n I L P) ∧
  (∀ (st : List mm_V) z (l0 : mm_V) (l1 : mm_V) (l2 : mm_V) (l4 : mm_V), mm_E d 67 101 [l0, l1, l2, (.inl z), l4] [] st n I L P = mm_E d 67 102 [l0, l1, l2, (.inl z), l4] [] ((.inl z) :: st) n I L P) ∧
  (∀ (lv : List mm_V) (st : List mm_V) a b, mm_E d 67 102 lv [] (.inl b :: .inl a :: st) n I L P = mm_E d 67 103 lv [] (.inl (mm_add a b) :: st) n I L P) ∧
  (∀ (st : List mm_V) z (l0 : mm_V) (l1 : mm_V) (l2 : mm_V) (l3 : mm_V) (l4 : mm_V), mm_E d 67 103 [l0, l1, l2, l3, l4] [] ((.inl z) :: st) n I L P = mm_E d 67 105 [l0, l1, l2, l3, (.inl z)] [] st n I L P) ∧
  (∀ (st : List mm_V) z (l1 : mm_V) (l2 : mm_V) (l3 : mm_V) (l4 : mm_V), mm_E d 67 105 [(.inr (.inr z)), l1, l2, l3, l4] [] st n I L P = mm_E d 67 106 [(.inr (.inr z)), l1, l2, l3, l4] [] ((.inr (.inr z)) :: st) n I L P) ∧
  (∀ (lv : List mm_V) (st : List mm_V) a, (mm_ok n a 9) → mm_E d 67 106 lv [] (.inr (.inr (some a)) :: st) n I L P = mm_E d 67 109 lv [] (.inr (.inr (P a 8)) :: st) n I L P) ∧
  (∀ (st : List mm_V) z (l0 : mm_V) (l1 : mm_V) (l2 : mm_V) (l3 : mm_V), mm_E d 67 109 [l0, l1, l2, l3, (.inl z)] [] st n I L P = mm_E d 67 111 [l0, l1, l2, l3, (.inl z)] [] ((.inl z) :: st) n I L P) ∧
  (∀ (st : List mm_V) z (l1 : mm_V) (l2 : mm_V) (l3 : mm_V) (l4 : mm_V), mm_E d 67 111 [(.inr (.inr z)), l1, l2, l3, l4] [] st n I L P = mm_E d 67 112 [(.inr (.inr z)), l1, l2, l3, l4] [] ((.inr (.inr z)) :: st) n I L P) ∧
  (∀ (lv : List mm_V) (st : List mm_V) a, (mm_ok n a 9) → mm_E d 67 112 lv [] (.inr (.inr (some a)) :: st) n I L P = mm_E d 67 115 lv [] (.inr (.inr (P a 8)) :: st) n I L P) ∧
  (∀ (st : List mm_V) z (l0 : mm_V) (l1 : mm_V) (l2 : mm_V) (l3 : mm_V), mm_E d 67 115 [l0, l1, l2, l3, (.inl z)] [] st n I L P = mm_E d 67 117 [l0, l1, l2, l3, (.inl z)] [] ((.inl z) :: st) n I L P) ∧
  (∀ (lv : List mm_V) (st : List mm_V) a i, (mm_ix n a 20 i) → mm_E d 67 117 lv [] (.inl i :: .inr (.inr (some a)) :: st) n I L P = mm_E d 67 118 lv [] (.inl (I a i.toNat) :: st) n I L P) ∧
  (∀ (st : List mm_V) z (l1 : mm_V) (l2 : mm_V) (l3 : mm_V) (l4 : mm_V), mm_E d 67 118 [(.inr (.inr z)), l1, l2, l3, l4] [] st n I L P = mm_E d 67 119 [(.inr (.inr z)), l1, l2, l3, l4] [] ((.inr (.inr z)) :: st) n I L P) ∧
  (∀ (st : List mm_V) z (l0 : mm_V) (l1 : mm_V) (l3 : mm_V) (l4 : mm_V), mm_E d 67 119 [l0, l1, (.inl z), l3, l4] [] st n I L P = mm_E d 67 120 [l0, l1, (.inl z), l3, l4] [] ((.inl z) :: st) n I L P) ∧
  (∀ (st : List mm_V) z (l0 : mm_V) (l2 : mm_V) (l3 : mm_V) (l4 : mm_V), mm_E d 67 120 [l0, (.inl z), l2, l3, l4] [] st n I L P = mm_E d 67 121 [l0, (.inl z), l2, l3, l4] [] ((.inl z) :: st) n I L P) ∧
  (∀ (lv : List mm_V) a x0 x1 w0 w1 w2, (mm_ok n a 9) → mm_E d 67 121 lv [] (.inl x1 :: .inl x0 :: .inr (.inr (some a)) :: [.inl w0, .inl w1, .inr (.inr w2)]) n I L P = mm_kr d 67 124 lv [] [.inl w0, .inl w1, .inr (.inr w2)] n (mm_rn d 64 [.inr (.inr (some a)), .inl x0, .inl x1] n I L P)) ∧
  (∀ (st : List mm_V) z (l1 : mm_V) (l2 : mm_V) (l3 : mm_V) (l4 : mm_V), mm_E d 67 124 [(.inr (.inr z)), l1, l2, l3, l4] [] st n I L P = mm_E d 67 125 [(.inr (.inr z)), l1, l2, l3, l4] [] ((.inr (.inr z)) :: st) n I L P) ∧
  (∀ (st : List mm_V) z (l0 : mm_V) (l2 : mm_V) (l3 : mm_V) (l4 : mm_V), mm_E d 67 125 [l0, (.inl z), l2, l3, l4] [] st n I L P = mm_E d 67 126 [l0, (.inl z), l2, l3, l4] [] ((.inl z) :: st) n I L P) ∧
  (∀ (st : List mm_V) z (l0 : mm_V) (l1 : mm_V) (l2 : mm_V) (l4 : mm_V), mm_E d 67 126 [l0, l1, l2, (.inl z), l4] [] st n I L P = mm_E d 67 127 [l0, l1, l2, (.inl z), l4] [] ((.inl z) :: st) n I L P) ∧
  (∀ (lv : List mm_V) a x0 x1 w0 w1 w2 w3, (mm_ok n a 9) → mm_E d 67 127 lv [] (.inl x1 :: .inl x0 :: .inr (.inr (some a)) :: [.inl w0, .inl w1, .inl w2, .inr (.inr w3)]) n I L P = mm_kr d 67 130 lv [] [.inl w0, .inl w1, .inl w2, .inr (.inr w3)] n (mm_rn d 64 [.inr (.inr (some a)), .inl x0, .inl x1] n I L P)) ∧
  (∀ (lv : List mm_V) (st : List mm_V) a b, mm_E d 67 130 lv [] (.inl b :: .inl a :: st) n I L P = mm_E d 67 131 lv [] (.inl (mm_add a b) :: st) n I L P) ∧
  (∀ (lv : List mm_V) x0 x1 w0 w1, mm_E d 67 131 lv [] (.inl x1 :: .inl x0 :: [.inl w0, .inr (.inr w1)]) n I L P = mm_kr d 67 134 lv [] [.inl w0, .inr (.inr w1)] n (mm_rn d 267 [.inl x0, .inl x1] n I L P)) ∧
  (∀ (lv : List mm_V) (st : List mm_V) a i z, (mm_ix n a 20 i) → mm_E d 67 134 lv [] (.inl z :: .inl i :: .inr (.inr (some a)) :: st) n I L P = mm_E d 67 135 lv [] st n (mm_ui I a i.toNat z) L P) ∧
  (∀ (st : List mm_V) z (l0 : mm_V) (l1 : mm_V) (l2 : mm_V) (l4 : mm_V), mm_E d 67 135 [l0, l1, l2, (.inl z), l4] [] st n I L P = mm_E d 67 138 [l0, l1, l2, (.inl (mm_add z 1)), l4] [] st n I L P) ∧
  (∀ (lv : List mm_V) (st : List mm_V), mm_E d 67 138 lv [] st n I L P = mm_E d 67 89 lv [] st n I L P) ∧
  (∀ (st : List mm_V) z (l0 : mm_V) (l1 : mm_V) (l3 : mm_V) (l4 : mm_V), mm_E d 67 141 [l0, l1, (.inl z), l3, l4] [] st n I L P = mm_E d 67 144 [l0, l1, (.inl (mm_add z 1)), l3, l4] [] st n I L P) ∧
  (∀ (lv : List mm_V) (st : List mm_V), mm_E d 67 144 lv [] st n I L P = mm_E d 67 79 lv [] st n I L P) ∧
  (∀ (st : List mm_V) z (l0 : mm_V) (l2 : mm_V) (l3 : mm_V) (l4 : mm_V), mm_E d 67 147 [l0, (.inl z), l2, l3, l4] [] st n I L P = mm_E d 67 150 [l0, (.inl (mm_add z 1)), l2, l3, l4] [] st n I L P) ∧
  (∀ (lv : List mm_V) (st : List mm_V), mm_E d 67 150 lv [] st n I L P = mm_E d 67 69 lv [] st n I L P) ∧
  (∀ (lv : List mm_V), mm_E d 67 153 lv [] [] n I L P = some (none, n, I, L, P)) :=
  ⟨fun _ _ => mq_push rfl,
   fun _ _ _ _ _ _ _ => mq_is (i := 1) rfl rfl rfl,
   fun _ _ _ _ _ _ => mq_al (i := 0) rfl rfl,
   fun _ _ _ h0 => mq_getI rfl h0,
   fun _ _ _ _ => mq_ic_ge rfl,
   fun _ _ => mq_push rfl,
   fun _ _ _ _ _ _ _ => mq_is (i := 2) rfl rfl rfl,
   fun _ _ _ _ _ _ => mq_al (i := 0) rfl rfl,
   fun _ _ _ h0 => mq_getI rfl h0,
   fun _ _ _ _ => mq_ic_ge rfl,
   fun _ _ _ _ _ _ => mq_al (i := 0) rfl rfl,
   fun _ _ _ h0 => mq_getR rfl h0,
   fun _ _ _ _ _ _ => mq_il (i := 1) rfl rfl,
   fun _ _ => mq_push rfl,
   fun _ _ _ _ => mq_bi rfl,
   fun _ _ _ _ _ _ => mq_il (i := 2) rfl rfl,
   fun _ _ _ _ => mq_bi rfl,
   fun _ _ _ _ _ _ => mq_il (i := 1) rfl rfl,
   fun _ _ _ _ _ _ => mq_il (i := 2) rfl rfl,
   fun _ _ _ _ => mq_ic_ne rfl,
   fun _ _ => mq_push rfl,
   fun _ _ => mq_go rfl,
   fun _ _ _ _ _ _ => mq_al (i := 0) rfl rfl,
   fun _ _ _ _ _ _ => mq_il (i := 1) rfl rfl,
   fun _ _ _ _ _ _ => mq_il (i := 2) rfl rfl,
   fun _ _ _ _ _ _ h0 => mq_cVr (na := 2) rfl rfl (Nat.le_of_ble_eq_true rfl) (Nat.le_of_ble_eq_true rfl) h0,
   fun _ _ _ => mq_if_eq rfl,
   fun _ _ => mq_push rfl,
   fun _ _ => mq_go rfl,
   fun _ _ => mq_push rfl,
   fun _ _ _ _ _ h0 => mq_iast rfl h0,
   fun _ _ _ _ _ _ => mq_iinc (i := 2) rfl rfl rfl rfl,
   fun _ _ => mq_go rfl,
   fun _ _ _ _ _ _ => mq_iinc (i := 1) rfl rfl rfl rfl,
   fun _ _ => mq_go rfl,
   fun _ _ => mq_push rfl,
   fun _ _ _ _ _ _ _ => mq_is (i := 1) rfl rfl rfl,
   fun _ _ _ _ _ _ => mq_al (i := 0) rfl rfl,
   fun _ _ _ h0 => mq_getI rfl h0,
   fun _ _ _ _ => mq_ic_ge rfl,
   fun _ _ => mq_push rfl,
   fun _ _ _ _ _ _ _ => mq_is (i := 2) rfl rfl rfl,
   fun _ _ _ _ _ _ => mq_al (i := 0) rfl rfl,
   fun _ _ _ h0 => mq_getI rfl h0,
   fun _ _ _ _ => mq_ic_ge rfl,
   fun _ _ => mq_push rfl,
   fun _ _ _ _ _ _ _ => mq_is (i := 3) rfl rfl rfl,
   fun _ _ _ _ _ _ => mq_al (i := 0) rfl rfl,
   fun _ _ _ h0 => mq_getI rfl h0,
   fun _ _ _ _ => mq_ic_ge rfl,
   fun _ _ _ _ _ _ => mq_il (i := 2) rfl rfl,
   fun _ _ => mq_push rfl,
   fun _ _ _ _ => mq_bi rfl,
   fun _ _ _ _ _ _ => mq_il (i := 3) rfl rfl,
   fun _ _ _ _ => mq_bi rfl,
   fun _ _ _ _ _ _ _ => mq_is (i := 4) rfl rfl rfl,
   fun _ _ _ _ _ _ => mq_al (i := 0) rfl rfl,
   fun _ _ _ h0 => mq_getR rfl h0,
   fun _ _ _ _ _ _ => mq_il (i := 4) rfl rfl,
   fun _ _ _ _ _ _ => mq_al (i := 0) rfl rfl,
   fun _ _ _ h0 => mq_getR rfl h0,
   fun _ _ _ _ _ _ => mq_il (i := 4) rfl rfl,
   fun _ _ _ _ h0 => mq_iald rfl h0,
   fun _ _ _ _ _ _ => mq_al (i := 0) rfl rfl,
   fun _ _ _ _ _ _ => mq_il (i := 2) rfl rfl,
   fun _ _ _ _ _ _ => mq_il (i := 1) rfl rfl,
   fun _ _ _ _ _ _ _ h0 => mq_cVr (na := 2) rfl rfl (Nat.le_of_ble_eq_true rfl) (Nat.le_of_ble_eq_true rfl) h0,
   fun _ _ _ _ _ _ => mq_al (i := 0) rfl rfl,
   fun _ _ _ _ _ _ => mq_il (i := 1) rfl rfl,
   fun _ _ _ _ _ _ => mq_il (i := 3) rfl rfl,
   fun _ _ _ _ _ _ _ _ h0 => mq_cVr (na := 2) rfl rfl (Nat.le_of_ble_eq_true rfl) (Nat.le_of_ble_eq_true rfl) h0,
   fun _ _ _ _ => mq_bi rfl,
   fun _ _ _ _ _ => mq_cSr (na := 2) rfl (Nat.le_of_ble_eq_true rfl) (Nat.le_of_ble_eq_true rfl),
   fun _ _ _ _ _ h0 => mq_iast rfl h0,
   fun _ _ _ _ _ _ => mq_iinc (i := 3) rfl rfl rfl rfl,
   fun _ _ => mq_go rfl,
   fun _ _ _ _ _ _ => mq_iinc (i := 2) rfl rfl rfl rfl,
   fun _ _ => mq_go rfl,
   fun _ _ _ _ _ _ => mq_iinc (i := 1) rfl rfl rfl rfl,
   fun _ _ => mq_go rfl,
   fun _ => mq_rv rfl⟩
theorem hX9_reckonWays_2 (d n : Nat) (I L : mm_I) (P : mm_P) : ∀ (st : List mm_V) z (l0 : mm_V) (l2 : mm_V) (l3 : mm_V) (l4 : mm_V), mm_E d 67 2 [l0, (.inl z), l2, l3, l4] [] st n I L P = mm_E d 67 3 [l0, (.inl z), l2, l3, l4] [] ((.inl z) :: st) n I L P := fun _ _ _ _ _ _ => mq_il (i := 1) rfl rfl
theorem hX9_reckonWays_12 (d n : Nat) (I L : mm_I) (P : mm_P) : ∀ (st : List mm_V) z (l0 : mm_V) (l1 : mm_V) (l3 : mm_V) (l4 : mm_V), mm_E d 67 12 [l0, l1, (.inl z), l3, l4] [] st n I L P = mm_E d 67 13 [l0, l1, (.inl z), l3, l4] [] ((.inl z) :: st) n I L P := fun _ _ _ _ _ _ => mq_il (i := 2) rfl rfl
theorem hX9_reckonWays_69 (d n : Nat) (I L : mm_I) (P : mm_P) : ∀ (st : List mm_V) z (l0 : mm_V) (l2 : mm_V) (l3 : mm_V) (l4 : mm_V), mm_E d 67 69 [l0, (.inl z), l2, l3, l4] [] st n I L P = mm_E d 67 70 [l0, (.inl z), l2, l3, l4] [] ((.inl z) :: st) n I L P := fun _ _ _ _ _ _ => mq_il (i := 1) rfl rfl
theorem hX9_reckonWays_79 (d n : Nat) (I L : mm_I) (P : mm_P) : ∀ (st : List mm_V) z (l0 : mm_V) (l1 : mm_V) (l3 : mm_V) (l4 : mm_V), mm_E d 67 79 [l0, l1, (.inl z), l3, l4] [] st n I L P = mm_E d 67 80 [l0, l1, (.inl z), l3, l4] [] ((.inl z) :: st) n I L P := fun _ _ _ _ _ _ => mq_il (i := 2) rfl rfl
theorem hX9_reckonWays_89 (d n : Nat) (I L : mm_I) (P : mm_P) : ∀ (st : List mm_V) z (l0 : mm_V) (l1 : mm_V) (l2 : mm_V) (l4 : mm_V), mm_E d 67 89 [l0, l1, l2, (.inl z), l4] [] st n I L P = mm_E d 67 90 [l0, l1, l2, (.inl z), l4] [] ((.inl z) :: st) n I L P := fun _ _ _ _ _ _ => mq_il (i := 3) rfl rfl
theorem eX9_reckonWays (d n : Nat) (I L : mm_I) (P : mm_P) (x0 : Option Nat) : mm_rn (d + 1) 67 [.inr (.inr x0)] n I L P = mm_E d 67 0 [.inr (.inr x0), mm_junk, mm_junk, mm_junk, mm_junk] [] [] n I L P := rfl

set_option maxRecDepth 20000 in
set_option maxHeartbeats 8000000 in
theorem kX9_reckonViews (d n : Nat) (I L : mm_I) (P : mm_P) :
  (∀ (lv : List mm_V) (st : List mm_V), mm_E d 68 0 lv [] st n I L P = mm_E d 68 1 lv [] (.inl 0 :: st) n I L P) ∧
  (∀ (st : List mm_V) z (l0 : mm_V) (l1 : mm_V) (l2 : mm_V), mm_E d 68 1 [l0, l1, l2] [] ((.inl z) :: st) n I L P = mm_E d 68 2 [l0, (.inl z), l2] [] st n I L P) ∧
  (∀ (st : List mm_V) z (l1 : mm_V) (l2 : mm_V), mm_E d 68 3 [(.inr (.inr z)), l1, l2] [] st n I L P = mm_E d 68 4 [(.inr (.inr z)), l1, l2] [] ((.inr (.inr z)) :: st) n I L P) ∧
  (∀ (lv : List mm_V) (st : List mm_V) a, (mm_ok n a 9) → mm_E d 68 4 lv [] (.inr (.inr (some a)) :: st) n I L P = mm_E d 68 7 lv [] (.inl (I a 0) :: st) n I L P) ∧
  (∀ (lv : List mm_V) (st : List mm_V) a b, mm_E d 68 7 lv [] (.inl b :: .inl a :: st) n I L P = if b ≤ a then mm_E d 68 64 lv [] st n I L P else mm_E d 68 10 lv [] st n I L P) ∧
  (∀ (st : List mm_V) z (l1 : mm_V) (l2 : mm_V), mm_E d 68 10 [(.inr (.inr z)), l1, l2] [] st n I L P = mm_E d 68 11 [(.inr (.inr z)), l1, l2] [] ((.inr (.inr z)) :: st) n I L P) ∧
  (∀ (lv : List mm_V) (st : List mm_V) a, (mm_ok n a 9) → mm_E d 68 11 lv [] (.inr (.inr (some a)) :: st) n I L P = mm_E d 68 14 lv [] (.inr (.inr (P a 7)) :: st) n I L P) ∧
  (∀ (st : List mm_V) z (l0 : mm_V) (l2 : mm_V), mm_E d 68 14 [l0, (.inl z), l2] [] st n I L P = mm_E d 68 15 [l0, (.inl z), l2] [] ((.inl z) :: st) n I L P) ∧
  (∀ (lv : List mm_V) (st : List mm_V), mm_E d 68 15 lv [] st n I L P = mm_E d 68 16 lv [] (.inl 0 :: st) n I L P) ∧
  (∀ (lv : List mm_V) (st : List mm_V) a i z, (mm_ix n a 20 i) → mm_E d 68 16 lv [] (.inl z :: .inl i :: .inr (.inr (some a)) :: st) n I L P = mm_E d 68 17 lv [] st n (mm_ui I a i.toNat z) L P) ∧
  (∀ (lv : List mm_V) (st : List mm_V), mm_E d 68 17 lv [] st n I L P = mm_E d 68 18 lv [] (.inl 0 :: st) n I L P) ∧
  (∀ (st : List mm_V) z (l0 : mm_V) (l1 : mm_V) (l2 : mm_V), mm_E d 68 18 [l0, l1, l2] [] ((.inl z) :: st) n I L P = mm_E d 68 19 [l0, l1, (.inl z)] [] st n I L P) ∧
  (∀ (st : List mm_V) z (l1 : mm_V) (l2 : mm_V), mm_E d 68 20 [(.inr (.inr z)), l1, l2] [] st n I L P = mm_E d 68 21 [(.inr (.inr z)), l1, l2] [] ((.inr (.inr z)) :: st) n I L P) ∧
  (∀ (lv : List mm_V) (st : List mm_V) a, (mm_ok n a 9) → mm_E d 68 21 lv [] (.inr (.inr (some a)) :: st) n I L P = mm_E d 68 24 lv [] (.inl (I a 0) :: st) n I L P) ∧
  (∀ (lv : List mm_V) (st : List mm_V) a b, mm_E d 68 24 lv [] (.inl b :: .inl a :: st) n I L P = if b ≤ a then mm_E d 68 58 lv [] st n I L P else mm_E d 68 27 lv [] st n I L P) ∧
  (∀ (st : List mm_V) z (l1 : mm_V) (l2 : mm_V), mm_E d 68 27 [(.inr (.inr z)), l1, l2] [] st n I L P = mm_E d 68 28 [(.inr (.inr z)), l1, l2] [] ((.inr (.inr z)) :: st) n I L P) ∧
  (∀ (st : List mm_V) z (l0 : mm_V) (l2 : mm_V), mm_E d 68 28 [l0, (.inl z), l2] [] st n I L P = mm_E d 68 29 [l0, (.inl z), l2] [] ((.inl z) :: st) n I L P) ∧
  (∀ (st : List mm_V) z (l0 : mm_V) (l1 : mm_V), mm_E d 68 29 [l0, l1, (.inl z)] [] st n I L P = mm_E d 68 30 [l0, l1, (.inl z)] [] ((.inl z) :: st) n I L P) ∧
  (∀ (lv : List mm_V) a x0 x1, (mm_ok n a 9) → mm_E d 68 30 lv [] (.inl x1 :: .inl x0 :: .inr (.inr (some a)) :: []) n I L P = mm_kr d 68 33 lv [] [] n (mm_rn d 64 [.inr (.inr (some a)), .inl x0, .inl x1] n I L P)) ∧
  (∀ (st : List mm_V) z (l1 : mm_V) (l2 : mm_V), mm_E d 68 33 [(.inr (.inr z)), l1, l2] [] st n I L P = mm_E d 68 34 [(.inr (.inr z)), l1, l2] [] ((.inr (.inr z)) :: st) n I L P) ∧
  (∀ (lv : List mm_V) (st : List mm_V) a, (mm_ok n a 9) → mm_E d 68 34 lv [] (.inr (.inr (some a)) :: st) n I L P = mm_E d 68 37 lv [] (.inl (I a 2) :: st) n I L P) ∧
  (∀ (lv : List mm_V) (st : List mm_V) a b, mm_E d 68 37 lv [] (.inl b :: .inl a :: st) n I L P = if b < a then mm_E d 68 52 lv [] st n I L P else mm_E d 68 40 lv [] st n I L P) ∧
  (∀ (st : List mm_V) z (l1 : mm_V) (l2 : mm_V), mm_E d 68 40 [(.inr (.inr z)), l1, l2] [] st n I L P = mm_E d 68 41 [(.inr (.inr z)), l1, l2] [] ((.inr (.inr z)) :: st) n I L P) ∧
  (∀ (lv : List mm_V) (st : List mm_V) a, (mm_ok n a 9) → mm_E d 68 41 lv [] (.inr (.inr (some a)) :: st) n I L P = mm_E d 68 44 lv [] (.inr (.inr (P a 7)) :: st) n I L P) ∧
  (∀ (st : List mm_V) z (l0 : mm_V) (l2 : mm_V), mm_E d 68 44 [l0, (.inl z), l2] [] st n I L P = mm_E d 68 45 [l0, (.inl z), l2] [] ((.inl z) :: st) n I L P) ∧
  (∀ (lv : List mm_V) (st : List mm_V) a b, mm_E d 68 45 lv [] ((.inl a) :: (.inr (.inr b)) :: st) n I L P = mm_E d 68 46 lv [] ((.inl a) :: (.inr (.inr b)) :: (.inl a) :: (.inr (.inr b)) :: st) n I L P) ∧
  (∀ (lv : List mm_V) (st : List mm_V) a i, (mm_ix n a 20 i) → mm_E d 68 46 lv [] (.inl i :: .inr (.inr (some a)) :: st) n I L P = mm_E d 68 47 lv [] (.inl (I a i.toNat) :: st) n I L P) ∧
  (∀ (lv : List mm_V) (st : List mm_V), mm_E d 68 47 lv [] st n I L P = mm_E d 68 48 lv [] (.inl 1 :: st) n I L P) ∧
  (∀ (st : List mm_V) z (l0 : mm_V) (l1 : mm_V), mm_E d 68 48 [l0, l1, (.inl z)] [] st n I L P = mm_E d 68 49 [l0, l1, (.inl z)] [] ((.inl z) :: st) n I L P) ∧
  (∀ (lv : List mm_V) (st : List mm_V) a b, mm_E d 68 49 lv [] (.inl b :: .inl a :: st) n I L P = mm_E d 68 50 lv [] (.inl (mm_shl a b) :: st) n I L P) ∧
  (∀ (lv : List mm_V) (st : List mm_V) a b, mm_E d 68 50 lv [] (.inl b :: .inl a :: st) n I L P = mm_E d 68 51 lv [] (.inl (mm_or a b) :: st) n I L P) ∧
  (∀ (lv : List mm_V) (st : List mm_V) a i z, (mm_ix n a 20 i) → mm_E d 68 51 lv [] (.inl z :: .inl i :: .inr (.inr (some a)) :: st) n I L P = mm_E d 68 52 lv [] st n (mm_ui I a i.toNat z) L P) ∧
  (∀ (st : List mm_V) z (l0 : mm_V) (l1 : mm_V), mm_E d 68 52 [l0, l1, (.inl z)] [] st n I L P = mm_E d 68 55 [l0, l1, (.inl (mm_add z 1))] [] st n I L P) ∧
  (∀ (lv : List mm_V) (st : List mm_V), mm_E d 68 55 lv [] st n I L P = mm_E d 68 19 lv [] st n I L P) ∧
  (∀ (st : List mm_V) z (l0 : mm_V) (l2 : mm_V), mm_E d 68 58 [l0, (.inl z), l2] [] st n I L P = mm_E d 68 61 [l0, (.inl (mm_add z 1)), l2] [] st n I L P) ∧
  (∀ (lv : List mm_V) (st : List mm_V), mm_E d 68 61 lv [] st n I L P = mm_E d 68 2 lv [] st n I L P) ∧
  (∀ (lv : List mm_V), mm_E d 68 64 lv [] [] n I L P = some (none, n, I, L, P)) :=
  ⟨fun _ _ => mq_push rfl,
   fun _ _ _ _ _ => mq_is (i := 1) rfl rfl rfl,
   fun _ _ _ _ => mq_al (i := 0) rfl rfl,
   fun _ _ _ h0 => mq_getI rfl h0,
   fun _ _ _ _ => mq_ic_ge rfl,
   fun _ _ _ _ => mq_al (i := 0) rfl rfl,
   fun _ _ _ h0 => mq_getR rfl h0,
   fun _ _ _ _ => mq_il (i := 1) rfl rfl,
   fun _ _ => mq_push rfl,
   fun _ _ _ _ _ h0 => mq_iast rfl h0,
   fun _ _ => mq_push rfl,
   fun _ _ _ _ _ => mq_is (i := 2) rfl rfl rfl,
   fun _ _ _ _ => mq_al (i := 0) rfl rfl,
   fun _ _ _ h0 => mq_getI rfl h0,
   fun _ _ _ _ => mq_ic_ge rfl,
   fun _ _ _ _ => mq_al (i := 0) rfl rfl,
   fun _ _ _ _ => mq_il (i := 1) rfl rfl,
   fun _ _ _ _ => mq_il (i := 2) rfl rfl,
   fun _ _ _ _ h0 => mq_cVr (na := 2) rfl rfl (Nat.le_of_ble_eq_true rfl) (Nat.le_of_ble_eq_true rfl) h0,
   fun _ _ _ _ => mq_al (i := 0) rfl rfl,
   fun _ _ _ h0 => mq_getI rfl h0,
   fun _ _ _ _ => mq_ic_gt rfl,
   fun _ _ _ _ => mq_al (i := 0) rfl rfl,
   fun _ _ _ h0 => mq_getR rfl h0,
   fun _ _ _ _ => mq_il (i := 1) rfl rfl,
   fun _ _ _ _ => mq_dup2 rfl rfl rfl,
   fun _ _ _ _ h0 => mq_iald rfl h0,
   fun _ _ => mq_push rfl,
   fun _ _ _ _ => mq_il (i := 2) rfl rfl,
   fun _ _ _ _ => mq_bi rfl,
   fun _ _ _ _ => mq_bi rfl,
   fun _ _ _ _ _ h0 => mq_iast rfl h0,
   fun _ _ _ _ => mq_iinc (i := 2) rfl rfl rfl rfl,
   fun _ _ => mq_go rfl,
   fun _ _ _ _ => mq_iinc (i := 1) rfl rfl rfl rfl,
   fun _ _ => mq_go rfl,
   fun _ => mq_rv rfl⟩
theorem hX9_reckonViews_2 (d n : Nat) (I L : mm_I) (P : mm_P) : ∀ (st : List mm_V) z (l0 : mm_V) (l2 : mm_V), mm_E d 68 2 [l0, (.inl z), l2] [] st n I L P = mm_E d 68 3 [l0, (.inl z), l2] [] ((.inl z) :: st) n I L P := fun _ _ _ _ => mq_il (i := 1) rfl rfl
theorem hX9_reckonViews_19 (d n : Nat) (I L : mm_I) (P : mm_P) : ∀ (st : List mm_V) z (l0 : mm_V) (l1 : mm_V), mm_E d 68 19 [l0, l1, (.inl z)] [] st n I L P = mm_E d 68 20 [l0, l1, (.inl z)] [] ((.inl z) :: st) n I L P := fun _ _ _ _ => mq_il (i := 2) rfl rfl
theorem eX9_reckonViews (d n : Nat) (I L : mm_I) (P : mm_P) (x0 : Option Nat) : mm_rn (d + 1) 68 [.inr (.inr x0)] n I L P = mm_E d 68 0 [.inr (.inr x0), mm_junk, mm_junk] [] [] n I L P := rfl

set_option maxRecDepth 20000 in
set_option maxHeartbeats 8000000 in
theorem kX9_viewFrom (d n : Nat) (I L : mm_I) (P : mm_P) :
  (∀ (lv : List mm_V) (st : List mm_V), mm_E d 69 0 lv [] st n I L P = mm_E d 69 1 lv [] (.inl 0 :: st) n I L P) ∧
  (∀ (st : List mm_V) z (l0 : mm_V) (l1 : mm_V) (l2 : mm_V) (l3 : mm_V), mm_E d 69 1 [l0, l1, l2, l3] [] ((.inl z) :: st) n I L P = mm_E d 69 2 [l0, l1, (.inl z), l3] [] st n I L P) ∧
  (∀ (lv : List mm_V) (st : List mm_V), mm_E d 69 2 lv [] st n I L P = mm_E d 69 3 lv [] (.inl 0 :: st) n I L P) ∧
  (∀ (st : List mm_V) z (l0 : mm_V) (l1 : mm_V) (l2 : mm_V) (l3 : mm_V), mm_E d 69 3 [l0, l1, l2, l3] [] ((.inl z) :: st) n I L P = mm_E d 69 4 [l0, l1, l2, (.inl z)] [] st n I L P) ∧
  (∀ (st : List mm_V) z (l1 : mm_V) (l2 : mm_V) (l3 : mm_V), mm_E d 69 5 [(.inr (.inr z)), l1, l2, l3] [] st n I L P = mm_E d 69 6 [(.inr (.inr z)), l1, l2, l3] [] ((.inr (.inr z)) :: st) n I L P) ∧
  (∀ (lv : List mm_V) (st : List mm_V) a, (mm_ok n a 9) → mm_E d 69 6 lv [] (.inr (.inr (some a)) :: st) n I L P = mm_E d 69 9 lv [] (.inl (I a 0) :: st) n I L P) ∧
  (∀ (lv : List mm_V) (st : List mm_V) a b, mm_E d 69 9 lv [] (.inl b :: .inl a :: st) n I L P = if b ≤ a then mm_E d 69 36 lv [] st n I L P else mm_E d 69 12 lv [] st n I L P) ∧
  (∀ (st : List mm_V) z (l0 : mm_V) (l2 : mm_V) (l3 : mm_V), mm_E d 69 12 [l0, (.inl z), l2, l3] [] st n I L P = mm_E d 69 13 [l0, (.inl z), l2, l3] [] ((.inl z) :: st) n I L P) ∧
  (∀ (st : List mm_V) z (l0 : mm_V) (l1 : mm_V) (l2 : mm_V), mm_E d 69 13 [l0, l1, l2, (.inl z)] [] st n I L P = mm_E d 69 14 [l0, l1, l2, (.inl z)] [] ((.inl z) :: st) n I L P) ∧
  (∀ (lv : List mm_V) (st : List mm_V) a b, mm_E d 69 14 lv [] (.inl b :: .inl a :: st) n I L P = mm_E d 69 15 lv [] (.inl (mm_shr a b) :: st) n I L P) ∧
  (∀ (lv : List mm_V) (st : List mm_V), mm_E d 69 15 lv [] st n I L P = mm_E d 69 16 lv [] (.inl 1 :: st) n I L P) ∧
  (∀ (lv : List mm_V) (st : List mm_V) a b, mm_E d 69 16 lv [] (.inl b :: .inl a :: st) n I L P = mm_E d 69 17 lv [] (.inl (mm_and a b) :: st) n I L P) ∧
  (∀ (lv : List mm_V) (st : List mm_V), mm_E d 69 17 lv [] st n I L P = mm_E d 69 18 lv [] (.inl 1 :: st) n I L P) ∧
  (∀ (lv : List mm_V) (st : List mm_V) a b, mm_E d 69 18 lv [] (.inl b :: .inl a :: st) n I L P = if a = b then mm_E d 69 21 lv [] st n I L P else mm_E d 69 30 lv [] st n I L P) ∧
  (∀ (st : List mm_V) z (l0 : mm_V) (l1 : mm_V) (l3 : mm_V), mm_E d 69 21 [l0, l1, (.inl z), l3] [] st n I L P = mm_E d 69 22 [l0, l1, (.inl z), l3] [] ((.inl z) :: st) n I L P) ∧
  (∀ (st : List mm_V) z (l1 : mm_V) (l2 : mm_V) (l3 : mm_V), mm_E d 69 22 [(.inr (.inr z)), l1, l2, l3] [] st n I L P = mm_E d 69 23 [(.inr (.inr z)), l1, l2, l3] [] ((.inr (.inr z)) :: st) n I L P) ∧
  (∀ (lv : List mm_V) (st : List mm_V) a, (mm_ok n a 9) → mm_E d 69 23 lv [] (.inr (.inr (some a)) :: st) n I L P = mm_E d 69 26 lv [] (.inr (.inr (P a 7)) :: st) n I L P) ∧
  (∀ (st : List mm_V) z (l0 : mm_V) (l1 : mm_V) (l2 : mm_V), mm_E d 69 26 [l0, l1, l2, (.inl z)] [] st n I L P = mm_E d 69 27 [l0, l1, l2, (.inl z)] [] ((.inl z) :: st) n I L P) ∧
  (∀ (lv : List mm_V) (st : List mm_V) a i, (mm_ix n a 20 i) → mm_E d 69 27 lv [] (.inl i :: .inr (.inr (some a)) :: st) n I L P = mm_E d 69 28 lv [] (.inl (I a i.toNat) :: st) n I L P) ∧
  (∀ (lv : List mm_V) (st : List mm_V) a b, mm_E d 69 28 lv [] (.inl b :: .inl a :: st) n I L P = mm_E d 69 29 lv [] (.inl (mm_or a b) :: st) n I L P) ∧
  (∀ (st : List mm_V) z (l0 : mm_V) (l1 : mm_V) (l2 : mm_V) (l3 : mm_V), mm_E d 69 29 [l0, l1, l2, l3] [] ((.inl z) :: st) n I L P = mm_E d 69 30 [l0, l1, (.inl z), l3] [] st n I L P) ∧
  (∀ (st : List mm_V) z (l0 : mm_V) (l1 : mm_V) (l2 : mm_V), mm_E d 69 30 [l0, l1, l2, (.inl z)] [] st n I L P = mm_E d 69 33 [l0, l1, l2, (.inl (mm_add z 1))] [] st n I L P) ∧
  (∀ (lv : List mm_V) (st : List mm_V), mm_E d 69 33 lv [] st n I L P = mm_E d 69 4 lv [] st n I L P) ∧
  (∀ (st : List mm_V) z (l0 : mm_V) (l1 : mm_V) (l3 : mm_V), mm_E d 69 36 [l0, l1, (.inl z), l3] [] st n I L P = mm_E d 69 37 [l0, l1, (.inl z), l3] [] ((.inl z) :: st) n I L P) ∧
  (∀ (lv : List mm_V) z, mm_E d 69 37 lv [] [.inl z] n I L P = some (some (.inl z), n, I, L, P)) :=
  ⟨fun _ _ => mq_push rfl,
   fun _ _ _ _ _ _ => mq_is (i := 2) rfl rfl rfl,
   fun _ _ => mq_push rfl,
   fun _ _ _ _ _ _ => mq_is (i := 3) rfl rfl rfl,
   fun _ _ _ _ _ => mq_al (i := 0) rfl rfl,
   fun _ _ _ h0 => mq_getI rfl h0,
   fun _ _ _ _ => mq_ic_ge rfl,
   fun _ _ _ _ _ => mq_il (i := 1) rfl rfl,
   fun _ _ _ _ _ => mq_il (i := 3) rfl rfl,
   fun _ _ _ _ => mq_bi rfl,
   fun _ _ => mq_push rfl,
   fun _ _ _ _ => mq_bi rfl,
   fun _ _ => mq_push rfl,
   fun _ _ _ _ => mq_ic_ne rfl,
   fun _ _ _ _ _ => mq_il (i := 2) rfl rfl,
   fun _ _ _ _ _ => mq_al (i := 0) rfl rfl,
   fun _ _ _ h0 => mq_getR rfl h0,
   fun _ _ _ _ _ => mq_il (i := 3) rfl rfl,
   fun _ _ _ _ h0 => mq_iald rfl h0,
   fun _ _ _ _ => mq_bi rfl,
   fun _ _ _ _ _ _ => mq_is (i := 2) rfl rfl rfl,
   fun _ _ _ _ _ => mq_iinc (i := 3) rfl rfl rfl rfl,
   fun _ _ => mq_go rfl,
   fun _ _ _ _ _ => mq_il (i := 2) rfl rfl,
   fun _ _ => mq_ri rfl⟩
theorem hX9_viewFrom_4 (d n : Nat) (I L : mm_I) (P : mm_P) : ∀ (st : List mm_V) z (l0 : mm_V) (l1 : mm_V) (l2 : mm_V), mm_E d 69 4 [l0, l1, l2, (.inl z)] [] st n I L P = mm_E d 69 5 [l0, l1, l2, (.inl z)] [] ((.inl z) :: st) n I L P := fun _ _ _ _ _ => mq_il (i := 3) rfl rfl
theorem eX9_viewFrom (d n : Nat) (I L : mm_I) (P : mm_P) (x0 : Option Nat) (x1 : Int) : mm_rn (d + 1) 69 [.inr (.inr x0), .inl x1] n I L P = mm_E d 69 0 [.inr (.inr x0), .inl x1, mm_junk, mm_junk] [] [] n I L P := rfl

set_option maxRecDepth 20000 in
set_option maxHeartbeats 8000000 in
theorem kX9_parts (d n : Nat) (I L : mm_I) (P : mm_P) :
  (∀ (lv : List mm_V) (st : List mm_V), mm_E d 70 0 lv [] st n I L P = mm_E d 70 1 lv [] (.inl 0 :: st) n I L P) ∧
  (∀ (st : List mm_V) z (l0 : mm_V) (l1 : mm_V) (l2 : mm_V) (l3 : mm_V) (l4 : mm_V), mm_E d 70 1 [l0, l1, l2, l3, l4] [] ((.inl z) :: st) n I L P = mm_E d 70 2 [l0, (.inl z), l2, l3, l4] [] st n I L P) ∧
  (∀ (lv : List mm_V) (st : List mm_V), mm_E d 70 2 lv [] st n I L P = mm_E d 70 3 lv [] (.inl 0 :: st) n I L P) ∧
  (∀ (st : List mm_V) z (l0 : mm_V) (l1 : mm_V) (l2 : mm_V) (l3 : mm_V) (l4 : mm_V), mm_E d 70 3 [l0, l1, l2, l3, l4] [] ((.inl z) :: st) n I L P = mm_E d 70 4 [l0, l1, (.inl z), l3, l4] [] st n I L P) ∧
  (∀ (st : List mm_V) z (l1 : mm_V) (l2 : mm_V) (l3 : mm_V) (l4 : mm_V), mm_E d 70 5 [(.inr (.inr z)), l1, l2, l3, l4] [] st n I L P = mm_E d 70 6 [(.inr (.inr z)), l1, l2, l3, l4] [] ((.inr (.inr z)) :: st) n I L P) ∧
  (∀ (lv : List mm_V) (st : List mm_V) a, (mm_ok n a 9) → mm_E d 70 6 lv [] (.inr (.inr (some a)) :: st) n I L P = mm_E d 70 9 lv [] (.inl (I a 0) :: st) n I L P) ∧
  (∀ (lv : List mm_V) (st : List mm_V) a b, mm_E d 70 9 lv [] (.inl b :: .inl a :: st) n I L P = if b ≤ a then mm_E d 70 56 lv [] st n I L P else mm_E d 70 12 lv [] st n I L P) ∧
  (∀ (lv : List mm_V) (st : List mm_V), mm_E d 70 12 lv [] st n I L P = mm_E d 70 13 lv [] (.inl 1 :: st) n I L P) ∧
  (∀ (st : List mm_V) z (l0 : mm_V) (l1 : mm_V) (l2 : mm_V) (l3 : mm_V) (l4 : mm_V), mm_E d 70 13 [l0, l1, l2, l3, l4] [] ((.inl z) :: st) n I L P = mm_E d 70 14 [l0, l1, l2, (.inl z), l4] [] st n I L P) ∧
  (∀ (lv : List mm_V) (st : List mm_V), mm_E d 70 14 lv [] st n I L P = mm_E d 70 15 lv [] (.inl 0 :: st) n I L P) ∧
  (∀ (st : List mm_V) z (l0 : mm_V) (l1 : mm_V) (l2 : mm_V) (l3 : mm_V) (l4 : mm_V), mm_E d 70 15 [l0, l1, l2, l3, l4] [] ((.inl z) :: st) n I L P = mm_E d 70 17 [l0, l1, l2, l3, (.inl z)] [] st n I L P) ∧
  (∀ (st : List mm_V) z (l0 : mm_V) (l1 : mm_V) (l3 : mm_V) (l4 : mm_V), mm_E d 70 19 [l0, l1, (.inl z), l3, l4] [] st n I L P = mm_E d 70 20 [l0, l1, (.inl z), l3, l4] [] ((.inl z) :: st) n I L P) ∧
  (∀ (lv : List mm_V) (st : List mm_V) a b, mm_E d 70 20 lv [] (.inl b :: .inl a :: st) n I L P = if b ≤ a then mm_E d 70 43 lv [] st n I L P else mm_E d 70 23 lv [] st n I L P) ∧
  (∀ (st : List mm_V) z (l1 : mm_V) (l2 : mm_V) (l3 : mm_V) (l4 : mm_V), mm_E d 70 23 [(.inr (.inr z)), l1, l2, l3, l4] [] st n I L P = mm_E d 70 24 [(.inr (.inr z)), l1, l2, l3, l4] [] ((.inr (.inr z)) :: st) n I L P) ∧
  (∀ (st : List mm_V) z (l0 : mm_V) (l1 : mm_V) (l2 : mm_V) (l3 : mm_V), mm_E d 70 24 [l0, l1, l2, l3, (.inl z)] [] st n I L P = mm_E d 70 26 [l0, l1, l2, l3, (.inl z)] [] ((.inl z) :: st) n I L P) ∧
  (∀ (st : List mm_V) z (l0 : mm_V) (l1 : mm_V) (l3 : mm_V) (l4 : mm_V), mm_E d 70 26 [l0, l1, (.inl z), l3, l4] [] st n I L P = mm_E d 70 27 [l0, l1, (.inl z), l3, l4] [] ((.inl z) :: st) n I L P) ∧
  (∀ (lv : List mm_V) a x0 x1, (mm_ok n a 9) → mm_E d 70 27 lv [] (.inl x1 :: .inl x0 :: .inr (.inr (some a)) :: []) n I L P = mm_kr d 70 30 lv [] [] n (mm_rn d 64 [.inr (.inr (some a)), .inl x0, .inl x1] n I L P)) ∧
  (∀ (lv : List mm_V) (st : List mm_V), mm_E d 70 30 lv [] st n I L P = mm_E d 70 32 lv [] (.inl 99 :: st) n I L P) ∧
  (∀ (lv : List mm_V) (st : List mm_V) a b, mm_E d 70 32 lv [] (.inl b :: .inl a :: st) n I L P = if b ≤ a then mm_E d 70 37 lv [] st n I L P else mm_E d 70 35 lv [] st n I L P) ∧
  (∀ (lv : List mm_V) (st : List mm_V), mm_E d 70 35 lv [] st n I L P = mm_E d 70 36 lv [] (.inl 0 :: st) n I L P) ∧
  (∀ (st : List mm_V) z (l0 : mm_V) (l1 : mm_V) (l2 : mm_V) (l3 : mm_V) (l4 : mm_V), mm_E d 70 36 [l0, l1, l2, l3, l4] [] ((.inl z) :: st) n I L P = mm_E d 70 37 [l0, l1, l2, (.inl z), l4] [] st n I L P) ∧
  (∀ (st : List mm_V) z (l0 : mm_V) (l1 : mm_V) (l2 : mm_V) (l3 : mm_V), mm_E d 70 37 [l0, l1, l2, l3, (.inl z)] [] st n I L P = mm_E d 70 40 [l0, l1, l2, l3, (.inl (mm_add z 1))] [] st n I L P) ∧
  (∀ (lv : List mm_V) (st : List mm_V), mm_E d 70 40 lv [] st n I L P = mm_E d 70 17 lv [] st n I L P) ∧
  (∀ (st : List mm_V) z (l0 : mm_V) (l1 : mm_V) (l2 : mm_V) (l4 : mm_V), mm_E d 70 43 [l0, l1, l2, (.inl z), l4] [] st n I L P = mm_E d 70 44 [l0, l1, l2, (.inl z), l4] [] ((.inl z) :: st) n I L P) ∧
  (∀ (lv : List mm_V) (st : List mm_V) a, mm_E d 70 44 lv [] (.inl a :: st) n I L P = if a = 0 then mm_E d 70 50 lv [] st n I L P else mm_E d 70 47 lv [] st n I L P) ∧
  (∀ (st : List mm_V) z (l0 : mm_V) (l2 : mm_V) (l3 : mm_V) (l4 : mm_V), mm_E d 70 47 [l0, (.inl z), l2, l3, l4] [] st n I L P = mm_E d 70 50 [l0, (.inl (mm_add z 1)), l2, l3, l4] [] st n I L P) ∧
  (∀ (st : List mm_V) z (l0 : mm_V) (l1 : mm_V) (l3 : mm_V) (l4 : mm_V), mm_E d 70 50 [l0, l1, (.inl z), l3, l4] [] st n I L P = mm_E d 70 53 [l0, l1, (.inl (mm_add z 1)), l3, l4] [] st n I L P) ∧
  (∀ (lv : List mm_V) (st : List mm_V), mm_E d 70 53 lv [] st n I L P = mm_E d 70 4 lv [] st n I L P) ∧
  (∀ (st : List mm_V) z (l0 : mm_V) (l2 : mm_V) (l3 : mm_V) (l4 : mm_V), mm_E d 70 56 [l0, (.inl z), l2, l3, l4] [] st n I L P = mm_E d 70 57 [l0, (.inl z), l2, l3, l4] [] ((.inl z) :: st) n I L P) ∧
  (∀ (lv : List mm_V) z, mm_E d 70 57 lv [] [.inl z] n I L P = some (some (.inl z), n, I, L, P)) :=
  ⟨fun _ _ => mq_push rfl,
   fun _ _ _ _ _ _ _ => mq_is (i := 1) rfl rfl rfl,
   fun _ _ => mq_push rfl,
   fun _ _ _ _ _ _ _ => mq_is (i := 2) rfl rfl rfl,
   fun _ _ _ _ _ _ => mq_al (i := 0) rfl rfl,
   fun _ _ _ h0 => mq_getI rfl h0,
   fun _ _ _ _ => mq_ic_ge rfl,
   fun _ _ => mq_push rfl,
   fun _ _ _ _ _ _ _ => mq_is (i := 3) rfl rfl rfl,
   fun _ _ => mq_push rfl,
   fun _ _ _ _ _ _ _ => mq_is (i := 4) rfl rfl rfl,
   fun _ _ _ _ _ _ => mq_il (i := 2) rfl rfl,
   fun _ _ _ _ => mq_ic_ge rfl,
   fun _ _ _ _ _ _ => mq_al (i := 0) rfl rfl,
   fun _ _ _ _ _ _ => mq_il (i := 4) rfl rfl,
   fun _ _ _ _ _ _ => mq_il (i := 2) rfl rfl,
   fun _ _ _ _ h0 => mq_cVr (na := 2) rfl rfl (Nat.le_of_ble_eq_true rfl) (Nat.le_of_ble_eq_true rfl) h0,
   fun _ _ => mq_push rfl,
   fun _ _ _ _ => mq_ic_ge rfl,
   fun _ _ => mq_push rfl,
   fun _ _ _ _ _ _ _ => mq_is (i := 3) rfl rfl rfl,
   fun _ _ _ _ _ _ => mq_iinc (i := 4) rfl rfl rfl rfl,
   fun _ _ => mq_go rfl,
   fun _ _ _ _ _ _ => mq_il (i := 3) rfl rfl,
   fun _ _ _ => mq_if_eq rfl,
   fun _ _ _ _ _ _ => mq_iinc (i := 1) rfl rfl rfl rfl,
   fun _ _ _ _ _ _ => mq_iinc (i := 2) rfl rfl rfl rfl,
   fun _ _ => mq_go rfl,
   fun _ _ _ _ _ _ => mq_il (i := 1) rfl rfl,
   fun _ _ => mq_ri rfl⟩
theorem hX9_parts_4 (d n : Nat) (I L : mm_I) (P : mm_P) : ∀ (st : List mm_V) z (l0 : mm_V) (l1 : mm_V) (l3 : mm_V) (l4 : mm_V), mm_E d 70 4 [l0, l1, (.inl z), l3, l4] [] st n I L P = mm_E d 70 5 [l0, l1, (.inl z), l3, l4] [] ((.inl z) :: st) n I L P := fun _ _ _ _ _ _ => mq_il (i := 2) rfl rfl
theorem hX9_parts_17 (d n : Nat) (I L : mm_I) (P : mm_P) : ∀ (st : List mm_V) z (l0 : mm_V) (l1 : mm_V) (l2 : mm_V) (l3 : mm_V), mm_E d 70 17 [l0, l1, l2, l3, (.inl z)] [] st n I L P = mm_E d 70 19 [l0, l1, l2, l3, (.inl z)] [] ((.inl z) :: st) n I L P := fun _ _ _ _ _ _ => mq_il (i := 4) rfl rfl
theorem eX9_parts (d n : Nat) (I L : mm_I) (P : mm_P) (x0 : Option Nat) : mm_rn (d + 1) 70 [.inr (.inr x0)] n I L P = mm_E d 70 0 [.inr (.inr x0), mm_junk, mm_junk, mm_junk, mm_junk] [] [] n I L P := rfl

set_option maxRecDepth 20000 in
set_option maxHeartbeats 8000000 in
theorem kX10_init (d n : Nat) (I L : mm_I) (P : mm_P) :
  (∀ (st : List mm_V) z, mm_E d 71 0 [(.inr (.inr z))] [] st n I L P = mm_E d 71 1 [(.inr (.inr z))] [] ((.inr (.inr z)) :: st) n I L P) ∧
  (∀ (lv : List mm_V) a, (a < n) → mm_E d 71 1 lv [] (.inr (.inr (some a)) :: []) n I L P = mm_E d 71 4 lv [] [] n I L P) ∧
  (∀ (st : List mm_V) z, mm_E d 71 4 [(.inr (.inr z))] [] st n I L P = mm_E d 71 5 [(.inr (.inr z))] [] ((.inr (.inr z)) :: st) n I L P) ∧
  (∀ (lv : List mm_V) (st : List mm_V), mm_E d 71 5 lv [] st n I L P = mm_E d 71 7 lv [] (.inl 7 :: st) n I L P) ∧
  (∀ (lv : List mm_V) (st : List mm_V) z, (n < mm_NC ∧ mm_ty n = (20, z.toNat) ∧ 0 ≤ z) → mm_E d 71 7 lv [] (.inl z :: st) n I L P = mm_E d 71 9 lv [] (.inr (.inr (some n)) :: st) (n + 1) (mm_zi I n) (mm_zi L n) (mm_zp P n)) ∧
  (∀ (lv : List mm_V) (st : List mm_V) a z, (mm_ok n a 10) → mm_E d 71 9 lv [] (.inr (.inr z) :: .inr (.inr (some a)) :: st) n I L P = mm_E d 71 12 lv [] st n I L (mm_up P a 0 z)) ∧
  (∀ (st : List mm_V) z, mm_E d 71 12 [(.inr (.inr z))] [] st n I L P = mm_E d 71 13 [(.inr (.inr z))] [] ((.inr (.inr z)) :: st) n I L P) ∧
  (∀ (lv : List mm_V) (st : List mm_V), mm_E d 71 13 lv [] st n I L P = mm_E d 71 15 lv [] (.inl 12 :: st) n I L P) ∧
  (∀ (lv : List mm_V) (st : List mm_V) z, (n < mm_NC ∧ mm_ty n = (20, z.toNat) ∧ 0 ≤ z) → mm_E d 71 15 lv [] (.inl z :: st) n I L P = mm_E d 71 17 lv [] (.inr (.inr (some n)) :: st) (n + 1) (mm_zi I n) (mm_zi L n) (mm_zp P n)) ∧
  (∀ (lv : List mm_V) (st : List mm_V) a z, (mm_ok n a 10) → mm_E d 71 17 lv [] (.inr (.inr z) :: .inr (.inr (some a)) :: st) n I L P = mm_E d 71 20 lv [] st n I L (mm_up P a 1 z)) ∧
  (∀ (st : List mm_V) z, mm_E d 71 20 [(.inr (.inr z))] [] st n I L P = mm_E d 71 21 [(.inr (.inr z))] [] ((.inr (.inr z)) :: st) n I L P) ∧
  (∀ (lv : List mm_V) (st : List mm_V), mm_E d 71 21 lv [] st n I L P = mm_E d 71 23 lv [] (.inl 12 :: st) n I L P) ∧
  (∀ (lv : List mm_V) (st : List mm_V) z, (n < mm_NC ∧ mm_ty n = (20, z.toNat) ∧ 0 ≤ z) → mm_E d 71 23 lv [] (.inl z :: st) n I L P = mm_E d 71 25 lv [] (.inr (.inr (some n)) :: st) (n + 1) (mm_zi I n) (mm_zi L n) (mm_zp P n)) ∧
  (∀ (lv : List mm_V) (st : List mm_V) a z, (mm_ok n a 10) → mm_E d 71 25 lv [] (.inr (.inr z) :: .inr (.inr (some a)) :: st) n I L P = mm_E d 71 28 lv [] st n I L (mm_up P a 2 z)) ∧
  (∀ (lv : List mm_V), mm_E d 71 28 lv [] [] n I L P = some (none, n, I, L, P)) :=
  ⟨fun _ _ => mq_al (i := 0) rfl rfl,
   fun _ _ h0 => mq_oi rfl h0 (Nat.le_of_ble_eq_true rfl),
   fun _ _ => mq_al (i := 0) rfl rfl,
   fun _ _ => mq_push rfl,
   fun _ _ _ h0 => mq_newa rfl h0,
   fun _ _ _ _ h0 => mq_putR rfl h0,
   fun _ _ => mq_al (i := 0) rfl rfl,
   fun _ _ => mq_push rfl,
   fun _ _ _ h0 => mq_newa rfl h0,
   fun _ _ _ _ h0 => mq_putR rfl h0,
   fun _ _ => mq_al (i := 0) rfl rfl,
   fun _ _ => mq_push rfl,
   fun _ _ _ h0 => mq_newa rfl h0,
   fun _ _ _ _ h0 => mq_putR rfl h0,
   fun _ => mq_rv rfl⟩
theorem eX10_init (d n : Nat) (I L : mm_I) (P : mm_P) (x0 : Option Nat) : mm_rn (d + 1) 71 [.inr (.inr x0)] n I L P = mm_E d 71 0 [.inr (.inr x0)] [] [] n I L P := rfl

set_option maxRecDepth 20000 in
set_option maxHeartbeats 8000000 in
theorem kX10_readTown (d n : Nat) (I L : mm_I) (P : mm_P) :
  (∀ (st : List mm_V) z (l0 : mm_V) (l2 : mm_V) (l3 : mm_V), mm_E d 72 0 [l0, (.inr (.inr z)), l2, l3] [] st n I L P = mm_E d 72 1 [l0, (.inr (.inr z)), l2, l3] [] ((.inr (.inr z)) :: st) n I L P) ∧
  (∀ (lv : List mm_V) (st : List mm_V), mm_E d 72 1 lv [] st n I L P = mm_E d 72 2 lv [] (.inl 0 :: st) n I L P) ∧
  (∀ (lv : List mm_V) (st : List mm_V) a z, (mm_ok n a 8) → mm_E d 72 2 lv [] (.inl z :: .inr (.inr (some a)) :: st) n I L P = mm_E d 72 5 lv [] st n (mm_ui I a 2 z) L P) ∧
  (∀ (st : List mm_V) z (l1 : mm_V) (l2 : mm_V) (l3 : mm_V), mm_E d 72 5 [(.inr (.inr z)), l1, l2, l3] [] st n I L P = mm_E d 72 6 [(.inr (.inr z)), l1, l2, l3] [] ((.inr (.inr z)) :: st) n I L P) ∧
  (∀ (lv : List mm_V) (st : List mm_V), mm_E d 72 6 lv [] st n I L P = mm_E d 72 7 lv [] (.inl 0 :: st) n I L P) ∧
  (∀ (lv : List mm_V) (st : List mm_V) a z, (mm_ok n a 10) → mm_E d 72 7 lv [] (.inl z :: .inr (.inr (some a)) :: st) n I L P = mm_E d 72 10 lv [] st n (mm_ui I a 3 z) L P) ∧
  (∀ (st : List mm_V) z (l1 : mm_V) (l2 : mm_V) (l3 : mm_V), mm_E d 72 10 [(.inr (.inr z)), l1, l2, l3] [] st n I L P = mm_E d 72 11 [(.inr (.inr z)), l1, l2, l3] [] ((.inr (.inr z)) :: st) n I L P) ∧
  (∀ (lv : List mm_V) (st : List mm_V), mm_E d 72 11 lv [] st n I L P = mm_E d 72 12 lv [] (.inl 0 :: st) n I L P) ∧
  (∀ (lv : List mm_V) (st : List mm_V) a z, (mm_ok n a 10) → (z = 0 ∨ z = 1) → mm_E d 72 12 lv [] (.inl z :: .inr (.inr (some a)) :: st) n I L P = mm_E d 72 15 lv [] st n (mm_ui I a 4 z) L P) ∧
  (∀ (st : List mm_V) z (l0 : mm_V) (l1 : mm_V) (l3 : mm_V), mm_E d 72 15 [l0, l1, (.inr (.inr z)), l3] [] st n I L P = mm_E d 72 16 [l0, l1, (.inr (.inr z)), l3] [] ((.inr (.inr z)) :: st) n I L P) ∧
  (∀ (lv : List mm_V) (st : List mm_V), mm_E d 72 16 lv [] st n I L P = mm_E d 72 17 lv [] (.inl 0 :: st) n I L P) ∧
  (∀ (lv : List mm_V) (st : List mm_V) a z, (mm_ok n a 9) → mm_E d 72 17 lv [] (.inl z :: .inr (.inr (some a)) :: st) n I L P = mm_E d 72 20 lv [] st n (mm_ui I a 0 z) L P) ∧
  (∀ (st : List mm_V) z (l1 : mm_V) (l2 : mm_V) (l3 : mm_V), mm_E d 72 20 [(.inr (.inr z)), l1, l2, l3] [] st n I L P = mm_E d 72 21 [(.inr (.inr z)), l1, l2, l3] [] ((.inr (.inr z)) :: st) n I L P) ∧
  (∀ (lv : List mm_V) (st : List mm_V), mm_E d 72 21 lv [] st n I L P = mm_E d 72 22 lv [] (.inl 0 :: st) n I L P) ∧
  (∀ (lv : List mm_V) a x0, (mm_ok n a 10) → mm_E d 72 22 lv [] (.inl x0 :: .inr (.inr (some a)) :: []) n I L P = mm_kv d 72 25 lv [] [] n (mm_rn d 74 [.inr (.inr (some a)), .inl x0] n I L P)) ∧
  (∀ (st : List mm_V) z (l1 : mm_V) (l2 : mm_V) (l3 : mm_V), mm_E d 72 25 [(.inr (.inr z)), l1, l2, l3] [] st n I L P = mm_E d 72 26 [(.inr (.inr z)), l1, l2, l3] [] ((.inr (.inr z)) :: st) n I L P) ∧
  (∀ (st : List mm_V) z (l0 : mm_V) (l1 : mm_V) (l3 : mm_V), mm_E d 72 26 [l0, l1, (.inr (.inr z)), l3] [] st n I L P = mm_E d 72 27 [l0, l1, (.inr (.inr z)), l3] [] ((.inr (.inr z)) :: st) n I L P) ∧
  (∀ (lv : List mm_V) a x0, (mm_ok n a 10) → mm_E d 72 27 lv [] (.inr (.inr x0) :: .inr (.inr (some a)) :: []) n I L P = mm_kv d 72 30 lv [] [] n (mm_rn d 79 [.inr (.inr (some a)), .inr (.inr x0)] n I L P)) ∧
  (∀ (lv : List mm_V) (st : List mm_V), mm_E d 72 30 lv [] st n I L P = mm_E d 72 31 lv [] (.inl 0 :: st) n I L P) ∧
  (∀ (st : List mm_V) z (l0 : mm_V) (l1 : mm_V) (l2 : mm_V) (l3 : mm_V), mm_E d 72 31 [l0, l1, l2, l3] [] ((.inl z) :: st) n I L P = mm_E d 72 32 [l0, l1, l2, (.inl z)] [] st n I L P) ∧
  (∀ (lv : List mm_V) (st : List mm_V), mm_E d 72 33 lv [] st n I L P = mm_E d 72 36 lv [] (.inl 240 :: st) n I L P) ∧
  (∀ (lv : List mm_V) (st : List mm_V) a b, mm_E d 72 36 lv [] (.inl b :: .inl a :: st) n I L P = if b < a then mm_E d 72 81 lv [] st n I L P else mm_E d 72 39 lv [] st n I L P) ∧
  (∀ (st : List mm_V) z (l1 : mm_V) (l2 : mm_V) (l3 : mm_V), mm_E d 72 39 [(.inr (.inr z)), l1, l2, l3] [] st n I L P = mm_E d 72 40 [(.inr (.inr z)), l1, l2, l3] [] ((.inr (.inr z)) :: st) n I L P) ∧
  (∀ (st : List mm_V) z (l0 : mm_V) (l2 : mm_V) (l3 : mm_V), mm_E d 72 40 [l0, (.inr (.inr z)), l2, l3] [] st n I L P = mm_E d 72 41 [l0, (.inr (.inr z)), l2, l3] [] ((.inr (.inr z)) :: st) n I L P) ∧
  (∀ (st : List mm_V) z (l0 : mm_V) (l1 : mm_V) (l3 : mm_V), mm_E d 72 41 [l0, l1, (.inr (.inr z)), l3] [] st n I L P = mm_E d 72 42 [l0, l1, (.inr (.inr z)), l3] [] ((.inr (.inr z)) :: st) n I L P) ∧
  (∀ (lv : List mm_V) a x0 x1, (mm_ok n a 10) → mm_E d 72 42 lv [] (.inr (.inr x1) :: .inr (.inr x0) :: .inr (.inr (some a)) :: []) n I L P = mm_kr d 72 45 lv [] [] n (mm_rn d 73 [.inr (.inr (some a)), .inr (.inr x0), .inr (.inr x1)] n I L P)) ∧
  (∀ (lv : List mm_V) (st : List mm_V) a, mm_E d 72 45 lv [] (.inl a :: st) n I L P = if a = 0 then mm_E d 72 48 lv [] st n I L P else mm_E d 72 50 lv [] st n I L P) ∧
  (∀ (lv : List mm_V) (st : List mm_V), mm_E d 72 48 lv [] st n I L P = mm_E d 72 49 lv [] (.inl 0 :: st) n I L P) ∧
  (∀ (lv : List mm_V) z, (0 ≤ z ∧ z < 2) → mm_E d 72 49 lv [] [.inl z] n I L P = some (some (.inl z), n, I, L, P)) ∧
  (∀ (st : List mm_V) z (l0 : mm_V) (l2 : mm_V) (l3 : mm_V), mm_E d 72 50 [l0, (.inr (.inr z)), l2, l3] [] st n I L P = mm_E d 72 51 [l0, (.inr (.inr z)), l2, l3] [] ((.inr (.inr z)) :: st) n I L P) ∧
  (∀ (lv : List mm_V) a, (mm_ok n a 8) → mm_E d 72 51 lv [] (.inr (.inr (some a)) :: []) n I L P = mm_kr d 72 54 lv [] [] n (mm_rn d 59 [.inr (.inr (some a))] n I L P)) ∧
  (∀ (lv : List mm_V) (st : List mm_V), mm_E d 72 54 lv [] st n I L P = mm_E d 72 55 lv [] (.inl (-1) :: st) n I L P) ∧
  (∀ (lv : List mm_V) (st : List mm_V) a b, mm_E d 72 55 lv [] (.inl b :: .inl a :: st) n I L P = if a = b then mm_E d 72 58 lv [] st n I L P else mm_E d 72 64 lv [] st n I L P) ∧
  (∀ (st : List mm_V) z (l1 : mm_V) (l2 : mm_V) (l3 : mm_V), mm_E d 72 58 [(.inr (.inr z)), l1, l2, l3] [] st n I L P = mm_E d 72 59 [(.inr (.inr z)), l1, l2, l3] [] ((.inr (.inr z)) :: st) n I L P) ∧
  (∀ (st : List mm_V) z (l0 : mm_V) (l1 : mm_V) (l3 : mm_V), mm_E d 72 59 [l0, l1, (.inr (.inr z)), l3] [] st n I L P = mm_E d 72 60 [l0, l1, (.inr (.inr z)), l3] [] ((.inr (.inr z)) :: st) n I L P) ∧
  (∀ (lv : List mm_V) a x0, (mm_ok n a 10) → mm_E d 72 60 lv [] (.inr (.inr x0) :: .inr (.inr (some a)) :: []) n I L P = mm_kr d 72 63 lv [] [] n (mm_rn d 82 [.inr (.inr (some a)), .inr (.inr x0)] n I L P)) ∧
  (∀ (lv : List mm_V) z, (0 ≤ z ∧ z < 2) → mm_E d 72 63 lv [] [.inl z] n I L P = some (some (.inl z), n, I, L, P)) ∧
  (∀ (st : List mm_V) z (l0 : mm_V) (l2 : mm_V) (l3 : mm_V), mm_E d 72 64 [l0, (.inr (.inr z)), l2, l3] [] st n I L P = mm_E d 72 65 [l0, (.inr (.inr z)), l2, l3] [] ((.inr (.inr z)) :: st) n I L P) ∧
  (∀ (lv : List mm_V) (st : List mm_V), mm_E d 72 65 lv [] st n I L P = mm_E d 72 67 lv [] (.inl 59 :: st) n I L P) ∧
  (∀ (lv : List mm_V) a x0, (mm_ok n a 8) → mm_E d 72 67 lv [] (.inl x0 :: .inr (.inr (some a)) :: []) n I L P = mm_kr d 72 70 lv [] [] n (mm_rn d 60 [.inr (.inr (some a)), .inl x0] n I L P)) ∧
  (∀ (lv : List mm_V) (st : List mm_V) a, mm_E d 72 70 lv [] (.inl a :: st) n I L P = if a = 0 then mm_E d 72 73 lv [] st n I L P else mm_E d 72 75 lv [] st n I L P) ∧
  (∀ (lv : List mm_V) (st : List mm_V), mm_E d 72 73 lv [] st n I L P = mm_E d 72 74 lv [] (.inl 0 :: st) n I L P) ∧
  (∀ (lv : List mm_V) z, (0 ≤ z ∧ z < 2) → mm_E d 72 74 lv [] [.inl z] n I L P = some (some (.inl z), n, I, L, P)) ∧
  (∀ (st : List mm_V) z (l0 : mm_V) (l1 : mm_V) (l2 : mm_V), mm_E d 72 75 [l0, l1, l2, (.inl z)] [] st n I L P = mm_E d 72 78 [l0, l1, l2, (.inl (mm_add z 1))] [] st n I L P) ∧
  (∀ (lv : List mm_V) (st : List mm_V), mm_E d 72 78 lv [] st n I L P = mm_E d 72 32 lv [] st n I L P) ∧
  (∀ (lv : List mm_V) (st : List mm_V), mm_E d 72 81 lv [] st n I L P = mm_E d 72 82 lv [] (.inl 0 :: st) n I L P) ∧
  (∀ (lv : List mm_V) z, (0 ≤ z ∧ z < 2) → mm_E d 72 82 lv [] [.inl z] n I L P = some (some (.inl z), n, I, L, P)) :=
  ⟨fun _ _ _ _ _ => mq_al (i := 1) rfl rfl,
   fun _ _ => mq_push rfl,
   fun _ _ _ _ h0 => mq_putI rfl h0,
   fun _ _ _ _ _ => mq_al (i := 0) rfl rfl,
   fun _ _ => mq_push rfl,
   fun _ _ _ _ h0 => mq_putI rfl h0,
   fun _ _ _ _ _ => mq_al (i := 0) rfl rfl,
   fun _ _ => mq_push rfl,
   fun _ _ _ _ h0 h1 => mq_putZ rfl h0 h1,
   fun _ _ _ _ _ => mq_al (i := 2) rfl rfl,
   fun _ _ => mq_push rfl,
   fun _ _ _ _ h0 => mq_putI rfl h0,
   fun _ _ _ _ _ => mq_al (i := 0) rfl rfl,
   fun _ _ => mq_push rfl,
   fun _ _ _ h0 => mq_cVv (na := 1) rfl rfl (Nat.le_of_ble_eq_true rfl) (Nat.le_of_ble_eq_true rfl) h0,
   fun _ _ _ _ _ => mq_al (i := 0) rfl rfl,
   fun _ _ _ _ _ => mq_al (i := 2) rfl rfl,
   fun _ _ _ h0 => mq_cVv (na := 1) rfl rfl (Nat.le_of_ble_eq_true rfl) (Nat.le_of_ble_eq_true rfl) h0,
   fun _ _ => mq_push rfl,
   fun _ _ _ _ _ _ => mq_is (i := 3) rfl rfl rfl,
   fun _ _ => mq_push rfl,
   fun _ _ _ _ => mq_ic_gt rfl,
   fun _ _ _ _ _ => mq_al (i := 0) rfl rfl,
   fun _ _ _ _ _ => mq_al (i := 1) rfl rfl,
   fun _ _ _ _ _ => mq_al (i := 2) rfl rfl,
   fun _ _ _ _ h0 => mq_cVr (na := 2) rfl rfl (Nat.le_of_ble_eq_true rfl) (Nat.le_of_ble_eq_true rfl) h0,
   fun _ _ _ => mq_if_ne rfl,
   fun _ _ => mq_push rfl,
   fun _ _ h0 => mq_rz rfl h0,
   fun _ _ _ _ _ => mq_al (i := 1) rfl rfl,
   fun _ _ h0 => mq_cVr (na := 0) rfl rfl (Nat.le_of_ble_eq_true rfl) (Nat.le_of_ble_eq_true rfl) h0,
   fun _ _ => mq_push rfl,
   fun _ _ _ _ => mq_ic_ne rfl,
   fun _ _ _ _ _ => mq_al (i := 0) rfl rfl,
   fun _ _ _ _ _ => mq_al (i := 2) rfl rfl,
   fun _ _ _ h0 => mq_cVr (na := 1) rfl rfl (Nat.le_of_ble_eq_true rfl) (Nat.le_of_ble_eq_true rfl) h0,
   fun _ _ h0 => mq_rz rfl h0,
   fun _ _ _ _ _ => mq_al (i := 1) rfl rfl,
   fun _ _ => mq_push rfl,
   fun _ _ _ h0 => mq_cVr (na := 1) rfl rfl (Nat.le_of_ble_eq_true rfl) (Nat.le_of_ble_eq_true rfl) h0,
   fun _ _ _ => mq_if_ne rfl,
   fun _ _ => mq_push rfl,
   fun _ _ h0 => mq_rz rfl h0,
   fun _ _ _ _ _ => mq_iinc (i := 3) rfl rfl rfl rfl,
   fun _ _ => mq_go rfl,
   fun _ _ => mq_push rfl,
   fun _ _ h0 => mq_rz rfl h0⟩
theorem hX10_readTown_32 (d n : Nat) (I L : mm_I) (P : mm_P) : ∀ (st : List mm_V) z (l0 : mm_V) (l1 : mm_V) (l2 : mm_V), mm_E d 72 32 [l0, l1, l2, (.inl z)] [] st n I L P = mm_E d 72 33 [l0, l1, l2, (.inl z)] [] ((.inl z) :: st) n I L P := fun _ _ _ _ _ => mq_il (i := 3) rfl rfl
theorem eX10_readTown (d n : Nat) (I L : mm_I) (P : mm_P) (x0 : Option Nat) (x1 : Option Nat) (x2 : Option Nat) : mm_rn (d + 1) 72 [.inr (.inr x0), .inr (.inr x1), .inr (.inr x2)] n I L P = mm_E d 72 0 [.inr (.inr x0), .inr (.inr x1), .inr (.inr x2), mm_junk] [] [] n I L P := rfl

set_option maxRecDepth 20000 in
set_option maxHeartbeats 8000000 in
theorem kX10_readClause (d n : Nat) (I L : mm_I) (P : mm_P) :
  (∀ (lv : List mm_V) (st : List mm_V), mm_E d 73 0 lv [] st n I L P = mm_E d 73 2 lv [] (.inr (.inr (some 1000004)) :: st) n I L P) ∧
  (∀ (lv : List mm_V) (st : List mm_V), mm_E d 73 2 lv [] st n I L P = mm_E d 73 3 lv [] (.inl 0 :: st) n I L P) ∧
  (∀ (lv : List mm_V) (st : List mm_V), mm_E d 73 3 lv [] st n I L P = mm_E d 73 5 lv [] (.inr (.inr (some 1000004)) :: st) n I L P) ∧
  (∀ (lv : List mm_V) a w0 w1, (a = 1000004 ∨ a = 1000005) → mm_E d 73 5 lv [] (.inr (.inr (some a)) :: [.inl w0, .inr (.inr w1)]) n I L P = mm_kr d 73 8 lv [] [.inl w0, .inr (.inr w1)] n (mm_rn d 269 [.inr (.inr (some a))] n I L P)) ∧
  (∀ (st : List mm_V) z (l0 : mm_V) (l2 : mm_V) (l3 : mm_V), mm_E d 73 8 [l0, (.inr (.inr z)), l2, l3] [] st n I L P = mm_E d 73 9 [l0, (.inr (.inr z)), l2, l3] [] ((.inr (.inr z)) :: st) n I L P) ∧
  (∀ (lv : List mm_V) a w0 w1 w2, (mm_ok n a 8) → mm_E d 73 9 lv [] (.inr (.inr (some a)) :: [.inl w0, .inl w1, .inr (.inr w2)]) n I L P = mm_kr d 73 12 lv [] [.inl w0, .inl w1, .inr (.inr w2)] n (mm_rn d 59 [.inr (.inr (some a))] n I L P)) ∧
  (∀ (lv : List mm_V) x0 x1 x2 x3, mm_E d 73 12 lv [] (.inl x3 :: .inl x2 :: .inl x1 :: .inr (.inr x0) :: []) n I L P = mm_kr d 73 15 lv [] [] n (mm_rn d 75 [.inr (.inr x0), .inl x1, .inl x2, .inl x3] n I L P)) ∧
  (∀ (st : List mm_V) z (l0 : mm_V) (l1 : mm_V) (l2 : mm_V) (l3 : mm_V), mm_E d 73 15 [l0, l1, l2, l3] [] ((.inl z) :: st) n I L P = mm_E d 73 16 [l0, l1, l2, (.inl z)] [] st n I L P) ∧
  (∀ (st : List mm_V) z (l0 : mm_V) (l1 : mm_V) (l2 : mm_V), mm_E d 73 16 [l0, l1, l2, (.inl z)] [] st n I L P = mm_E d 73 17 [l0, l1, l2, (.inl z)] [] ((.inl z) :: st) n I L P) ∧
  (∀ (lv : List mm_V) (st : List mm_V), mm_E d 73 17 lv [] st n I L P = mm_E d 73 18 lv [] (.inl (-1) :: st) n I L P) ∧
  (∀ (lv : List mm_V) (st : List mm_V) a b, mm_E d 73 18 lv [] (.inl b :: .inl a :: st) n I L P = if a = b then mm_E d 73 30 lv [] st n I L P else mm_E d 73 21 lv [] st n I L P) ∧
  (∀ (st : List mm_V) z (l1 : mm_V) (l2 : mm_V) (l3 : mm_V), mm_E d 73 21 [(.inr (.inr z)), l1, l2, l3] [] st n I L P = mm_E d 73 22 [(.inr (.inr z)), l1, l2, l3] [] ((.inr (.inr z)) :: st) n I L P) ∧
  (∀ (st : List mm_V) z (l0 : mm_V) (l1 : mm_V) (l2 : mm_V), mm_E d 73 22 [l0, l1, l2, (.inl z)] [] st n I L P = mm_E d 73 23 [l0, l1, l2, (.inl z)] [] ((.inl z) :: st) n I L P) ∧
  (∀ (st : List mm_V) z (l0 : mm_V) (l1 : mm_V) (l3 : mm_V), mm_E d 73 23 [l0, l1, (.inr (.inr z)), l3] [] st n I L P = mm_E d 73 24 [l0, l1, (.inr (.inr z)), l3] [] ((.inr (.inr z)) :: st) n I L P) ∧
  (∀ (lv : List mm_V) a x0 x1, (mm_ok n a 10) → mm_E d 73 24 lv [] (.inr (.inr x1) :: .inl x0 :: .inr (.inr (some a)) :: []) n I L P = mm_kr d 73 27 lv [] [] n (mm_rn d 76 [.inr (.inr (some a)), .inl x0, .inr (.inr x1)] n I L P)) ∧
  (∀ (lv : List mm_V) (st : List mm_V) a, mm_E d 73 27 lv [] (.inl a :: st) n I L P = if a = 0 then mm_E d 73 32 lv [] st n I L P else mm_E d 73 30 lv [] st n I L P) ∧
  (∀ (lv : List mm_V) (st : List mm_V), mm_E d 73 30 lv [] st n I L P = mm_E d 73 31 lv [] (.inl 0 :: st) n I L P) ∧
  (∀ (lv : List mm_V) z, (0 ≤ z ∧ z < 2) → mm_E d 73 31 lv [] [.inl z] n I L P = some (some (.inl z), n, I, L, P)) ∧
  (∀ (st : List mm_V) z (l0 : mm_V) (l2 : mm_V) (l3 : mm_V), mm_E d 73 32 [l0, (.inr (.inr z)), l2, l3] [] st n I L P = mm_E d 73 33 [l0, (.inr (.inr z)), l2, l3] [] ((.inr (.inr z)) :: st) n I L P) ∧
  (∀ (lv : List mm_V) (st : List mm_V) a, mm_E d 73 33 lv [] ((.inr (.inr a)) :: st) n I L P = mm_E d 73 34 lv [] ((.inr (.inr a)) :: (.inr (.inr a)) :: st) n I L P) ∧
  (∀ (lv : List mm_V) (st : List mm_V) a, (mm_ok n a 8) → mm_E d 73 34 lv [] (.inr (.inr (some a)) :: st) n I L P = mm_E d 73 37 lv [] (.inl (I a 2) :: st) n I L P) ∧
  (∀ (lv : List mm_V) (st : List mm_V), mm_E d 73 37 lv [] st n I L P = mm_E d 73 38 lv [] (.inl 1 :: st) n I L P) ∧
  (∀ (lv : List mm_V) (st : List mm_V) a b, mm_E d 73 38 lv [] (.inl b :: .inl a :: st) n I L P = mm_E d 73 39 lv [] (.inl (mm_add a b) :: st) n I L P) ∧
  (∀ (lv : List mm_V) (st : List mm_V) a z, (mm_ok n a 8) → mm_E d 73 39 lv [] (.inl z :: .inr (.inr (some a)) :: st) n I L P = mm_E d 73 42 lv [] st n (mm_ui I a 2 z) L P) ∧
  (∀ (st : List mm_V) z (l1 : mm_V) (l2 : mm_V) (l3 : mm_V), mm_E d 73 42 [(.inr (.inr z)), l1, l2, l3] [] st n I L P = mm_E d 73 43 [(.inr (.inr z)), l1, l2, l3] [] ((.inr (.inr z)) :: st) n I L P) ∧
  (∀ (st : List mm_V) z (l0 : mm_V) (l1 : mm_V) (l2 : mm_V), mm_E d 73 43 [l0, l1, l2, (.inl z)] [] st n I L P = mm_E d 73 44 [l0, l1, l2, (.inl z)] [] ((.inl z) :: st) n I L P) ∧
  (∀ (lv : List mm_V) a x0, (mm_ok n a 10) → mm_E d 73 44 lv [] (.inl x0 :: .inr (.inr (some a)) :: []) n I L P = mm_kv d 73 47 lv [] [] n (mm_rn d 74 [.inr (.inr (some a)), .inl x0] n I L P)) ∧
  (∀ (st : List mm_V) z (l1 : mm_V) (l2 : mm_V) (l3 : mm_V), mm_E d 73 47 [(.inr (.inr z)), l1, l2, l3] [] st n I L P = mm_E d 73 48 [(.inr (.inr z)), l1, l2, l3] [] ((.inr (.inr z)) :: st) n I L P) ∧
  (∀ (st : List mm_V) z (l0 : mm_V) (l2 : mm_V) (l3 : mm_V), mm_E d 73 48 [l0, (.inr (.inr z)), l2, l3] [] st n I L P = mm_E d 73 49 [l0, (.inr (.inr z)), l2, l3] [] ((.inr (.inr z)) :: st) n I L P) ∧
  (∀ (lv : List mm_V) (st : List mm_V), mm_E d 73 49 lv [] st n I L P = mm_E d 73 52 lv [] (.inr (.inr (some 1000000)) :: st) n I L P) ∧
  (∀ (st : List mm_V) z (l0 : mm_V) (l1 : mm_V) (l2 : mm_V), mm_E d 73 52 [l0, l1, l2, (.inl z)] [] st n I L P = mm_E d 73 53 [l0, l1, l2, (.inl z)] [] ((.inl z) :: st) n I L P) ∧
  (∀ (lv : List mm_V) (st : List mm_V) a i, (1000000 ≤ a ∧ (mm_ty a).1 = 30 ∧ 0 ≤ i ∧ i < ((mm_ty a).2 : Int)) → mm_E d 73 53 lv [] (.inl i :: .inr (.inr (some a)) :: st) n I L P = mm_E d 73 54 lv [] (.inl (I a i.toNat) :: st) n I L P) ∧
  (∀ (lv : List mm_V) (st : List mm_V), mm_E d 73 54 lv [] st n I L P = mm_E d 73 57 lv [] (.inr (.inr (some 1000000)) :: st) n I L P) ∧
  (∀ (st : List mm_V) z (l0 : mm_V) (l1 : mm_V) (l2 : mm_V), mm_E d 73 57 [l0, l1, l2, (.inl z)] [] st n I L P = mm_E d 73 58 [l0, l1, l2, (.inl z)] [] ((.inl z) :: st) n I L P) ∧
  (∀ (lv : List mm_V) (st : List mm_V), mm_E d 73 58 lv [] st n I L P = mm_E d 73 59 lv [] (.inl 1 :: st) n I L P) ∧
  (∀ (lv : List mm_V) (st : List mm_V) a b, mm_E d 73 59 lv [] (.inl b :: .inl a :: st) n I L P = mm_E d 73 60 lv [] (.inl (mm_add a b) :: st) n I L P) ∧
  (∀ (lv : List mm_V) (st : List mm_V) a i, (1000000 ≤ a ∧ (mm_ty a).1 = 30 ∧ 0 ≤ i ∧ i < ((mm_ty a).2 : Int)) → mm_E d 73 60 lv [] (.inl i :: .inr (.inr (some a)) :: st) n I L P = mm_E d 73 61 lv [] (.inl (I a i.toNat) :: st) n I L P) ∧
  (∀ (lv : List mm_V) a x0 x1 x2, (mm_ok n a 10) → mm_E d 73 61 lv [] (.inl x2 :: .inl x1 :: .inr (.inr x0) :: .inr (.inr (some a)) :: []) n I L P = mm_kr d 73 64 lv [] [] n (mm_rn d 77 [.inr (.inr (some a)), .inr (.inr x0), .inl x1, .inl x2] n I L P)) ∧
  (∀ (lv : List mm_V) (st : List mm_V) a, mm_E d 73 64 lv [] (.inl a :: st) n I L P = if a = 0 then mm_E d 73 67 lv [] st n I L P else mm_E d 73 69 lv [] st n I L P) ∧
  (∀ (lv : List mm_V) (st : List mm_V), mm_E d 73 67 lv [] st n I L P = mm_E d 73 68 lv [] (.inl 0 :: st) n I L P) ∧
  (∀ (lv : List mm_V) z, (0 ≤ z ∧ z < 2) → mm_E d 73 68 lv [] [.inl z] n I L P = some (some (.inl z), n, I, L, P)) ∧
  (∀ (st : List mm_V) z (l0 : mm_V) (l1 : mm_V) (l2 : mm_V), mm_E d 73 69 [l0, l1, l2, (.inl z)] [] st n I L P = mm_E d 73 70 [l0, l1, l2, (.inl z)] [] ((.inl z) :: st) n I L P) ∧
  (∀ (lv : List mm_V) (st : List mm_V) a, mm_E d 73 70 lv [] (.inl a :: st) n I L P = if a = 0 then mm_E d 73 73 lv [] st n I L P else mm_E d 73 86 lv [] st n I L P) ∧
  (∀ (st : List mm_V) z (l1 : mm_V) (l2 : mm_V) (l3 : mm_V), mm_E d 73 73 [(.inr (.inr z)), l1, l2, l3] [] st n I L P = mm_E d 73 74 [(.inr (.inr z)), l1, l2, l3] [] ((.inr (.inr z)) :: st) n I L P) ∧
  (∀ (lv : List mm_V) (st : List mm_V), mm_E d 73 74 lv [] st n I L P = mm_E d 73 75 lv [] (.inl 1 :: st) n I L P) ∧
  (∀ (lv : List mm_V) (st : List mm_V) a z, (mm_ok n a 10) → (z = 0 ∨ z = 1) → mm_E d 73 75 lv [] (.inl z :: .inr (.inr (some a)) :: st) n I L P = mm_E d 73 78 lv [] st n (mm_ui I a 4 z) L P) ∧
  (∀ (st : List mm_V) z (l1 : mm_V) (l2 : mm_V) (l3 : mm_V), mm_E d 73 78 [(.inr (.inr z)), l1, l2, l3] [] st n I L P = mm_E d 73 79 [(.inr (.inr z)), l1, l2, l3] [] ((.inr (.inr z)) :: st) n I L P) ∧
  (∀ (st : List mm_V) z (l0 : mm_V) (l1 : mm_V) (l3 : mm_V), mm_E d 73 79 [l0, l1, (.inr (.inr z)), l3] [] st n I L P = mm_E d 73 80 [l0, l1, (.inr (.inr z)), l3] [] ((.inr (.inr z)) :: st) n I L P) ∧
  (∀ (lv : List mm_V) a x0, (mm_ok n a 10) → mm_E d 73 80 lv [] (.inr (.inr x0) :: .inr (.inr (some a)) :: []) n I L P = mm_kv d 73 83 lv [] [] n (mm_rn d 79 [.inr (.inr (some a)), .inr (.inr x0)] n I L P)) ∧
  (∀ (lv : List mm_V) (st : List mm_V), mm_E d 73 83 lv [] st n I L P = mm_E d 73 103 lv [] st n I L P) ∧
  (∀ (st : List mm_V) z (l0 : mm_V) (l1 : mm_V) (l2 : mm_V), mm_E d 73 86 [l0, l1, l2, (.inl z)] [] st n I L P = mm_E d 73 87 [l0, l1, l2, (.inl z)] [] ((.inl z) :: st) n I L P) ∧
  (∀ (lv : List mm_V) (st : List mm_V), mm_E d 73 87 lv [] st n I L P = mm_E d 73 88 lv [] (.inl 1 :: st) n I L P) ∧
  (∀ (lv : List mm_V) (st : List mm_V) a b, mm_E d 73 88 lv [] (.inl b :: .inl a :: st) n I L P = if a = b then mm_E d 73 91 lv [] st n I L P else mm_E d 73 99 lv [] st n I L P) ∧
  (∀ (st : List mm_V) z (l1 : mm_V) (l2 : mm_V) (l3 : mm_V), mm_E d 73 91 [(.inr (.inr z)), l1, l2, l3] [] st n I L P = mm_E d 73 92 [(.inr (.inr z)), l1, l2, l3] [] ((.inr (.inr z)) :: st) n I L P) ∧
  (∀ (st : List mm_V) z (l0 : mm_V) (l1 : mm_V) (l3 : mm_V), mm_E d 73 92 [l0, l1, (.inr (.inr z)), l3] [] st n I L P = mm_E d 73 93 [l0, l1, (.inr (.inr z)), l3] [] ((.inr (.inr z)) :: st) n I L P) ∧
  (∀ (lv : List mm_V) a x0, (mm_ok n a 10) → mm_E d 73 93 lv [] (.inr (.inr x0) :: .inr (.inr (some a)) :: []) n I L P = mm_kv d 73 96 lv [] [] n (mm_rn d 80 [.inr (.inr (some a)), .inr (.inr x0)] n I L P)) ∧
  (∀ (lv : List mm_V) (st : List mm_V), mm_E d 73 96 lv [] st n I L P = mm_E d 73 103 lv [] st n I L P) ∧
  (∀ (st : List mm_V) z (l1 : mm_V) (l2 : mm_V) (l3 : mm_V), mm_E d 73 99 [(.inr (.inr z)), l1, l2, l3] [] st n I L P = mm_E d 73 100 [(.inr (.inr z)), l1, l2, l3] [] ((.inr (.inr z)) :: st) n I L P) ∧
  (∀ (lv : List mm_V) a, (mm_ok n a 10) → mm_E d 73 100 lv [] (.inr (.inr (some a)) :: []) n I L P = mm_kv d 73 103 lv [] [] n (mm_rn d 81 [.inr (.inr (some a))] n I L P)) ∧
  (∀ (lv : List mm_V) (st : List mm_V), mm_E d 73 103 lv [] st n I L P = mm_E d 73 104 lv [] (.inl 1 :: st) n I L P) ∧
  (∀ (lv : List mm_V) z, (0 ≤ z ∧ z < 2) → mm_E d 73 104 lv [] [.inl z] n I L P = some (some (.inl z), n, I, L, P)) :=
  ⟨fun _ _ => mq_push rfl,
   fun _ _ => mq_push rfl,
   fun _ _ => mq_push rfl,
   fun _ _ _ _ h0 => mq_cWr (na := 0) rfl rfl (Nat.le_of_ble_eq_true rfl) (Nat.le_of_ble_eq_true rfl) h0,
   fun _ _ _ _ _ => mq_al (i := 1) rfl rfl,
   fun _ _ _ _ _ h0 => mq_cVr (na := 0) rfl rfl (Nat.le_of_ble_eq_true rfl) (Nat.le_of_ble_eq_true rfl) h0,
   fun _ _ _ _ _ => mq_cSr (na := 4) rfl (Nat.le_of_ble_eq_true rfl) (Nat.le_of_ble_eq_true rfl),
   fun _ _ _ _ _ _ => mq_is (i := 3) rfl rfl rfl,
   fun _ _ _ _ _ => mq_il (i := 3) rfl rfl,
   fun _ _ => mq_push rfl,
   fun _ _ _ _ => mq_ic_eq rfl,
   fun _ _ _ _ _ => mq_al (i := 0) rfl rfl,
   fun _ _ _ _ _ => mq_il (i := 3) rfl rfl,
   fun _ _ _ _ _ => mq_al (i := 2) rfl rfl,
   fun _ _ _ _ h0 => mq_cVr (na := 2) rfl rfl (Nat.le_of_ble_eq_true rfl) (Nat.le_of_ble_eq_true rfl) h0,
   fun _ _ _ => mq_if_eq rfl,
   fun _ _ => mq_push rfl,
   fun _ _ h0 => mq_rz rfl h0,
   fun _ _ _ _ _ => mq_al (i := 1) rfl rfl,
   fun _ _ _ => mq_dup rfl rfl,
   fun _ _ _ h0 => mq_getI rfl h0,
   fun _ _ => mq_push rfl,
   fun _ _ _ _ => mq_bi rfl,
   fun _ _ _ _ h0 => mq_putI rfl h0,
   fun _ _ _ _ _ => mq_al (i := 0) rfl rfl,
   fun _ _ _ _ _ => mq_il (i := 3) rfl rfl,
   fun _ _ _ h0 => mq_cVv (na := 1) rfl rfl (Nat.le_of_ble_eq_true rfl) (Nat.le_of_ble_eq_true rfl) h0,
   fun _ _ _ _ _ => mq_al (i := 0) rfl rfl,
   fun _ _ _ _ _ => mq_al (i := 1) rfl rfl,
   fun _ _ => mq_push rfl,
   fun _ _ _ _ _ => mq_il (i := 3) rfl rfl,
   fun _ _ _ _ h0 => mq_sald rfl h0,
   fun _ _ => mq_push rfl,
   fun _ _ _ _ _ => mq_il (i := 3) rfl rfl,
   fun _ _ => mq_push rfl,
   fun _ _ _ _ => mq_bi rfl,
   fun _ _ _ _ h0 => mq_sald rfl h0,
   fun _ _ _ _ _ h0 => mq_cVr (na := 3) rfl rfl (Nat.le_of_ble_eq_true rfl) (Nat.le_of_ble_eq_true rfl) h0,
   fun _ _ _ => mq_if_ne rfl,
   fun _ _ => mq_push rfl,
   fun _ _ h0 => mq_rz rfl h0,
   fun _ _ _ _ _ => mq_il (i := 3) rfl rfl,
   fun _ _ _ => mq_if_ne rfl,
   fun _ _ _ _ _ => mq_al (i := 0) rfl rfl,
   fun _ _ => mq_push rfl,
   fun _ _ _ _ h0 h1 => mq_putZ rfl h0 h1,
   fun _ _ _ _ _ => mq_al (i := 0) rfl rfl,
   fun _ _ _ _ _ => mq_al (i := 2) rfl rfl,
   fun _ _ _ h0 => mq_cVv (na := 1) rfl rfl (Nat.le_of_ble_eq_true rfl) (Nat.le_of_ble_eq_true rfl) h0,
   fun _ _ => mq_go rfl,
   fun _ _ _ _ _ => mq_il (i := 3) rfl rfl,
   fun _ _ => mq_push rfl,
   fun _ _ _ _ => mq_ic_ne rfl,
   fun _ _ _ _ _ => mq_al (i := 0) rfl rfl,
   fun _ _ _ _ _ => mq_al (i := 2) rfl rfl,
   fun _ _ _ h0 => mq_cVv (na := 1) rfl rfl (Nat.le_of_ble_eq_true rfl) (Nat.le_of_ble_eq_true rfl) h0,
   fun _ _ => mq_go rfl,
   fun _ _ _ _ _ => mq_al (i := 0) rfl rfl,
   fun _ _ h0 => mq_cVv (na := 0) rfl rfl (Nat.le_of_ble_eq_true rfl) (Nat.le_of_ble_eq_true rfl) h0,
   fun _ _ => mq_push rfl,
   fun _ _ h0 => mq_rz rfl h0⟩
theorem eX10_readClause (d n : Nat) (I L : mm_I) (P : mm_P) (x0 : Option Nat) (x1 : Option Nat) (x2 : Option Nat) : mm_rn (d + 1) 73 [.inr (.inr x0), .inr (.inr x1), .inr (.inr x2)] n I L P = mm_E d 73 0 [.inr (.inr x0), .inr (.inr x1), .inr (.inr x2), mm_junk] [] [] n I L P := rfl

set_option maxRecDepth 20000 in
set_option maxHeartbeats 8000000 in
theorem kX10_forgetItems (d n : Nat) (I L : mm_I) (P : mm_P) :
  (∀ (lv : List mm_V) (st : List mm_V), mm_E d 74 0 lv [] st n I L P = mm_E d 74 3 lv [] (.inr (.inr (some 1000000)) :: st) n I L P) ∧
  (∀ (st : List mm_V) z (l0 : mm_V) (l2 : mm_V), mm_E d 74 3 [l0, (.inl z), l2] [] st n I L P = mm_E d 74 4 [l0, (.inl z), l2] [] ((.inl z) :: st) n I L P) ∧
  (∀ (lv : List mm_V) (st : List mm_V) a i, (1000000 ≤ a ∧ (mm_ty a).1 = 30 ∧ 0 ≤ i ∧ i < ((mm_ty a).2 : Int)) → mm_E d 74 4 lv [] (.inl i :: .inr (.inr (some a)) :: st) n I L P = mm_E d 74 5 lv [] (.inl (I a i.toNat) :: st) n I L P) ∧
  (∀ (st : List mm_V) z (l0 : mm_V) (l1 : mm_V) (l2 : mm_V), mm_E d 74 5 [l0, l1, l2] [] ((.inl z) :: st) n I L P = mm_E d 74 6 [l0, l1, (.inl z)] [] st n I L P) ∧
  (∀ (lv : List mm_V) (st : List mm_V), mm_E d 74 7 lv [] st n I L P = mm_E d 74 10 lv [] (.inr (.inr (some 1000000)) :: st) n I L P) ∧
  (∀ (st : List mm_V) z (l0 : mm_V) (l2 : mm_V), mm_E d 74 10 [l0, (.inl z), l2] [] st n I L P = mm_E d 74 11 [l0, (.inl z), l2] [] ((.inl z) :: st) n I L P) ∧
  (∀ (lv : List mm_V) (st : List mm_V), mm_E d 74 11 lv [] st n I L P = mm_E d 74 12 lv [] (.inl 1 :: st) n I L P) ∧
  (∀ (lv : List mm_V) (st : List mm_V) a b, mm_E d 74 12 lv [] (.inl b :: .inl a :: st) n I L P = mm_E d 74 13 lv [] (.inl (mm_add a b) :: st) n I L P) ∧
  (∀ (lv : List mm_V) (st : List mm_V) a i, (1000000 ≤ a ∧ (mm_ty a).1 = 30 ∧ 0 ≤ i ∧ i < ((mm_ty a).2 : Int)) → mm_E d 74 13 lv [] (.inl i :: .inr (.inr (some a)) :: st) n I L P = mm_E d 74 14 lv [] (.inl (I a i.toNat) :: st) n I L P) ∧
  (∀ (lv : List mm_V) (st : List mm_V) a b, mm_E d 74 14 lv [] (.inl b :: .inl a :: st) n I L P = if b ≤ a then mm_E d 74 34 lv [] st n I L P else mm_E d 74 17 lv [] st n I L P) ∧
  (∀ (st : List mm_V) z (l1 : mm_V) (l2 : mm_V), mm_E d 74 17 [(.inr (.inr z)), l1, l2] [] st n I L P = mm_E d 74 18 [(.inr (.inr z)), l1, l2] [] ((.inr (.inr z)) :: st) n I L P) ∧
  (∀ (lv : List mm_V) (st : List mm_V) a, (mm_ok n a 10) → mm_E d 74 18 lv [] (.inr (.inr (some a)) :: st) n I L P = mm_E d 74 21 lv [] (.inr (.inr (P a 0)) :: st) n I L P) ∧
  (∀ (st : List mm_V) z (l0 : mm_V) (l1 : mm_V), mm_E d 74 21 [l0, l1, (.inl z)] [] st n I L P = mm_E d 74 22 [l0, l1, (.inl z)] [] ((.inl z) :: st) n I L P) ∧
  (∀ (lv : List mm_V) (st : List mm_V), mm_E d 74 22 lv [] st n I L P = mm_E d 74 25 lv [] (.inr (.inr (some 1000003)) :: st) n I L P) ∧
  (∀ (st : List mm_V) z (l0 : mm_V) (l1 : mm_V), mm_E d 74 25 [l0, l1, (.inl z)] [] st n I L P = mm_E d 74 26 [l0, l1, (.inl z)] [] ((.inl z) :: st) n I L P) ∧
  (∀ (lv : List mm_V) (st : List mm_V) a i, (1000000 ≤ a ∧ (mm_ty a).1 = 30 ∧ 0 ≤ i ∧ i < ((mm_ty a).2 : Int)) → mm_E d 74 26 lv [] (.inl i :: .inr (.inr (some a)) :: st) n I L P = mm_E d 74 27 lv [] (.inl (I a i.toNat) :: st) n I L P) ∧
  (∀ (lv : List mm_V) (st : List mm_V) a i z, (mm_ix n a 20 i) → mm_E d 74 27 lv [] (.inl z :: .inl i :: .inr (.inr (some a)) :: st) n I L P = mm_E d 74 28 lv [] st n (mm_ui I a i.toNat z) L P) ∧
  (∀ (st : List mm_V) z (l0 : mm_V) (l1 : mm_V), mm_E d 74 28 [l0, l1, (.inl z)] [] st n I L P = mm_E d 74 31 [l0, l1, (.inl (mm_add z 1))] [] st n I L P) ∧
  (∀ (lv : List mm_V) (st : List mm_V), mm_E d 74 31 lv [] st n I L P = mm_E d 74 6 lv [] st n I L P) ∧
  (∀ (lv : List mm_V), mm_E d 74 34 lv [] [] n I L P = some (none, n, I, L, P)) :=
  ⟨fun _ _ => mq_push rfl,
   fun _ _ _ _ => mq_il (i := 1) rfl rfl,
   fun _ _ _ _ h0 => mq_sald rfl h0,
   fun _ _ _ _ _ => mq_is (i := 2) rfl rfl rfl,
   fun _ _ => mq_push rfl,
   fun _ _ _ _ => mq_il (i := 1) rfl rfl,
   fun _ _ => mq_push rfl,
   fun _ _ _ _ => mq_bi rfl,
   fun _ _ _ _ h0 => mq_sald rfl h0,
   fun _ _ _ _ => mq_ic_ge rfl,
   fun _ _ _ _ => mq_al (i := 0) rfl rfl,
   fun _ _ _ h0 => mq_getR rfl h0,
   fun _ _ _ _ => mq_il (i := 2) rfl rfl,
   fun _ _ => mq_push rfl,
   fun _ _ _ _ => mq_il (i := 2) rfl rfl,
   fun _ _ _ _ h0 => mq_sald rfl h0,
   fun _ _ _ _ _ h0 => mq_iast rfl h0,
   fun _ _ _ _ => mq_iinc (i := 2) rfl rfl rfl rfl,
   fun _ _ => mq_go rfl,
   fun _ => mq_rv rfl⟩
theorem hX10_forgetItems_6 (d n : Nat) (I L : mm_I) (P : mm_P) : ∀ (st : List mm_V) z (l0 : mm_V) (l1 : mm_V), mm_E d 74 6 [l0, l1, (.inl z)] [] st n I L P = mm_E d 74 7 [l0, l1, (.inl z)] [] ((.inl z) :: st) n I L P := fun _ _ _ _ => mq_il (i := 2) rfl rfl
theorem eX10_forgetItems (d n : Nat) (I L : mm_I) (P : mm_P) (x0 : Option Nat) (x1 : Int) : mm_rn (d + 1) 74 [.inr (.inr x0), .inl x1] n I L P = mm_E d 74 0 [.inr (.inr x0), .inl x1, mm_junk] [] [] n I L P := rfl

set_option maxRecDepth 20000 in
set_option maxHeartbeats 8000000 in
theorem kX10_signIn (d n : Nat) (I L : mm_I) (P : mm_P) :
  (∀ (st : List mm_V) z (l0 : mm_V) (l2 : mm_V) (l3 : mm_V) (l4 : mm_V), mm_E d 75 0 [l0, (.inl z), l2, l3, l4] [] st n I L P = mm_E d 75 1 [l0, (.inl z), l2, l3, l4] [] ((.inl z) :: st) n I L P) ∧
  (∀ (st : List mm_V) z (l0 : mm_V) (l1 : mm_V) (l2 : mm_V) (l3 : mm_V) (l4 : mm_V), mm_E d 75 1 [l0, l1, l2, l3, l4] [] ((.inl z) :: st) n I L P = mm_E d 75 3 [l0, l1, l2, l3, (.inl z)] [] st n I L P) ∧
  (∀ (st : List mm_V) z (l0 : mm_V) (l1 : mm_V) (l3 : mm_V) (l4 : mm_V), mm_E d 75 5 [l0, l1, (.inl z), l3, l4] [] st n I L P = mm_E d 75 6 [l0, l1, (.inl z), l3, l4] [] ((.inl z) :: st) n I L P) ∧
  (∀ (lv : List mm_V) (st : List mm_V) a b, mm_E d 75 6 lv [] (.inl b :: .inl a :: st) n I L P = if b ≤ a then mm_E d 75 28 lv [] st n I L P else mm_E d 75 9 lv [] st n I L P) ∧
  (∀ (st : List mm_V) z (l1 : mm_V) (l2 : mm_V) (l3 : mm_V) (l4 : mm_V), mm_E d 75 9 [(.inr (.inr z)), l1, l2, l3, l4] [] st n I L P = mm_E d 75 10 [(.inr (.inr z)), l1, l2, l3, l4] [] ((.inr (.inr z)) :: st) n I L P) ∧
  (∀ (st : List mm_V) z (l0 : mm_V) (l1 : mm_V) (l2 : mm_V) (l3 : mm_V), mm_E d 75 10 [l0, l1, l2, l3, (.inl z)] [] st n I L P = mm_E d 75 12 [l0, l1, l2, l3, (.inl z)] [] ((.inl z) :: st) n I L P) ∧
  (∀ (lv : List mm_V) a x0, (a = 1000004 ∨ a = 1000005) → mm_E d 75 12 lv [] (.inl x0 :: .inr (.inr (some a)) :: []) n I L P = mm_kr d 75 15 lv [] [] n (mm_rn d 270 [.inr (.inr (some a)), .inl x0] n I L P)) ∧
  (∀ (st : List mm_V) z (l0 : mm_V) (l1 : mm_V) (l2 : mm_V) (l4 : mm_V), mm_E d 75 15 [l0, l1, l2, (.inl z), l4] [] st n I L P = mm_E d 75 16 [l0, l1, l2, (.inl z), l4] [] ((.inl z) :: st) n I L P) ∧
  (∀ (lv : List mm_V) (st : List mm_V) a b, mm_E d 75 16 lv [] (.inl b :: .inl a :: st) n I L P = if a = b then mm_E d 75 19 lv [] st n I L P else mm_E d 75 22 lv [] st n I L P) ∧
  (∀ (st : List mm_V) z (l0 : mm_V) (l1 : mm_V) (l2 : mm_V) (l3 : mm_V), mm_E d 75 19 [l0, l1, l2, l3, (.inl z)] [] st n I L P = mm_E d 75 21 [l0, l1, l2, l3, (.inl z)] [] ((.inl z) :: st) n I L P) ∧
  (∀ (lv : List mm_V) z, mm_E d 75 21 lv [] [.inl z] n I L P = some (some (.inl z), n, I, L, P)) ∧
  (∀ (st : List mm_V) z (l0 : mm_V) (l1 : mm_V) (l2 : mm_V) (l3 : mm_V), mm_E d 75 22 [l0, l1, l2, l3, (.inl z)] [] st n I L P = mm_E d 75 25 [l0, l1, l2, l3, (.inl (mm_add z 1))] [] st n I L P) ∧
  (∀ (lv : List mm_V) (st : List mm_V), mm_E d 75 25 lv [] st n I L P = mm_E d 75 3 lv [] st n I L P) ∧
  (∀ (lv : List mm_V) (st : List mm_V), mm_E d 75 28 lv [] st n I L P = mm_E d 75 29 lv [] (.inl (-1) :: st) n I L P) ∧
  (∀ (lv : List mm_V) z, mm_E d 75 29 lv [] [.inl z] n I L P = some (some (.inl z), n, I, L, P)) :=
  ⟨fun _ _ _ _ _ _ => mq_il (i := 1) rfl rfl,
   fun _ _ _ _ _ _ _ => mq_is (i := 4) rfl rfl rfl,
   fun _ _ _ _ _ _ => mq_il (i := 2) rfl rfl,
   fun _ _ _ _ => mq_ic_ge rfl,
   fun _ _ _ _ _ _ => mq_al (i := 0) rfl rfl,
   fun _ _ _ _ _ _ => mq_il (i := 4) rfl rfl,
   fun _ _ _ h0 => mq_cWr (na := 1) rfl rfl (Nat.le_of_ble_eq_true rfl) (Nat.le_of_ble_eq_true rfl) h0,
   fun _ _ _ _ _ _ => mq_il (i := 3) rfl rfl,
   fun _ _ _ _ => mq_ic_ne rfl,
   fun _ _ _ _ _ _ => mq_il (i := 4) rfl rfl,
   fun _ _ => mq_ri rfl,
   fun _ _ _ _ _ _ => mq_iinc (i := 4) rfl rfl rfl rfl,
   fun _ _ => mq_go rfl,
   fun _ _ => mq_push rfl,
   fun _ _ => mq_ri rfl⟩
theorem hX10_signIn_3 (d n : Nat) (I L : mm_I) (P : mm_P) : ∀ (st : List mm_V) z (l0 : mm_V) (l1 : mm_V) (l2 : mm_V) (l3 : mm_V), mm_E d 75 3 [l0, l1, l2, l3, (.inl z)] [] st n I L P = mm_E d 75 5 [l0, l1, l2, l3, (.inl z)] [] ((.inl z) :: st) n I L P := fun _ _ _ _ _ _ => mq_il (i := 4) rfl rfl
theorem eX10_signIn (d n : Nat) (I L : mm_I) (P : mm_P) (x0 : Option Nat) (x1 : Int) (x2 : Int) (x3 : Int) : mm_rn (d + 1) 75 [.inr (.inr x0), .inl x1, .inl x2, .inl x3] n I L P = mm_E d 75 0 [.inr (.inr x0), .inl x1, .inl x2, .inl x3, mm_junk] [] [] n I L P := rfl

set_option maxRecDepth 20000 in
set_option maxHeartbeats 8000000 in
theorem kX10_isFull (d n : Nat) (I L : mm_I) (P : mm_P) :
  (∀ (st : List mm_V) z (l0 : mm_V) (l2 : mm_V), mm_E d 76 0 [l0, (.inl z), l2] [] st n I L P = mm_E d 76 1 [l0, (.inl z), l2] [] ((.inl z) :: st) n I L P) ∧
  (∀ (lv : List mm_V) (st : List mm_V) a, mm_E d 76 1 lv [] (.inl a :: st) n I L P = if a = 0 then mm_E d 76 4 lv [] st n I L P else mm_E d 76 9 lv [] st n I L P) ∧
  (∀ (st : List mm_V) z (l1 : mm_V) (l2 : mm_V), mm_E d 76 4 [(.inr (.inr z)), l1, l2] [] st n I L P = mm_E d 76 5 [(.inr (.inr z)), l1, l2] [] ((.inr (.inr z)) :: st) n I L P) ∧
  (∀ (lv : List mm_V) (st : List mm_V) a, (mm_ok n a 10) → mm_E d 76 5 lv [] (.inr (.inr (some a)) :: st) n I L P = mm_E d 76 8 lv [] (.inl (I a 4) :: st) n I L P) ∧
  (∀ (lv : List mm_V) z, (0 ≤ z ∧ z < 2) → mm_E d 76 8 lv [] [.inl z] n I L P = some (some (.inl z), n, I, L, P)) ∧
  (∀ (st : List mm_V) z (l0 : mm_V) (l2 : mm_V), mm_E d 76 9 [l0, (.inl z), l2] [] st n I L P = mm_E d 76 10 [l0, (.inl z), l2] [] ((.inl z) :: st) n I L P) ∧
  (∀ (lv : List mm_V) (st : List mm_V), mm_E d 76 10 lv [] st n I L P = mm_E d 76 11 lv [] (.inl 1 :: st) n I L P) ∧
  (∀ (lv : List mm_V) (st : List mm_V) a b, mm_E d 76 11 lv [] (.inl b :: .inl a :: st) n I L P = if a = b then mm_E d 76 14 lv [] st n I L P else mm_E d 76 31 lv [] st n I L P) ∧
  (∀ (st : List mm_V) z (l0 : mm_V) (l1 : mm_V), mm_E d 76 14 [l0, l1, (.inr (.inr z))] [] st n I L P = mm_E d 76 15 [l0, l1, (.inr (.inr z))] [] ((.inr (.inr z)) :: st) n I L P) ∧
  (∀ (lv : List mm_V) (st : List mm_V) a, (mm_ok n a 9) → mm_E d 76 15 lv [] (.inr (.inr (some a)) :: st) n I L P = mm_E d 76 18 lv [] (.inl (I a 0) :: st) n I L P) ∧
  (∀ (lv : List mm_V) (st : List mm_V), mm_E d 76 18 lv [] st n I L P = mm_E d 76 20 lv [] (.inl 8 :: st) n I L P) ∧
  (∀ (lv : List mm_V) (st : List mm_V) a b, mm_E d 76 20 lv [] (.inl b :: .inl a :: st) n I L P = if a < b then mm_E d 76 27 lv [] st n I L P else mm_E d 76 23 lv [] st n I L P) ∧
  (∀ (lv : List mm_V) (st : List mm_V), mm_E d 76 23 lv [] st n I L P = mm_E d 76 24 lv [] (.inl 1 :: st) n I L P) ∧
  (∀ (lv : List mm_V) (st : List mm_V), mm_E d 76 24 lv [] st n I L P = mm_E d 76 45 lv [] st n I L P) ∧
  (∀ (lv : List mm_V) (st : List mm_V), mm_E d 76 27 lv [] st n I L P = mm_E d 76 28 lv [] (.inl 0 :: st) n I L P) ∧
  (∀ (lv : List mm_V) (st : List mm_V), mm_E d 76 28 lv [] st n I L P = mm_E d 76 45 lv [] st n I L P) ∧
  (∀ (st : List mm_V) z (l1 : mm_V) (l2 : mm_V), mm_E d 76 31 [(.inr (.inr z)), l1, l2] [] st n I L P = mm_E d 76 32 [(.inr (.inr z)), l1, l2] [] ((.inr (.inr z)) :: st) n I L P) ∧
  (∀ (lv : List mm_V) (st : List mm_V) a, (mm_ok n a 10) → mm_E d 76 32 lv [] (.inr (.inr (some a)) :: st) n I L P = mm_E d 76 35 lv [] (.inl (I a 3) :: st) n I L P) ∧
  (∀ (lv : List mm_V) (st : List mm_V), mm_E d 76 35 lv [] st n I L P = mm_E d 76 37 lv [] (.inl 12 :: st) n I L P) ∧
  (∀ (lv : List mm_V) (st : List mm_V) a b, mm_E d 76 37 lv [] (.inl b :: .inl a :: st) n I L P = if a < b then mm_E d 76 44 lv [] st n I L P else mm_E d 76 40 lv [] st n I L P) ∧
  (∀ (lv : List mm_V) (st : List mm_V), mm_E d 76 40 lv [] st n I L P = mm_E d 76 41 lv [] (.inl 1 :: st) n I L P) ∧
  (∀ (lv : List mm_V) (st : List mm_V), mm_E d 76 41 lv [] st n I L P = mm_E d 76 45 lv [] st n I L P) ∧
  (∀ (lv : List mm_V) (st : List mm_V), mm_E d 76 44 lv [] st n I L P = mm_E d 76 45 lv [] (.inl 0 :: st) n I L P) ∧
  (∀ (lv : List mm_V) z, (0 ≤ z ∧ z < 2) → mm_E d 76 45 lv [] [.inl z] n I L P = some (some (.inl z), n, I, L, P)) :=
  ⟨fun _ _ _ _ => mq_il (i := 1) rfl rfl,
   fun _ _ _ => mq_if_ne rfl,
   fun _ _ _ _ => mq_al (i := 0) rfl rfl,
   fun _ _ _ h0 => mq_getI rfl h0,
   fun _ _ h0 => mq_rz rfl h0,
   fun _ _ _ _ => mq_il (i := 1) rfl rfl,
   fun _ _ => mq_push rfl,
   fun _ _ _ _ => mq_ic_ne rfl,
   fun _ _ _ _ => mq_al (i := 2) rfl rfl,
   fun _ _ _ h0 => mq_getI rfl h0,
   fun _ _ => mq_push rfl,
   fun _ _ _ _ => mq_ic_lt rfl,
   fun _ _ => mq_push rfl,
   fun _ _ => mq_go rfl,
   fun _ _ => mq_push rfl,
   fun _ _ => mq_go rfl,
   fun _ _ _ _ => mq_al (i := 0) rfl rfl,
   fun _ _ _ h0 => mq_getI rfl h0,
   fun _ _ => mq_push rfl,
   fun _ _ _ _ => mq_ic_lt rfl,
   fun _ _ => mq_push rfl,
   fun _ _ => mq_go rfl,
   fun _ _ => mq_push rfl,
   fun _ _ h0 => mq_rz rfl h0⟩
theorem eX10_isFull (d n : Nat) (I L : mm_I) (P : mm_P) (x0 : Option Nat) (x1 : Int) (x2 : Option Nat) : mm_rn (d + 1) 76 [.inr (.inr x0), .inl x1, .inr (.inr x2)] n I L P = mm_E d 76 0 [.inr (.inr x0), .inl x1, .inr (.inr x2)] [] [] n I L P := rfl

set_option maxRecDepth 20000 in
set_option maxHeartbeats 8000000 in
theorem kX10_readItems (d n : Nat) (I L : mm_I) (P : mm_P) :
  (∀ (lv : List mm_V) (st : List mm_V), mm_E d 77 0 lv [] st n I L P = mm_E d 77 1 lv [] (.inl 0 :: st) n I L P) ∧
  (∀ (st : List mm_V) z (l0 : mm_V) (l1 : mm_V) (l2 : mm_V) (l3 : mm_V) (l4 : mm_V) (l5 : mm_V) (l6 : mm_V), mm_E d 77 1 [l0, l1, l2, l3, l4, l5, l6] [] ((.inl z) :: st) n I L P = mm_E d 77 3 [l0, l1, l2, l3, (.inl z), l5, l6] [] st n I L P) ∧
  (∀ (st : List mm_V) z (l0 : mm_V) (l1 : mm_V) (l3 : mm_V) (l4 : mm_V) (l5 : mm_V) (l6 : mm_V), mm_E d 77 3 [l0, l1, (.inl z), l3, l4, l5, l6] [] st n I L P = mm_E d 77 4 [l0, l1, (.inl z), l3, l4, l5, l6] [] ((.inl z) :: st) n I L P) ∧
  (∀ (st : List mm_V) z (l0 : mm_V) (l1 : mm_V) (l2 : mm_V) (l3 : mm_V) (l4 : mm_V) (l5 : mm_V) (l6 : mm_V), mm_E d 77 4 [l0, l1, l2, l3, l4, l5, l6] [] ((.inl z) :: st) n I L P = mm_E d 77 6 [l0, l1, l2, l3, l4, (.inl z), l6] [] st n I L P) ∧
  (∀ (st : List mm_V) z (l0 : mm_V) (l1 : mm_V) (l2 : mm_V) (l4 : mm_V) (l5 : mm_V) (l6 : mm_V), mm_E d 77 8 [l0, l1, l2, (.inl z), l4, l5, l6] [] st n I L P = mm_E d 77 9 [l0, l1, l2, (.inl z), l4, l5, l6] [] ((.inl z) :: st) n I L P) ∧
  (∀ (lv : List mm_V) (st : List mm_V) a b, mm_E d 77 9 lv [] (.inl b :: .inl a :: st) n I L P = if b < a then mm_E d 77 83 lv [] st n I L P else mm_E d 77 12 lv [] st n I L P) ∧
  (∀ (lv : List mm_V) (st : List mm_V), mm_E d 77 12 lv [] st n I L P = mm_E d 77 14 lv [] (.inr (.inr (some 1000005)) :: st) n I L P) ∧
  (∀ (st : List mm_V) z (l0 : mm_V) (l1 : mm_V) (l3 : mm_V) (l4 : mm_V) (l5 : mm_V) (l6 : mm_V), mm_E d 77 14 [l0, l1, (.inl z), l3, l4, l5, l6] [] st n I L P = mm_E d 77 15 [l0, l1, (.inl z), l3, l4, l5, l6] [] ((.inl z) :: st) n I L P) ∧
  (∀ (st : List mm_V) z (l0 : mm_V) (l1 : mm_V) (l2 : mm_V) (l4 : mm_V) (l5 : mm_V) (l6 : mm_V), mm_E d 77 15 [l0, l1, l2, (.inl z), l4, l5, l6] [] st n I L P = mm_E d 77 16 [l0, l1, l2, (.inl z), l4, l5, l6] [] ((.inl z) :: st) n I L P) ∧
  (∀ (st : List mm_V) z (l0 : mm_V) (l2 : mm_V) (l3 : mm_V) (l4 : mm_V) (l5 : mm_V) (l6 : mm_V), mm_E d 77 16 [l0, (.inr (.inr z)), l2, l3, l4, l5, l6] [] st n I L P = mm_E d 77 17 [l0, (.inr (.inr z)), l2, l3, l4, l5, l6] [] ((.inr (.inr z)) :: st) n I L P) ∧
  (∀ (lv : List mm_V) a w0 w1 w2, (mm_ok n a 8) → mm_E d 77 17 lv [] (.inr (.inr (some a)) :: [.inl w0, .inl w1, .inr (.inr w2)]) n I L P = mm_kr d 77 20 lv [] [.inl w0, .inl w1, .inr (.inr w2)] n (mm_rn d 59 [.inr (.inr (some a))] n I L P)) ∧
  (∀ (lv : List mm_V) x0 x1 x2 x3, mm_E d 77 20 lv [] (.inl x3 :: .inl x2 :: .inl x1 :: .inr (.inr x0) :: []) n I L P = mm_kr d 77 23 lv [] [] n (mm_rn d 75 [.inr (.inr x0), .inl x1, .inl x2, .inl x3] n I L P)) ∧
  (∀ (st : List mm_V) z (l0 : mm_V) (l1 : mm_V) (l2 : mm_V) (l3 : mm_V) (l4 : mm_V) (l5 : mm_V) (l6 : mm_V), mm_E d 77 23 [l0, l1, l2, l3, l4, l5, l6] [] ((.inl z) :: st) n I L P = mm_E d 77 25 [l0, l1, l2, l3, l4, l5, (.inl z)] [] st n I L P) ∧
  (∀ (st : List mm_V) z (l0 : mm_V) (l1 : mm_V) (l2 : mm_V) (l3 : mm_V) (l4 : mm_V) (l5 : mm_V), mm_E d 77 25 [l0, l1, l2, l3, l4, l5, (.inl z)] [] st n I L P = mm_E d 77 27 [l0, l1, l2, l3, l4, l5, (.inl z)] [] ((.inl z) :: st) n I L P) ∧
  (∀ (lv : List mm_V) (st : List mm_V), mm_E d 77 27 lv [] st n I L P = mm_E d 77 28 lv [] (.inl (-1) :: st) n I L P) ∧
  (∀ (lv : List mm_V) (st : List mm_V) a b, mm_E d 77 28 lv [] (.inl b :: .inl a :: st) n I L P = if a = b then mm_E d 77 31 lv [] st n I L P else mm_E d 77 33 lv [] st n I L P) ∧
  (∀ (lv : List mm_V) (st : List mm_V), mm_E d 77 31 lv [] st n I L P = mm_E d 77 32 lv [] (.inl 1 :: st) n I L P) ∧
  (∀ (lv : List mm_V) z, (0 ≤ z ∧ z < 2) → mm_E d 77 32 lv [] [.inl z] n I L P = some (some (.inl z), n, I, L, P)) ∧
  (∀ (st : List mm_V) z (l0 : mm_V) (l1 : mm_V) (l2 : mm_V) (l3 : mm_V) (l5 : mm_V) (l6 : mm_V), mm_E d 77 33 [l0, l1, l2, l3, (.inl z), l5, l6] [] st n I L P = mm_E d 77 35 [l0, l1, l2, l3, (.inl z), l5, l6] [] ((.inl z) :: st) n I L P) ∧
  (∀ (st : List mm_V) z (l0 : mm_V) (l1 : mm_V) (l2 : mm_V) (l3 : mm_V) (l4 : mm_V) (l5 : mm_V), mm_E d 77 35 [l0, l1, l2, l3, l4, l5, (.inl z)] [] st n I L P = mm_E d 77 37 [l0, l1, l2, l3, l4, l5, (.inl z)] [] ((.inl z) :: st) n I L P) ∧
  (∀ (lv : List mm_V) (st : List mm_V) a b, mm_E d 77 37 lv [] (.inl b :: .inl a :: st) n I L P = mm_E d 77 38 lv [] (.inl (mm_shr a b) :: st) n I L P) ∧
  (∀ (lv : List mm_V) (st : List mm_V), mm_E d 77 38 lv [] st n I L P = mm_E d 77 39 lv [] (.inl 1 :: st) n I L P) ∧
  (∀ (lv : List mm_V) (st : List mm_V) a b, mm_E d 77 39 lv [] (.inl b :: .inl a :: st) n I L P = mm_E d 77 40 lv [] (.inl (mm_and a b) :: st) n I L P) ∧
  (∀ (lv : List mm_V) (st : List mm_V), mm_E d 77 40 lv [] st n I L P = mm_E d 77 41 lv [] (.inl 1 :: st) n I L P) ∧
  (∀ (lv : List mm_V) (st : List mm_V) a b, mm_E d 77 41 lv [] (.inl b :: .inl a :: st) n I L P = if a = b then mm_E d 77 44 lv [] st n I L P else mm_E d 77 46 lv [] st n I L P) ∧
  (∀ (lv : List mm_V) (st : List mm_V), mm_E d 77 44 lv [] st n I L P = mm_E d 77 45 lv [] (.inl 0 :: st) n I L P) ∧
  (∀ (lv : List mm_V) z, (0 ≤ z ∧ z < 2) → mm_E d 77 45 lv [] [.inl z] n I L P = some (some (.inl z), n, I, L, P)) ∧
  (∀ (st : List mm_V) z (l0 : mm_V) (l1 : mm_V) (l2 : mm_V) (l3 : mm_V) (l5 : mm_V) (l6 : mm_V), mm_E d 77 46 [l0, l1, l2, l3, (.inl z), l5, l6] [] st n I L P = mm_E d 77 48 [l0, l1, l2, l3, (.inl z), l5, l6] [] ((.inl z) :: st) n I L P) ∧
  (∀ (lv : List mm_V) (st : List mm_V), mm_E d 77 48 lv [] st n I L P = mm_E d 77 49 lv [] (.inl 1 :: st) n I L P) ∧
  (∀ (st : List mm_V) z (l0 : mm_V) (l1 : mm_V) (l2 : mm_V) (l3 : mm_V) (l4 : mm_V) (l5 : mm_V), mm_E d 77 49 [l0, l1, l2, l3, l4, l5, (.inl z)] [] st n I L P = mm_E d 77 51 [l0, l1, l2, l3, l4, l5, (.inl z)] [] ((.inl z) :: st) n I L P) ∧
  (∀ (lv : List mm_V) (st : List mm_V) a b, mm_E d 77 51 lv [] (.inl b :: .inl a :: st) n I L P = mm_E d 77 52 lv [] (.inl (mm_shl a b) :: st) n I L P) ∧
  (∀ (lv : List mm_V) (st : List mm_V) a b, mm_E d 77 52 lv [] (.inl b :: .inl a :: st) n I L P = mm_E d 77 53 lv [] (.inl (mm_or a b) :: st) n I L P) ∧
  (∀ (st : List mm_V) z (l0 : mm_V) (l1 : mm_V) (l2 : mm_V) (l3 : mm_V) (l4 : mm_V) (l5 : mm_V) (l6 : mm_V), mm_E d 77 53 [l0, l1, l2, l3, l4, l5, l6] [] ((.inl z) :: st) n I L P = mm_E d 77 55 [l0, l1, l2, l3, (.inl z), l5, l6] [] st n I L P) ∧
  (∀ (st : List mm_V) z (l0 : mm_V) (l2 : mm_V) (l3 : mm_V) (l4 : mm_V) (l5 : mm_V) (l6 : mm_V), mm_E d 77 55 [l0, (.inr (.inr z)), l2, l3, l4, l5, l6] [] st n I L P = mm_E d 77 56 [l0, (.inr (.inr z)), l2, l3, l4, l5, l6] [] ((.inr (.inr z)) :: st) n I L P) ∧
  (∀ (lv : List mm_V) (st : List mm_V) a, mm_E d 77 56 lv [] ((.inr (.inr a)) :: st) n I L P = mm_E d 77 57 lv [] ((.inr (.inr a)) :: (.inr (.inr a)) :: st) n I L P) ∧
  (∀ (lv : List mm_V) (st : List mm_V) a, (mm_ok n a 8) → mm_E d 77 57 lv [] (.inr (.inr (some a)) :: st) n I L P = mm_E d 77 60 lv [] (.inl (I a 2) :: st) n I L P) ∧
  (∀ (lv : List mm_V) (st : List mm_V), mm_E d 77 60 lv [] st n I L P = mm_E d 77 61 lv [] (.inl 1 :: st) n I L P) ∧
  (∀ (lv : List mm_V) (st : List mm_V) a b, mm_E d 77 61 lv [] (.inl b :: .inl a :: st) n I L P = mm_E d 77 62 lv [] (.inl (mm_add a b) :: st) n I L P) ∧
  (∀ (lv : List mm_V) (st : List mm_V) a z, (mm_ok n a 8) → mm_E d 77 62 lv [] (.inl z :: .inr (.inr (some a)) :: st) n I L P = mm_E d 77 65 lv [] st n (mm_ui I a 2 z) L P) ∧
  (∀ (st : List mm_V) z (l1 : mm_V) (l2 : mm_V) (l3 : mm_V) (l4 : mm_V) (l5 : mm_V) (l6 : mm_V), mm_E d 77 65 [(.inr (.inr z)), l1, l2, l3, l4, l5, l6] [] st n I L P = mm_E d 77 66 [(.inr (.inr z)), l1, l2, l3, l4, l5, l6] [] ((.inr (.inr z)) :: st) n I L P) ∧
  (∀ (st : List mm_V) z (l0 : mm_V) (l2 : mm_V) (l3 : mm_V) (l4 : mm_V) (l5 : mm_V) (l6 : mm_V), mm_E d 77 66 [l0, (.inr (.inr z)), l2, l3, l4, l5, l6] [] st n I L P = mm_E d 77 67 [l0, (.inr (.inr z)), l2, l3, l4, l5, l6] [] ((.inr (.inr z)) :: st) n I L P) ∧
  (∀ (st : List mm_V) z (l0 : mm_V) (l1 : mm_V) (l2 : mm_V) (l3 : mm_V) (l4 : mm_V) (l5 : mm_V), mm_E d 77 67 [l0, l1, l2, l3, l4, l5, (.inl z)] [] st n I L P = mm_E d 77 69 [l0, l1, l2, l3, l4, l5, (.inl z)] [] ((.inl z) :: st) n I L P) ∧
  (∀ (lv : List mm_V) a x0 x1, (mm_ok n a 10) → mm_E d 77 69 lv [] (.inl x1 :: .inr (.inr x0) :: .inr (.inr (some a)) :: []) n I L P = mm_kr d 77 72 lv [] [] n (mm_rn d 78 [.inr (.inr (some a)), .inr (.inr x0), .inl x1] n I L P)) ∧
  (∀ (lv : List mm_V) (st : List mm_V) a, mm_E d 77 72 lv [] (.inl a :: st) n I L P = if a = 0 then mm_E d 77 75 lv [] st n I L P else mm_E d 77 77 lv [] st n I L P) ∧
  (∀ (lv : List mm_V) (st : List mm_V), mm_E d 77 75 lv [] st n I L P = mm_E d 77 76 lv [] (.inl 0 :: st) n I L P) ∧
  (∀ (lv : List mm_V) z, (0 ≤ z ∧ z < 2) → mm_E d 77 76 lv [] [.inl z] n I L P = some (some (.inl z), n, I, L, P)) ∧
  (∀ (st : List mm_V) z (l0 : mm_V) (l1 : mm_V) (l2 : mm_V) (l3 : mm_V) (l4 : mm_V) (l6 : mm_V), mm_E d 77 77 [l0, l1, l2, l3, l4, (.inl z), l6] [] st n I L P = mm_E d 77 80 [l0, l1, l2, l3, l4, (.inl (mm_add z 1)), l6] [] st n I L P) ∧
  (∀ (lv : List mm_V) (st : List mm_V), mm_E d 77 80 lv [] st n I L P = mm_E d 77 6 lv [] st n I L P) ∧
  (∀ (lv : List mm_V) (st : List mm_V), mm_E d 77 83 lv [] st n I L P = mm_E d 77 84 lv [] (.inl 0 :: st) n I L P) ∧
  (∀ (lv : List mm_V) z, (0 ≤ z ∧ z < 2) → mm_E d 77 84 lv [] [.inl z] n I L P = some (some (.inl z), n, I, L, P)) :=
  ⟨fun _ _ => mq_push rfl,
   fun _ _ _ _ _ _ _ _ _ => mq_is (i := 4) rfl rfl rfl,
   fun _ _ _ _ _ _ _ _ => mq_il (i := 2) rfl rfl,
   fun _ _ _ _ _ _ _ _ _ => mq_is (i := 5) rfl rfl rfl,
   fun _ _ _ _ _ _ _ _ => mq_il (i := 3) rfl rfl,
   fun _ _ _ _ => mq_ic_gt rfl,
   fun _ _ => mq_push rfl,
   fun _ _ _ _ _ _ _ _ => mq_il (i := 2) rfl rfl,
   fun _ _ _ _ _ _ _ _ => mq_il (i := 3) rfl rfl,
   fun _ _ _ _ _ _ _ _ => mq_al (i := 1) rfl rfl,
   fun _ _ _ _ _ h0 => mq_cVr (na := 0) rfl rfl (Nat.le_of_ble_eq_true rfl) (Nat.le_of_ble_eq_true rfl) h0,
   fun _ _ _ _ _ => mq_cSr (na := 4) rfl (Nat.le_of_ble_eq_true rfl) (Nat.le_of_ble_eq_true rfl),
   fun _ _ _ _ _ _ _ _ _ => mq_is (i := 6) rfl rfl rfl,
   fun _ _ _ _ _ _ _ _ => mq_il (i := 6) rfl rfl,
   fun _ _ => mq_push rfl,
   fun _ _ _ _ => mq_ic_ne rfl,
   fun _ _ => mq_push rfl,
   fun _ _ h0 => mq_rz rfl h0,
   fun _ _ _ _ _ _ _ _ => mq_il (i := 4) rfl rfl,
   fun _ _ _ _ _ _ _ _ => mq_il (i := 6) rfl rfl,
   fun _ _ _ _ => mq_bi rfl,
   fun _ _ => mq_push rfl,
   fun _ _ _ _ => mq_bi rfl,
   fun _ _ => mq_push rfl,
   fun _ _ _ _ => mq_ic_ne rfl,
   fun _ _ => mq_push rfl,
   fun _ _ h0 => mq_rz rfl h0,
   fun _ _ _ _ _ _ _ _ => mq_il (i := 4) rfl rfl,
   fun _ _ => mq_push rfl,
   fun _ _ _ _ _ _ _ _ => mq_il (i := 6) rfl rfl,
   fun _ _ _ _ => mq_bi rfl,
   fun _ _ _ _ => mq_bi rfl,
   fun _ _ _ _ _ _ _ _ _ => mq_is (i := 4) rfl rfl rfl,
   fun _ _ _ _ _ _ _ _ => mq_al (i := 1) rfl rfl,
   fun _ _ _ => mq_dup rfl rfl,
   fun _ _ _ h0 => mq_getI rfl h0,
   fun _ _ => mq_push rfl,
   fun _ _ _ _ => mq_bi rfl,
   fun _ _ _ _ h0 => mq_putI rfl h0,
   fun _ _ _ _ _ _ _ _ => mq_al (i := 0) rfl rfl,
   fun _ _ _ _ _ _ _ _ => mq_al (i := 1) rfl rfl,
   fun _ _ _ _ _ _ _ _ => mq_il (i := 6) rfl rfl,
   fun _ _ _ _ h0 => mq_cVr (na := 2) rfl rfl (Nat.le_of_ble_eq_true rfl) (Nat.le_of_ble_eq_true rfl) h0,
   fun _ _ _ => mq_if_ne rfl,
   fun _ _ => mq_push rfl,
   fun _ _ h0 => mq_rz rfl h0,
   fun _ _ _ _ _ _ _ _ => mq_iinc (i := 5) rfl rfl rfl rfl,
   fun _ _ => mq_go rfl,
   fun _ _ => mq_push rfl,
   fun _ _ h0 => mq_rz rfl h0⟩
theorem hX10_readItems_6 (d n : Nat) (I L : mm_I) (P : mm_P) : ∀ (st : List mm_V) z (l0 : mm_V) (l1 : mm_V) (l2 : mm_V) (l3 : mm_V) (l4 : mm_V) (l6 : mm_V), mm_E d 77 6 [l0, l1, l2, l3, l4, (.inl z), l6] [] st n I L P = mm_E d 77 8 [l0, l1, l2, l3, l4, (.inl z), l6] [] ((.inl z) :: st) n I L P := fun _ _ _ _ _ _ _ _ => mq_il (i := 5) rfl rfl
theorem eX10_readItems (d n : Nat) (I L : mm_I) (P : mm_P) (x0 : Option Nat) (x1 : Option Nat) (x2 : Int) (x3 : Int) : mm_rn (d + 1) 77 [.inr (.inr x0), .inr (.inr x1), .inl x2, .inl x3] n I L P = mm_E d 77 0 [.inr (.inr x0), .inr (.inr x1), .inl x2, .inl x3, mm_junk, mm_junk, mm_junk] [] [] n I L P := rfl

set_option maxRecDepth 20000 in
set_option maxHeartbeats 8000000 in
theorem kX10_readNumber (d n : Nat) (I L : mm_I) (P : mm_P) :
  (∀ (st : List mm_V) z (l0 : mm_V) (l2 : mm_V) (l3 : mm_V), mm_E d 78 0 [l0, (.inr (.inr z)), l2, l3] [] st n I L P = mm_E d 78 1 [l0, (.inr (.inr z)), l2, l3] [] ((.inr (.inr z)) :: st) n I L P) ∧
  (∀ (lv : List mm_V) (st : List mm_V), mm_E d 78 1 lv [] st n I L P = mm_E d 78 2 lv [] (.inl 2 :: st) n I L P) ∧
  (∀ (lv : List mm_V) a x0, (mm_ok n a 8) → mm_E d 78 2 lv [] (.inl x0 :: .inr (.inr (some a)) :: []) n I L P = mm_kr d 78 5 lv [] [] n (mm_rn d 61 [.inr (.inr (some a)), .inl x0] n I L P)) ∧
  (∀ (st : List mm_V) z (l0 : mm_V) (l1 : mm_V) (l2 : mm_V) (l3 : mm_V), mm_E d 78 5 [l0, l1, l2, l3] [] ((.inl z) :: st) n I L P = mm_E d 78 6 [l0, l1, l2, (.inl z)] [] st n I L P) ∧
  (∀ (st : List mm_V) z (l0 : mm_V) (l1 : mm_V) (l2 : mm_V), mm_E d 78 6 [l0, l1, l2, (.inl z)] [] st n I L P = mm_E d 78 7 [l0, l1, l2, (.inl z)] [] ((.inl z) :: st) n I L P) ∧
  (∀ (lv : List mm_V) (st : List mm_V), mm_E d 78 7 lv [] st n I L P = mm_E d 78 8 lv [] (.inl (-1) :: st) n I L P) ∧
  (∀ (lv : List mm_V) (st : List mm_V) a b, mm_E d 78 8 lv [] (.inl b :: .inl a :: st) n I L P = if a = b then mm_E d 78 11 lv [] st n I L P else mm_E d 78 13 lv [] st n I L P) ∧
  (∀ (lv : List mm_V) (st : List mm_V), mm_E d 78 11 lv [] st n I L P = mm_E d 78 12 lv [] (.inl 0 :: st) n I L P) ∧
  (∀ (lv : List mm_V) z, (0 ≤ z ∧ z < 2) → mm_E d 78 12 lv [] [.inl z] n I L P = some (some (.inl z), n, I, L, P)) ∧
  (∀ (st : List mm_V) z (l0 : mm_V) (l1 : mm_V) (l2 : mm_V), mm_E d 78 13 [l0, l1, l2, (.inl z)] [] st n I L P = mm_E d 78 14 [l0, l1, l2, (.inl z)] [] ((.inl z) :: st) n I L P) ∧
  (∀ (lv : List mm_V) (st : List mm_V), mm_E d 78 14 lv [] st n I L P = mm_E d 78 17 lv [] (.inr (.inr (some 1000001)) :: st) n I L P) ∧
  (∀ (st : List mm_V) z (l0 : mm_V) (l1 : mm_V) (l3 : mm_V), mm_E d 78 17 [l0, l1, (.inl z), l3] [] st n I L P = mm_E d 78 18 [l0, l1, (.inl z), l3] [] ((.inl z) :: st) n I L P) ∧
  (∀ (lv : List mm_V) (st : List mm_V) a i, (1000000 ≤ a ∧ (mm_ty a).1 = 30 ∧ 0 ≤ i ∧ i < ((mm_ty a).2 : Int)) → mm_E d 78 18 lv [] (.inl i :: .inr (.inr (some a)) :: st) n I L P = mm_E d 78 19 lv [] (.inl (I a i.toNat) :: st) n I L P) ∧
  (∀ (lv : List mm_V) (st : List mm_V) a b, mm_E d 78 19 lv [] (.inl b :: .inl a :: st) n I L P = if a < b then mm_E d 78 31 lv [] st n I L P else mm_E d 78 22 lv [] st n I L P) ∧
  (∀ (st : List mm_V) z (l0 : mm_V) (l1 : mm_V) (l2 : mm_V), mm_E d 78 22 [l0, l1, l2, (.inl z)] [] st n I L P = mm_E d 78 23 [l0, l1, l2, (.inl z)] [] ((.inl z) :: st) n I L P) ∧
  (∀ (lv : List mm_V) (st : List mm_V), mm_E d 78 23 lv [] st n I L P = mm_E d 78 26 lv [] (.inr (.inr (some 1000002)) :: st) n I L P) ∧
  (∀ (st : List mm_V) z (l0 : mm_V) (l1 : mm_V) (l3 : mm_V), mm_E d 78 26 [l0, l1, (.inl z), l3] [] st n I L P = mm_E d 78 27 [l0, l1, (.inl z), l3] [] ((.inl z) :: st) n I L P) ∧
  (∀ (lv : List mm_V) (st : List mm_V) a i, (1000000 ≤ a ∧ (mm_ty a).1 = 30 ∧ 0 ≤ i ∧ i < ((mm_ty a).2 : Int)) → mm_E d 78 27 lv [] (.inl i :: .inr (.inr (some a)) :: st) n I L P = mm_E d 78 28 lv [] (.inl (I a i.toNat) :: st) n I L P) ∧
  (∀ (lv : List mm_V) (st : List mm_V) a b, mm_E d 78 28 lv [] (.inl b :: .inl a :: st) n I L P = if a ≤ b then mm_E d 78 43 lv [] st n I L P else mm_E d 78 31 lv [] st n I L P) ∧
  (∀ (st : List mm_V) z (l0 : mm_V) (l2 : mm_V) (l3 : mm_V), mm_E d 78 31 [l0, (.inr (.inr z)), l2, l3] [] st n I L P = mm_E d 78 32 [l0, (.inr (.inr z)), l2, l3] [] ((.inr (.inr z)) :: st) n I L P) ∧
  (∀ (lv : List mm_V) (st : List mm_V) a, mm_E d 78 32 lv [] ((.inr (.inr a)) :: st) n I L P = mm_E d 78 33 lv [] ((.inr (.inr a)) :: (.inr (.inr a)) :: st) n I L P) ∧
  (∀ (lv : List mm_V) (st : List mm_V) a, (mm_ok n a 8) → mm_E d 78 33 lv [] (.inr (.inr (some a)) :: st) n I L P = mm_E d 78 36 lv [] (.inl (I a 2) :: st) n I L P) ∧
  (∀ (lv : List mm_V) (st : List mm_V), mm_E d 78 36 lv [] st n I L P = mm_E d 78 37 lv [] (.inl 1 :: st) n I L P) ∧
  (∀ (lv : List mm_V) (st : List mm_V) a b, mm_E d 78 37 lv [] (.inl b :: .inl a :: st) n I L P = mm_E d 78 38 lv [] (.inl (mm_sub a b) :: st) n I L P) ∧
  (∀ (lv : List mm_V) (st : List mm_V) a z, (mm_ok n a 8) → mm_E d 78 38 lv [] (.inl z :: .inr (.inr (some a)) :: st) n I L P = mm_E d 78 41 lv [] st n (mm_ui I a 2 z) L P) ∧
  (∀ (lv : List mm_V) (st : List mm_V), mm_E d 78 41 lv [] st n I L P = mm_E d 78 42 lv [] (.inl 0 :: st) n I L P) ∧
  (∀ (lv : List mm_V) z, (0 ≤ z ∧ z < 2) → mm_E d 78 42 lv [] [.inl z] n I L P = some (some (.inl z), n, I, L, P)) ∧
  (∀ (st : List mm_V) z (l1 : mm_V) (l2 : mm_V) (l3 : mm_V), mm_E d 78 43 [(.inr (.inr z)), l1, l2, l3] [] st n I L P = mm_E d 78 44 [(.inr (.inr z)), l1, l2, l3] [] ((.inr (.inr z)) :: st) n I L P) ∧
  (∀ (lv : List mm_V) (st : List mm_V) a, (mm_ok n a 10) → mm_E d 78 44 lv [] (.inr (.inr (some a)) :: st) n I L P = mm_E d 78 47 lv [] (.inr (.inr (P a 0)) :: st) n I L P) ∧
  (∀ (st : List mm_V) z (l0 : mm_V) (l1 : mm_V) (l3 : mm_V), mm_E d 78 47 [l0, l1, (.inl z), l3] [] st n I L P = mm_E d 78 48 [l0, l1, (.inl z), l3] [] ((.inl z) :: st) n I L P) ∧
  (∀ (st : List mm_V) z (l0 : mm_V) (l1 : mm_V) (l2 : mm_V), mm_E d 78 48 [l0, l1, l2, (.inl z)] [] st n I L P = mm_E d 78 49 [l0, l1, l2, (.inl z)] [] ((.inl z) :: st) n I L P) ∧
  (∀ (lv : List mm_V) (st : List mm_V) a i z, (mm_ix n a 20 i) → mm_E d 78 49 lv [] (.inl z :: .inl i :: .inr (.inr (some a)) :: st) n I L P = mm_E d 78 50 lv [] st n (mm_ui I a i.toNat z) L P) ∧
  (∀ (lv : List mm_V) (st : List mm_V), mm_E d 78 50 lv [] st n I L P = mm_E d 78 51 lv [] (.inl 1 :: st) n I L P) ∧
  (∀ (lv : List mm_V) z, (0 ≤ z ∧ z < 2) → mm_E d 78 51 lv [] [.inl z] n I L P = some (some (.inl z), n, I, L, P)) :=
  ⟨fun _ _ _ _ _ => mq_al (i := 1) rfl rfl,
   fun _ _ => mq_push rfl,
   fun _ _ _ h0 => mq_cVr (na := 1) rfl rfl (Nat.le_of_ble_eq_true rfl) (Nat.le_of_ble_eq_true rfl) h0,
   fun _ _ _ _ _ _ => mq_is (i := 3) rfl rfl rfl,
   fun _ _ _ _ _ => mq_il (i := 3) rfl rfl,
   fun _ _ => mq_push rfl,
   fun _ _ _ _ => mq_ic_ne rfl,
   fun _ _ => mq_push rfl,
   fun _ _ h0 => mq_rz rfl h0,
   fun _ _ _ _ _ => mq_il (i := 3) rfl rfl,
   fun _ _ => mq_push rfl,
   fun _ _ _ _ _ => mq_il (i := 2) rfl rfl,
   fun _ _ _ _ h0 => mq_sald rfl h0,
   fun _ _ _ _ => mq_ic_lt rfl,
   fun _ _ _ _ _ => mq_il (i := 3) rfl rfl,
   fun _ _ => mq_push rfl,
   fun _ _ _ _ _ => mq_il (i := 2) rfl rfl,
   fun _ _ _ _ h0 => mq_sald rfl h0,
   fun _ _ _ _ => mq_ic_le rfl,
   fun _ _ _ _ _ => mq_al (i := 1) rfl rfl,
   fun _ _ _ => mq_dup rfl rfl,
   fun _ _ _ h0 => mq_getI rfl h0,
   fun _ _ => mq_push rfl,
   fun _ _ _ _ => mq_bi rfl,
   fun _ _ _ _ h0 => mq_putI rfl h0,
   fun _ _ => mq_push rfl,
   fun _ _ h0 => mq_rz rfl h0,
   fun _ _ _ _ _ => mq_al (i := 0) rfl rfl,
   fun _ _ _ h0 => mq_getR rfl h0,
   fun _ _ _ _ _ => mq_il (i := 2) rfl rfl,
   fun _ _ _ _ _ => mq_il (i := 3) rfl rfl,
   fun _ _ _ _ _ h0 => mq_iast rfl h0,
   fun _ _ => mq_push rfl,
   fun _ _ h0 => mq_rz rfl h0⟩
theorem eX10_readNumber (d n : Nat) (I L : mm_I) (P : mm_P) (x0 : Option Nat) (x1 : Option Nat) (x2 : Int) : mm_rn (d + 1) 78 [.inr (.inr x0), .inr (.inr x1), .inl x2] n I L P = mm_E d 78 0 [.inr (.inr x0), .inr (.inr x1), .inl x2, mm_junk] [] [] n I L P := rfl

set_option maxRecDepth 20000 in
set_option maxHeartbeats 8000000 in
theorem kX10_keepRules (d n : Nat) (I L : mm_I) (P : mm_P) :
  (∀ (st : List mm_V) z (l0 : mm_V), mm_E d 79 0 [l0, (.inr (.inr z))] [] st n I L P = mm_E d 79 1 [l0, (.inr (.inr z))] [] ((.inr (.inr z)) :: st) n I L P) ∧
  (∀ (st : List mm_V) z (l1 : mm_V), mm_E d 79 1 [(.inr (.inr z)), l1] [] st n I L P = mm_E d 79 2 [(.inr (.inr z)), l1] [] ((.inr (.inr z)) :: st) n I L P) ∧
  (∀ (lv : List mm_V) (st : List mm_V) a, (mm_ok n a 10) → mm_E d 79 2 lv [] (.inr (.inr (some a)) :: st) n I L P = mm_E d 79 5 lv [] (.inr (.inr (P a 0)) :: st) n I L P) ∧
  (∀ (lv : List mm_V) (st : List mm_V), mm_E d 79 5 lv [] st n I L P = mm_E d 79 6 lv [] (.inl 0 :: st) n I L P) ∧
  (∀ (lv : List mm_V) (st : List mm_V) a i, (mm_ix n a 20 i) → mm_E d 79 6 lv [] (.inl i :: .inr (.inr (some a)) :: st) n I L P = mm_E d 79 7 lv [] (.inl (I a i.toNat) :: st) n I L P) ∧
  (∀ (lv : List mm_V) (st : List mm_V) a z, (mm_ok n a 9) → mm_E d 79 7 lv [] (.inl z :: .inr (.inr (some a)) :: st) n I L P = mm_E d 79 10 lv [] st n (mm_ui I a 1 z) L P) ∧
  (∀ (st : List mm_V) z (l0 : mm_V), mm_E d 79 10 [l0, (.inr (.inr z))] [] st n I L P = mm_E d 79 11 [l0, (.inr (.inr z))] [] ((.inr (.inr z)) :: st) n I L P) ∧
  (∀ (st : List mm_V) z (l1 : mm_V), mm_E d 79 11 [(.inr (.inr z)), l1] [] st n I L P = mm_E d 79 12 [(.inr (.inr z)), l1] [] ((.inr (.inr z)) :: st) n I L P) ∧
  (∀ (lv : List mm_V) (st : List mm_V) a, (mm_ok n a 10) → mm_E d 79 12 lv [] (.inr (.inr (some a)) :: st) n I L P = mm_E d 79 15 lv [] (.inr (.inr (P a 0)) :: st) n I L P) ∧
  (∀ (lv : List mm_V) (st : List mm_V), mm_E d 79 15 lv [] st n I L P = mm_E d 79 16 lv [] (.inl 1 :: st) n I L P) ∧
  (∀ (lv : List mm_V) (st : List mm_V) a i, (mm_ix n a 20 i) → mm_E d 79 16 lv [] (.inl i :: .inr (.inr (some a)) :: st) n I L P = mm_E d 79 17 lv [] (.inl (I a i.toNat) :: st) n I L P) ∧
  (∀ (lv : List mm_V) (st : List mm_V) a z, (mm_ok n a 9) → mm_E d 79 17 lv [] (.inl z :: .inr (.inr (some a)) :: st) n I L P = mm_E d 79 20 lv [] st n (mm_ui I a 2 z) L P) ∧
  (∀ (st : List mm_V) z (l0 : mm_V), mm_E d 79 20 [l0, (.inr (.inr z))] [] st n I L P = mm_E d 79 21 [l0, (.inr (.inr z))] [] ((.inr (.inr z)) :: st) n I L P) ∧
  (∀ (st : List mm_V) z (l1 : mm_V), mm_E d 79 21 [(.inr (.inr z)), l1] [] st n I L P = mm_E d 79 22 [(.inr (.inr z)), l1] [] ((.inr (.inr z)) :: st) n I L P) ∧
  (∀ (lv : List mm_V) (st : List mm_V) a, (mm_ok n a 10) → mm_E d 79 22 lv [] (.inr (.inr (some a)) :: st) n I L P = mm_E d 79 25 lv [] (.inr (.inr (P a 0)) :: st) n I L P) ∧
  (∀ (lv : List mm_V) (st : List mm_V), mm_E d 79 25 lv [] st n I L P = mm_E d 79 26 lv [] (.inl 2 :: st) n I L P) ∧
  (∀ (lv : List mm_V) (st : List mm_V) a i, (mm_ix n a 20 i) → mm_E d 79 26 lv [] (.inl i :: .inr (.inr (some a)) :: st) n I L P = mm_E d 79 27 lv [] (.inl (I a i.toNat) :: st) n I L P) ∧
  (∀ (lv : List mm_V) (st : List mm_V) a z, (mm_ok n a 9) → mm_E d 79 27 lv [] (.inl z :: .inr (.inr (some a)) :: st) n I L P = mm_E d 79 30 lv [] st n (mm_ui I a 3 z) L P) ∧
  (∀ (lv : List mm_V), mm_E d 79 30 lv [] [] n I L P = some (none, n, I, L, P)) :=
  ⟨fun _ _ _ => mq_al (i := 1) rfl rfl,
   fun _ _ _ => mq_al (i := 0) rfl rfl,
   fun _ _ _ h0 => mq_getR rfl h0,
   fun _ _ => mq_push rfl,
   fun _ _ _ _ h0 => mq_iald rfl h0,
   fun _ _ _ _ h0 => mq_putI rfl h0,
   fun _ _ _ => mq_al (i := 1) rfl rfl,
   fun _ _ _ => mq_al (i := 0) rfl rfl,
   fun _ _ _ h0 => mq_getR rfl h0,
   fun _ _ => mq_push rfl,
   fun _ _ _ _ h0 => mq_iald rfl h0,
   fun _ _ _ _ h0 => mq_putI rfl h0,
   fun _ _ _ => mq_al (i := 1) rfl rfl,
   fun _ _ _ => mq_al (i := 0) rfl rfl,
   fun _ _ _ h0 => mq_getR rfl h0,
   fun _ _ => mq_push rfl,
   fun _ _ _ _ h0 => mq_iald rfl h0,
   fun _ _ _ _ h0 => mq_putI rfl h0,
   fun _ => mq_rv rfl⟩
theorem eX10_keepRules (d n : Nat) (I L : mm_I) (P : mm_P) (x0 : Option Nat) (x1 : Option Nat) : mm_rn (d + 1) 79 [.inr (.inr x0), .inr (.inr x1)] n I L P = mm_E d 79 0 [.inr (.inr x0), .inr (.inr x1)] [] [] n I L P := rfl

set_option maxRecDepth 20000 in
set_option maxHeartbeats 8000000 in
theorem kX10_keepPlace (d n : Nat) (I L : mm_I) (P : mm_P) :
  (∀ (st : List mm_V) z (l0 : mm_V), mm_E d 80 0 [l0, (.inr (.inr z))] [] st n I L P = mm_E d 80 1 [l0, (.inr (.inr z))] [] ((.inr (.inr z)) :: st) n I L P) ∧
  (∀ (lv : List mm_V) (st : List mm_V) a, (mm_ok n a 9) → mm_E d 80 1 lv [] (.inr (.inr (some a)) :: st) n I L P = mm_E d 80 4 lv [] (.inr (.inr (P a 4)) :: st) n I L P) ∧
  (∀ (st : List mm_V) z (l0 : mm_V), mm_E d 80 4 [l0, (.inr (.inr z))] [] st n I L P = mm_E d 80 5 [l0, (.inr (.inr z))] [] ((.inr (.inr z)) :: st) n I L P) ∧
  (∀ (lv : List mm_V) (st : List mm_V) a, (mm_ok n a 9) → mm_E d 80 5 lv [] (.inr (.inr (some a)) :: st) n I L P = mm_E d 80 8 lv [] (.inl (I a 0) :: st) n I L P) ∧
  (∀ (st : List mm_V) z (l1 : mm_V), mm_E d 80 8 [(.inr (.inr z)), l1] [] st n I L P = mm_E d 80 9 [(.inr (.inr z)), l1] [] ((.inr (.inr z)) :: st) n I L P) ∧
  (∀ (lv : List mm_V) (st : List mm_V) a, (mm_ok n a 10) → mm_E d 80 9 lv [] (.inr (.inr (some a)) :: st) n I L P = mm_E d 80 12 lv [] (.inr (.inr (P a 0)) :: st) n I L P) ∧
  (∀ (lv : List mm_V) (st : List mm_V), mm_E d 80 12 lv [] st n I L P = mm_E d 80 13 lv [] (.inl 3 :: st) n I L P) ∧
  (∀ (lv : List mm_V) (st : List mm_V) a i, (mm_ix n a 20 i) → mm_E d 80 13 lv [] (.inl i :: .inr (.inr (some a)) :: st) n I L P = mm_E d 80 14 lv [] (.inl (I a i.toNat) :: st) n I L P) ∧
  (∀ (lv : List mm_V) (st : List mm_V) a i z, (mm_ix n a 20 i) → mm_E d 80 14 lv [] (.inl z :: .inl i :: .inr (.inr (some a)) :: st) n I L P = mm_E d 80 15 lv [] st n (mm_ui I a i.toNat z) L P) ∧
  (∀ (st : List mm_V) z (l0 : mm_V), mm_E d 80 15 [l0, (.inr (.inr z))] [] st n I L P = mm_E d 80 16 [l0, (.inr (.inr z))] [] ((.inr (.inr z)) :: st) n I L P) ∧
  (∀ (lv : List mm_V) (st : List mm_V) a, (mm_ok n a 9) → mm_E d 80 16 lv [] (.inr (.inr (some a)) :: st) n I L P = mm_E d 80 19 lv [] (.inr (.inr (P a 5)) :: st) n I L P) ∧
  (∀ (st : List mm_V) z (l0 : mm_V), mm_E d 80 19 [l0, (.inr (.inr z))] [] st n I L P = mm_E d 80 20 [l0, (.inr (.inr z))] [] ((.inr (.inr z)) :: st) n I L P) ∧
  (∀ (lv : List mm_V) (st : List mm_V) a, (mm_ok n a 9) → mm_E d 80 20 lv [] (.inr (.inr (some a)) :: st) n I L P = mm_E d 80 23 lv [] (.inl (I a 0) :: st) n I L P) ∧
  (∀ (st : List mm_V) z (l1 : mm_V), mm_E d 80 23 [(.inr (.inr z)), l1] [] st n I L P = mm_E d 80 24 [(.inr (.inr z)), l1] [] ((.inr (.inr z)) :: st) n I L P) ∧
  (∀ (lv : List mm_V) (st : List mm_V) a, (mm_ok n a 10) → mm_E d 80 24 lv [] (.inr (.inr (some a)) :: st) n I L P = mm_E d 80 27 lv [] (.inr (.inr (P a 0)) :: st) n I L P) ∧
  (∀ (lv : List mm_V) (st : List mm_V), mm_E d 80 27 lv [] st n I L P = mm_E d 80 28 lv [] (.inl 4 :: st) n I L P) ∧
  (∀ (lv : List mm_V) (st : List mm_V) a i, (mm_ix n a 20 i) → mm_E d 80 28 lv [] (.inl i :: .inr (.inr (some a)) :: st) n I L P = mm_E d 80 29 lv [] (.inl (I a i.toNat) :: st) n I L P) ∧
  (∀ (lv : List mm_V) (st : List mm_V) a i z, (mm_ix n a 20 i) → mm_E d 80 29 lv [] (.inl z :: .inl i :: .inr (.inr (some a)) :: st) n I L P = mm_E d 80 30 lv [] st n (mm_ui I a i.toNat z) L P) ∧
  (∀ (st : List mm_V) z (l0 : mm_V), mm_E d 80 30 [l0, (.inr (.inr z))] [] st n I L P = mm_E d 80 31 [l0, (.inr (.inr z))] [] ((.inr (.inr z)) :: st) n I L P) ∧
  (∀ (lv : List mm_V) (st : List mm_V) a, (mm_ok n a 9) → mm_E d 80 31 lv [] (.inr (.inr (some a)) :: st) n I L P = mm_E d 80 34 lv [] (.inr (.inr (P a 6)) :: st) n I L P) ∧
  (∀ (st : List mm_V) z (l0 : mm_V), mm_E d 80 34 [l0, (.inr (.inr z))] [] st n I L P = mm_E d 80 35 [l0, (.inr (.inr z))] [] ((.inr (.inr z)) :: st) n I L P) ∧
  (∀ (lv : List mm_V) (st : List mm_V) a, (mm_ok n a 9) → mm_E d 80 35 lv [] (.inr (.inr (some a)) :: st) n I L P = mm_E d 80 38 lv [] (.inl (I a 0) :: st) n I L P) ∧
  (∀ (lv : List mm_V) (st : List mm_V), mm_E d 80 38 lv [] st n I L P = mm_E d 80 39 lv [] (.inl 0 :: st) n I L P) ∧
  (∀ (lv : List mm_V) (st : List mm_V) a i z, (mm_ix n a 20 i) → mm_E d 80 39 lv [] (.inl z :: .inl i :: .inr (.inr (some a)) :: st) n I L P = mm_E d 80 40 lv [] st n (mm_ui I a i.toNat z) L P) ∧
  (∀ (st : List mm_V) z (l0 : mm_V), mm_E d 80 40 [l0, (.inr (.inr z))] [] st n I L P = mm_E d 80 41 [l0, (.inr (.inr z))] [] ((.inr (.inr z)) :: st) n I L P) ∧
  (∀ (lv : List mm_V) (st : List mm_V) a, mm_E d 80 41 lv [] ((.inr (.inr a)) :: st) n I L P = mm_E d 80 42 lv [] ((.inr (.inr a)) :: (.inr (.inr a)) :: st) n I L P) ∧
  (∀ (lv : List mm_V) (st : List mm_V) a, (mm_ok n a 9) → mm_E d 80 42 lv [] (.inr (.inr (some a)) :: st) n I L P = mm_E d 80 45 lv [] (.inl (I a 0) :: st) n I L P) ∧
  (∀ (lv : List mm_V) (st : List mm_V), mm_E d 80 45 lv [] st n I L P = mm_E d 80 46 lv [] (.inl 1 :: st) n I L P) ∧
  (∀ (lv : List mm_V) (st : List mm_V) a b, mm_E d 80 46 lv [] (.inl b :: .inl a :: st) n I L P = mm_E d 80 47 lv [] (.inl (mm_add a b) :: st) n I L P) ∧
  (∀ (lv : List mm_V) (st : List mm_V) a z, (mm_ok n a 9) → mm_E d 80 47 lv [] (.inl z :: .inr (.inr (some a)) :: st) n I L P = mm_E d 80 50 lv [] st n (mm_ui I a 0 z) L P) ∧
  (∀ (lv : List mm_V), mm_E d 80 50 lv [] [] n I L P = some (none, n, I, L, P)) :=
  ⟨fun _ _ _ => mq_al (i := 1) rfl rfl,
   fun _ _ _ h0 => mq_getR rfl h0,
   fun _ _ _ => mq_al (i := 1) rfl rfl,
   fun _ _ _ h0 => mq_getI rfl h0,
   fun _ _ _ => mq_al (i := 0) rfl rfl,
   fun _ _ _ h0 => mq_getR rfl h0,
   fun _ _ => mq_push rfl,
   fun _ _ _ _ h0 => mq_iald rfl h0,
   fun _ _ _ _ _ h0 => mq_iast rfl h0,
   fun _ _ _ => mq_al (i := 1) rfl rfl,
   fun _ _ _ h0 => mq_getR rfl h0,
   fun _ _ _ => mq_al (i := 1) rfl rfl,
   fun _ _ _ h0 => mq_getI rfl h0,
   fun _ _ _ => mq_al (i := 0) rfl rfl,
   fun _ _ _ h0 => mq_getR rfl h0,
   fun _ _ => mq_push rfl,
   fun _ _ _ _ h0 => mq_iald rfl h0,
   fun _ _ _ _ _ h0 => mq_iast rfl h0,
   fun _ _ _ => mq_al (i := 1) rfl rfl,
   fun _ _ _ h0 => mq_getR rfl h0,
   fun _ _ _ => mq_al (i := 1) rfl rfl,
   fun _ _ _ h0 => mq_getI rfl h0,
   fun _ _ => mq_push rfl,
   fun _ _ _ _ _ h0 => mq_iast rfl h0,
   fun _ _ _ => mq_al (i := 1) rfl rfl,
   fun _ _ _ => mq_dup rfl rfl,
   fun _ _ _ h0 => mq_getI rfl h0,
   fun _ _ => mq_push rfl,
   fun _ _ _ _ => mq_bi rfl,
   fun _ _ _ _ h0 => mq_putI rfl h0,
   fun _ => mq_rv rfl⟩
theorem eX10_keepPlace (d n : Nat) (I L : mm_I) (P : mm_P) (x0 : Option Nat) (x1 : Option Nat) : mm_rn (d + 1) 80 [.inr (.inr x0), .inr (.inr x1)] n I L P = mm_E d 80 0 [.inr (.inr x0), .inr (.inr x1)] [] [] n I L P := rfl

set_option maxRecDepth 20000 in
set_option maxHeartbeats 8000000 in
theorem kX10_keepLane (d n : Nat) (I L : mm_I) (P : mm_P) :
  (∀ (st : List mm_V) z, mm_E d 81 0 [(.inr (.inr z))] [] st n I L P = mm_E d 81 1 [(.inr (.inr z))] [] ((.inr (.inr z)) :: st) n I L P) ∧
  (∀ (lv : List mm_V) (st : List mm_V) a, (mm_ok n a 10) → mm_E d 81 1 lv [] (.inr (.inr (some a)) :: st) n I L P = mm_E d 81 4 lv [] (.inr (.inr (P a 1)) :: st) n I L P) ∧
  (∀ (st : List mm_V) z, mm_E d 81 4 [(.inr (.inr z))] [] st n I L P = mm_E d 81 5 [(.inr (.inr z))] [] ((.inr (.inr z)) :: st) n I L P) ∧
  (∀ (lv : List mm_V) (st : List mm_V) a, (mm_ok n a 10) → mm_E d 81 5 lv [] (.inr (.inr (some a)) :: st) n I L P = mm_E d 81 8 lv [] (.inl (I a 3) :: st) n I L P) ∧
  (∀ (st : List mm_V) z, mm_E d 81 8 [(.inr (.inr z))] [] st n I L P = mm_E d 81 9 [(.inr (.inr z))] [] ((.inr (.inr z)) :: st) n I L P) ∧
  (∀ (lv : List mm_V) (st : List mm_V) a, (mm_ok n a 10) → mm_E d 81 9 lv [] (.inr (.inr (some a)) :: st) n I L P = mm_E d 81 12 lv [] (.inr (.inr (P a 0)) :: st) n I L P) ∧
  (∀ (lv : List mm_V) (st : List mm_V), mm_E d 81 12 lv [] st n I L P = mm_E d 81 13 lv [] (.inl 5 :: st) n I L P) ∧
  (∀ (lv : List mm_V) (st : List mm_V) a i, (mm_ix n a 20 i) → mm_E d 81 13 lv [] (.inl i :: .inr (.inr (some a)) :: st) n I L P = mm_E d 81 14 lv [] (.inl (I a i.toNat) :: st) n I L P) ∧
  (∀ (lv : List mm_V) (st : List mm_V) a i z, (mm_ix n a 20 i) → mm_E d 81 14 lv [] (.inl z :: .inl i :: .inr (.inr (some a)) :: st) n I L P = mm_E d 81 15 lv [] st n (mm_ui I a i.toNat z) L P) ∧
  (∀ (st : List mm_V) z, mm_E d 81 15 [(.inr (.inr z))] [] st n I L P = mm_E d 81 16 [(.inr (.inr z))] [] ((.inr (.inr z)) :: st) n I L P) ∧
  (∀ (lv : List mm_V) (st : List mm_V) a, (mm_ok n a 10) → mm_E d 81 16 lv [] (.inr (.inr (some a)) :: st) n I L P = mm_E d 81 19 lv [] (.inr (.inr (P a 2)) :: st) n I L P) ∧
  (∀ (st : List mm_V) z, mm_E d 81 19 [(.inr (.inr z))] [] st n I L P = mm_E d 81 20 [(.inr (.inr z))] [] ((.inr (.inr z)) :: st) n I L P) ∧
  (∀ (lv : List mm_V) (st : List mm_V) a, (mm_ok n a 10) → mm_E d 81 20 lv [] (.inr (.inr (some a)) :: st) n I L P = mm_E d 81 23 lv [] (.inl (I a 3) :: st) n I L P) ∧
  (∀ (st : List mm_V) z, mm_E d 81 23 [(.inr (.inr z))] [] st n I L P = mm_E d 81 24 [(.inr (.inr z))] [] ((.inr (.inr z)) :: st) n I L P) ∧
  (∀ (lv : List mm_V) (st : List mm_V) a, (mm_ok n a 10) → mm_E d 81 24 lv [] (.inr (.inr (some a)) :: st) n I L P = mm_E d 81 27 lv [] (.inr (.inr (P a 0)) :: st) n I L P) ∧
  (∀ (lv : List mm_V) (st : List mm_V), mm_E d 81 27 lv [] st n I L P = mm_E d 81 29 lv [] (.inl 6 :: st) n I L P) ∧
  (∀ (lv : List mm_V) (st : List mm_V) a i, (mm_ix n a 20 i) → mm_E d 81 29 lv [] (.inl i :: .inr (.inr (some a)) :: st) n I L P = mm_E d 81 30 lv [] (.inl (I a i.toNat) :: st) n I L P) ∧
  (∀ (lv : List mm_V) (st : List mm_V) a i z, (mm_ix n a 20 i) → mm_E d 81 30 lv [] (.inl z :: .inl i :: .inr (.inr (some a)) :: st) n I L P = mm_E d 81 31 lv [] st n (mm_ui I a i.toNat z) L P) ∧
  (∀ (st : List mm_V) z, mm_E d 81 31 [(.inr (.inr z))] [] st n I L P = mm_E d 81 32 [(.inr (.inr z))] [] ((.inr (.inr z)) :: st) n I L P) ∧
  (∀ (lv : List mm_V) (st : List mm_V) a, mm_E d 81 32 lv [] ((.inr (.inr a)) :: st) n I L P = mm_E d 81 33 lv [] ((.inr (.inr a)) :: (.inr (.inr a)) :: st) n I L P) ∧
  (∀ (lv : List mm_V) (st : List mm_V) a, (mm_ok n a 10) → mm_E d 81 33 lv [] (.inr (.inr (some a)) :: st) n I L P = mm_E d 81 36 lv [] (.inl (I a 3) :: st) n I L P) ∧
  (∀ (lv : List mm_V) (st : List mm_V), mm_E d 81 36 lv [] st n I L P = mm_E d 81 37 lv [] (.inl 1 :: st) n I L P) ∧
  (∀ (lv : List mm_V) (st : List mm_V) a b, mm_E d 81 37 lv [] (.inl b :: .inl a :: st) n I L P = mm_E d 81 38 lv [] (.inl (mm_add a b) :: st) n I L P) ∧
  (∀ (lv : List mm_V) (st : List mm_V) a z, (mm_ok n a 10) → mm_E d 81 38 lv [] (.inl z :: .inr (.inr (some a)) :: st) n I L P = mm_E d 81 41 lv [] st n (mm_ui I a 3 z) L P) ∧
  (∀ (lv : List mm_V), mm_E d 81 41 lv [] [] n I L P = some (none, n, I, L, P)) :=
  ⟨fun _ _ => mq_al (i := 0) rfl rfl,
   fun _ _ _ h0 => mq_getR rfl h0,
   fun _ _ => mq_al (i := 0) rfl rfl,
   fun _ _ _ h0 => mq_getI rfl h0,
   fun _ _ => mq_al (i := 0) rfl rfl,
   fun _ _ _ h0 => mq_getR rfl h0,
   fun _ _ => mq_push rfl,
   fun _ _ _ _ h0 => mq_iald rfl h0,
   fun _ _ _ _ _ h0 => mq_iast rfl h0,
   fun _ _ => mq_al (i := 0) rfl rfl,
   fun _ _ _ h0 => mq_getR rfl h0,
   fun _ _ => mq_al (i := 0) rfl rfl,
   fun _ _ _ h0 => mq_getI rfl h0,
   fun _ _ => mq_al (i := 0) rfl rfl,
   fun _ _ _ h0 => mq_getR rfl h0,
   fun _ _ => mq_push rfl,
   fun _ _ _ _ h0 => mq_iald rfl h0,
   fun _ _ _ _ _ h0 => mq_iast rfl h0,
   fun _ _ => mq_al (i := 0) rfl rfl,
   fun _ _ _ => mq_dup rfl rfl,
   fun _ _ _ h0 => mq_getI rfl h0,
   fun _ _ => mq_push rfl,
   fun _ _ _ _ => mq_bi rfl,
   fun _ _ _ _ h0 => mq_putI rfl h0,
   fun _ => mq_rv rfl⟩
theorem eX10_keepLane (d n : Nat) (I L : mm_I) (P : mm_P) (x0 : Option Nat) : mm_rn (d + 1) 81 [.inr (.inr x0)] n I L P = mm_E d 81 0 [.inr (.inr x0)] [] [] n I L P := rfl

set_option maxRecDepth 20000 in
set_option maxHeartbeats 8000000 in
theorem kX10_joinLanes (d n : Nat) (I L : mm_I) (P : mm_P) :
  (∀ (st : List mm_V) z (l0 : mm_V) (l2 : mm_V), mm_E d 82 0 [l0, (.inr (.inr z)), l2] [] st n I L P = mm_E d 82 1 [l0, (.inr (.inr z)), l2] [] ((.inr (.inr z)) :: st) n I L P) ∧
  (∀ (lv : List mm_V) (st : List mm_V) a, (mm_ok n a 9) → mm_E d 82 1 lv [] (.inr (.inr (some a)) :: st) n I L P = mm_E d 82 4 lv [] (.inl (I a 0) :: st) n I L P) ∧
  (∀ (lv : List mm_V) (st : List mm_V), mm_E d 82 4 lv [] st n I L P = mm_E d 82 5 lv [] (.inl 2 :: st) n I L P) ∧
  (∀ (lv : List mm_V) (st : List mm_V) a b, mm_E d 82 5 lv [] (.inl b :: .inl a :: st) n I L P = if b ≤ a then mm_E d 82 10 lv [] st n I L P else mm_E d 82 8 lv [] st n I L P) ∧
  (∀ (lv : List mm_V) (st : List mm_V), mm_E d 82 8 lv [] st n I L P = mm_E d 82 9 lv [] (.inl 0 :: st) n I L P) ∧
  (∀ (lv : List mm_V) z, (0 ≤ z ∧ z < 2) → mm_E d 82 9 lv [] [.inl z] n I L P = some (some (.inl z), n, I, L, P)) ∧
  (∀ (lv : List mm_V) (st : List mm_V), mm_E d 82 10 lv [] st n I L P = mm_E d 82 11 lv [] (.inl 0 :: st) n I L P) ∧
  (∀ (st : List mm_V) z (l0 : mm_V) (l1 : mm_V) (l2 : mm_V), mm_E d 82 11 [l0, l1, l2] [] ((.inl z) :: st) n I L P = mm_E d 82 12 [l0, l1, (.inl z)] [] st n I L P) ∧
  (∀ (st : List mm_V) z (l1 : mm_V) (l2 : mm_V), mm_E d 82 13 [(.inr (.inr z)), l1, l2] [] st n I L P = mm_E d 82 14 [(.inr (.inr z)), l1, l2] [] ((.inr (.inr z)) :: st) n I L P) ∧
  (∀ (lv : List mm_V) (st : List mm_V) a, (mm_ok n a 10) → mm_E d 82 14 lv [] (.inr (.inr (some a)) :: st) n I L P = mm_E d 82 17 lv [] (.inl (I a 3) :: st) n I L P) ∧
  (∀ (lv : List mm_V) (st : List mm_V) a b, mm_E d 82 17 lv [] (.inl b :: .inl a :: st) n I L P = if b ≤ a then mm_E d 82 85 lv [] st n I L P else mm_E d 82 20 lv [] st n I L P) ∧
  (∀ (st : List mm_V) z (l0 : mm_V) (l2 : mm_V), mm_E d 82 20 [l0, (.inr (.inr z)), l2] [] st n I L P = mm_E d 82 21 [l0, (.inr (.inr z)), l2] [] ((.inr (.inr z)) :: st) n I L P) ∧
  (∀ (st : List mm_V) z (l1 : mm_V) (l2 : mm_V), mm_E d 82 21 [(.inr (.inr z)), l1, l2] [] st n I L P = mm_E d 82 22 [(.inr (.inr z)), l1, l2] [] ((.inr (.inr z)) :: st) n I L P) ∧
  (∀ (lv : List mm_V) (st : List mm_V) a, (mm_ok n a 10) → mm_E d 82 22 lv [] (.inr (.inr (some a)) :: st) n I L P = mm_E d 82 25 lv [] (.inr (.inr (P a 1)) :: st) n I L P) ∧
  (∀ (st : List mm_V) z (l0 : mm_V) (l1 : mm_V), mm_E d 82 25 [l0, l1, (.inl z)] [] st n I L P = mm_E d 82 26 [l0, l1, (.inl z)] [] ((.inl z) :: st) n I L P) ∧
  (∀ (lv : List mm_V) (st : List mm_V) a i, (mm_ix n a 20 i) → mm_E d 82 26 lv [] (.inl i :: .inr (.inr (some a)) :: st) n I L P = mm_E d 82 27 lv [] (.inl (I a i.toNat) :: st) n I L P) ∧
  (∀ (lv : List mm_V) a x0, (mm_ok n a 9) → mm_E d 82 27 lv [] (.inl x0 :: .inr (.inr (some a)) :: []) n I L P = mm_kr d 82 30 lv [] [] n (mm_rn d 63 [.inr (.inr (some a)), .inl x0] n I L P)) ∧
  (∀ (lv : List mm_V) (st : List mm_V) a, mm_E d 82 30 lv [] (.inl a :: st) n I L P = if a = 0 then mm_E d 82 61 lv [] st n I L P else mm_E d 82 33 lv [] st n I L P) ∧
  (∀ (st : List mm_V) z (l0 : mm_V) (l2 : mm_V), mm_E d 82 33 [l0, (.inr (.inr z)), l2] [] st n I L P = mm_E d 82 34 [l0, (.inr (.inr z)), l2] [] ((.inr (.inr z)) :: st) n I L P) ∧
  (∀ (st : List mm_V) z (l1 : mm_V) (l2 : mm_V), mm_E d 82 34 [(.inr (.inr z)), l1, l2] [] st n I L P = mm_E d 82 35 [(.inr (.inr z)), l1, l2] [] ((.inr (.inr z)) :: st) n I L P) ∧
  (∀ (lv : List mm_V) (st : List mm_V) a, (mm_ok n a 10) → mm_E d 82 35 lv [] (.inr (.inr (some a)) :: st) n I L P = mm_E d 82 38 lv [] (.inr (.inr (P a 2)) :: st) n I L P) ∧
  (∀ (st : List mm_V) z (l0 : mm_V) (l1 : mm_V), mm_E d 82 38 [l0, l1, (.inl z)] [] st n I L P = mm_E d 82 39 [l0, l1, (.inl z)] [] ((.inl z) :: st) n I L P) ∧
  (∀ (lv : List mm_V) (st : List mm_V) a i, (mm_ix n a 20 i) → mm_E d 82 39 lv [] (.inl i :: .inr (.inr (some a)) :: st) n I L P = mm_E d 82 40 lv [] (.inl (I a i.toNat) :: st) n I L P) ∧
  (∀ (lv : List mm_V) a x0, (mm_ok n a 9) → mm_E d 82 40 lv [] (.inl x0 :: .inr (.inr (some a)) :: []) n I L P = mm_kr d 82 43 lv [] [] n (mm_rn d 63 [.inr (.inr (some a)), .inl x0] n I L P)) ∧
  (∀ (lv : List mm_V) (st : List mm_V) a, mm_E d 82 43 lv [] (.inl a :: st) n I L P = if a = 0 then mm_E d 82 61 lv [] st n I L P else mm_E d 82 46 lv [] st n I L P) ∧
  (∀ (st : List mm_V) z (l1 : mm_V) (l2 : mm_V), mm_E d 82 46 [(.inr (.inr z)), l1, l2] [] st n I L P = mm_E d 82 47 [(.inr (.inr z)), l1, l2] [] ((.inr (.inr z)) :: st) n I L P) ∧
  (∀ (lv : List mm_V) (st : List mm_V) a, (mm_ok n a 10) → mm_E d 82 47 lv [] (.inr (.inr (some a)) :: st) n I L P = mm_E d 82 50 lv [] (.inr (.inr (P a 1)) :: st) n I L P) ∧
  (∀ (st : List mm_V) z (l0 : mm_V) (l1 : mm_V), mm_E d 82 50 [l0, l1, (.inl z)] [] st n I L P = mm_E d 82 51 [l0, l1, (.inl z)] [] ((.inl z) :: st) n I L P) ∧
  (∀ (lv : List mm_V) (st : List mm_V) a i, (mm_ix n a 20 i) → mm_E d 82 51 lv [] (.inl i :: .inr (.inr (some a)) :: st) n I L P = mm_E d 82 52 lv [] (.inl (I a i.toNat) :: st) n I L P) ∧
  (∀ (st : List mm_V) z (l1 : mm_V) (l2 : mm_V), mm_E d 82 52 [(.inr (.inr z)), l1, l2] [] st n I L P = mm_E d 82 53 [(.inr (.inr z)), l1, l2] [] ((.inr (.inr z)) :: st) n I L P) ∧
  (∀ (lv : List mm_V) (st : List mm_V) a, (mm_ok n a 10) → mm_E d 82 53 lv [] (.inr (.inr (some a)) :: st) n I L P = mm_E d 82 56 lv [] (.inr (.inr (P a 2)) :: st) n I L P) ∧
  (∀ (st : List mm_V) z (l0 : mm_V) (l1 : mm_V), mm_E d 82 56 [l0, l1, (.inl z)] [] st n I L P = mm_E d 82 57 [l0, l1, (.inl z)] [] ((.inl z) :: st) n I L P) ∧
  (∀ (lv : List mm_V) (st : List mm_V) a i, (mm_ix n a 20 i) → mm_E d 82 57 lv [] (.inl i :: .inr (.inr (some a)) :: st) n I L P = mm_E d 82 58 lv [] (.inl (I a i.toNat) :: st) n I L P) ∧
  (∀ (lv : List mm_V) (st : List mm_V) a b, mm_E d 82 58 lv [] (.inl b :: .inl a :: st) n I L P = if a = b then mm_E d 82 61 lv [] st n I L P else mm_E d 82 63 lv [] st n I L P) ∧
  (∀ (lv : List mm_V) (st : List mm_V), mm_E d 82 61 lv [] st n I L P = mm_E d 82 62 lv [] (.inl 0 :: st) n I L P) ∧
  (∀ (lv : List mm_V) z, (0 ≤ z ∧ z < 2) → mm_E d 82 62 lv [] [.inl z] n I L P = some (some (.inl z), n, I, L, P)) ∧
  (∀ (st : List mm_V) z (l0 : mm_V) (l2 : mm_V), mm_E d 82 63 [l0, (.inr (.inr z)), l2] [] st n I L P = mm_E d 82 64 [l0, (.inr (.inr z)), l2] [] ((.inr (.inr z)) :: st) n I L P) ∧
  (∀ (st : List mm_V) z (l1 : mm_V) (l2 : mm_V), mm_E d 82 64 [(.inr (.inr z)), l1, l2] [] st n I L P = mm_E d 82 65 [(.inr (.inr z)), l1, l2] [] ((.inr (.inr z)) :: st) n I L P) ∧
  (∀ (lv : List mm_V) (st : List mm_V) a, (mm_ok n a 10) → mm_E d 82 65 lv [] (.inr (.inr (some a)) :: st) n I L P = mm_E d 82 68 lv [] (.inr (.inr (P a 1)) :: st) n I L P) ∧
  (∀ (st : List mm_V) z (l0 : mm_V) (l1 : mm_V), mm_E d 82 68 [l0, l1, (.inl z)] [] st n I L P = mm_E d 82 69 [l0, l1, (.inl z)] [] ((.inl z) :: st) n I L P) ∧
  (∀ (lv : List mm_V) (st : List mm_V) a i, (mm_ix n a 20 i) → mm_E d 82 69 lv [] (.inl i :: .inr (.inr (some a)) :: st) n I L P = mm_E d 82 70 lv [] (.inl (I a i.toNat) :: st) n I L P) ∧
  (∀ (st : List mm_V) z (l1 : mm_V) (l2 : mm_V), mm_E d 82 70 [(.inr (.inr z)), l1, l2] [] st n I L P = mm_E d 82 71 [(.inr (.inr z)), l1, l2] [] ((.inr (.inr z)) :: st) n I L P) ∧
  (∀ (lv : List mm_V) (st : List mm_V) a, (mm_ok n a 10) → mm_E d 82 71 lv [] (.inr (.inr (some a)) :: st) n I L P = mm_E d 82 74 lv [] (.inr (.inr (P a 2)) :: st) n I L P) ∧
  (∀ (st : List mm_V) z (l0 : mm_V) (l1 : mm_V), mm_E d 82 74 [l0, l1, (.inl z)] [] st n I L P = mm_E d 82 75 [l0, l1, (.inl z)] [] ((.inl z) :: st) n I L P) ∧
  (∀ (lv : List mm_V) (st : List mm_V) a i, (mm_ix n a 20 i) → mm_E d 82 75 lv [] (.inl i :: .inr (.inr (some a)) :: st) n I L P = mm_E d 82 76 lv [] (.inl (I a i.toNat) :: st) n I L P) ∧
  (∀ (lv : List mm_V) a x0 x1, (mm_ok n a 9) → mm_E d 82 76 lv [] (.inl x1 :: .inl x0 :: .inr (.inr (some a)) :: []) n I L P = mm_kv d 82 79 lv [] [] n (mm_rn d 66 [.inr (.inr (some a)), .inl x0, .inl x1] n I L P)) ∧
  (∀ (st : List mm_V) z (l0 : mm_V) (l1 : mm_V), mm_E d 82 79 [l0, l1, (.inl z)] [] st n I L P = mm_E d 82 82 [l0, l1, (.inl (mm_add z 1))] [] st n I L P) ∧
  (∀ (lv : List mm_V) (st : List mm_V), mm_E d 82 82 lv [] st n I L P = mm_E d 82 12 lv [] st n I L P) ∧
  (∀ (st : List mm_V) z (l0 : mm_V) (l2 : mm_V), mm_E d 82 85 [l0, (.inr (.inr z)), l2] [] st n I L P = mm_E d 82 86 [l0, (.inr (.inr z)), l2] [] ((.inr (.inr z)) :: st) n I L P) ∧
  (∀ (lv : List mm_V) a, (mm_ok n a 9) → mm_E d 82 86 lv [] (.inr (.inr (some a)) :: []) n I L P = mm_kv d 82 89 lv [] [] n (mm_rn d 67 [.inr (.inr (some a))] n I L P)) ∧
  (∀ (st : List mm_V) z (l0 : mm_V) (l2 : mm_V), mm_E d 82 89 [l0, (.inr (.inr z)), l2] [] st n I L P = mm_E d 82 90 [l0, (.inr (.inr z)), l2] [] ((.inr (.inr z)) :: st) n I L P) ∧
  (∀ (lv : List mm_V) a, (mm_ok n a 9) → mm_E d 82 90 lv [] (.inr (.inr (some a)) :: []) n I L P = mm_kv d 82 93 lv [] [] n (mm_rn d 68 [.inr (.inr (some a))] n I L P)) ∧
  (∀ (lv : List mm_V) (st : List mm_V), mm_E d 82 93 lv [] st n I L P = mm_E d 82 94 lv [] (.inl 1 :: st) n I L P) ∧
  (∀ (lv : List mm_V) z, (0 ≤ z ∧ z < 2) → mm_E d 82 94 lv [] [.inl z] n I L P = some (some (.inl z), n, I, L, P)) :=
  ⟨fun _ _ _ _ => mq_al (i := 1) rfl rfl,
   fun _ _ _ h0 => mq_getI rfl h0,
   fun _ _ => mq_push rfl,
   fun _ _ _ _ => mq_ic_ge rfl,
   fun _ _ => mq_push rfl,
   fun _ _ h0 => mq_rz rfl h0,
   fun _ _ => mq_push rfl,
   fun _ _ _ _ _ => mq_is (i := 2) rfl rfl rfl,
   fun _ _ _ _ => mq_al (i := 0) rfl rfl,
   fun _ _ _ h0 => mq_getI rfl h0,
   fun _ _ _ _ => mq_ic_ge rfl,
   fun _ _ _ _ => mq_al (i := 1) rfl rfl,
   fun _ _ _ _ => mq_al (i := 0) rfl rfl,
   fun _ _ _ h0 => mq_getR rfl h0,
   fun _ _ _ _ => mq_il (i := 2) rfl rfl,
   fun _ _ _ _ h0 => mq_iald rfl h0,
   fun _ _ _ h0 => mq_cVr (na := 1) rfl rfl (Nat.le_of_ble_eq_true rfl) (Nat.le_of_ble_eq_true rfl) h0,
   fun _ _ _ => mq_if_eq rfl,
   fun _ _ _ _ => mq_al (i := 1) rfl rfl,
   fun _ _ _ _ => mq_al (i := 0) rfl rfl,
   fun _ _ _ h0 => mq_getR rfl h0,
   fun _ _ _ _ => mq_il (i := 2) rfl rfl,
   fun _ _ _ _ h0 => mq_iald rfl h0,
   fun _ _ _ h0 => mq_cVr (na := 1) rfl rfl (Nat.le_of_ble_eq_true rfl) (Nat.le_of_ble_eq_true rfl) h0,
   fun _ _ _ => mq_if_eq rfl,
   fun _ _ _ _ => mq_al (i := 0) rfl rfl,
   fun _ _ _ h0 => mq_getR rfl h0,
   fun _ _ _ _ => mq_il (i := 2) rfl rfl,
   fun _ _ _ _ h0 => mq_iald rfl h0,
   fun _ _ _ _ => mq_al (i := 0) rfl rfl,
   fun _ _ _ h0 => mq_getR rfl h0,
   fun _ _ _ _ => mq_il (i := 2) rfl rfl,
   fun _ _ _ _ h0 => mq_iald rfl h0,
   fun _ _ _ _ => mq_ic_ne rfl,
   fun _ _ => mq_push rfl,
   fun _ _ h0 => mq_rz rfl h0,
   fun _ _ _ _ => mq_al (i := 1) rfl rfl,
   fun _ _ _ _ => mq_al (i := 0) rfl rfl,
   fun _ _ _ h0 => mq_getR rfl h0,
   fun _ _ _ _ => mq_il (i := 2) rfl rfl,
   fun _ _ _ _ h0 => mq_iald rfl h0,
   fun _ _ _ _ => mq_al (i := 0) rfl rfl,
   fun _ _ _ h0 => mq_getR rfl h0,
   fun _ _ _ _ => mq_il (i := 2) rfl rfl,
   fun _ _ _ _ h0 => mq_iald rfl h0,
   fun _ _ _ _ h0 => mq_cVv (na := 2) rfl rfl (Nat.le_of_ble_eq_true rfl) (Nat.le_of_ble_eq_true rfl) h0,
   fun _ _ _ _ => mq_iinc (i := 2) rfl rfl rfl rfl,
   fun _ _ => mq_go rfl,
   fun _ _ _ _ => mq_al (i := 1) rfl rfl,
   fun _ _ h0 => mq_cVv (na := 0) rfl rfl (Nat.le_of_ble_eq_true rfl) (Nat.le_of_ble_eq_true rfl) h0,
   fun _ _ _ _ => mq_al (i := 1) rfl rfl,
   fun _ _ h0 => mq_cVv (na := 0) rfl rfl (Nat.le_of_ble_eq_true rfl) (Nat.le_of_ble_eq_true rfl) h0,
   fun _ _ => mq_push rfl,
   fun _ _ h0 => mq_rz rfl h0⟩
theorem hX10_joinLanes_12 (d n : Nat) (I L : mm_I) (P : mm_P) : ∀ (st : List mm_V) z (l0 : mm_V) (l1 : mm_V), mm_E d 82 12 [l0, l1, (.inl z)] [] st n I L P = mm_E d 82 13 [l0, l1, (.inl z)] [] ((.inl z) :: st) n I L P := fun _ _ _ _ => mq_il (i := 2) rfl rfl
theorem eX10_joinLanes (d n : Nat) (I L : mm_I) (P : mm_P) (x0 : Option Nat) (x1 : Option Nat) : mm_rn (d + 1) 82 [.inr (.inr x0), .inr (.inr x1)] n I L P = mm_E d 82 0 [.inr (.inr x0), .inr (.inr x1), mm_junk] [] [] n I L P := rfl

set_option maxRecDepth 20000 in
set_option maxHeartbeats 8000000 in
theorem kJ6_bitCount_0f7a4 (d n : Nat) (I L : mm_I) (P : mm_P) :
  (∀ (st : List mm_V) z, mm_E d 263 0 [(.inl z)] [] st n I L P = mm_E d 263 1 [(.inl z)] [] ((.inl z) :: st) n I L P) ∧
  (∀ (st : List mm_V) z, mm_E d 263 1 [(.inl z)] [] st n I L P = mm_E d 263 2 [(.inl z)] [] ((.inl z) :: st) n I L P) ∧
  (∀ (lv : List mm_V) (st : List mm_V), mm_E d 263 2 lv [] st n I L P = mm_E d 263 3 lv [] (.inl 1 :: st) n I L P) ∧
  (∀ (lv : List mm_V) (st : List mm_V) a b, mm_E d 263 3 lv [] (.inl b :: .inl a :: st) n I L P = mm_E d 263 4 lv [] (.inl (mm_ushr a b) :: st) n I L P) ∧
  (∀ (lv : List mm_V) (st : List mm_V), mm_E d 263 4 lv [] st n I L P = mm_E d 263 7 lv [] (.inl 1431655765 :: st) n I L P) ∧
  (∀ (lv : List mm_V) (st : List mm_V) a b, mm_E d 263 7 lv [] (.inl b :: .inl a :: st) n I L P = mm_E d 263 8 lv [] (.inl (mm_and a b) :: st) n I L P) ∧
  (∀ (lv : List mm_V) (st : List mm_V) a b, mm_E d 263 8 lv [] (.inl b :: .inl a :: st) n I L P = mm_E d 263 9 lv [] (.inl (mm_sub a b) :: st) n I L P) ∧
  (∀ (st : List mm_V) z (l0 : mm_V), mm_E d 263 9 [l0] [] ((.inl z) :: st) n I L P = mm_E d 263 10 [(.inl z)] [] st n I L P) ∧
  (∀ (st : List mm_V) z, mm_E d 263 10 [(.inl z)] [] st n I L P = mm_E d 263 11 [(.inl z)] [] ((.inl z) :: st) n I L P) ∧
  (∀ (lv : List mm_V) (st : List mm_V), mm_E d 263 11 lv [] st n I L P = mm_E d 263 14 lv [] (.inl 858993459 :: st) n I L P) ∧
  (∀ (lv : List mm_V) (st : List mm_V) a b, mm_E d 263 14 lv [] (.inl b :: .inl a :: st) n I L P = mm_E d 263 15 lv [] (.inl (mm_and a b) :: st) n I L P) ∧
  (∀ (st : List mm_V) z, mm_E d 263 15 [(.inl z)] [] st n I L P = mm_E d 263 16 [(.inl z)] [] ((.inl z) :: st) n I L P) ∧
  (∀ (lv : List mm_V) (st : List mm_V), mm_E d 263 16 lv [] st n I L P = mm_E d 263 17 lv [] (.inl 2 :: st) n I L P) ∧
  (∀ (lv : List mm_V) (st : List mm_V) a b, mm_E d 263 17 lv [] (.inl b :: .inl a :: st) n I L P = mm_E d 263 18 lv [] (.inl (mm_ushr a b) :: st) n I L P) ∧
  (∀ (lv : List mm_V) (st : List mm_V), mm_E d 263 18 lv [] st n I L P = mm_E d 263 21 lv [] (.inl 858993459 :: st) n I L P) ∧
  (∀ (lv : List mm_V) (st : List mm_V) a b, mm_E d 263 21 lv [] (.inl b :: .inl a :: st) n I L P = mm_E d 263 22 lv [] (.inl (mm_and a b) :: st) n I L P) ∧
  (∀ (lv : List mm_V) (st : List mm_V) a b, mm_E d 263 22 lv [] (.inl b :: .inl a :: st) n I L P = mm_E d 263 23 lv [] (.inl (mm_add a b) :: st) n I L P) ∧
  (∀ (st : List mm_V) z (l0 : mm_V), mm_E d 263 23 [l0] [] ((.inl z) :: st) n I L P = mm_E d 263 24 [(.inl z)] [] st n I L P) ∧
  (∀ (st : List mm_V) z, mm_E d 263 24 [(.inl z)] [] st n I L P = mm_E d 263 25 [(.inl z)] [] ((.inl z) :: st) n I L P) ∧
  (∀ (st : List mm_V) z, mm_E d 263 25 [(.inl z)] [] st n I L P = mm_E d 263 26 [(.inl z)] [] ((.inl z) :: st) n I L P) ∧
  (∀ (lv : List mm_V) (st : List mm_V), mm_E d 263 26 lv [] st n I L P = mm_E d 263 27 lv [] (.inl 4 :: st) n I L P) ∧
  (∀ (lv : List mm_V) (st : List mm_V) a b, mm_E d 263 27 lv [] (.inl b :: .inl a :: st) n I L P = mm_E d 263 28 lv [] (.inl (mm_ushr a b) :: st) n I L P) ∧
  (∀ (lv : List mm_V) (st : List mm_V) a b, mm_E d 263 28 lv [] (.inl b :: .inl a :: st) n I L P = mm_E d 263 29 lv [] (.inl (mm_add a b) :: st) n I L P) ∧
  (∀ (lv : List mm_V) (st : List mm_V), mm_E d 263 29 lv [] st n I L P = mm_E d 263 32 lv [] (.inl 252645135 :: st) n I L P) ∧
  (∀ (lv : List mm_V) (st : List mm_V) a b, mm_E d 263 32 lv [] (.inl b :: .inl a :: st) n I L P = mm_E d 263 33 lv [] (.inl (mm_and a b) :: st) n I L P) ∧
  (∀ (st : List mm_V) z (l0 : mm_V), mm_E d 263 33 [l0] [] ((.inl z) :: st) n I L P = mm_E d 263 34 [(.inl z)] [] st n I L P) ∧
  (∀ (st : List mm_V) z, mm_E d 263 34 [(.inl z)] [] st n I L P = mm_E d 263 35 [(.inl z)] [] ((.inl z) :: st) n I L P) ∧
  (∀ (st : List mm_V) z, mm_E d 263 35 [(.inl z)] [] st n I L P = mm_E d 263 36 [(.inl z)] [] ((.inl z) :: st) n I L P) ∧
  (∀ (lv : List mm_V) (st : List mm_V), mm_E d 263 36 lv [] st n I L P = mm_E d 263 38 lv [] (.inl 8 :: st) n I L P) ∧
  (∀ (lv : List mm_V) (st : List mm_V) a b, mm_E d 263 38 lv [] (.inl b :: .inl a :: st) n I L P = mm_E d 263 39 lv [] (.inl (mm_ushr a b) :: st) n I L P) ∧
  (∀ (lv : List mm_V) (st : List mm_V) a b, mm_E d 263 39 lv [] (.inl b :: .inl a :: st) n I L P = mm_E d 263 40 lv [] (.inl (mm_add a b) :: st) n I L P) ∧
  (∀ (st : List mm_V) z (l0 : mm_V), mm_E d 263 40 [l0] [] ((.inl z) :: st) n I L P = mm_E d 263 41 [(.inl z)] [] st n I L P) ∧
  (∀ (st : List mm_V) z, mm_E d 263 41 [(.inl z)] [] st n I L P = mm_E d 263 42 [(.inl z)] [] ((.inl z) :: st) n I L P) ∧
  (∀ (st : List mm_V) z, mm_E d 263 42 [(.inl z)] [] st n I L P = mm_E d 263 43 [(.inl z)] [] ((.inl z) :: st) n I L P) ∧
  (∀ (lv : List mm_V) (st : List mm_V), mm_E d 263 43 lv [] st n I L P = mm_E d 263 45 lv [] (.inl 16 :: st) n I L P) ∧
  (∀ (lv : List mm_V) (st : List mm_V) a b, mm_E d 263 45 lv [] (.inl b :: .inl a :: st) n I L P = mm_E d 263 46 lv [] (.inl (mm_ushr a b) :: st) n I L P) ∧
  (∀ (lv : List mm_V) (st : List mm_V) a b, mm_E d 263 46 lv [] (.inl b :: .inl a :: st) n I L P = mm_E d 263 47 lv [] (.inl (mm_add a b) :: st) n I L P) ∧
  (∀ (st : List mm_V) z (l0 : mm_V), mm_E d 263 47 [l0] [] ((.inl z) :: st) n I L P = mm_E d 263 48 [(.inl z)] [] st n I L P) ∧
  (∀ (st : List mm_V) z, mm_E d 263 48 [(.inl z)] [] st n I L P = mm_E d 263 49 [(.inl z)] [] ((.inl z) :: st) n I L P) ∧
  (∀ (lv : List mm_V) (st : List mm_V), mm_E d 263 49 lv [] st n I L P = mm_E d 263 51 lv [] (.inl 63 :: st) n I L P) ∧
  (∀ (lv : List mm_V) (st : List mm_V) a b, mm_E d 263 51 lv [] (.inl b :: .inl a :: st) n I L P = mm_E d 263 52 lv [] (.inl (mm_and a b) :: st) n I L P) ∧
  (∀ (lv : List mm_V) z, mm_E d 263 52 lv [] [.inl z] n I L P = some (some (.inl z), n, I, L, P)) :=
  ⟨fun _ _ => mq_il (i := 0) rfl rfl,
   fun _ _ => mq_il (i := 0) rfl rfl,
   fun _ _ => mq_push rfl,
   fun _ _ _ _ => mq_bi rfl,
   fun _ _ => mq_push rfl,
   fun _ _ _ _ => mq_bi rfl,
   fun _ _ _ _ => mq_bi rfl,
   fun _ _ _ => mq_is (i := 0) rfl rfl rfl,
   fun _ _ => mq_il (i := 0) rfl rfl,
   fun _ _ => mq_push rfl,
   fun _ _ _ _ => mq_bi rfl,
   fun _ _ => mq_il (i := 0) rfl rfl,
   fun _ _ => mq_push rfl,
   fun _ _ _ _ => mq_bi rfl,
   fun _ _ => mq_push rfl,
   fun _ _ _ _ => mq_bi rfl,
   fun _ _ _ _ => mq_bi rfl,
   fun _ _ _ => mq_is (i := 0) rfl rfl rfl,
   fun _ _ => mq_il (i := 0) rfl rfl,
   fun _ _ => mq_il (i := 0) rfl rfl,
   fun _ _ => mq_push rfl,
   fun _ _ _ _ => mq_bi rfl,
   fun _ _ _ _ => mq_bi rfl,
   fun _ _ => mq_push rfl,
   fun _ _ _ _ => mq_bi rfl,
   fun _ _ _ => mq_is (i := 0) rfl rfl rfl,
   fun _ _ => mq_il (i := 0) rfl rfl,
   fun _ _ => mq_il (i := 0) rfl rfl,
   fun _ _ => mq_push rfl,
   fun _ _ _ _ => mq_bi rfl,
   fun _ _ _ _ => mq_bi rfl,
   fun _ _ _ => mq_is (i := 0) rfl rfl rfl,
   fun _ _ => mq_il (i := 0) rfl rfl,
   fun _ _ => mq_il (i := 0) rfl rfl,
   fun _ _ => mq_push rfl,
   fun _ _ _ _ => mq_bi rfl,
   fun _ _ _ _ => mq_bi rfl,
   fun _ _ _ => mq_is (i := 0) rfl rfl rfl,
   fun _ _ => mq_il (i := 0) rfl rfl,
   fun _ _ => mq_push rfl,
   fun _ _ _ _ => mq_bi rfl,
   fun _ _ => mq_ri rfl⟩
theorem eJ6_bitCount_0f7a4 (d n : Nat) (I L : mm_I) (P : mm_P) (x0 : Int) : mm_rn (d + 1) 263 [.inl x0] n I L P = mm_E d 263 0 [.inl x0] [] [] n I L P := rfl

set_option maxRecDepth 20000 in
set_option maxHeartbeats 8000000 in
theorem kJ9_floorMod_7cf53 (d n : Nat) (I L : mm_I) (P : mm_P) :
  (∀ (st : List mm_V) z (l1 : mm_V) (l2 : mm_V), mm_E d 264 0 [(.inl z), l1, l2] [] st n I L P = mm_E d 264 1 [(.inl z), l1, l2] [] ((.inl z) :: st) n I L P) ∧
  (∀ (st : List mm_V) z (l0 : mm_V) (l2 : mm_V), mm_E d 264 1 [l0, (.inl z), l2] [] st n I L P = mm_E d 264 2 [l0, (.inl z), l2] [] ((.inl z) :: st) n I L P) ∧
  (∀ (lv : List mm_V) (st : List mm_V) a b, (¬ b = 0) → mm_E d 264 2 lv [] (.inl b :: .inl a :: st) n I L P = mm_E d 264 3 lv [] (.inl (mm_w (Int.tmod a b)) :: st) n I L P) ∧
  (∀ (st : List mm_V) z (l0 : mm_V) (l1 : mm_V) (l2 : mm_V), mm_E d 264 3 [l0, l1, l2] [] ((.inl z) :: st) n I L P = mm_E d 264 4 [l0, l1, (.inl z)] [] st n I L P) ∧
  (∀ (st : List mm_V) z (l1 : mm_V) (l2 : mm_V), mm_E d 264 4 [(.inl z), l1, l2] [] st n I L P = mm_E d 264 5 [(.inl z), l1, l2] [] ((.inl z) :: st) n I L P) ∧
  (∀ (st : List mm_V) z (l0 : mm_V) (l2 : mm_V), mm_E d 264 5 [l0, (.inl z), l2] [] st n I L P = mm_E d 264 6 [l0, (.inl z), l2] [] ((.inl z) :: st) n I L P) ∧
  (∀ (lv : List mm_V) (st : List mm_V) a b, mm_E d 264 6 lv [] (.inl b :: .inl a :: st) n I L P = mm_E d 264 7 lv [] (.inl (mm_xor a b) :: st) n I L P) ∧
  (∀ (lv : List mm_V) (st : List mm_V) a, mm_E d 264 7 lv [] (.inl a :: st) n I L P = if 0 ≤ a then mm_E d 264 18 lv [] st n I L P else mm_E d 264 10 lv [] st n I L P) ∧
  (∀ (st : List mm_V) z (l0 : mm_V) (l1 : mm_V), mm_E d 264 10 [l0, l1, (.inl z)] [] st n I L P = mm_E d 264 11 [l0, l1, (.inl z)] [] ((.inl z) :: st) n I L P) ∧
  (∀ (lv : List mm_V) (st : List mm_V) a, mm_E d 264 11 lv [] (.inl a :: st) n I L P = if a = 0 then mm_E d 264 18 lv [] st n I L P else mm_E d 264 14 lv [] st n I L P) ∧
  (∀ (st : List mm_V) z (l0 : mm_V) (l1 : mm_V), mm_E d 264 14 [l0, l1, (.inl z)] [] st n I L P = mm_E d 264 15 [l0, l1, (.inl z)] [] ((.inl z) :: st) n I L P) ∧
  (∀ (st : List mm_V) z (l0 : mm_V) (l2 : mm_V), mm_E d 264 15 [l0, (.inl z), l2] [] st n I L P = mm_E d 264 16 [l0, (.inl z), l2] [] ((.inl z) :: st) n I L P) ∧
  (∀ (lv : List mm_V) (st : List mm_V) a b, mm_E d 264 16 lv [] (.inl b :: .inl a :: st) n I L P = mm_E d 264 17 lv [] (.inl (mm_add a b) :: st) n I L P) ∧
  (∀ (lv : List mm_V) z, mm_E d 264 17 lv [] [.inl z] n I L P = some (some (.inl z), n, I, L, P)) ∧
  (∀ (st : List mm_V) z (l0 : mm_V) (l1 : mm_V), mm_E d 264 18 [l0, l1, (.inl z)] [] st n I L P = mm_E d 264 19 [l0, l1, (.inl z)] [] ((.inl z) :: st) n I L P) ∧
  (∀ (lv : List mm_V) z, mm_E d 264 19 lv [] [.inl z] n I L P = some (some (.inl z), n, I, L, P)) :=
  ⟨fun _ _ _ _ => mq_il (i := 0) rfl rfl,
   fun _ _ _ _ => mq_il (i := 1) rfl rfl,
   fun _ _ _ _ h0 => mq_di rfl h0,
   fun _ _ _ _ _ => mq_is (i := 2) rfl rfl rfl,
   fun _ _ _ _ => mq_il (i := 0) rfl rfl,
   fun _ _ _ _ => mq_il (i := 1) rfl rfl,
   fun _ _ _ _ => mq_bi rfl,
   fun _ _ _ => mq_if_ge rfl,
   fun _ _ _ _ => mq_il (i := 2) rfl rfl,
   fun _ _ _ => mq_if_eq rfl,
   fun _ _ _ _ => mq_il (i := 2) rfl rfl,
   fun _ _ _ _ => mq_il (i := 1) rfl rfl,
   fun _ _ _ _ => mq_bi rfl,
   fun _ _ => mq_ri rfl,
   fun _ _ _ _ => mq_il (i := 2) rfl rfl,
   fun _ _ => mq_ri rfl⟩
theorem eJ9_floorMod_7cf53 (d n : Nat) (I L : mm_I) (P : mm_P) (x0 : Int) (x1 : Int) : mm_rn (d + 1) 264 [.inl x0, .inl x1] n I L P = mm_E d 264 0 [.inl x0, .inl x1, mm_junk] [] [] n I L P := rfl

set_option maxRecDepth 20000 in
set_option maxHeartbeats 8000000 in
theorem kJ9_max_7cf53 (d n : Nat) (I L : mm_I) (P : mm_P) :
  (∀ (st : List mm_V) z (l1 : mm_V), mm_E d 265 0 [(.inl z), l1] [] st n I L P = mm_E d 265 1 [(.inl z), l1] [] ((.inl z) :: st) n I L P) ∧
  (∀ (st : List mm_V) z (l0 : mm_V), mm_E d 265 1 [l0, (.inl z)] [] st n I L P = mm_E d 265 2 [l0, (.inl z)] [] ((.inl z) :: st) n I L P) ∧
  (∀ (lv : List mm_V) (st : List mm_V) a b, mm_E d 265 2 lv [] (.inl b :: .inl a :: st) n I L P = if a < b then mm_E d 265 9 lv [] st n I L P else mm_E d 265 5 lv [] st n I L P) ∧
  (∀ (st : List mm_V) z (l1 : mm_V), mm_E d 265 5 [(.inl z), l1] [] st n I L P = mm_E d 265 6 [(.inl z), l1] [] ((.inl z) :: st) n I L P) ∧
  (∀ (lv : List mm_V) (st : List mm_V), mm_E d 265 6 lv [] st n I L P = mm_E d 265 10 lv [] st n I L P) ∧
  (∀ (st : List mm_V) z (l0 : mm_V), mm_E d 265 9 [l0, (.inl z)] [] st n I L P = mm_E d 265 10 [l0, (.inl z)] [] ((.inl z) :: st) n I L P) ∧
  (∀ (lv : List mm_V) z, mm_E d 265 10 lv [] [.inl z] n I L P = some (some (.inl z), n, I, L, P)) :=
  ⟨fun _ _ _ => mq_il (i := 0) rfl rfl,
   fun _ _ _ => mq_il (i := 1) rfl rfl,
   fun _ _ _ _ => mq_ic_lt rfl,
   fun _ _ _ => mq_il (i := 0) rfl rfl,
   fun _ _ => mq_go rfl,
   fun _ _ _ => mq_il (i := 1) rfl rfl,
   fun _ _ => mq_ri rfl⟩
theorem eJ9_max_7cf53 (d n : Nat) (I L : mm_I) (P : mm_P) (x0 : Int) (x1 : Int) : mm_rn (d + 1) 265 [.inl x0, .inl x1] n I L P = mm_E d 265 0 [.inl x0, .inl x1] [] [] n I L P := rfl

set_option maxRecDepth 20000 in
set_option maxHeartbeats 8000000 in
theorem kJ9_max_f86c9 (d n : Nat) (I L : mm_I) (P : mm_P) :
  (∀ (lv : List mm_V) (st : List mm_V) z (g1 : Option Int) (g2 : Option Int) (g3 : Option Int), mm_E d 266 0 lv [(some z), g1, g2, g3] st n I L P = mm_E d 266 1 lv [(some z), g1, g2, g3] (.inr (.inl z) :: st) n I L P) ∧
  (∀ (lv : List mm_V) (st : List mm_V) z (g0 : Option Int) (g1 : Option Int) (g3 : Option Int), mm_E d 266 1 lv [g0, g1, (some z), g3] st n I L P = mm_E d 266 2 lv [g0, g1, (some z), g3] (.inr (.inl z) :: st) n I L P) ∧
  (∀ (lv : List mm_V) (ll : List (Option Int)) (st : List mm_V) a b, mm_E d 266 2 lv ll (.inr (.inl b) :: .inr (.inl a) :: st) n I L P = mm_E d 266 3 lv ll (.inl (if a < b then -1 else if a = b then 0 else 1) :: st) n I L P) ∧
  (∀ (lv : List mm_V) (ll : List (Option Int)) (st : List mm_V) a, mm_E d 266 3 lv ll (.inl a :: st) n I L P = if a < 0 then mm_E d 266 10 lv ll st n I L P else mm_E d 266 6 lv ll st n I L P) ∧
  (∀ (lv : List mm_V) (st : List mm_V) z (g1 : Option Int) (g2 : Option Int) (g3 : Option Int), mm_E d 266 6 lv [(some z), g1, g2, g3] st n I L P = mm_E d 266 7 lv [(some z), g1, g2, g3] (.inr (.inl z) :: st) n I L P) ∧
  (∀ (lv : List mm_V) (ll : List (Option Int)) (st : List mm_V), mm_E d 266 7 lv ll st n I L P = mm_E d 266 11 lv ll st n I L P) ∧
  (∀ (lv : List mm_V) (st : List mm_V) z (g0 : Option Int) (g1 : Option Int) (g3 : Option Int), mm_E d 266 10 lv [g0, g1, (some z), g3] st n I L P = mm_E d 266 11 lv [g0, g1, (some z), g3] (.inr (.inl z) :: st) n I L P) ∧
  (∀ (lv : List mm_V) (ll : List (Option Int)) z, mm_E d 266 11 lv ll [.inr (.inl z)] n I L P = some (some (.inr (.inl z)), n, I, L, P)) :=
  ⟨fun _ _ _ _ _ _ => mq_ll (i := 0) rfl rfl,
   fun _ _ _ _ _ _ => mq_ll (i := 2) rfl rfl,
   fun _ _ _ _ _ => mq_lcmp rfl,
   fun _ _ _ _ => mq_if_lt rfl,
   fun _ _ _ _ _ _ => mq_ll (i := 0) rfl rfl,
   fun _ _ _ => mq_go rfl,
   fun _ _ _ _ _ _ => mq_ll (i := 2) rfl rfl,
   fun _ _ _ => mq_rl rfl⟩
theorem eJ9_max_f86c9 (d n : Nat) (I L : mm_I) (P : mm_P) (x0 : Int) (x1 : Int) : mm_rn (d + 1) 266 [.inr (.inl x0), .inr (.inl x1)] n I L P = mm_E d 266 0 [mm_junk, mm_junk, mm_junk, mm_junk] [some x0, none, some x1, none] [] n I L P := rfl

set_option maxRecDepth 20000 in
set_option maxHeartbeats 8000000 in
theorem kJ9_min_7cf53 (d n : Nat) (I L : mm_I) (P : mm_P) :
  (∀ (st : List mm_V) z (l1 : mm_V), mm_E d 267 0 [(.inl z), l1] [] st n I L P = mm_E d 267 1 [(.inl z), l1] [] ((.inl z) :: st) n I L P) ∧
  (∀ (st : List mm_V) z (l0 : mm_V), mm_E d 267 1 [l0, (.inl z)] [] st n I L P = mm_E d 267 2 [l0, (.inl z)] [] ((.inl z) :: st) n I L P) ∧
  (∀ (lv : List mm_V) (st : List mm_V) a b, mm_E d 267 2 lv [] (.inl b :: .inl a :: st) n I L P = if b < a then mm_E d 267 9 lv [] st n I L P else mm_E d 267 5 lv [] st n I L P) ∧
  (∀ (st : List mm_V) z (l1 : mm_V), mm_E d 267 5 [(.inl z), l1] [] st n I L P = mm_E d 267 6 [(.inl z), l1] [] ((.inl z) :: st) n I L P) ∧
  (∀ (lv : List mm_V) (st : List mm_V), mm_E d 267 6 lv [] st n I L P = mm_E d 267 10 lv [] st n I L P) ∧
  (∀ (st : List mm_V) z (l0 : mm_V), mm_E d 267 9 [l0, (.inl z)] [] st n I L P = mm_E d 267 10 [l0, (.inl z)] [] ((.inl z) :: st) n I L P) ∧
  (∀ (lv : List mm_V) z, mm_E d 267 10 lv [] [.inl z] n I L P = some (some (.inl z), n, I, L, P)) :=
  ⟨fun _ _ _ => mq_il (i := 0) rfl rfl,
   fun _ _ _ => mq_il (i := 1) rfl rfl,
   fun _ _ _ _ => mq_ic_gt rfl,
   fun _ _ _ => mq_il (i := 0) rfl rfl,
   fun _ _ => mq_go rfl,
   fun _ _ _ => mq_il (i := 1) rfl rfl,
   fun _ _ => mq_ri rfl⟩
theorem eJ9_min_7cf53 (d n : Nat) (I L : mm_I) (P : mm_P) (x0 : Int) (x1 : Int) : mm_rn (d + 1) 267 [.inl x0, .inl x1] n I L P = mm_E d 267 0 [.inl x0, .inl x1] [] [] n I L P := rfl

set_option maxRecDepth 20000 in
set_option maxHeartbeats 8000000 in
theorem kJ9_min_f86c9 (d n : Nat) (I L : mm_I) (P : mm_P) :
  (∀ (lv : List mm_V) (st : List mm_V) z (g1 : Option Int) (g2 : Option Int) (g3 : Option Int), mm_E d 268 0 lv [(some z), g1, g2, g3] st n I L P = mm_E d 268 1 lv [(some z), g1, g2, g3] (.inr (.inl z) :: st) n I L P) ∧
  (∀ (lv : List mm_V) (st : List mm_V) z (g0 : Option Int) (g1 : Option Int) (g3 : Option Int), mm_E d 268 1 lv [g0, g1, (some z), g3] st n I L P = mm_E d 268 2 lv [g0, g1, (some z), g3] (.inr (.inl z) :: st) n I L P) ∧
  (∀ (lv : List mm_V) (ll : List (Option Int)) (st : List mm_V) a b, mm_E d 268 2 lv ll (.inr (.inl b) :: .inr (.inl a) :: st) n I L P = mm_E d 268 3 lv ll (.inl (if a < b then -1 else if a = b then 0 else 1) :: st) n I L P) ∧
  (∀ (lv : List mm_V) (ll : List (Option Int)) (st : List mm_V) a, mm_E d 268 3 lv ll (.inl a :: st) n I L P = if 0 < a then mm_E d 268 10 lv ll st n I L P else mm_E d 268 6 lv ll st n I L P) ∧
  (∀ (lv : List mm_V) (st : List mm_V) z (g1 : Option Int) (g2 : Option Int) (g3 : Option Int), mm_E d 268 6 lv [(some z), g1, g2, g3] st n I L P = mm_E d 268 7 lv [(some z), g1, g2, g3] (.inr (.inl z) :: st) n I L P) ∧
  (∀ (lv : List mm_V) (ll : List (Option Int)) (st : List mm_V), mm_E d 268 7 lv ll st n I L P = mm_E d 268 11 lv ll st n I L P) ∧
  (∀ (lv : List mm_V) (st : List mm_V) z (g0 : Option Int) (g1 : Option Int) (g3 : Option Int), mm_E d 268 10 lv [g0, g1, (some z), g3] st n I L P = mm_E d 268 11 lv [g0, g1, (some z), g3] (.inr (.inl z) :: st) n I L P) ∧
  (∀ (lv : List mm_V) (ll : List (Option Int)) z, mm_E d 268 11 lv ll [.inr (.inl z)] n I L P = some (some (.inr (.inl z)), n, I, L, P)) :=
  ⟨fun _ _ _ _ _ _ => mq_ll (i := 0) rfl rfl,
   fun _ _ _ _ _ _ => mq_ll (i := 2) rfl rfl,
   fun _ _ _ _ _ => mq_lcmp rfl,
   fun _ _ _ _ => mq_if_gt rfl,
   fun _ _ _ _ _ _ => mq_ll (i := 0) rfl rfl,
   fun _ _ _ => mq_go rfl,
   fun _ _ _ _ _ _ => mq_ll (i := 2) rfl rfl,
   fun _ _ _ => mq_rl rfl⟩
theorem eJ9_min_f86c9 (d n : Nat) (I L : mm_I) (P : mm_P) (x0 : Int) (x1 : Int) : mm_rn (d + 1) 268 [.inr (.inl x0), .inr (.inl x1)] n I L P = mm_E d 268 0 [mm_junk, mm_junk, mm_junk, mm_junk] [some x0, none, some x1, none] [] n I L P := rfl

set_option maxRecDepth 20000 in
set_option maxHeartbeats 8000000 in
theorem kJ0_length_8abf5 (d n : Nat) (I L : mm_I) (P : mm_P) :
  (∀ (st : List mm_V) z, mm_E d 269 0 [(.inr (.inr z))] [] st n I L P = mm_E d 269 1 [(.inr (.inr z))] [] ((.inr (.inr z)) :: st) n I L P) ∧
  (∀ (lv : List mm_V) (st : List mm_V) a, (a = 1000004 ∨ a = 1000005) → mm_E d 269 1 lv [] (.inr (.inr (some a)) :: st) n I L P = mm_E d 269 4 lv [] (.inr (.inr (some (a + 4))) :: st) n I L P) ∧
  (∀ (lv : List mm_V) (st : List mm_V), mm_E d 269 4 lv [] (.inr (.inr (some 1000008)) :: st) n I L P = mm_E d 269 5 lv [] (.inl 3 :: st) n I L P) ∧
  (∀ (lv : List mm_V) (st : List mm_V), mm_E d 269 4 lv [] (.inr (.inr (some 1000009)) :: st) n I L P = mm_E d 269 5 lv [] (.inl 7 :: st) n I L P) ∧
  (∀ (st : List mm_V) z, mm_E d 269 5 [(.inr (.inr z))] [] st n I L P = mm_E d 269 6 [(.inr (.inr z))] [] ((.inr (.inr z)) :: st) n I L P) ∧
  (∀ (lv : List mm_V) a w0, (a = 1000004 ∨ a = 1000005) → mm_E d 269 6 lv [] (.inr (.inr (some a)) :: [.inl w0]) n I L P = mm_kr d 269 9 lv [] [.inl w0] n (mm_rn d 271 [.inr (.inr (some a))] n I L P)) ∧
  (∀ (lv : List mm_V) (st : List mm_V) a b, mm_E d 269 9 lv [] (.inl b :: .inl a :: st) n I L P = mm_E d 269 10 lv [] (.inl (mm_shr a b) :: st) n I L P) ∧
  (∀ (lv : List mm_V) z, mm_E d 269 10 lv [] [.inl z] n I L P = some (some (.inl z), n, I, L, P)) :=
  ⟨fun _ _ => mq_al (i := 0) rfl rfl,
   fun _ _ _ h0 => mq_sgR rfl h0,
   fun _ _ => mq_sble3 rfl,
   fun _ _ => mq_sble7 rfl,
   fun _ _ => mq_al (i := 0) rfl rfl,
   fun _ _ _ h0 => mq_cWr (na := 0) rfl rfl (Nat.le_of_ble_eq_true rfl) (Nat.le_of_ble_eq_true rfl) h0,
   fun _ _ _ _ => mq_bi rfl,
   fun _ _ => mq_ri rfl⟩
theorem eJ0_length_8abf5 (d n : Nat) (I L : mm_I) (P : mm_P) (x0 : Option Nat) : mm_rn (d + 1) 269 [.inr (.inr x0)] n I L P = mm_E d 269 0 [.inr (.inr x0)] [] [] n I L P := rfl

set_option maxRecDepth 20000 in
set_option maxHeartbeats 8000000 in
theorem kJ0_charAt_5068e (d n : Nat) (I L : mm_I) (P : mm_P) :
  (∀ (st : List mm_V) z (l1 : mm_V), mm_E d 270 0 [(.inr (.inr z)), l1] [] st n I L P = mm_E d 270 1 [(.inr (.inr z)), l1] [] ((.inr (.inr z)) :: st) n I L P) ∧
  (∀ (lv : List mm_V) a, (a = 1000004 ∨ a = 1000005) → mm_E d 270 1 lv [] (.inr (.inr (some a)) :: []) n I L P = mm_kr d 270 4 lv [] [] n (mm_rn d 272 [.inr (.inr (some a))] n I L P)) ∧
  (∀ (lv : List mm_V) (st : List mm_V) a, mm_E d 270 4 lv [] (.inl a :: st) n I L P = if a = 0 then mm_E d 270 16 lv [] st n I L P else mm_E d 270 7 lv [] st n I L P) ∧
  (∀ (st : List mm_V) z (l1 : mm_V), mm_E d 270 7 [(.inr (.inr z)), l1] [] st n I L P = mm_E d 270 8 [(.inr (.inr z)), l1] [] ((.inr (.inr z)) :: st) n I L P) ∧
  (∀ (lv : List mm_V) (st : List mm_V) a, (a = 1000004 ∨ a = 1000005) → mm_E d 270 8 lv [] (.inr (.inr (some a)) :: st) n I L P = mm_E d 270 11 lv [] (.inr (.inr (some (a + 4))) :: st) n I L P) ∧
  (∀ (st : List mm_V) z (l0 : mm_V), mm_E d 270 11 [l0, (.inl z)] [] st n I L P = mm_E d 270 12 [l0, (.inl z)] [] ((.inl z) :: st) n I L P) ∧
  (∀ (lv : List mm_V) x0 x1, mm_E d 270 12 lv [] (.inl x1 :: .inr (.inr x0) :: []) n I L P = mm_kr d 270 15 lv [] [] n (mm_rn d 274 [.inr (.inr x0), .inl x1] n I L P)) ∧
  (∀ (lv : List mm_V) z, (0 ≤ z ∧ z < 65536) → mm_E d 270 15 lv [] [.inl z] n I L P = some (some (.inl z), n, I, L, P)) ∧
  (∀ (st : List mm_V) z (l1 : mm_V), mm_E d 270 16 [(.inr (.inr z)), l1] [] st n I L P = mm_E d 270 17 [(.inr (.inr z)), l1] [] ((.inr (.inr z)) :: st) n I L P) ∧
  (∀ (lv : List mm_V) (st : List mm_V) a, (a = 1000004 ∨ a = 1000005) → mm_E d 270 17 lv [] (.inr (.inr (some a)) :: st) n I L P = mm_E d 270 20 lv [] (.inr (.inr (some (a + 4))) :: st) n I L P) ∧
  (∀ (st : List mm_V) z (l0 : mm_V), mm_E d 270 20 [l0, (.inl z)] [] st n I L P = mm_E d 270 21 [l0, (.inl z)] [] ((.inl z) :: st) n I L P) :=
  ⟨fun _ _ _ => mq_al (i := 0) rfl rfl,
   fun _ _ h0 => mq_cWr (na := 0) rfl rfl (Nat.le_of_ble_eq_true rfl) (Nat.le_of_ble_eq_true rfl) h0,
   fun _ _ _ => mq_if_eq rfl,
   fun _ _ _ => mq_al (i := 0) rfl rfl,
   fun _ _ _ h0 => mq_sgR rfl h0,
   fun _ _ _ => mq_il (i := 1) rfl rfl,
   fun _ _ _ => mq_cSr (na := 2) rfl (Nat.le_of_ble_eq_true rfl) (Nat.le_of_ble_eq_true rfl),
   fun _ _ h0 => mq_rz rfl h0,
   fun _ _ _ => mq_al (i := 0) rfl rfl,
   fun _ _ _ h0 => mq_sgR rfl h0,
   fun _ _ _ => mq_il (i := 1) rfl rfl⟩
theorem eJ0_charAt_5068e (d n : Nat) (I L : mm_I) (P : mm_P) (x0 : Option Nat) (x1 : Int) : mm_rn (d + 1) 270 [.inr (.inr x0), .inl x1] n I L P = mm_E d 270 0 [.inr (.inr x0), .inl x1] [] [] n I L P := rfl

set_option maxRecDepth 20000 in
set_option maxHeartbeats 8000000 in
theorem kJ0_coder_7d493 (d n : Nat) (I L : mm_I) (P : mm_P) :
  (∀ (lv : List mm_V) (st : List mm_V), mm_E d 271 0 lv [] st n I L P = mm_E d 271 3 lv [] (.inl 1 :: st) n I L P) ∧
  (∀ (lv : List mm_V) (st : List mm_V) a, mm_E d 271 3 lv [] (.inl a :: st) n I L P = if a = 0 then mm_E d 271 13 lv [] st n I L P else mm_E d 271 6 lv [] st n I L P) ∧
  (∀ (st : List mm_V) z, mm_E d 271 6 [(.inr (.inr z))] [] st n I L P = mm_E d 271 7 [(.inr (.inr z))] [] ((.inr (.inr z)) :: st) n I L P) ∧
  (∀ (lv : List mm_V) (st : List mm_V) a, (a = 1000004 ∨ a = 1000005) → mm_E d 271 7 lv [] (.inr (.inr (some a)) :: st) n I L P = mm_E d 271 10 lv [] (.inl 0 :: st) n I L P) ∧
  (∀ (lv : List mm_V) (st : List mm_V), mm_E d 271 10 lv [] st n I L P = mm_E d 271 14 lv [] st n I L P) ∧
  (∀ (lv : List mm_V) (st : List mm_V), mm_E d 271 13 lv [] st n I L P = mm_E d 271 14 lv [] (.inl 1 :: st) n I L P) ∧
  (∀ (lv : List mm_V) z, (0 ≤ z ∧ z < 128) → mm_E d 271 14 lv [] [.inl z] n I L P = some (some (.inl z), n, I, L, P)) :=
  ⟨fun _ _ => mq_push rfl,
   fun _ _ _ => mq_if_eq rfl,
   fun _ _ => mq_al (i := 0) rfl rfl,
   fun _ _ _ h0 => mq_sgI rfl h0,
   fun _ _ => mq_go rfl,
   fun _ _ => mq_push rfl,
   fun _ _ h0 => mq_rz rfl h0⟩
theorem eJ0_coder_7d493 (d n : Nat) (I L : mm_I) (P : mm_P) (x0 : Option Nat) : mm_rn (d + 1) 271 [.inr (.inr x0)] n I L P = mm_E d 271 0 [.inr (.inr x0)] [] [] n I L P := rfl

set_option maxRecDepth 20000 in
set_option maxHeartbeats 8000000 in
theorem kJ0_isLatin1_aae02 (d n : Nat) (I L : mm_I) (P : mm_P) :
  (∀ (lv : List mm_V) (st : List mm_V), mm_E d 272 0 lv [] st n I L P = mm_E d 272 3 lv [] (.inl 1 :: st) n I L P) ∧
  (∀ (lv : List mm_V) (st : List mm_V) a, mm_E d 272 3 lv [] (.inl a :: st) n I L P = if a = 0 then mm_E d 272 17 lv [] st n I L P else mm_E d 272 6 lv [] st n I L P) ∧
  (∀ (st : List mm_V) z, mm_E d 272 6 [(.inr (.inr z))] [] st n I L P = mm_E d 272 7 [(.inr (.inr z))] [] ((.inr (.inr z)) :: st) n I L P) ∧
  (∀ (lv : List mm_V) (st : List mm_V) a, (a = 1000004 ∨ a = 1000005) → mm_E d 272 7 lv [] (.inr (.inr (some a)) :: st) n I L P = mm_E d 272 10 lv [] (.inl 0 :: st) n I L P) ∧
  (∀ (lv : List mm_V) (st : List mm_V) a, mm_E d 272 10 lv [] (.inl a :: st) n I L P = if a = 0 then mm_E d 272 13 lv [] st n I L P else mm_E d 272 17 lv [] st n I L P) ∧
  (∀ (lv : List mm_V) (st : List mm_V), mm_E d 272 13 lv [] st n I L P = mm_E d 272 14 lv [] (.inl 1 :: st) n I L P) ∧
  (∀ (lv : List mm_V) (st : List mm_V), mm_E d 272 14 lv [] st n I L P = mm_E d 272 18 lv [] st n I L P) ∧
  (∀ (lv : List mm_V) (st : List mm_V), mm_E d 272 17 lv [] st n I L P = mm_E d 272 18 lv [] (.inl 0 :: st) n I L P) ∧
  (∀ (lv : List mm_V) z, (0 ≤ z ∧ z < 2) → mm_E d 272 18 lv [] [.inl z] n I L P = some (some (.inl z), n, I, L, P)) :=
  ⟨fun _ _ => mq_push rfl,
   fun _ _ _ => mq_if_eq rfl,
   fun _ _ => mq_al (i := 0) rfl rfl,
   fun _ _ _ h0 => mq_sgI rfl h0,
   fun _ _ _ => mq_if_ne rfl,
   fun _ _ => mq_push rfl,
   fun _ _ => mq_go rfl,
   fun _ _ => mq_push rfl,
   fun _ _ h0 => mq_rz rfl h0⟩
theorem eJ0_isLatin1_aae02 (d n : Nat) (I L : mm_I) (P : mm_P) (x0 : Option Nat) : mm_rn (d + 1) 272 [.inr (.inr x0)] n I L P = mm_E d 272 0 [.inr (.inr x0)] [] [] n I L P := rfl

set_option maxRecDepth 20000 in
set_option maxHeartbeats 8000000 in
theorem kJ1_charAt_3b067 (d n : Nat) (I L : mm_I) (P : mm_P) :
  (∀ (st : List mm_V) z (l0 : mm_V), mm_E d 274 0 [l0, (.inl z)] [] st n I L P = mm_E d 274 1 [l0, (.inl z)] [] ((.inl z) :: st) n I L P) ∧
  (∀ (st : List mm_V) z (l1 : mm_V), mm_E d 274 1 [(.inr (.inr z)), l1] [] st n I L P = mm_E d 274 2 [(.inr (.inr z)), l1] [] ((.inr (.inr z)) :: st) n I L P) ∧
  (∀ (lv : List mm_V) (st : List mm_V), mm_E d 274 2 lv [] (.inr (.inr (some 1000008)) :: st) n I L P = mm_E d 274 3 lv [] (.inl 3 :: st) n I L P) ∧
  (∀ (lv : List mm_V) (st : List mm_V), mm_E d 274 2 lv [] (.inr (.inr (some 1000009)) :: st) n I L P = mm_E d 274 3 lv [] (.inl 7 :: st) n I L P) ∧
  (∀ (lv : List mm_V) x0 x1, mm_E d 274 3 lv [] (.inl x1 :: .inl x0 :: []) n I L P = mm_kv d 274 6 lv [] [] n (mm_rn d 273 [.inl x0, .inl x1] n I L P)) ∧
  (∀ (st : List mm_V) z (l1 : mm_V), mm_E d 274 6 [(.inr (.inr z)), l1] [] st n I L P = mm_E d 274 7 [(.inr (.inr z)), l1] [] ((.inr (.inr z)) :: st) n I L P) ∧
  (∀ (st : List mm_V) z (l0 : mm_V), mm_E d 274 7 [l0, (.inl z)] [] st n I L P = mm_E d 274 8 [l0, (.inl z)] [] ((.inl z) :: st) n I L P) ∧
  (∀ (lv : List mm_V) (st : List mm_V) a i, ((a = 1000008 ∧ 0 ≤ i ∧ i < 3) ∨ (a = 1000009 ∧ 0 ≤ i ∧ i < 7)) → mm_E d 274 8 lv [] (.inl i :: .inr (.inr (some a)) :: st) n I L P = mm_E d 274 9 lv [] (.inl (mm_chr (a - 4) i) :: st) n I L P) ∧
  (∀ (lv : List mm_V) (st : List mm_V), mm_E d 274 9 lv [] st n I L P = mm_E d 274 12 lv [] (.inl 255 :: st) n I L P) ∧
  (∀ (lv : List mm_V) (st : List mm_V) a b, mm_E d 274 12 lv [] (.inl b :: .inl a :: st) n I L P = mm_E d 274 13 lv [] (.inl (mm_and a b) :: st) n I L P) ∧
  (∀ (lv : List mm_V) (st : List mm_V) a, mm_E d 274 13 lv [] (.inl a :: st) n I L P = mm_E d 274 14 lv [] (.inl (mm_i2c a) :: st) n I L P) ∧
  (∀ (lv : List mm_V) z, (0 ≤ z ∧ z < 65536) → mm_E d 274 14 lv [] [.inl z] n I L P = some (some (.inl z), n, I, L, P)) :=
  ⟨fun _ _ _ => mq_il (i := 1) rfl rfl,
   fun _ _ _ => mq_al (i := 0) rfl rfl,
   fun _ _ => mq_sble3 rfl,
   fun _ _ => mq_sble7 rfl,
   fun _ _ _ => mq_cSv (na := 2) rfl (Nat.le_of_ble_eq_true rfl) (Nat.le_of_ble_eq_true rfl),
   fun _ _ _ => mq_al (i := 0) rfl rfl,
   fun _ _ _ => mq_il (i := 1) rfl rfl,
   fun _ _ _ _ h0 => mq_sbal rfl h0,
   fun _ _ => mq_push rfl,
   fun _ _ _ _ => mq_bi rfl,
   fun _ _ _ => mq_un rfl,
   fun _ _ h0 => mq_rz rfl h0⟩
theorem eJ1_charAt_3b067 (d n : Nat) (I L : mm_I) (P : mm_P) (x0 : Option Nat) (x1 : Int) : mm_rn (d + 1) 274 [.inr (.inr x0), .inl x1] n I L P = mm_E d 274 0 [.inr (.inr x0), .inl x1] [] [] n I L P := rfl

set_option maxRecDepth 20000 in
set_option maxHeartbeats 8000000 in
theorem kJ7_fill_53178 (d n : Nat) (I L : mm_I) (P : mm_P) :
  (∀ (lv : List mm_V) (st : List mm_V), mm_E d 279 0 lv [] st n I L P = mm_E d 279 1 lv [] (.inl 0 :: st) n I L P) ∧
  (∀ (st : List mm_V) z (l0 : mm_V) (l1 : mm_V) (l2 : mm_V) (l3 : mm_V), mm_E d 279 1 [l0, l1, l2, l3] [] ((.inl z) :: st) n I L P = mm_E d 279 2 [l0, l1, (.inl z), l3] [] st n I L P) ∧
  (∀ (st : List mm_V) z (l1 : mm_V) (l2 : mm_V) (l3 : mm_V), mm_E d 279 2 [(.inr (.inr z)), l1, l2, l3] [] st n I L P = mm_E d 279 3 [(.inr (.inr z)), l1, l2, l3] [] ((.inr (.inr z)) :: st) n I L P) ∧
  (∀ (lv : List mm_V) (st : List mm_V) a, (mm_ok n a 20) → mm_E d 279 3 lv [] (.inr (.inr (some a)) :: st) n I L P = mm_E d 279 4 lv [] (.inl ((mm_ty a).2 : Int) :: st) n I L P) ∧
  (∀ (st : List mm_V) z (l0 : mm_V) (l1 : mm_V) (l2 : mm_V) (l3 : mm_V), mm_E d 279 4 [l0, l1, l2, l3] [] ((.inl z) :: st) n I L P = mm_E d 279 5 [l0, l1, l2, (.inl z)] [] st n I L P) ∧
  (∀ (st : List mm_V) z (l0 : mm_V) (l1 : mm_V) (l2 : mm_V), mm_E d 279 6 [l0, l1, l2, (.inl z)] [] st n I L P = mm_E d 279 7 [l0, l1, l2, (.inl z)] [] ((.inl z) :: st) n I L P) ∧
  (∀ (lv : List mm_V) (st : List mm_V) a b, mm_E d 279 7 lv [] (.inl b :: .inl a :: st) n I L P = if b ≤ a then mm_E d 279 20 lv [] st n I L P else mm_E d 279 10 lv [] st n I L P) ∧
  (∀ (st : List mm_V) z (l1 : mm_V) (l2 : mm_V) (l3 : mm_V), mm_E d 279 10 [(.inr (.inr z)), l1, l2, l3] [] st n I L P = mm_E d 279 11 [(.inr (.inr z)), l1, l2, l3] [] ((.inr (.inr z)) :: st) n I L P) ∧
  (∀ (st : List mm_V) z (l0 : mm_V) (l1 : mm_V) (l3 : mm_V), mm_E d 279 11 [l0, l1, (.inl z), l3] [] st n I L P = mm_E d 279 12 [l0, l1, (.inl z), l3] [] ((.inl z) :: st) n I L P) ∧
  (∀ (st : List mm_V) z (l0 : mm_V) (l2 : mm_V) (l3 : mm_V), mm_E d 279 12 [l0, (.inl z), l2, l3] [] st n I L P = mm_E d 279 13 [l0, (.inl z), l2, l3] [] ((.inl z) :: st) n I L P) ∧
  (∀ (lv : List mm_V) (st : List mm_V) a i z, (mm_ix n a 20 i) → mm_E d 279 13 lv [] (.inl z :: .inl i :: .inr (.inr (some a)) :: st) n I L P = mm_E d 279 14 lv [] st n (mm_ui I a i.toNat z) L P) ∧
  (∀ (st : List mm_V) z (l0 : mm_V) (l1 : mm_V) (l3 : mm_V), mm_E d 279 14 [l0, l1, (.inl z), l3] [] st n I L P = mm_E d 279 17 [l0, l1, (.inl (mm_add z 1)), l3] [] st n I L P) ∧
  (∀ (lv : List mm_V) (st : List mm_V), mm_E d 279 17 lv [] st n I L P = mm_E d 279 5 lv [] st n I L P) ∧
  (∀ (lv : List mm_V), mm_E d 279 20 lv [] [] n I L P = some (none, n, I, L, P)) :=
  ⟨fun _ _ => mq_push rfl,
   fun _ _ _ _ _ _ => mq_is (i := 2) rfl rfl rfl,
   fun _ _ _ _ _ => mq_al (i := 0) rfl rfl,
   fun _ _ _ h0 => mq_alen rfl h0,
   fun _ _ _ _ _ _ => mq_is (i := 3) rfl rfl rfl,
   fun _ _ _ _ _ => mq_il (i := 3) rfl rfl,
   fun _ _ _ _ => mq_ic_ge rfl,
   fun _ _ _ _ _ => mq_al (i := 0) rfl rfl,
   fun _ _ _ _ _ => mq_il (i := 2) rfl rfl,
   fun _ _ _ _ _ => mq_il (i := 1) rfl rfl,
   fun _ _ _ _ _ h0 => mq_iast rfl h0,
   fun _ _ _ _ _ => mq_iinc (i := 2) rfl rfl rfl rfl,
   fun _ _ => mq_go rfl,
   fun _ => mq_rv rfl⟩
theorem hJ7_fill_53178_5 (d n : Nat) (I L : mm_I) (P : mm_P) : ∀ (st : List mm_V) z (l0 : mm_V) (l1 : mm_V) (l3 : mm_V), mm_E d 279 5 [l0, l1, (.inl z), l3] [] st n I L P = mm_E d 279 6 [l0, l1, (.inl z), l3] [] ((.inl z) :: st) n I L P := fun _ _ _ _ _ => mq_il (i := 2) rfl rfl
theorem eJ7_fill_53178 (d n : Nat) (I L : mm_I) (P : mm_P) (x0 : Option Nat) (x1 : Int) : mm_rn (d + 1) 279 [.inr (.inr x0), .inl x1] n I L P = mm_E d 279 0 [.inr (.inr x0), .inl x1, mm_junk, mm_junk] [] [] n I L P := rfl

set_option maxRecDepth 20000 in
set_option maxHeartbeats 8000000 in
theorem kX9_besideOf (d n : Nat) (I L : mm_I) (P : mm_P) :
  (∀ (st : List mm_V) z (l1 : mm_V), mm_E d 287 0 [(.inr (.inr z)), l1] [] st n I L P = mm_E d 287 1 [(.inr (.inr z)), l1] [] ((.inr (.inr z)) :: st) n I L P) ∧
  (∀ (st : List mm_V) z (l0 : mm_V), mm_E d 287 1 [l0, (.inl z)] [] st n I L P = mm_E d 287 2 [l0, (.inl z)] [] ((.inl z) :: st) n I L P) ∧
  (∀ (lv : List mm_V) a x0, (mm_ok n a 9) → mm_E d 287 2 lv [] (.inl x0 :: .inr (.inr (some a)) :: []) n I L P = mm_kr d 287 5 lv [] [] n (mm_rn d 63 [.inr (.inr (some a)), .inl x0] n I L P)) ∧
  (∀ (lv : List mm_V) (st : List mm_V) a, mm_E d 287 5 lv [] (.inl a :: st) n I L P = if a = 0 then mm_E d 287 17 lv [] st n I L P else mm_E d 287 8 lv [] st n I L P) ∧
  (∀ (st : List mm_V) z (l1 : mm_V), mm_E d 287 8 [(.inr (.inr z)), l1] [] st n I L P = mm_E d 287 9 [(.inr (.inr z)), l1] [] ((.inr (.inr z)) :: st) n I L P) ∧
  (∀ (lv : List mm_V) (st : List mm_V) a, (mm_ok n a 9) → mm_E d 287 9 lv [] (.inr (.inr (some a)) :: st) n I L P = mm_E d 287 12 lv [] (.inr (.inr (P a 6)) :: st) n I L P) ∧
  (∀ (st : List mm_V) z (l0 : mm_V), mm_E d 287 12 [l0, (.inl z)] [] st n I L P = mm_E d 287 13 [l0, (.inl z)] [] ((.inl z) :: st) n I L P) ∧
  (∀ (lv : List mm_V) (st : List mm_V) a i, (mm_ix n a 20 i) → mm_E d 287 13 lv [] (.inl i :: .inr (.inr (some a)) :: st) n I L P = mm_E d 287 14 lv [] (.inl (I a i.toNat) :: st) n I L P) ∧
  (∀ (lv : List mm_V) (st : List mm_V), mm_E d 287 14 lv [] st n I L P = mm_E d 287 18 lv [] st n I L P) ∧
  (∀ (lv : List mm_V) (st : List mm_V), mm_E d 287 17 lv [] st n I L P = mm_E d 287 18 lv [] (.inl 0 :: st) n I L P) ∧
  (∀ (lv : List mm_V) z, mm_E d 287 18 lv [] [.inl z] n I L P = some (some (.inl z), n, I, L, P)) :=
  ⟨fun _ _ _ => mq_al (i := 0) rfl rfl,
   fun _ _ _ => mq_il (i := 1) rfl rfl,
   fun _ _ _ h0 => mq_cVr (na := 1) rfl rfl (Nat.le_of_ble_eq_true rfl) (Nat.le_of_ble_eq_true rfl) h0,
   fun _ _ _ => mq_if_eq rfl,
   fun _ _ _ => mq_al (i := 0) rfl rfl,
   fun _ _ _ h0 => mq_getR rfl h0,
   fun _ _ _ => mq_il (i := 1) rfl rfl,
   fun _ _ _ _ h0 => mq_iald rfl h0,
   fun _ _ => mq_go rfl,
   fun _ _ => mq_push rfl,
   fun _ _ => mq_ri rfl⟩
theorem eX9_besideOf (d n : Nat) (I L : mm_I) (P : mm_P) (x0 : Option Nat) (x1 : Int) : mm_rn (d + 1) 287 [.inr (.inr x0), .inl x1] n I L P = mm_E d 287 0 [.inr (.inr x0), .inl x1] [] [] n I L P := rfl

set_option maxRecDepth 20000 in
set_option maxHeartbeats 8000000 in
theorem kX9_viewOf (d n : Nat) (I L : mm_I) (P : mm_P) :
  (∀ (st : List mm_V) z (l1 : mm_V), mm_E d 288 0 [(.inr (.inr z)), l1] [] st n I L P = mm_E d 288 1 [(.inr (.inr z)), l1] [] ((.inr (.inr z)) :: st) n I L P) ∧
  (∀ (st : List mm_V) z (l0 : mm_V), mm_E d 288 1 [l0, (.inl z)] [] st n I L P = mm_E d 288 2 [l0, (.inl z)] [] ((.inl z) :: st) n I L P) ∧
  (∀ (lv : List mm_V) a x0, (mm_ok n a 9) → mm_E d 288 2 lv [] (.inl x0 :: .inr (.inr (some a)) :: []) n I L P = mm_kr d 288 5 lv [] [] n (mm_rn d 63 [.inr (.inr (some a)), .inl x0] n I L P)) ∧
  (∀ (lv : List mm_V) (st : List mm_V) a, mm_E d 288 5 lv [] (.inl a :: st) n I L P = if a = 0 then mm_E d 288 17 lv [] st n I L P else mm_E d 288 8 lv [] st n I L P) ∧
  (∀ (st : List mm_V) z (l1 : mm_V), mm_E d 288 8 [(.inr (.inr z)), l1] [] st n I L P = mm_E d 288 9 [(.inr (.inr z)), l1] [] ((.inr (.inr z)) :: st) n I L P) ∧
  (∀ (lv : List mm_V) (st : List mm_V) a, (mm_ok n a 9) → mm_E d 288 9 lv [] (.inr (.inr (some a)) :: st) n I L P = mm_E d 288 12 lv [] (.inr (.inr (P a 7)) :: st) n I L P) ∧
  (∀ (st : List mm_V) z (l0 : mm_V), mm_E d 288 12 [l0, (.inl z)] [] st n I L P = mm_E d 288 13 [l0, (.inl z)] [] ((.inl z) :: st) n I L P) ∧
  (∀ (lv : List mm_V) (st : List mm_V) a i, (mm_ix n a 20 i) → mm_E d 288 13 lv [] (.inl i :: .inr (.inr (some a)) :: st) n I L P = mm_E d 288 14 lv [] (.inl (I a i.toNat) :: st) n I L P) ∧
  (∀ (lv : List mm_V) (st : List mm_V), mm_E d 288 14 lv [] st n I L P = mm_E d 288 18 lv [] st n I L P) ∧
  (∀ (lv : List mm_V) (st : List mm_V), mm_E d 288 17 lv [] st n I L P = mm_E d 288 18 lv [] (.inl 0 :: st) n I L P) ∧
  (∀ (lv : List mm_V) z, mm_E d 288 18 lv [] [.inl z] n I L P = some (some (.inl z), n, I, L, P)) :=
  ⟨fun _ _ _ => mq_al (i := 0) rfl rfl,
   fun _ _ _ => mq_il (i := 1) rfl rfl,
   fun _ _ _ h0 => mq_cVr (na := 1) rfl rfl (Nat.le_of_ble_eq_true rfl) (Nat.le_of_ble_eq_true rfl) h0,
   fun _ _ _ => mq_if_eq rfl,
   fun _ _ _ => mq_al (i := 0) rfl rfl,
   fun _ _ _ h0 => mq_getR rfl h0,
   fun _ _ _ => mq_il (i := 1) rfl rfl,
   fun _ _ _ _ h0 => mq_iald rfl h0,
   fun _ _ => mq_go rfl,
   fun _ _ => mq_push rfl,
   fun _ _ => mq_ri rfl⟩
theorem eX9_viewOf (d n : Nat) (I L : mm_I) (P : mm_P) (x0 : Option Nat) (x1 : Int) : mm_rn (d + 1) 288 [.inr (.inr x0), .inl x1] n I L P = mm_E d 288 0 [.inr (.inr x0), .inl x1] [] [] n I L P := rfl
